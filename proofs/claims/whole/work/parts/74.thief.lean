/-! ===== the thief ===== -/
def eD (k : Nat) : Int32 := if k < 1000000 then nI k else -1
def WP (w : Mm) (op : Nat → Bool) (D q : Nat → Nat) (a : Nat) : Prop := (∀ c, c < 64 → w.1 75 c = b01 (op c) ∧ w.1 74 c = eD (D c)) ∧ ∀ j, j < a → w.1 76 j = nI (q j)
theorem spreadFrom_n {N : Nat} {op : Nat → Bool} {to i : Nat} : ∀ (r n0 y a : Nat) (D q : Nat → Nat) (w : Mm), y + r = 4 → r < n0 → WP w op D q a → BJ op to D q a i y → ∃ w' D' q' a', fX9_spreadFrom_L5 N n0 w (nI (q i)) (nI a) (nI y) = some (nI a', w') ∧ Fr [74, 76] w w' ∧ WP w' op D' q' a' ∧ BJ op to D' q' a' i 4 := by
  intro r
  induction r with
  | zero =>
    intro n0 y a D q w hy hr hw h
    obtain ⟨n1, rfl⟩ : ∃ n1, n0 = n1 + 1 := ⟨n0 - 1, by omega⟩
    have e : y = 4 := by omega
    subst e
    refine ⟨w, D, q, a, ?_, Fr.rf, hw, h⟩
    rw [fX9_spreadFrom_L5, if_pos (show (4 : Int32) ≤ nI 4 by decide)]
  | succ r ih =>
    intro n0 y a D q w hy hr hw h
    obtain ⟨n1, rfl⟩ : ∃ n1, n0 = n1 + 1 := ⟨n0 - 1, by omega⟩
    have hia : i < a := h.2.2.1
    have ha64 := h.1.le
    obtain ⟨hq1, hq2⟩ := h.1.2.2.1 i hia
    have sk : (bes (q i) y < 64 → op (bes (q i) y) = true → D (bes (q i) y) < 1000000) → ∃ w' D' q' a', fX9_spreadFrom_L5 N n1 w (nI (q i)) (nI a) (nI (y + 1)) = some (nI a', w') ∧ Fr [74, 76] w w' ∧ WP w' op D' q' a' ∧ BJ op to D' q' a' i 4 := fun hs => ih n1 (y + 1) a D q w (by omega) (by omega) hw (h.skip hs)
    rw [fX9_spreadFrom_L5, if_neg (show ¬ (4 : Int32) ≤ nI y from nI_ge (b := 4) (by omega) (by decide)), bes_n (q i) hq1 y (by omega), nI_1]
    by_cases hb : bes (q i) y < 64
    · rw [if_pos hb, if_neg (nI_m1 (by omega))]
      by_cases ho : op (bes (q i) y) = true
      · by_cases hd : D (bes (q i) y) < 1000000
        · by_cases ha : a < 64
          · rw [if_neg (show ¬ (64 : Int32) ≤ nI a from nI_ge (b := 64) ha (by decide)), rdA_n hb (by decide), bS, (hw.1 _ hb).1, if_neg (fun z => by rw [b01_z, ho] at z; exact absurd z (by decide)), rdA_n hb (by decide), bS, (hw.1 _ hb).2, show eD (D (bes (q i) y)) = nI (D (bes (q i) y)) from if_pos hd, if_neg (nI_m1 (by omega))]
            exact sk (fun _ _ => hd)
          · rw [if_pos (show (64 : Int32) ≤ nI a from nI_le (a := 64) (by omega) (by omega))]
            exact sk (fun _ _ => hd)
        · obtain ⟨hnew, ha⟩ := h.new (by omega) hb ho hd
          have hne : q i ≠ bes (q i) y := fun z => by rw [← z] at hd; omega
          have f1 : Fr [74, 76] w (sI (sI w 74 (bes (q i) y) (nI (D (q i) + 1))) 76 a (nI (bes (q i) y))) := (Fr.sI (L := [74, 76]) (by decide)).then (Fr.sI (by decide))
          have hw1 : WP (sI (sI w 74 (bes (q i) y) (nI (D (q i) + 1))) 76 a (nI (bes (q i) y))) op (uN D (bes (q i) y) (D (q i) + 1)) (uN q a (bes (q i) y)) (a + 1) := by
            refine ⟨fun c hc => ?_, fun j hj => ?_⟩
            · rw [f1.1 75 (by decide), sI_o _ (show (74 : Nat) ≠ 76 by decide), sI_1]
              refine ⟨(hw.1 c hc).1, ?_⟩
              by_cases e : c = bes (q i) y
              · rw [if_pos ⟨rfl, e⟩, e, uN_s]
                exact (if_pos (by omega)).symm
              · rw [if_neg (by omega), uN_n e]
                exact (hw.1 c hc).2
            · rw [sI_1]
              by_cases e : j = a
              · rw [if_pos ⟨rfl, e⟩, e, uN_s]
              · rw [if_neg (by omega), sI_o _ (by decide), uN_n e]
                exact hw.2 j (by omega)
          obtain ⟨w', D', q', a', g1, g2, g3, g4⟩ := ih n1 (y + 1) (a + 1) _ _ _ (by omega) (by omega) hw1 hnew
          refine ⟨w', D', q', a', ?_, f1.then g2, g3, g4⟩
          rw [uN_n (show i ≠ a by omega)] at g1
          rw [if_neg (show ¬ (64 : Int32) ≤ nI a from nI_ge (b := 64) ha (by decide)), rdA_n hb (by decide), bS, (hw.1 _ hb).1, if_neg (fun z => by rw [b01_z, ho] at z; exact absurd z (by decide)), rdA_n hb (by decide), bS, (hw.1 _ hb).2, show eD (D (bes (q i) y)) = -1 from if_neg hd, if_pos rfl, rdA_n hq1 (by decide), bS, (hw.1 _ hq1).2, show eD (D (q i)) = nI (D (q i)) from if_pos (by omega), nI_1, wrA_n hb (by decide), bS, wrA_n (by omega) (by decide), bS, nI_1]
          exact g1
      · by_cases ha : a < 64
        · rw [if_neg (show ¬ (64 : Int32) ≤ nI a from nI_ge (b := 64) ha (by decide)), rdA_n hb (by decide), bS, (hw.1 _ hb).1, if_pos (b01_z.mpr (by simpa using ho))]
          exact sk (fun _ z => absurd z ho)
        · rw [if_pos (show (64 : Int32) ≤ nI a from nI_le (a := 64) (by omega) (by omega))]
          exact sk (fun _ z => absurd z ho)
    · rw [if_neg hb, if_pos rfl]
      exact sk (fun z => absurd z hb)
theorem spread_n {N : Nat} (hN : 100 ≤ N) {op : Nat → Bool} {to : Nat} : ∀ (r n0 i a : Nat) (D q : Nat → Nat) (w : Mm), i + r = 64 → r < n0 → WP w op D q a → BI op to D q a i → (i < a → ∀ j, j < a → D (q j) ≤ D (q i) + 1) → ∃ w' D', fX9_spread_L81 N n0 w (nI a) (nI i) = some w' ∧ Fr [74, 76] w w' ∧ (∀ c, c < 64 → w'.1 74 c = eD (D' c)) ∧ Gd op to D' := by
  intro r
  induction r with
  | zero =>
    intro n0 i a D q w hi hr hw h h7
    obtain ⟨n1, rfl⟩ : ∃ n1, n0 = n1 + 1 := ⟨n0 - 1, by omega⟩
    have ha := h.le
    refine ⟨w, D, ?_, Fr.rf, fun c hc => (hw.1 c hc).2, h.end (by omega)⟩
    rw [fX9_spread_L81, if_pos (nI_le (by omega) (by omega))]
  | succ r ih =>
    intro n0 i a D q w hi hr hw h h7
    obtain ⟨n1, rfl⟩ : ∃ n1, n0 = n1 + 1 := ⟨n0 - 1, by omega⟩
    have ha := h.le
    by_cases hia : i < a
    · obtain ⟨w1, D1, q1, a1, g1, g2, g3, g4⟩ := spreadFrom_n (N := N) (op := op) (to := to) (i := i) 4 N 0 a D q w rfl (by omega) hw ⟨h, h7 hia, hia, fun z hz => absurd hz (by omega)⟩
      obtain ⟨h5, h6⟩ := g4.done
      obtain ⟨w2, D2, k1, k2, k3, k4⟩ := ih n1 (i + 1) a1 D1 q1 w1 (by omega) (by omega) g3 h5 h6
      refine ⟨w2, D2, ?_, g2.then k2, k3, k4⟩
      rw [fX9_spread_L81, if_neg (nI_ge hia (by omega)), if_neg (show ¬ (64 : Int32) ≤ nI i from nI_ge (b := 64) (by omega) (by decide)), rdA_n (by omega) (by decide), bS, hw.2 i hia, show fX9_spreadFrom N w (nI (q i)) (nI a) = _ from g1, oS, nI_1]
      exact k1
    · refine ⟨w, D, ?_, Fr.rf, fun c hc => (hw.1 c hc).2, h.end (by omega)⟩
      rw [fX9_spread_L81, if_pos (nI_le (by omega) (by omega))]
def opD (d : VD) (hour n : Nat) : Nat → Bool := fun c => decide (sT d (li d) hour c < n)
theorem spread_0 {N : Nat} (hN : 100 ≤ N) {d : VD} (hv : VOK d) {hour n to : Nat} (hn : n ≤ 20) : ∀ (r n0 c : Nat) (w : Mm), c + r = 64 → r < n0 → LPc w d → SP w d hour → (∀ k, k < c → w.1 74 k = -1 ∧ w.1 75 k = b01 (opD d hour n k)) → ∃ w', fX9_spread_L2 N n0 w (nI to) (nI n) (nI c) = fX9_spread_L2 N 1 w' (nI to) (nI n) (nI 64) ∧ Fr [74, 75] w w' ∧ ∀ k, k < 64 → w'.1 74 k = -1 ∧ w'.1 75 k = b01 (opD d hour n k) := by
  intro r
  induction r with
  | zero =>
    intro n0 c w hi hr h hs ha
    obtain ⟨n1, rfl⟩ : ∃ n1, n0 = n1 + 1 := ⟨n0 - 1, by omega⟩
    have e : c = 64 := by omega
    subst e
    refine ⟨w, ?_, Fr.rf, ha⟩
    rw [fX9_spread_L2, fX9_spread_L2, if_pos (show (64 : Int32) ≤ nI 64 by decide), if_pos (show (64 : Int32) ≤ nI 64 by decide)]
  | succ r ih =>
    intro n0 c w hi hr h hs ha
    obtain ⟨n1, rfl⟩ : ∃ n1, n0 = n1 + 1 := ⟨n0 - 1, by omega⟩
    have hS := li31 hv
    have f1 : Fr [74, 75] w (sI w 74 c (-1)) := Fr.sI (by decide)
    have f2 : Fr [74, 75] w (sI (sI w 74 c (-1)) 75 c (b01 (opD d hour n c))) := f1.then (Fr.sI (by decide))
    have l1 : LPc (sI w 74 c (-1)) d := h.fr f1 (by decide)
    have s1 : SPc (sI w 74 c (-1)) d hour c := fun j hj => by rw [f1.1 61 (by decide)]; exact hs c j (by omega) hj
    have es : fX3_strongest N (sI w 74 c (-1)) (nI c) (nI (li d)) = some (nI (sT d (li d) hour c)) := strongest_ok hN l1 hv s1 (by omega) (by omega)
    have ht := sT_le hv (li d) hour c
    obtain ⟨w', g1, g2, g3⟩ := ih n1 (c + 1) (sI (sI w 74 c (-1)) 75 c (b01 (opD d hour n c))) (by omega) (by omega) (h.fr f2 (by decide)) (fun c j hc hj => by rw [f2.1 61 (by decide)]; exact hs c j hc hj) (fun k hk => by
      rw [sI_o _ (show (74 : Nat) ≠ 75 by decide), sI_1]
      by_cases e : k = c
      · rw [if_pos ⟨rfl, e⟩, sI_1, if_pos ⟨rfl, e⟩, e]; exact ⟨rfl, rfl⟩
      · rw [if_neg (by omega), sI_1, if_neg (by omega), sI_o _ (by decide)]; exact ha k (by omega))
    refine ⟨w', ?_, f2.then g2, g3⟩
    rw [fX9_spread_L2, if_neg (show ¬ (64 : Int32) ≤ nI c from nI_ge (b := 64) (by omega) (by decide)), wrA_n (by omega) (by decide), bS, l1.2.2.1, es, bS]
    unfold fX9_spread_L44
    rw [nar0, nar1, wrA_n (by omega) (by decide), bS, wrA_n (by omega) (by decide), bS, nI_1]
    unfold opD at g1
    by_cases q : sT d (li d) hour c < n
    · rw [if_neg (nI_ge q (by omega))]
      rw [decide_eq_true q] at g1
      exact g1
    · rw [if_pos (nI_le (by omega) (by omega))]
      rw [decide_eq_false q] at g1
      exact g1
theorem spread_ok {N : Nat} (hN : 100 ≤ N) {d : VD} (hv : VOK d) {hour n to : Nat} (hn : n ≤ 20) (hto : to < 64) {w : Mm} (h : LPc w d) (hs : SP w d hour) : ∃ w' D, fX9_spread N w (nI to) (nI n) = some w' ∧ Fr [74, 75, 76] w w' ∧ (∀ c, c < 64 → w'.1 74 c = eD (D c)) ∧ Gd (opD d hour n) to D := by
  obtain ⟨w1, g1, g2, g3⟩ := spread_0 (N := N) hN hv (hour := hour) (n := n) (to := to) hn 64 N 0 w rfl (by omega) h hs (fun k hk => absurd hk (by omega))
  have e0 : fX9_spread N w (nI to) (nI n) = fX9_spread_L2 N 1 w1 (nI to) (nI n) (nI 64) := g1
  rw [fX9_spread_L2, if_pos (show (64 : Int32) ≤ nI 64 by decide), rdA_n hto (by decide), bS, (g3 to hto).2] at e0
  unfold fX9_spread_L78 at e0
  have eF : eD 1000000 = -1 := by decide
  by_cases ho : opD d hour n to = true
  · rw [if_neg (fun z => by rw [b01_z, ho] at z; exact absurd z (by decide)), wrA_n hto (by decide), bS, bS] at e0
    have f1 : Fr [74, 76] w1 (sI (sI w1 74 to 0) 76 0 (nI to)) := (Fr.sI (L := [74, 76]) (by decide)).then (Fr.sI (by decide))
    obtain ⟨w2, D2, k1, k2, k3, k4⟩ := spread_n (N := N) hN (op := opD d hour n) (to := to) 64 N 0 1 (uN (fun _ => 1000000) to 0) (fun _ => to) (sI (sI w1 74 to 0) 76 0 (nI to)) rfl (by omega) ⟨fun c hc => by
      rw [f1.1 75 (by decide), sI_o _ (show (74 : Nat) ≠ 76 by decide), sI_1]
      refine ⟨(g3 c hc).2, ?_⟩
      by_cases e : c = to
      · rw [if_pos ⟨rfl, e⟩, e, uN_s]; rfl
      · rw [if_neg (by omega), uN_n e, (g3 c hc).1, eF], fun j hj => by
      rw [sI_1, if_pos ⟨rfl, by omega⟩]⟩ ⟨fun _ => uN_s, by
        rw [sCt_flip (p := fun _ => false) (q := fun c => decide (uN (fun _ => 1000000) to 0 c < 1000000)) (k := to) rfl (by rw [uN_s]; rfl) (fun j hj => by rw [uN_n hj]; rfl) hto]
        decide, fun j hj => ⟨hto, by rw [uN_s]; omega⟩, fun c hc => by
        by_cases e : c = to
        · subst e
          rw [uN_s]
          exact ⟨by omega, fun _ => ⟨ho, ⟨0, by omega, rfl⟩, Or.inl ⟨rfl, rfl⟩⟩⟩
        · rw [uN_n e]
          exact ⟨Nat.le_refl _, fun z => absurd z (by omega)⟩, fun j k hjk hk => by omega, fun j hj => absurd hj (by omega)⟩ (fun _ j hj => by omega)
    refine ⟨w2, D2, ?_, (g2.up (by decide)).then ((f1.then k2).up (by decide)), k3, k4⟩
    rw [e0]
    exact k1
  · have ho' : opD d hour n to = false := by simpa using ho
    rw [if_pos (b01_z.mpr ho')] at e0
    refine ⟨w1, fun _ => 1000000, ?_, g2.up (by decide), fun c hc => by rw [(g3 c hc).1, eF], ⟨fun z => absurd z ho, fun c _ => ⟨Nat.le_refl _, fun z => absurd z (Nat.lt_irrefl _)⟩, fun c e _ _ _ _ z => absurd z (Nat.lt_irrefl _)⟩⟩
    obtain ⟨n1, rfl⟩ : ∃ n1, N = n1 + 1 := ⟨N - 1, by omega⟩
    rw [e0, fX9_spread_L81, if_pos (by decide)]
/-! the reference's -/
theorem relax_in {N : Nat} {op : Nat → Bool} {to c : Nat} (hc : c < 64) (ho : op c = true) {x2 x3 : Int32} {k49 : Mm → Int32 → Int32 → Int32 → Option Mm} {k60 : Mm → Int32 → Int32 → Int32 → Int32 → Option Mm} : ∀ (r n0 e : Nat) (D : Nat → Nat) (mo : Bool) (w : Mm), e + r = 64 → r < n0 → (∀ k, k < 64 → w.1 84 k = nI (D k)) → MR op to D → ∃ w' D' mo', fX12_laySteps_L88 N k49 k60 n0 w x2 x3 (b01 mo) (nI c) 1 (nI e) = k60 w' x2 x3 (b01 mo') (nI (c + 1)) ∧ Fr [84] w w' ∧ (∀ k, k < 64 → w'.1 84 k = nI (D' k)) ∧ MR op to D' ∧ wSum D' 64 ≤ wSum D 64 ∧ (mo' = true → mo = true ∨ wSum D' 64 < wSum D 64) ∧ (mo' = false → mo = false ∧ D' = D ∧ ∀ k, e ≤ k → k < 64 → sFar c k = 1 → D c ≤ D k + 1) := by
  intro r
  induction r with
  | zero =>
    intro n0 e D mo w he hr hw h
    obtain ⟨n1, rfl⟩ : ∃ n1, n0 = n1 + 1 := ⟨n0 - 1, by omega⟩
    refine ⟨w, D, mo, ?_, Fr.rf, hw, h, Nat.le_refl _, fun z => Or.inl z, fun z => ⟨z, rfl, fun k h1 h2 => by omega⟩⟩
    rw [fX12_laySteps_L88, if_pos (show (64 : Int32) ≤ nI e from nI_le (a := 64) (by omega) (by omega)), nI_1]
  | succ r ih =>
    intro n0 e D mo w he hr hw h
    obtain ⟨n1, rfl⟩ : ∃ n1, n0 = n1 + 1 := ⟨n0 - 1, by omega⟩
    have hDc := (h.2 c hc).1
    have hDe := (h.2 e (by omega)).1
    have f1 : ∀ v, Fr [84] w (sI w 84 c v) := fun v => Fr.sI (by decide)
    have l0 : ∀ k88, fX12_laySteps_L134 N k49 k60 k88 w x2 x3 (b01 mo) (nI c) 1 (nI e) = k88 (sI w 84 c (nI (D c))) x2 x3 (b01 mo) (nI c) 1 (nI (e + 1)) := fun k88 => by
      unfold fX12_laySteps_L134 fX12_laySteps_L135 fX12_laySteps_L167
      rw [if_pos rfl, rdA_n hc (by decide), bS, hw c hc, wrA_n hc (by decide), bS, nI_1]
      cases mo
      · rw [if_pos (show b01 false = 0 from rfl), if_pos rfl]; rfl
      · rw [if_neg (show ¬ b01 true = 0 by decide)]; rfl
    have l1 : ∀ k88, fX12_laySteps_L135 N k49 k60 k88 w x2 x3 (b01 mo) (nI c) 1 (nI e) 1 = k88 (sI w 84 c (nI (D e + 1))) x2 x3 (b01 true) (nI c) 1 (nI (e + 1)) := fun k88 => by
      unfold fX12_laySteps_L135 fX12_laySteps_L167
      rw [if_neg (show ¬ (1 : Int32) = 0 by decide), rdA_n (by omega) (by decide), bS, hw e (by omega), nI_1, wrA_n hc (by decide), bS, nI_1]
      cases mo
      · rw [if_pos (show b01 false = 0 from rfl), if_neg (by decide)]; rfl
      · rw [if_neg (show ¬ b01 true = 0 by decide)]; rfl
    have hsame : ∀ k, k < 64 → (sI w 84 c (nI (D c))).1 84 k = nI (D k) := fun k hk => by
      rw [sI_1]
      by_cases ek : k = c
      · rw [if_pos ⟨rfl, ek⟩, ek]
      · rw [if_neg (by omega)]; exact hw k hk
    have sk : (sFar c e = 1 → D c ≤ D e + 1) → ∃ w' D' mo', fX12_laySteps_L88 N k49 k60 n1 (sI w 84 c (nI (D c))) x2 x3 (b01 mo) (nI c) 1 (nI (e + 1)) = k60 w' x2 x3 (b01 mo') (nI (c + 1)) ∧ Fr [84] w w' ∧ (∀ k, k < 64 → w'.1 84 k = nI (D' k)) ∧ MR op to D' ∧ wSum D' 64 ≤ wSum D 64 ∧ (mo' = true → mo = true ∨ wSum D' 64 < wSum D 64) ∧ (mo' = false → mo = false ∧ D' = D ∧ ∀ k, e ≤ k → k < 64 → sFar c k = 1 → D c ≤ D k + 1) := fun hs => by
      obtain ⟨w', D', mo', g1, g2, g3, g4, g5, g6, g7⟩ := ih n1 (e + 1) D mo (sI w 84 c (nI (D c))) (by omega) (by omega) hsame h
      refine ⟨w', D', mo', g1, (f1 _).then g2, g3, g4, g5, g6, fun z => ?_⟩
      obtain ⟨p1, p2, p3⟩ := g7 z
      refine ⟨p1, p2, fun k hk hk2 hn => ?_⟩
      by_cases ek : k = e
      · rw [ek] at hn ⊢; exact hs hn
      · exact p3 k (by omega) hk2 hn
    have zb : fX12_isBeside (nI c) (nI e) = b01 (decide (sFar c e = 1)) := by
      have hf := sFar_le hc (show e < 64 by omega)
      unfold fX12_isBeside
      rw [mfar_n hc (by omega)]
      by_cases q : sFar c e = 1
      · rw [if_pos (by rw [q]; rfl), decide_eq_true q]; rfl
      · rw [if_neg (show ¬ nI (sFar c e) = 1 from fun z => q ((nI_eq (b := 1) (by omega) (by decide)).mp z)), decide_eq_false q]; rfl
    rw [fX12_laySteps_L88, if_neg (show ¬ (64 : Int32) ≤ nI e from nI_ge (b := 64) (by omega) (by decide)), if_neg (show ¬ (1 : Int32) = 0 by decide), zb, l0, l1]
    by_cases hn : sFar c e = 1
    · rw [decide_eq_true hn, if_neg (show ¬ b01 true = 0 by decide), rdA_n (by omega) (by decide), bS, rdA_n hc (by decide), bS, hw e (by omega), hw c hc, nI_1]
      by_cases hs : D c ≤ D e + 1
      · rw [if_pos (nI_le hs (by omega))]
        exact sk (fun _ => hs)
      · rw [if_neg (nI_ge (by omega) (by omega))]
        have hup := h.up hc (show e < 64 by omega) hn ho (by omega)
        have hsm := wSum_up (W := D) (k := c) (v := D e + 1) (by omega) hc
        obtain ⟨w', D', mo', g1, g2, g3, g4, g5, g6, g7⟩ := ih n1 (e + 1) (uN D c (D e + 1)) true (sI w 84 c (nI (D e + 1))) (by omega) (by omega) (fun k hk => by
          rw [sI_1]
          by_cases ek : k = c
          · rw [if_pos ⟨rfl, ek⟩, ek, uN_s]
          · rw [if_neg (by omega), uN_n ek]; exact hw k hk) hup
        refine ⟨w', D', mo', g1, (f1 _).then g2, g3, g4, by omega, fun _ => Or.inr (by omega), fun z => ?_⟩
        exact absurd (g7 z).1 (by decide)
    · rw [decide_eq_false hn, if_pos (show b01 false = 0 from rfl)]
      exact sk (fun z => absurd z hn)
theorem relax_n {N : Nat} (hN : 100 ≤ N) {d : VD} (hv : VOK d) {hour n to S : Nat} {o : Nat → Nat} (hn : n ≤ 20) (hh : hour < 12) (hS : S < 2 ^ 7) (eS : S = li d) {k49 : Mm → Int32 → Int32 → Int32 → Option Mm} : ∀ (r n0 c : Nat) (D : Nat → Nat) (mo : Bool) (w : Mm), c + r = 64 → r < n0 → HP w d S o → (∀ k, k < 64 → w.1 84 k = nI (D k)) → MR (opD d hour n) to D → ∃ w' D' mo', fX12_laySteps_L60 N k49 n0 w (nI hour) (nI n) (b01 mo) (nI c) = k49 w' (nI hour) (nI n) (b01 mo') ∧ Fr [84] w w' ∧ (∀ k, k < 64 → w'.1 84 k = nI (D' k)) ∧ MR (opD d hour n) to D' ∧ wSum D' 64 ≤ wSum D 64 ∧ (mo' = true → mo = true ∨ wSum D' 64 < wSum D 64) ∧ (mo' = false → mo = false ∧ D' = D ∧ ∀ k, c ≤ k → k < 64 → opD d hour n k = true → ∀ e, e < 64 → sFar k e = 1 → D k ≤ D e + 1) := by
  intro r
  induction r with
  | zero =>
    intro n0 c D mo w he hr hp hw h
    obtain ⟨n1, rfl⟩ : ∃ n1, n0 = n1 + 1 := ⟨n0 - 1, by omega⟩
    refine ⟨w, D, mo, ?_, Fr.rf, hw, h, Nat.le_refl _, fun z => Or.inl z, fun z => ⟨z, rfl, fun k h1 h2 => by omega⟩⟩
    rw [fX12_laySteps_L60, if_pos (show (64 : Int32) ≤ nI c from nI_le (a := 64) (by omega) (by omega))]
  | succ r ih =>
    intro n0 c D mo w he hr hp hw h
    obtain ⟨n1, rfl⟩ : ∃ n1, n0 = n1 + 1 := ⟨n0 - 1, by omega⟩
    have ht := sT_le hv S hour c
    rw [fX12_laySteps_L60, if_neg (show ¬ (64 : Int32) ≤ nI c from nI_ge (b := 64) (by omega) (by decide)), mlightIn_ok hN hp hv (by omega) (by omega) hh, bS]
    unfold fX12_laySteps_L83
    by_cases q : sT d S hour c < n
    · rw [if_neg (nI_ge q (by omega))]
      have hoc : opD d hour n c = true := by unfold opD; rw [← eS]; exact decide_eq_true q
      obtain ⟨w1, D1, mo1, g1, g2, g3, g4, g5, g6, g7⟩ := relax_in (N := N) (op := opD d hour n) (to := to) (c := c) (by omega) hoc (x2 := nI hour) (x3 := nI n) (k49 := k49) (k60 := fX12_laySteps_L60 N k49 n1) 64 N 0 D mo w rfl (by omega) hw h
      obtain ⟨w2, D2, mo2, k1, k2, k3, k4, k5, k6, k7⟩ := ih n1 (c + 1) D1 mo1 w1 (by omega) (by omega) (hp.fr g2 (by decide)) g3 g4
      refine ⟨w2, D2, mo2, g1.trans k1, g2.then k2, k3, k4, by omega, fun z => ?_, fun z => ?_⟩
      · rcases k6 z with z2 | z2
        · rcases g6 z2 with z3 | z3
          · exact Or.inl z3
          · exact Or.inr (by omega)
        · exact Or.inr (by omega)
      · obtain ⟨p1, p2, p3⟩ := k7 z
        obtain ⟨q1, q2, q3⟩ := g7 p1
        refine ⟨q1, p2.trans q2, fun k hk hk2 hok e he hne => ?_⟩
        by_cases ek : k = c
        · rw [ek] at hne ⊢; exact q3 e (by omega) he hne
        · rw [q2] at p3; exact p3 k (by omega) hk2 hok e he hne
    · rw [if_pos (nI_le (by omega) (by omega))]
      have hoc : ¬ opD d hour n c = true := by unfold opD; rw [← eS]; exact fun z => q (of_decide_eq_true z)
      obtain ⟨w2, D2, mo2, k1, k2, k3, k4, k5, k6, k7⟩ := ih n1 (c + 1) D mo w (by omega) (by omega) hp hw h
      refine ⟨w2, D2, mo2, ?_, k2, k3, k4, k5, k6, fun z => ?_⟩
      · obtain ⟨n2, rfl⟩ : ∃ n2, N = n2 + 1 := ⟨N - 1, by omega⟩
        rw [fX12_laySteps_L88, if_neg (show ¬ (64 : Int32) ≤ 0 by decide), if_pos rfl, nI_1]
        exact k1
      · obtain ⟨p1, p2, p3⟩ := k7 z
        refine ⟨p1, p2, fun k hk hk2 hok e he hne => ?_⟩
        by_cases ek : k = c
        · rw [ek] at hok; exact absurd hok hoc
        · exact p3 k (by omega) hk2 hok e he hne
theorem laySteps_n {N : Nat} (hN : 100 ≤ N) {d : VD} (hv : VOK d) {hour n to S : Nat} {o : Nat → Nat} (hn : n ≤ 20) (hh : hour < 12) (hS : S < 2 ^ 7) (eS : S = li d) : ∀ (s n0 : Nat) (D : Nat → Nat) (w : Mm), wSum D 64 ≤ s → s + 2 ≤ n0 → HP w d S o → (∀ k, k < 64 → w.1 84 k = nI (D k)) → MR (opD d hour n) to D → ∃ w' D', fX12_laySteps_L49 N n0 w (nI hour) (nI n) 1 = some w' ∧ Fr [84] w w' ∧ (∀ k, k < 64 → w'.1 84 k = nI (D' k)) ∧ Gd (opD d hour n) to D' := by
  intro s
  induction s with
  | zero =>
    intro n0 D w hs hn0 hp hw h
    obtain ⟨n1, rfl⟩ : ∃ n1, n0 = n1 + 1 := ⟨n0 - 1, by omega⟩
    obtain ⟨n2, rfl⟩ : ∃ n2, n1 = n2 + 1 := ⟨n1 - 1, by omega⟩
    obtain ⟨w1, D1, mo1, g1, g2, g3, g4, g5, g6, g7⟩ := relax_n (N := N) hN hv (hour := hour) (n := n) (to := to) hn hh hS eS (k49 := fX12_laySteps_L49 N (n2 + 1)) 64 N 0 D false w rfl (by omega) hp hw h
    cases mo1 with
    | true =>
      rcases g6 rfl with z | z
      · exact absurd z (by decide)
      · omega
    | false =>
      obtain ⟨p1, p2, p3⟩ := g7 rfl
      refine ⟨w1, D1, ?_, g2, g3, g4.gd (by rw [p2]; exact fun c hc => p3 c (Nat.zero_le _) hc)⟩
      rw [fX12_laySteps_L49, if_neg (show ¬ (1 : Int32) = 0 by decide)]
      refine (show _ = _ from g1).trans ?_
      rw [fX12_laySteps_L49, if_pos (show b01 false = 0 from rfl)]
  | succ s ih =>
    intro n0 D w hs hn0 hp hw h
    obtain ⟨n1, rfl⟩ : ∃ n1, n0 = n1 + 1 := ⟨n0 - 1, by omega⟩
    obtain ⟨n2, rfl⟩ : ∃ n2, n1 = n2 + 1 := ⟨n1 - 1, by omega⟩
    obtain ⟨w1, D1, mo1, g1, g2, g3, g4, g5, g6, g7⟩ := relax_n (N := N) hN hv (hour := hour) (n := n) (to := to) hn hh hS eS (k49 := fX12_laySteps_L49 N (n2 + 1)) 64 N 0 D false w rfl (by omega) hp hw h
    cases mo1 with
    | true =>
      rcases g6 rfl with z | z
      · exact absurd z (by decide)
      · obtain ⟨w2, D2, k1, k2, k3, k4⟩ := ih (n2 + 1) D1 w1 (by omega) (by omega) (hp.fr g2 (by decide)) g3 g4
        refine ⟨w2, D2, ?_, g2.then k2, k3, k4⟩
        rw [fX12_laySteps_L49, if_neg (show ¬ (1 : Int32) = 0 by decide)]
        exact (show _ = _ from g1).trans k1
    | false =>
      obtain ⟨p1, p2, p3⟩ := g7 rfl
      refine ⟨w1, D1, ?_, g2, g3, g4.gd (by rw [p2]; exact fun c hc => p3 c (Nat.zero_le _) hc)⟩
      rw [fX12_laySteps_L49, if_neg (show ¬ (1 : Int32) = 0 by decide)]
      refine (show _ = _ from g1).trans ?_
      rw [fX12_laySteps_L49, if_pos (show b01 false = 0 from rfl)]
def D0_ (op : Nat → Bool) (to : Nat) : Nat → Nat := fun c => if c = to ∧ op c = true then 0 else 1000000
theorem laySteps_0 {N : Nat} (hN : 100 ≤ N) {d : VD} (hv : VOK d) {hour n to S : Nat} {o : Nat → Nat} (hn : n ≤ 20) (hh : hour < 12) (hto : to < 64) (hS : S < 2 ^ 7) (eS : S = li d) : ∀ (r n0 c : Nat) (w : Mm), c + r = 64 → r < n0 → HP w d S o → (∀ k, k < c → w.1 84 k = nI (D0_ (opD d hour n) to k)) → ∃ w', fX12_laySteps_L3 N n0 w (nI to) (nI hour) (nI n) (nI c) = fX12_laySteps_L49 N N w' (nI hour) (nI n) 1 ∧ Fr [84] w w' ∧ ∀ k, k < 64 → w'.1 84 k = nI (D0_ (opD d hour n) to k) := by
  intro r
  induction r with
  | zero =>
    intro n0 c w hi hr hp ha
    obtain ⟨n1, rfl⟩ : ∃ n1, n0 = n1 + 1 := ⟨n0 - 1, by omega⟩
    refine ⟨w, ?_, Fr.rf, fun k hk => ha k (by omega)⟩
    rw [fX12_laySteps_L3, if_pos (show (64 : Int32) ≤ nI c from nI_le (a := 64) (by omega) (by omega))]
  | succ r ih =>
    intro n0 c w hi hr hp ha
    obtain ⟨n1, rfl⟩ : ∃ n1, n0 = n1 + 1 := ⟨n0 - 1, by omega⟩
    have ht := sT_le hv S hour c
    have f1 : ∀ v, Fr [84] w (sI w 84 c v) := fun v => Fr.sI (by decide)
    obtain ⟨w', g1, g2, g3⟩ := ih n1 (c + 1) (sI w 84 c (nI (D0_ (opD d hour n) to c))) (by omega) (by omega) (hp.fr (f1 _) (by decide)) (fun k hk => by
      rw [sI_1]
      by_cases e : k = c
      · rw [if_pos ⟨rfl, e⟩, e]
      · rw [if_neg (by omega)]; exact ha k (by omega))
    refine ⟨w', ?_, (f1 _).then g2, g3⟩
    rw [fX12_laySteps_L3, if_neg (show ¬ (64 : Int32) ≤ nI c from nI_ge (b := 64) (by omega) (by decide)), mlightIn_ok hN hp hv (by omega) (by omega) hh, bS]
    unfold fX12_laySteps_L37 fX12_laySteps_L39
    rw [wrA_n (by omega) (by decide), bS, wrA_n (by omega) (by decide), bS, nI_1]
    unfold D0_ at g1
    by_cases q : c = to
    · rw [if_pos (by rw [q])]
      by_cases q2 : sT d S hour c < n
      · have hoc : opD d hour n c = true := by unfold opD; rw [← eS]; exact decide_eq_true q2
        rw [if_neg (nI_ge q2 (by omega))]
        rw [if_pos ⟨q, hoc⟩] at g1
        exact g1
      · have hoc : ¬ opD d hour n c = true := by unfold opD; rw [← eS]; exact fun z => q2 (of_decide_eq_true z)
        rw [if_pos (nI_le (by omega) (by omega))]
        rw [if_neg (fun z => hoc z.2)] at g1
        exact g1
    · rw [if_neg (fun z => q ((nI_eq (by omega) (by omega)).mp z))]
      rw [if_neg (fun z => q z.1)] at g1
      exact g1
theorem laySteps_ok {N : Nat} (hN : 70000000 ≤ N) {d : VD} (hv : VOK d) {hour n to S : Nat} {o : Nat → Nat} (hn : n ≤ 20) (hh : hour < 12) (hto : to < 64) (hS : S < 2 ^ 7) (eS : S = li d) {w : Mm} (hp : HP w d S o) : ∃ w' D, fX12_laySteps N w (nI to) (nI hour) (nI n) = some w' ∧ Fr [84] w w' ∧ (∀ k, k < 64 → w'.1 84 k = nI (D k)) ∧ Gd (opD d hour n) to D := by
  obtain ⟨w1, g1, g2, g3⟩ := laySteps_0 (N := N) (by omega) hv (hour := hour) (n := n) hn hh hto hS eS 64 N 0 w rfl (by omega) hp (fun k hk => absurd hk (by omega))
  have hle : ∀ c, D0_ (opD d hour n) to c ≤ 1000000 := fun c => by unfold D0_; split <;> omega
  have hb := wSum_bd (W := D0_ (opD d hour n) to) (B := 1000000) (n := 64) (fun k _ => hle k)
  obtain ⟨w2, D2, k1, k2, k3, k4⟩ := laySteps_n (N := N) (by omega) hv (hour := hour) (n := n) (to := to) hn hh hS eS 64000000 N (D0_ (opD d hour n) to) w1 hb (by omega) (hp.fr g2 (by decide)) g3 ⟨fun z => if_pos ⟨rfl, z⟩, fun c hc => ⟨hle c, fun hlt => by
    unfold D0_ at hlt ⊢
    by_cases q : c = to ∧ opD d hour n c = true
    · rw [if_pos q]; exact ⟨q.2, Or.inl ⟨q.1, rfl⟩⟩
    · rw [if_neg q] at hlt; omega⟩⟩
  exact ⟨w2, D2, g1.trans k1, g2.then k2, k3, k4⟩
/-! the first step -/
theorem behind_n {N : Nat} {w : Mm} {D : Nat → Nat} {fr m : Nat} (hfr : fr < 64) (hw : ∀ c, c < 64 → w.1 74 c = eD (D c)) (hD : D fr < 1000000) (h0 : 0 < D fr) (hm : m < 64) (hm1 : sFar fr m = 1) (hm2 : D m + 1 = D fr) (hm3 : ∀ c, c < m → ¬ (sFar fr c = 1 ∧ D c + 1 = D fr)) : ∀ (r n0 y : Nat), y + r = 4 → r < n0 → (∀ z, z < y → bes fr z ≠ m) → fX9_firstBehind_L26 N w n0 (nI fr) (nI y) = some (nI m) := by
  intro r
  obtain ⟨y0, y1, y2⟩ := nb_bes hfr hm hm1
  induction r with
  | zero =>
    intro n0 y hy hr hb
    exact absurd y2 (hb y0 (by omega))
  | succ r ih =>
    intro n0 y hy hr hb
    obtain ⟨n1, rfl⟩ : ∃ n1, n0 = n1 + 1 := ⟨n0 - 1, by omega⟩
    have hyy : ¬ y0 < y := fun z => hb y0 z y2
    rw [fX9_firstBehind_L26, if_neg (show ¬ (4 : Int32) ≤ nI y from nI_ge (b := 4) (by omega) (by decide)), bes_n fr hfr y (by omega), nI_1]
    by_cases e : y = y0
    · subst e
      rw [y2, if_pos hm, if_neg (nI_m1 (by omega)), rdA_n hm (by decide), bS, rdA_n hfr (by decide), bS, hw m hm, hw fr hfr, show eD (D m) = nI (D m) from if_pos (by omega), show eD (D fr) = nI (D fr) from if_pos hD, if_pos]
      rw [← hm2]
      exact (nI_pred _).symm
    · have hstep : ∀ z, z < y + 1 → bes fr z ≠ m := fun z hz => by
        by_cases ez : z = y
        · subst ez
          intro hz2
          by_cases q : bes fr z < 64
          · have := bes_mono hfr y1 (show z < y0 by omega) q (by omega)
            omega
          · omega
        · exact hb z (by omega)
      by_cases hb64 : bes fr y < 64
      · have hlt := bes_mono hfr y1 (show y < y0 by omega) hb64 (by omega)
        have hno := hm3 (bes fr y) (by omega)
        have hnb := bes_nb fr hfr y (by omega) hb64
        rw [if_pos hb64, if_neg (nI_m1 (by omega)), rdA_n hb64 (by decide), bS, rdA_n hfr (by decide), bS, hw _ hb64, hw fr hfr, show eD (D fr) = nI (D fr) from if_pos hD, if_neg]
        · exact ih n1 (y + 1) (by omega) (by omega) hstep
        · intro z
          have e1 : nI (D fr) - 1 = nI (D fr - 1) := by
            obtain ⟨k, hk⟩ : ∃ k, D fr = k + 1 := ⟨D fr - 1, by omega⟩
            rw [hk]; exact nI_pred k
          rw [e1] at z
          unfold eD at z
          by_cases q : D (bes fr y) < 1000000
          · rw [if_pos q] at z
            have := (nI_eq (by omega) (by omega)).mp z
            exact hno ⟨hnb, by omega⟩
          · rw [if_neg q] at z
            exact nI_m1 (by omega) z.symm
      · rw [if_neg hb64, if_pos rfl]
        exact ih n1 (y + 1) (by omega) (by omega) hstep
theorem mfirst_n {N : Nat} {w : Mm} {D : Nat → Nat} {fr to m what : Nat} (hfr : fr < 64) (hto : to < 64) (hne : fr ≠ to) (hwh : what ≤ 1) (hw : ∀ c, c < 64 → w.1 84 c = nI (D c)) (hDl : ∀ c, c < 64 → D c ≤ 1000000) (hD : D fr < 1000000) (h0 : 0 < D fr) (hm : m < 64) (hm1 : sFar fr m = 1) (hm2 : D m + 1 = D fr) (hm3 : ∀ c, c < m → ¬ (sFar fr c = 1 ∧ D c + 1 = D fr)) : ∀ (j n0 : Nat) (x6 : Int32), j ≤ 64 → j < n0 → fX12_thief_L79 N n0 w (nI fr) (nI to) (nI what) x6 (nI j + (-1)) = some (if what = 0 then nI (D fr) else if m < j then nI m else x6, w) := by
  intro j
  have hne' : ¬ nI fr = nI to := fun z => hne ((nI_eq (by omega) (by omega)).mp z)
  induction j with
  | zero =>
    intro n0 x6 hj hr
    obtain ⟨n1, rfl⟩ : ∃ n1, n0 = n1 + 1 := ⟨n0 - 1, by omega⟩
    rw [fX12_thief_L79, if_pos (show nI 0 + (-1) < 0 by decide)]
    unfold fX12_thief_L132
    rw [rdA_n hfr (by decide), bS, hw fr hfr]
    by_cases q : what = 0
    · rw [if_pos (by rw [q]; rfl), if_pos q]
    · rw [if_neg (show ¬ nI what = 0 from fun z => q ((nI_eq (b := 0) (by omega) (by decide)).mp z)), if_neg q, if_neg (by omega)]
  | succ j ih =>
    intro n0 x6 hj hr
    obtain ⟨n1, rfl⟩ : ∃ n1, n0 = n1 + 1 := ⟨n0 - 1, by omega⟩
    have hf := sFar_le hfr (show j < 64 by omega)
    have hDj := hDl j (by omega)
    have e1 : nI (D fr) - 1 = nI (D fr - 1) := by
      obtain ⟨k, hk⟩ : ∃ k, D fr = k + 1 := ⟨D fr - 1, by omega⟩
      rw [hk]; exact nI_pred k
    have l0 : ∀ (P : Prop), (what = 0 ∨ (m < j ↔ m < j + 1)) → fX12_thief_L122 N (fX12_thief_L79 N n1) w (nI fr) (nI to) (nI what) x6 (nI j) = some (if what = 0 then nI (D fr) else if m < j + 1 then nI m else x6, w) := fun _ hiff => by
      unfold fX12_thief_L122
      rw [ih n1 x6 (by omega) (by omega)]
      rcases hiff with q | q
      · rw [if_pos q, if_pos q]
      · by_cases q2 : m < j
        · rw [if_pos q2, if_pos (q.mp q2)]
        · rw [if_neg q2, if_neg (fun z => q2 (q.mpr z))]
    rw [fX12_thief_L79, pk_m1, if_neg (nI_pos (by omega)), if_neg hne']
    unfold fX12_isBeside
    rw [mfar_n hfr (by omega)]
    by_cases hn : sFar fr j = 1
    · rw [if_pos (show nI (sFar fr j) = 1 by rw [hn]; rfl), if_neg (show ¬ (1 : Int32) = 0 by decide), rdA_n (by omega) (by decide), bS, rdA_n hfr (by decide), bS, hw j (by omega), hw fr hfr, e1]
      by_cases hd : D j + 1 = D fr
      · rw [if_pos (by rw [show D fr - 1 = D j by omega]), ih n1 (nI j) (by omega) (by omega)]
        by_cases q : what = 0
        · rw [if_pos q, if_pos q]
        · rw [if_neg q, if_neg q]
          have hmj : m ≤ j := Nat.le_of_not_lt (fun z => hm3 j z ⟨hn, hd⟩)
          rw [if_pos (show m < j + 1 by omega)]
          by_cases q2 : m < j
          · rw [if_pos q2]
          · rw [if_neg q2, show m = j by omega]
      · rw [if_neg (fun z => by have := (nI_eq (by omega) (by omega)).mp z; omega)]
        refine l0 True (Or.inr ⟨fun z => by omega, fun z => ?_⟩)
        have : m ≠ j := fun z2 => by rw [z2] at hm2; exact hd hm2
        omega
    · rw [if_neg (show ¬ nI (sFar fr j) = 1 from fun z => hn ((nI_eq (b := 1) (by omega) (by decide)).mp z)), if_pos rfl]
      refine l0 True (Or.inr ⟨fun z => by omega, fun z => ?_⟩)
      have : m ≠ j := fun z2 => by rw [z2] at hm1; exact hn hm1
      omega
theorem op_thief {N : Nat} (hN : 70000000 ≤ N) {w : Mm} (h : INV w) (x y z v u : Int32) : OKi (fX11_thief N w x y z v u) (fun w => fX12_thief N w x y z v u) := by
  unfold fX11_thief fX12_thief fX11_isCell fX12_isCell fX11_isHour fX12_isHour fX12_isLight fX11_thief_L42 fX12_thief_L40
  rcases rg_0_63 x with ⟨h1, h2⟩ | ⟨fr, -, hfr, rfl, h1, h2⟩
  · rw [if_pos h1]; exact ok_bad' (-2) h (fun w' hw' => by rw [if_pos h2])
  rw [if_neg h1]
  rcases rg_0_63 y with ⟨h3, h4⟩ | ⟨to, -, hto, rfl, h3, h4⟩
  · rw [if_pos h3]; exact ok_bad' (-2) h (fun w' hw' => by rw [if_neg h2, if_pos h4])
  rw [if_neg h3]
  rcases rg_0_11 z with ⟨h5, h6⟩ | ⟨t, -, ht, rfl, h5, h6⟩
  · rw [if_pos h5]; exact ok_bad' (-2) h (fun w' hw' => by rw [if_neg h2, if_neg h4, if_pos h6])
  rw [if_neg h5]
  rcases rg_1_20 v with ⟨h7, h8⟩ | ⟨n, hn1, hn, rfl, h7, h8⟩
  · rw [if_pos h7]; exact ok_bad' (-2) h (fun w' hw' => by rw [if_neg h2, if_neg h4, if_neg h6, if_pos h8])
  rw [if_neg h7]
  rcases rg_0_1 u with ⟨h9, h10⟩ | ⟨wh, -, hwh, rfl, h9, h10⟩
  · rw [if_pos h9]; exact ok_bad' (-2) h (fun w' hw' => by rw [if_neg h2, if_neg h4, if_neg h6, if_neg h8, if_pos h10])
  rw [if_neg h9]
  obtain ⟨S, s1, s2, s3⟩ := h
  have hv : VOK (vd (gV S)) := s1.1.1
  have hS := li31 hv
  obtain ⟨w1, e1, e2, e3⟩ := layAll_ok (N := N) (by omega) hv s2.1.lp (hour := t) (by omega)
  have l1 : LPc w1 (vd (gV S)) := s2.1.lp.fr e2 (by decide)
  obtain ⟨w2, D, k1, k2, k3, k4⟩ := spread_ok (N := N) (by omega) hv (hour := t) (n := n) (to := to) hn (by omega) l1 e3
  have f12 : Fr [61, 65, 74, 75, 76] w w2 := (e2.up (by decide)).then (k2.up (by decide))
  obtain ⟨w3, g1, g2, g3, g4⟩ := layHand_ok (N := N) (by omega) hv (s3.np f12 (by decide))
  obtain ⟨w4, E, q1, q2, q3, q4⟩ := laySteps_ok (N := N) hN hv (hour := t) (n := n) (to := to) hn (by omega) (by omega) hS rfl g3
  have hDE : ∀ c, c < 64 → D c = E c := fun c hc => Gd_uniq k4 q4 hc
  have q3' : ∀ c, c < 64 → w4.1 84 c = nI (D c) := fun c hc => by rw [hDE c hc]; exact q3 c hc
  have hDl : ∀ c, c < 64 → D c ≤ 1000000 := fun c hc => (k4.2.1 c hc).1
  have hfi : INV w4 := INV.q s1 s2 s3 f12 (by decide) ((g2.up (L2 := [77, 82, 83, 84]) (by decide)).then (q2.up (by decide))) (by decide) (by rw [q2.1 77 (by decide)]; exact g4 16 (by decide))
  have hwz : (nI wh = 0) ↔ wh = 0 := nI_eq (b := 0) (by omega) (by decide)
  have mod : ∀ r, (if nI (D fr) < (1000000 : Int32) then fX12_thief_L79 N N w4 (nI fr) (nI to) (nI wh) (nI fr) (63 : Int32) else some ((-1 : Int32), w4)) = some (r, w4) → (fun w => if fX12_in (nI fr).toInt64 0 63 = 0 then ob2 (some (fX12_bad w (-2))) fun a18 m19 => some (a18, m19) else if fX12_in (nI to).toInt64 0 63 = 0 then ob2 (some (fX12_bad w (-2))) fun a18 m19 => some (a18, m19) else if fX12_in (nI t).toInt64 0 11 = 0 then ob2 (some (fX12_bad w (-2))) fun a18 m19 => some (a18, m19) else if fX12_in (nI n).toInt64 1 20 = 0 then ob2 (some (fX12_bad w (-2))) fun a18 m19 => some (a18, m19) else if fX12_in (nI wh).toInt64 0 1 = 0 then ob2 (some (fX12_bad w (-2))) fun a18 m19 => some (a18, m19) else Option.bind (fX12_layHand N w) fun m6 => Option.bind (fX12_laySteps N m6 (nI to) (nI t) (nI n)) fun m7 => Option.bind (rdA m7 84 64 (nI fr)) fun a8 => if a8 < (1000000 : Int32) then fX12_thief_L79 N N m7 (nI fr) (nI to) (nI wh) (nI fr) (63 : Int32) else some ((-1 : Int32), m7)) w2 = some (r, w4) := fun r hr => by
    dsimp only
    rw [if_neg h2, if_neg h4, if_neg h6, if_neg h8, if_neg h10, g1, bS, q1, bS, rdA_n (by omega) (by decide), bS, q3' fr (by omega)]
    exact hr
  have ek : fX9_stepsFrom w2 (nI fr) = some (eD (D fr)) := by
    unfold fX9_stepsFrom
    rw [rdA_n (by omega) (by decide), bS, k3 fr (by omega)]
  rw [e1, bS, k1, bS, ek, bS]
  have hF : ∀ c, c < 64 → ((nI (D c) < (1000000 : Int32)) ↔ D c < 1000000) := fun c hc => nI_ltI (b := 1000000) (by have := hDl c hc; omega) (by decide)
  by_cases hD : D fr < 1000000
  · obtain ⟨ho, hway⟩ := (k4.2.1 fr (by omega)).2 hD
    by_cases hft : fr = to
    · have hz : D fr = 0 := by rw [hft]; rw [hft] at ho; exact k4.1 ho
      have hm0 : fX12_thief_L79 N N w4 (nI fr) (nI to) (nI wh) (nI fr) (63 : Int32) = some (if wh = 0 then nI (D fr) else nI fr, w4) := by
        obtain ⟨n1, rfl⟩ : ∃ n1, N = n1 + 1 := ⟨N - 1, by omega⟩
        rw [fX12_thief_L79, if_neg (show ¬ (63 : Int32) < 0 by decide), if_pos (by rw [hft])]
        unfold fX12_thief_L132
        rw [rdA_n (by omega) (by decide), bS, q3' fr (by omega)]
        by_cases q : wh = 0
        · rw [if_pos (hwz.mpr q), if_pos q]
        · rw [if_neg (fun z => q (hwz.mp z)), if_neg q]
      refine ⟨if wh = 0 then nI (D fr) else nI fr, w2, w4, ?_, mod _ (by rw [if_pos ((hF fr (by omega)).mpr hD)]; exact hm0), hfi⟩
      by_cases q : wh = 0
      · rw [if_pos (hwz.mpr q), if_pos q, show eD (D fr) = nI (D fr) from if_pos hD]
      · rw [if_neg (fun z => q (hwz.mp z)), if_neg q]
        unfold fX9_firstBehind
        rw [rdA_n (by omega) (by decide), bS, bS, k3 fr (by omega), show eD (D fr) = nI (D fr) from if_pos hD, hz, if_neg (by decide), if_pos (show nI 0 = 0 from rfl), bS]
    · obtain ⟨e, he, hne, hde⟩ : ∃ e, e < 64 ∧ sFar fr e = 1 ∧ D e + 1 = D fr := by
        rcases hway with z | z
        · exact absurd z.1 hft
        · exact z
      obtain ⟨m, ⟨m0, m1, m2⟩, m3⟩ := pk_least (fun c => c < 64 ∧ sFar fr c = 1 ∧ D c + 1 = D fr) ⟨e, he, hne, hde⟩
      have m3' : ∀ c, c < m → ¬ (sFar fr c = 1 ∧ D c + 1 = D fr) := fun c hc z => m3 c hc ⟨by omega, z.1, z.2⟩
      have hm0 := mfirst_n (N := N) (w := w4) (D := D) (fr := fr) (to := to) (m := m) (what := wh) (by omega) (by omega) hft hwh q3' hDl hD (by omega) m0 m1 m2 m3' 64 N (nI fr) (Nat.le_refl _) (by omega)
      rw [if_pos m0] at hm0
      refine ⟨if wh = 0 then nI (D fr) else nI m, w2, w4, ?_, mod _ (by rw [if_pos ((hF fr (by omega)).mpr hD)]; exact hm0), hfi⟩
      by_cases q : wh = 0
      · rw [if_pos (hwz.mpr q), if_pos q, show eD (D fr) = nI (D fr) from if_pos hD]
      · rw [if_neg (fun z => q (hwz.mp z)), if_neg q]
        have hb := behind_n (N := N) (w := w2) (D := D) (fr := fr) (m := m) (by omega) k3 hD (by omega) m0 m1 m2 m3' 4 N 0 rfl (by omega) (fun z hz => absurd hz (by omega))
        unfold fX9_firstBehind
        rw [rdA_n (by omega) (by decide), bS, k3 fr (by omega), show eD (D fr) = nI (D fr) from if_pos hD, if_pos (show (0 : Int32) < nI (D fr) from nI_lt (a := 0) (by omega) (by omega)), show fX9_firstBehind_L26 N w2 N (nI fr) (0 : Int32) = _ from hb, bS]
  · have hx := hDl fr (by omega)
    refine ⟨-1, w2, w4, ?_, mod _ (by rw [if_neg (fun z => hD ((hF fr (by omega)).mp z))]), hfi⟩
    rw [show eD (D fr) = -1 from if_neg hD]
    by_cases q : wh = 0
    · rw [if_pos (hwz.mpr q)]
    · rw [if_neg (fun z => q (hwz.mp z))]
      unfold fX9_firstBehind
      rw [rdA_n (by omega) (by decide), bS, bS, k3 fr (by omega), show eD (D fr) = -1 from if_neg hD, if_neg (by decide), if_neg (by decide), bS]

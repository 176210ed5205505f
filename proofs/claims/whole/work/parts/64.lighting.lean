/-! ===== the fewest, the least tallow ===== -/
theorem sAll_mono {d : VD} {wa : Nat → Nat} {hour x S i : Nat} : ∀ {n : Nat}, i ≤ n → sAll d wa hour x S n = true → sAll d wa hour x S i = true := by
  intro n
  induction n with
  | zero => intro h1 h2; rw [show i = 0 by omega]; exact h2
  | succ n ih =>
    intro h1 h2
    by_cases e : i = n + 1
    · rw [e]; exact h2
    · rw [sAll, Bool.and_eq_true] at h2
      exact ih (by omega) h2.1
theorem sAll_no {d : VD} {wa : Nat → Nat} {hour x S i n : Nat} (hi : i < n) (h : ¬ x ≤ sT d S hour (wa i)) : sAll d wa hour x S n = false := by
  cases e : sAll d wa hour x S n
  · rfl
  · have := sAll_mono (show i + 1 ≤ n by omega) e
    rw [sAll, Bool.and_eq_true] at this
    exact absurd (of_decide_eq_true this.2) h
def b01 (b : Bool) : Int32 := if b = true then 1 else 0
theorem layWanted_n {N : Nat} (hN : 100 ≤ N) {d : VD} (hv : VOK d) {nw hour x : Nat} {wa : Nat → Nat} (hw : nw ≤ 6) (hwa : ∀ i, i < nw → wa i < 64) (hh : hour < 12) (hx : x < 2 ^ 30) : ∀ (r n0 i : Nat) (w : Mm), i + r = nw → r < n0 → LPc w d → CVw w 1 nw wa → (∀ k, k < i → w.1 69 k = nI (sR d hour (wa k) x)) → ∃ w', fX6_layWanted_L2 N n0 w (nI hour) (nI x) (nI i) = some w' ∧ Fr [69] w w' ∧ ∀ k, k < nw → w'.1 69 k = nI (sR d hour (wa k) x) := by
  intro r
  induction r with
  | zero =>
    intro n0 i w hi hr h hc hj
    obtain ⟨n1, rfl⟩ : ∃ n1, n0 = n1 + 1 := ⟨n0 - 1, by omega⟩
    refine ⟨w, ?_, Fr.rf, fun k hk => hj k (by omega)⟩
    rw [fX6_layWanted_L2, hc.1, if_pos (nI_le (by omega) (by omega))]
  | succ r ih =>
    intro n0 i w hi hr h hc hj
    obtain ⟨n1, rfl⟩ : ∃ n1, n0 = n1 + 1 := ⟨n0 - 1, by omega⟩
    have f1 : Fr [69] w (sI w 69 i (nI (sR d hour (wa i) x))) := Fr.sI (by decide)
    obtain ⟨w', e1, e2, e3⟩ := ih n1 (i + 1) (sI w 69 i (nI (sR d hour (wa i) x))) (by omega) (by omega) (h.fr f1 (by decide)) (hc.fr (by rw [f1.1 1 (by decide)]) (f1.1 _ (by decide))) (fun k hk => by
      rw [sI_1]
      by_cases e : k = i
      · rw [if_pos ⟨rfl, e⟩, e]
      · rw [if_neg (by omega)]; exact hj k (by omega))
    refine ⟨w', ?_, f1.then e2, e3⟩
    rw [fX6_layWanted_L2, hc.1, if_neg (nI_ge (by omega) (by omega)), rdA_n (by omega) (by decide), bS, show w.1 7 i = nI (wa i) from hc.2 i (by omega), reaching_ok hN h hv (hwa i (by omega)) hh hx, bS, wrA_n (by omega) (by decide), bS, nI_1]
    exact e1
theorem lightsW_n {N : Nat} {w : Mm} {d : VD} (hv : VOK d) {nw hour x S : Nat} {wa : Nat → Nat} (hw : nw ≤ 6) (hx : 1 ≤ x) (hS : S < 2 ^ 7) (hc : w.1 1 8 = nI nw) (h69 : ∀ k, k < nw → w.1 69 k = nI (sR d hour (wa k) x)) : ∀ (r n0 i : Nat), i + r = nw → r < n0 → sAll d wa hour x S i = true → fX6_lightsWanted_L2 N w n0 (nI S) (nI i) = some (b01 (sAll d wa hour x S nw)) := by
  intro r
  induction r with
  | zero =>
    intro n0 i hi hr ha
    obtain ⟨n1, rfl⟩ : ∃ n1, n0 = n1 + 1 := ⟨n0 - 1, by omega⟩
    rw [fX6_lightsWanted_L2, hc, if_pos (nI_le (by omega) (by omega)), ← show i = nw by omega, ha]
    rfl
  | succ r ih =>
    intro n0 i hi hr ha
    obtain ⟨n1, rfl⟩ : ∃ n1, n0 = n1 + 1 := ⟨n0 - 1, by omega⟩
    have hR := sR_lt hv hour (wa i) x
    have hab : S &&& sR d hour (wa i) x ≤ S := Nat.and_le_left
    rw [fX6_lightsWanted_L2, hc, if_neg (nI_ge (by omega) (by omega)), rdA_n (by omega) (by decide), bS, h69 i (by omega), nI_and (by omega) (by omega), nI_1]
    by_cases hz : sT d S hour (wa i) < x
    · rw [if_pos (show nI (S &&& sR d hour (wa i) x) = 0 by rw [Nat.and_comm, (sR_z hx).mpr hz]; rfl), sAll_no (i := i) (by omega) (by omega)]
      rfl
    · rw [if_neg (show ¬ nI (S &&& sR d hour (wa i) x) = 0 from fun z => hz ((sR_z hx).mp (by rw [Nat.and_comm]; exact (nI_eq (b := 0) (by omega) (by decide)).mp z)))]
      exact ih n1 (i + 1) (by omega) (by omega) (by rw [sAll, ha, decide_eq_true (show x ≤ sT d S hour (wa i) by omega)]; rfl)
theorem areLight_n {N : Nat} (hN : 100 ≤ N) {w : Mm} {d : VD} (hv : VOK d) {nw hour x S : Nat} {wa o : Nat → Nat} (hp : HP w d S o) (hw : nw ≤ 6) (hwa : ∀ i, i < nw → wa i < 64) (hx : x < 2 ^ 30) (hS : S < 2 ^ 7) (hh : hour < 12) (hc : MVw (w.1 78) nw wa) : ∀ (r n0 i : Nat), i + r = nw → r < n0 → sAll d wa hour x S i = true → fX12_areLight_L5 N w n0 (nI hour) (nI x) 1 (nI i) = some (b01 (sAll d wa hour x S nw)) := by
  intro r
  induction r with
  | zero =>
    intro n0 i hi hr ha
    obtain ⟨n1, rfl⟩ : ∃ n1, n0 = n1 + 1 := ⟨n0 - 1, by omega⟩
    rw [fX12_areLight_L5, hc.1, if_pos (nI_le (by omega) (by omega)), ← show i = nw by omega, ha]
    rfl
  | succ r ih =>
    intro n0 i hi hr ha
    obtain ⟨n1, rfl⟩ : ∃ n1, n0 = n1 + 1 := ⟨n0 - 1, by omega⟩
    have ht := sT_le hv S hour (wa i)
    have e41 : 41 + nI i = nI (41 + i) := by rw [show (41 : Int32) = nI 41 from rfl, nI_add]
    rw [fX12_areLight_L5, hc.1, if_neg (nI_ge (by omega) (by omega)), if_neg (show ¬ (1 : Int32) = 0 by decide), e41, rdA_n (by omega) (by decide), bS, hc.2 i (by omega), mlightIn_ok hN hp hv (by omega) (hwa i (by omega)) hh, bS, nI_1]
    by_cases hz : sT d S hour (wa i) < x
    · rw [if_pos (nI_lt hz (by omega)), sAll_no (i := i) (by omega) (by omega)]
      obtain ⟨n2, rfl⟩ : ∃ n2, n1 = n2 + 1 := ⟨n1 - 1, by omega⟩
      rw [fX12_areLight_L5, if_pos (show (0 : Int32) = 0 from rfl)]
      split <;> rfl
    · rw [if_neg (nI_nlt (by omega) (by omega))]
      exact ih n1 (i + 1) (by omega) (by omega) (by rw [sAll, ha, decide_eq_true (show x ≤ sT d S hour (wa i) by omega)]; rfl)
theorem HP.set {w : Mm} {d : VD} {S S' : Nat} {o : Nat → Nat} (h : HP w d S o) : HP (sI w 77 6 (nI S')) d S' o := by
  refine ⟨?_, ?_, ?_, ?_⟩
  · rw [sI_o _ (by decide)]; exact h.1
  · rw [sI_o _ (by decide)]; exact h.2.1
  · rw [sI_1, if_pos ⟨rfl, rfl⟩]
  · rw [sI_o _ (show (78 : Nat) ≠ 77 by decide), sI_o _ (show (82 : Nat) ≠ 77 by decide), sI_o _ (show (83 : Nat) ≠ 77 by decide)]; exact h.2.2.2
theorem b01_z {b : Bool} : b01 b = 0 ↔ b = false := by cases b <;> decide
theorem p2le {d : VD} (hv : VOK d) : (2 : Nat) ^ nn d ≤ 2 ^ 7 := Nat.pow_le_pow_right (by decide) hv.2.1
theorem enc_m {ok : Nat → Bool} {m : Nat → Nat} {n b : Nat} (h : sB ok m n = some b) (hn : n ≤ 128) : ¬ nI b = -1 := nI_m1 (by have := sB_lt h; omega)
theorem fewest_n {N : Nat} (hN : 1000 ≤ N) {w : Mm} {d : VD} (h : LPc w d) (hv : VOK d) {nw hour x : Nat} {wa : Nat → Nat} (hw : nw ≤ 6) (hx : 1 ≤ x) (hc : w.1 1 8 = nI nw) (h69 : ∀ k, k < nw → w.1 69 k = nI (sR d hour (wa k) x)) : ∀ (r n0 s : Nat), s + r = 2 ^ nn d → r < n0 → fX6_fewest_L4 N w n0 (enc (sB (fun s => sAll d wa hour x s nw) (pcF 7) s)) (nI s) = some (enc (sB (fun s => sAll d wa hour x s nw) (pcF 7) (2 ^ nn d))) := by
  intro r
  have h7 := p2le hv
  have hn := hv.2.1
  have eh : fX6_howManySets w = nI (2 ^ nn d) := by unfold fX6_howManySets; rw [h.2.1, nI_shl (by omega)]
  induction r with
  | zero =>
    intro n0 s hi hr
    obtain ⟨n1, rfl⟩ : ∃ n1, n0 = n1 + 1 := ⟨n0 - 1, by omega⟩
    rw [fX6_fewest_L4, eh, if_pos (nI_le (by omega) (by omega)), show s = 2 ^ nn d by omega]
  | succ r ih =>
    intro n0 s hi hr
    obtain ⟨n1, rfl⟩ : ∃ n1, n0 = n1 + 1 := ⟨n0 - 1, by omega⟩
    have ih' := ih n1 (s + 1) (by omega) (by omega)
    have el : fX6_lightsWanted N w (nI s) = some (b01 (sAll d wa hour x s nw)) := lightsW_n hv hw hx (by omega) hc h69 nw N 0 (Nat.zero_add _) (by omega) rfl
    rw [fX6_fewest_L4, eh, if_neg (nI_ge (by omega) (by omega)), el, bS, nI_1]
    unfold fX6_fewest_L36
    rw [nI_1]
    rw [sB] at ih'
    cases e : sB (fun s => sAll d wa hour x s nw) (pcF 7) s with
    | none =>
      rw [e] at ih'
      dsimp only at ih'
      by_cases ha : sAll d wa hour x s nw = true
      · rw [if_neg (fun z => by rw [b01_z, ha] at z; exact absurd z (by decide)), if_pos (show enc none = -1 from rfl)]
        rw [if_pos ha] at ih'
        exact ih'
      · rw [if_pos (b01_z.mpr (by simpa using ha))]
        rw [if_neg ha] at ih'
        exact ih'
    | some b =>
      rw [e] at ih'
      dsimp only at ih'
      have hb := sB_lt e
      by_cases ha : sAll d wa hour x s nw = true
      · rw [if_neg (fun z => by rw [b01_z, ha] at z; exact absurd z (by decide)), if_neg (show ¬ enc (some b) = -1 from enc_m e (by omega)), show enc (some b) = nI b from rfl, bitCount_n b (by omega), bitCount_n s (by omega)]
        have p1 := pcF_le 7 s
        have p2 := pcF_le 7 b
        by_cases hq : pcF 7 s < pcF 7 b
        · rw [if_neg (nI_ge hq (by omega))]
          rw [if_pos ⟨ha, hq⟩] at ih'
          exact ih'
        · rw [if_pos (nI_le (by omega) (by omega))]
          rw [if_neg (fun z => hq z.2)] at ih'
          exact ih'
      · rw [if_pos (b01_z.mpr (by simpa using ha))]
        rw [if_neg (fun z => ha z.1)] at ih'
        exact ih'
theorem mlighting_n {N : Nat} (hN : 1000 ≤ N) {d : VD} (hv : VOK d) {nw hour x : Nat} {wa o : Nat → Nat} (hw : nw ≤ 6) (hwa : ∀ i, i < nw → wa i < 64) (hx : x < 2 ^ 30) (hh : hour < 12) : ∀ (r n0 s S : Nat) (w : Mm), s + r = 2 ^ nn d → r < n0 → HP w d S o → MVw (w.1 78) nw wa → ∃ w', fX12_lighting_L30 N n0 w (nI hour) (nI x) (enc (sB (fun s => sAll d wa hour x s nw) (pcF 7) s)) (nI s) = some (enc (sB (fun s => sAll d wa hour x s nw) (pcF 7) (2 ^ nn d)), w') ∧ Fr [77] w w' ∧ w'.1 77 16 = w.1 77 16 := by
  intro r
  have h7 := p2le hv
  have hn := hv.2.1
  induction r with
  | zero =>
    intro n0 s S w hi hr hp hc
    obtain ⟨n1, rfl⟩ : ∃ n1, n0 = n1 + 1 := ⟨n0 - 1, by omega⟩
    refine ⟨w, ?_, Fr.rf, rfl⟩
    unfold fX12_lighting_L30 fX12_candles
    rw [hp.1, nI_shl (by omega), if_pos (nI_le (by omega) (by omega)), show s = 2 ^ nn d by omega]
  | succ r ih =>
    intro n0 s S w hi hr hp hc
    obtain ⟨n1, rfl⟩ : ∃ n1, n0 = n1 + 1 := ⟨n0 - 1, by omega⟩
    obtain ⟨w', ih', f', g'⟩ := ih n1 (s + 1) s (sI w 77 6 (nI s)) (by omega) (by omega) hp.set (by rw [sI_o _ (by decide)]; exact hc)
    refine ⟨w', ?_, (Fr.sI (by decide)).then f', by rw [g', sI_1, if_neg (by decide)]⟩
    have ea : fX12_areLight N (sI w 77 6 (nI s)) (nI hour) (nI x) = some (b01 (sAll d wa hour x s nw)) := areLight_n (by omega) hv (hp.set (S' := s)) hw hwa hx (by omega) hh (by rw [sI_o _ (by decide)]; exact hc) nw N 0 (Nat.zero_add _) (by omega) rfl
    unfold fX12_lighting_L30 fX12_candles
    rw [hp.1, nI_shl (by omega), if_neg (nI_ge (by omega) (by omega))]
    rw [sB] at ih'
    have l1 : ∀ k30 x3, fX12_lighting_L63 N k30 w (nI hour) (nI x) x3 (nI s) 1 = if b01 (sAll d wa hour x s nw) = 0 then k30 (sI w 77 6 (nI s)) (nI hour) (nI x) x3 (nI (s + 1)) else k30 (sI w 77 6 (nI s)) (nI hour) (nI x) (nI s) (nI (s + 1)) := fun k30 x3 => by
      unfold fX12_lighting_L63 fX12_lighting_L90
      rw [bS, if_neg (show ¬ (1 : Int32) = 0 by decide), ea, bS, nI_1]
    have l0 : ∀ k30 x3, fX12_lighting_L63 N k30 w (nI hour) (nI x) x3 (nI s) 0 = k30 (sI w 77 6 (nI s)) (nI hour) (nI x) x3 (nI (s + 1)) := fun k30 x3 => by
      unfold fX12_lighting_L63 fX12_lighting_L90
      rw [bS, if_pos (show (0 : Int32) = 0 from rfl), nI_1]
    rw [l1, l0]
    cases e : sB (fun s => sAll d wa hour x s nw) (pcF 7) s with
    | none =>
      rw [e] at ih'
      dsimp only at ih'
      rw [if_pos (show enc none = -1 from rfl)]
      by_cases ha : sAll d wa hour x s nw = true
      · rw [if_neg (fun z => by rw [b01_z, ha] at z; exact absurd z (by decide))]
        rw [if_pos ha] at ih'
        exact ih'
      · rw [if_pos (b01_z.mpr (by simpa using ha))]
        rw [if_neg ha] at ih'
        exact ih'
    | some b =>
      rw [e] at ih'
      dsimp only at ih'
      have hb := sB_lt e
      have p1 := pcF_le 7 s
      have p2 := pcF_le 7 b
      rw [if_neg (show ¬ enc (some b) = -1 from enc_m e (by omega)), bits_ok (by omega) (by omega), bS, show enc (some b) = nI b from rfl, bits_ok (by omega) (by omega), bS]
      by_cases hq : pcF 7 s < pcF 7 b
      · rw [if_neg (nI_ge hq (by omega))]
        by_cases ha : sAll d wa hour x s nw = true
        · rw [if_neg (fun z => by rw [b01_z, ha] at z; exact absurd z (by decide))]
          rw [if_pos ⟨ha, hq⟩] at ih'
          exact ih'
        · rw [if_pos (b01_z.mpr (by simpa using ha))]
          rw [if_neg (fun z => ha z.1)] at ih'
          exact ih'
      · rw [if_pos (nI_le (by omega) (by omega))]
        rw [if_neg (fun z => hq z.2)] at ih'
        exact ih'
theorem op_lighting {N : Nat} (hN : 1000 ≤ N) {w : Mm} (h : INV w) (x y : Int32) : OKi (fX11_lighting N w x y) (fun w => fX12_lighting N w x y) := by
  unfold fX11_lighting fX12_lighting fX11_isHour fX12_isHour fX12_isLight fX11_lighting_L17 fX12_lighting_L14
  rcases rg_0_11 x with ⟨h5, h6⟩ | ⟨t, -, ht, rfl, h5, h6⟩
  · rw [if_pos h5]; exact ok_bad' (-2) h (fun w' hw' => by rw [if_pos h6])
  rw [if_neg h5]
  rcases rg_1_20 y with ⟨h7, h8⟩ | ⟨j, hj1, hj, rfl, h7, h8⟩
  · rw [if_pos h7]; exact ok_bad' (-2) h (fun w' hw' => by rw [if_neg h6, if_pos h8])
  rw [if_neg h7]
  obtain ⟨S, s1, s2, s3⟩ := h
  have hv : VOK (vd (gV S)) := s1.1.1
  have p2 := p2le hv
  obtain ⟨hw6, hwa⟩ := s1.1.2.1
  obtain ⟨w1, e1, e2, e3⟩ := layWanted_n (N := N) (by omega) hv (nw := nW (gV S)) (wa := wA (gV S)) (hour := t) (x := j) hw6 hwa (by omega) (by omega) _ N 0 w (Nat.zero_add _) (by omega) s2.1.lp (CV_iff.mp s2.1).2.1 (fun k hk => absurd hk (by omega))
  have l1 : LPc w1 (vd (gV S)) := s2.1.lp.fr e2 (by decide)
  have m1 := s3.scr e2 (by decide)
  obtain ⟨w2, g1, g2, g3, g4⟩ := layHand_ok (N := N) (by omega) hv m1.1.np
  obtain ⟨w3, q1, q2, q3⟩ := mlighting_n (N := N) hN hv (nw := nW (gV S)) (wa := wA (gV S)) (hour := t) (x := j) hw6 hwa (by omega) (by omega) (2 ^ nn (vd (gV S))) N 0 _ w2 (Nat.zero_add _) (by omega) g3 (by rw [g2.1 78 (by decide)]; exact (MV_iff.mp m1.1).2.1)
  have hf := fewest_n (N := N) hN l1 hv (nw := nW (gV S)) (wa := wA (gV S)) (hour := t) (x := j) hw6 hj1 (by rw [e2.1 1 (by decide)]; exact s2.1.2.1.1) e3 (2 ^ nn (vd (gV S))) N 0 (Nat.zero_add _) (by omega)
  refine ⟨enc (sB (fun s => sAll (vd (gV S)) (wA (gV S)) t j s (nW (gV S))) (pcF 7) (2 ^ nn (vd (gV S)))), w1, w3, ?_, ?_, INV.q s1 s2 s3 e2 (by decide) (g2.then (q2.up (by decide))) (by decide) (by rw [q3]; exact g4 16 (by decide))⟩
  · rw [show fX6_layWanted N w (nI t) (nI j) = some w1 from e1, bS, show fX6_fewest N w1 = _ from hf, bS]
  · dsimp only
    rw [if_neg h6, if_neg h8, g1, bS]
    exact q1
/-! tallow -/
def sTl (d : VD) (S : Nat) : Nat → Nat
  | 0 => 0
  | k + 1 => if bt S k = true then sTl d S k + ta d k else sTl d S k
theorem sTl_le {d : VD} (hv : VOK d) {S : Nat} : ∀ {n : Nat}, n ≤ nn d → sTl d S n ≤ 12 * n := by
  intro n
  induction n with
  | zero => intro _; exact Nat.le_refl _
  | succ n ih =>
    intro hn
    have h1 := ih (by omega)
    have h2 := (hv.2.2.2 n (by omega)).2.2.2.2.2
    rw [sTl]
    split <;> omega
theorem tallowOf_n {N : Nat} {w : Mm} {d : VD} (h : LPc w d) (hv : VOK d) {S : Nat} (hS : S < 2 ^ 7) : ∀ (r n0 i : Nat), i + r = nn d → r < n0 → fX6_tallowOf_L4 N w n0 (nI S) (nI (sTl d S i)) (nI i) = some (nI (sTl d S (nn d))) := by
  intro r
  have hn := hv.2.1
  induction r with
  | zero =>
    intro n0 i hi hr
    obtain ⟨n1, rfl⟩ : ∃ n1, n0 = n1 + 1 := ⟨n0 - 1, by omega⟩
    rw [fX6_tallowOf_L4, h.2.1, if_pos (nI_le (by omega) (by omega)), show i = nn d by omega]
  | succ r ih =>
    intro n0 i hi hr
    obtain ⟨n1, rfl⟩ : ∃ n1, n0 = n1 + 1 := ⟨n0 - 1, by omega⟩
    have ih' := ih n1 (i + 1) (by omega) (by omega)
    rw [sTl] at ih'
    rw [fX6_tallowOf_L4, h.2.1, if_neg (nI_ge (by omega) (by omega))]
    by_cases hb : bt S i = true
    · rw [if_pos ((nI_bit1 (by omega) (by omega)).mpr hb), rdA_n (by omega) (by decide), bS, (h.2.2.2 i (by omega)).2.2.2.2, nI_add, nI_1]
      rw [if_pos hb] at ih'
      exact ih'
    · rw [if_neg (fun z => hb ((nI_bit1 (by omega) (by omega)).mp z)), Int32.add_zero, nI_1]
      rw [if_neg hb] at ih'
      exact ih'
theorem mtallowOf_n {N : Nat} {w : Mm} {d : VD} {S' : Nat} {o : Nat → Nat} (h : HP w d S' o) (hv : VOK d) {S : Nat} (hS : S < 2 ^ 7) : ∀ (r n0 i : Nat), i + r = nn d → r < n0 → fX12_tallowOf_L4 N w n0 (nI S) (nI (sTl d S i)) (nI i) = some (nI (sTl d S (nn d))) := by
  intro r
  have hn := hv.2.1
  induction r with
  | zero =>
    intro n0 i hi hr
    obtain ⟨n1, rfl⟩ : ∃ n1, n0 = n1 + 1 := ⟨n0 - 1, by omega⟩
    unfold fX12_tallowOf_L4 fX12_candles
    rw [h.1, if_pos (nI_le (by omega) (by omega)), show i = nn d by omega]
  | succ r ih =>
    intro n0 i hi hr
    obtain ⟨n1, rfl⟩ : ∃ n1, n0 = n1 + 1 := ⟨n0 - 1, by omega⟩
    have ih' := ih n1 (i + 1) (by omega) (by omega)
    rw [sTl] at ih'
    have g4 : fX12_get w (nI i) 4 = some (nI (ta d i)) := (mget_n (j := 4) (by omega) (by omega)).trans (by rw [(h.2.2.2 i (by omega)).2.2.1])
    unfold fX12_tallowOf_L4 fX12_candles
    rw [h.1, if_neg (nI_ge (by omega) (by omega))]
    by_cases hb : bt S i = true
    · rw [if_pos ((nI_bit1 (by omega) (by omega)).mpr hb), g4, bS, nI_add, nI_1]
      rw [if_pos hb] at ih'
      exact ih'
    · rw [if_neg (fun z => hb ((nI_bit1 (by omega) (by omega)).mp z)), Int32.add_zero, nI_1]
      rw [if_neg hb] at ih'
      exact ih'
def sBv (ok : Nat → Bool) (m : Nat → Nat) : Nat → Option Nat
  | 0 => none
  | s + 1 => match sBv ok m s with
    | none => if ok s = true then some (m s) else none
    | some v => if ok s = true ∧ m s < v then some (m s) else some v
theorem sBv_lt {ok : Nat → Bool} {m : Nat → Nat} {B : Nat} (hm : ∀ s, m s ≤ B) : ∀ {n v : Nat}, sBv ok m n = some v → v ≤ B := by
  intro n
  induction n with
  | zero => intro v h; exact absurd h (by simp [sBv])
  | succ n ih =>
    intro v h
    rw [sBv] at h
    cases e : sBv ok m n with
    | none =>
      rw [e] at h
      dsimp only at h
      split at h
      · rw [← Option.some.inj h]; exact hm n
      · exact absurd h (by simp)
    | some b2 =>
      rw [e] at h
      dsimp only at h
      split at h
      · rw [← Option.some.inj h]; exact hm n
      · rw [← Option.some.inj h]; exact ih e
theorem least_n {N : Nat} (hN : 1000 ≤ N) {w : Mm} {d : VD} (h : LPc w d) (hv : VOK d) {nw hour x : Nat} {wa : Nat → Nat} (hw : nw ≤ 6) (hx : 1 ≤ x) (hc : w.1 1 8 = nI nw) (h69 : ∀ k, k < nw → w.1 69 k = nI (sR d hour (wa k) x)) : ∀ (r n0 s : Nat), s + r = 2 ^ nn d → r < n0 → fX6_leastTallow_L4 N w n0 (enc (sBv (fun s => sAll d wa hour x s nw) (fun S => sTl d S (nn d)) s)) (nI s) = some (enc (sBv (fun s => sAll d wa hour x s nw) (fun S => sTl d S (nn d)) (2 ^ nn d))) := by
  intro r
  have h7 := p2le hv
  have hn := hv.2.1
  have hB : ∀ S, sTl d S (nn d) ≤ 84 := fun S => Nat.le_trans (sTl_le hv (Nat.le_refl _)) (by omega)
  have eh : fX6_howManySets w = nI (2 ^ nn d) := by unfold fX6_howManySets; rw [h.2.1, nI_shl (by omega)]
  induction r with
  | zero =>
    intro n0 s hi hr
    obtain ⟨n1, rfl⟩ : ∃ n1, n0 = n1 + 1 := ⟨n0 - 1, by omega⟩
    rw [fX6_leastTallow_L4, eh, if_pos (nI_le (by omega) (by omega)), show s = 2 ^ nn d by omega]
  | succ r ih =>
    intro n0 s hi hr
    obtain ⟨n1, rfl⟩ : ∃ n1, n0 = n1 + 1 := ⟨n0 - 1, by omega⟩
    have ih' := ih n1 (s + 1) (by omega) (by omega)
    have el : fX6_lightsWanted N w (nI s) = some (b01 (sAll d wa hour x s nw)) := lightsW_n hv hw hx (by omega) hc h69 nw N 0 (Nat.zero_add _) (by omega) rfl
    have et : fX6_tallowOf N w (nI s) = some (nI (sTl d s (nn d))) := tallowOf_n h hv (by omega) (nn d) N 0 (Nat.zero_add _) (by omega)
    rw [fX6_leastTallow_L4, eh, if_neg (nI_ge (by omega) (by omega)), el, bS, nI_1]
    unfold fX6_leastTallow_L34
    rw [nI_1, et, bS, bS]
    rw [sBv] at ih'
    cases e : sBv (fun s => sAll d wa hour x s nw) (fun S => sTl d S (nn d)) s with
    | none =>
      rw [e] at ih'
      dsimp only at ih'
      by_cases ha : sAll d wa hour x s nw = true
      · rw [if_neg (fun z => by rw [b01_z, ha] at z; exact absurd z (by decide)), if_pos (show enc none = -1 from rfl)]
        rw [if_pos ha] at ih'
        exact ih'
      · rw [if_pos (b01_z.mpr (by simpa using ha))]
        rw [if_neg ha] at ih'
        exact ih'
    | some b =>
      rw [e] at ih'
      dsimp only at ih'
      have hb : b ≤ 84 := sBv_lt hB e
      by_cases ha : sAll d wa hour x s nw = true
      · rw [if_neg (fun z => by rw [b01_z, ha] at z; exact absurd z (by decide)), if_neg (show ¬ enc (some b) = -1 from nI_m1 (by omega)), show enc (some b) = nI b from rfl]
        have p1 := hB s
        by_cases hq : sTl d s (nn d) < b
        · rw [if_neg (nI_ge hq (by omega))]
          rw [if_pos ⟨ha, hq⟩] at ih'
          exact ih'
        · rw [if_pos (nI_le (by omega) (by omega))]
          rw [if_neg (fun z => hq z.2)] at ih'
          exact ih'
      · rw [if_pos (b01_z.mpr (by simpa using ha))]
        rw [if_neg (fun z => ha z.1)] at ih'
        exact ih'
theorem mtallow_n {N : Nat} (hN : 1000 ≤ N) {d : VD} (hv : VOK d) {nw hour x : Nat} {wa o : Nat → Nat} (hw : nw ≤ 6) (hwa : ∀ i, i < nw → wa i < 64) (hx : x < 2 ^ 30) (hh : hour < 12) : ∀ (r n0 s S : Nat) (w : Mm), s + r = 2 ^ nn d → r < n0 → HP w d S o → MVw (w.1 78) nw wa → ∃ w', fX12_tallow_L30 N n0 w (nI hour) (nI x) (enc (sBv (fun s => sAll d wa hour x s nw) (fun S => sTl d S (nn d)) s)) (nI s) = some (enc (sBv (fun s => sAll d wa hour x s nw) (fun S => sTl d S (nn d)) (2 ^ nn d)), w') ∧ Fr [77] w w' ∧ w'.1 77 16 = w.1 77 16 := by
  intro r
  have h7 := p2le hv
  have hn := hv.2.1
  have hB : ∀ S, sTl d S (nn d) ≤ 84 := fun S => Nat.le_trans (sTl_le hv (Nat.le_refl _)) (by omega)
  induction r with
  | zero =>
    intro n0 s S w hi hr hp hc
    obtain ⟨n1, rfl⟩ : ∃ n1, n0 = n1 + 1 := ⟨n0 - 1, by omega⟩
    refine ⟨w, ?_, Fr.rf, rfl⟩
    unfold fX12_tallow_L30 fX12_candles
    rw [hp.1, nI_shl (by omega), if_pos (nI_le (by omega) (by omega)), show s = 2 ^ nn d by omega]
  | succ r ih =>
    intro n0 s S w hi hr hp hc
    obtain ⟨n1, rfl⟩ : ∃ n1, n0 = n1 + 1 := ⟨n0 - 1, by omega⟩
    obtain ⟨w', ih', f', g'⟩ := ih n1 (s + 1) s (sI w 77 6 (nI s)) (by omega) (by omega) hp.set (by rw [sI_o _ (by decide)]; exact hc)
    refine ⟨w', ?_, (Fr.sI (by decide)).then f', by rw [g', sI_1, if_neg (by decide)]⟩
    have ea : fX12_areLight N (sI w 77 6 (nI s)) (nI hour) (nI x) = some (b01 (sAll d wa hour x s nw)) := areLight_n (by omega) hv (hp.set (S' := s)) hw hwa hx (by omega) hh (by rw [sI_o _ (by decide)]; exact hc) nw N 0 (Nat.zero_add _) (by omega) rfl
    have et : fX12_tallowOf N w (nI s) = some (nI (sTl d s (nn d))) := mtallowOf_n hp hv (by omega) (nn d) N 0 (Nat.zero_add _) (by omega)
    have et' : fX12_tallowOf N (sI w 77 6 (nI s)) (nI s) = some (nI (sTl d s (nn d))) := mtallowOf_n (hp.set (S' := s)) hv (by omega) (nn d) N 0 (Nat.zero_add _) (by omega)
    unfold fX12_tallow_L30 fX12_candles
    rw [hp.1, nI_shl (by omega), if_neg (nI_ge (by omega) (by omega))]
    rw [sBv] at ih'
    have l1 : ∀ k30 x3, fX12_tallow_L61 N k30 w (nI hour) (nI x) x3 (nI s) 1 = if b01 (sAll d wa hour x s nw) = 0 then k30 (sI w 77 6 (nI s)) (nI hour) (nI x) x3 (nI (s + 1)) else k30 (sI w 77 6 (nI s)) (nI hour) (nI x) (nI (sTl d s (nn d))) (nI (s + 1)) := fun k30 x3 => by
      unfold fX12_tallow_L61 fX12_tallow_L92
      rw [bS, if_neg (show ¬ (1 : Int32) = 0 by decide), ea, bS, nI_1, et', bS]
    have l0 : ∀ k30 x3, fX12_tallow_L61 N k30 w (nI hour) (nI x) x3 (nI s) 0 = k30 (sI w 77 6 (nI s)) (nI hour) (nI x) x3 (nI (s + 1)) := fun k30 x3 => by
      unfold fX12_tallow_L61 fX12_tallow_L92
      rw [bS, if_pos (show (0 : Int32) = 0 from rfl), nI_1]
    rw [l1, et, bS, l0]
    cases e : sBv (fun s => sAll d wa hour x s nw) (fun S => sTl d S (nn d)) s with
    | none =>
      rw [e] at ih'
      dsimp only at ih'
      rw [if_pos (show enc none = -1 from rfl)]
      by_cases ha : sAll d wa hour x s nw = true
      · rw [if_neg (fun z => by rw [b01_z, ha] at z; exact absurd z (by decide))]
        rw [if_pos ha] at ih'
        exact ih'
      · rw [if_pos (b01_z.mpr (by simpa using ha))]
        rw [if_neg ha] at ih'
        exact ih'
    | some b =>
      rw [e] at ih'
      dsimp only at ih'
      have hb : b ≤ 84 := sBv_lt hB e
      have p1 := hB s
      rw [if_neg (show ¬ enc (some b) = -1 from nI_m1 (by omega)), show enc (some b) = nI b from rfl]
      by_cases hq : sTl d s (nn d) < b
      · rw [if_neg (nI_ge hq (by omega))]
        by_cases ha : sAll d wa hour x s nw = true
        · rw [if_neg (fun z => by rw [b01_z, ha] at z; exact absurd z (by decide))]
          rw [if_pos ⟨ha, hq⟩] at ih'
          exact ih'
        · rw [if_pos (b01_z.mpr (by simpa using ha))]
          rw [if_neg (fun z => ha z.1)] at ih'
          exact ih'
      · rw [if_pos (nI_le (by omega) (by omega))]
        rw [if_neg (fun z => hq z.2)] at ih'
        exact ih'
theorem op_tallow {N : Nat} (hN : 1000 ≤ N) {w : Mm} (h : INV w) (x y : Int32) : OKi (fX11_tallow N w x y) (fun w => fX12_tallow N w x y) := by
  unfold fX11_tallow fX12_tallow fX11_isHour fX12_isHour fX12_isLight fX11_tallow_L17 fX12_tallow_L14
  rcases rg_0_11 x with ⟨h5, h6⟩ | ⟨t, -, ht, rfl, h5, h6⟩
  · rw [if_pos h5]; exact ok_bad' (-2) h (fun w' hw' => by rw [if_pos h6])
  rw [if_neg h5]
  rcases rg_1_20 y with ⟨h7, h8⟩ | ⟨j, hj1, hj, rfl, h7, h8⟩
  · rw [if_pos h7]; exact ok_bad' (-2) h (fun w' hw' => by rw [if_neg h6, if_pos h8])
  rw [if_neg h7]
  obtain ⟨S, s1, s2, s3⟩ := h
  have hv : VOK (vd (gV S)) := s1.1.1
  have p2 := p2le hv
  obtain ⟨hw6, hwa⟩ := s1.1.2.1
  obtain ⟨w1, e1, e2, e3⟩ := layWanted_n (N := N) (by omega) hv (nw := nW (gV S)) (wa := wA (gV S)) (hour := t) (x := j) hw6 hwa (by omega) (by omega) _ N 0 w (Nat.zero_add _) (by omega) s2.1.lp (CV_iff.mp s2.1).2.1 (fun k hk => absurd hk (by omega))
  have l1 : LPc w1 (vd (gV S)) := s2.1.lp.fr e2 (by decide)
  have m1 := s3.scr e2 (by decide)
  obtain ⟨w2, g1, g2, g3, g4⟩ := layHand_ok (N := N) (by omega) hv m1.1.np
  obtain ⟨w3, q1, q2, q3⟩ := mtallow_n (N := N) hN hv (nw := nW (gV S)) (wa := wA (gV S)) (hour := t) (x := j) hw6 hwa (by omega) (by omega) (2 ^ nn (vd (gV S))) N 0 _ w2 (Nat.zero_add _) (by omega) g3 (by rw [g2.1 78 (by decide)]; exact (MV_iff.mp m1.1).2.1)
  have hf := least_n (N := N) hN l1 hv (nw := nW (gV S)) (wa := wA (gV S)) (hour := t) (x := j) hw6 hj1 (by rw [e2.1 1 (by decide)]; exact s2.1.2.1.1) e3 (2 ^ nn (vd (gV S))) N 0 (Nat.zero_add _) (by omega)
  refine ⟨enc (sBv (fun s => sAll (vd (gV S)) (wA (gV S)) t j s (nW (gV S))) (fun s => sTl (vd (gV S)) s (nn (vd (gV S)))) (2 ^ nn (vd (gV S)))), w1, w3, ?_, ?_, INV.q s1 s2 s3 e2 (by decide) (g2.then (q2.up (by decide))) (by decide) (by rw [q3]; exact g4 16 (by decide))⟩
  · rw [show fX6_layWanted N w (nI t) (nI j) = some w1 from e1, bS, show fX6_leastTallow N w1 = _ from hf, bS]
  · dsimp only
    rw [if_neg h6, if_neg h8, g1, bS]
    exact q1

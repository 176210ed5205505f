/-! ===== sets of candles as numbers ===== -/
theorem bt_tb (S k : Nat) : bt S k = S.testBit k := by
  rw [Nat.testBit_eq_decide_div_mod_eq]
  rfl
def sRe (p : Nat → Bool) : Nat → Nat
  | 0 => 0
  | n + 1 => if p n = true then sRe p n ||| 2 ^ n else sRe p n
theorem sRe_lt (p : Nat → Bool) : ∀ n, sRe p n < 2 ^ n := by
  intro n
  induction n with
  | zero => exact Nat.zero_lt_one
  | succ n ih =>
    have h1 : (2 : Nat) ^ n < 2 ^ (n + 1) := Nat.pow_lt_pow_right (by decide) (by omega)
    rw [show sRe p (n + 1) = if p n = true then sRe p n ||| 2 ^ n else sRe p n from rfl]
    split
    · exact Nat.or_lt_two_pow (by omega) h1
    · omega
theorem sRe_tb (p : Nat → Bool) (k : Nat) : ∀ n, (sRe p n).testBit k = (decide (k < n) && p k) := by
  intro n
  induction n with
  | zero => rw [show sRe p 0 = 0 from rfl, Nat.zero_testBit]; simp
  | succ n ih =>
    rw [show sRe p (n + 1) = if p n = true then sRe p n ||| 2 ^ n else sRe p n from rfl]
    by_cases e : k = n
    · subst e
      by_cases h : p k = true
      · rw [if_pos h, Nat.testBit_or, Nat.testBit_two_pow, h]; simp
      · rw [if_neg h, ih]
        have h' : p k = false := by simpa using h
        rw [h']; simp
    · have e2 : decide (k < n + 1) = decide (k < n) := by
        by_cases h : k < n
        · rw [decide_eq_true h, decide_eq_true (by omega)]
        · rw [decide_eq_false h, decide_eq_false (by omega)]
      rw [e2, ← ih]
      split
      · rw [Nat.testBit_or, Nat.testBit_two_pow, decide_eq_false (fun z => e z.symm), Bool.or_false]
      · rfl
theorem and_z {A B n : Nat} (hA : A < 2 ^ n) : A &&& B = 0 ↔ ∀ k, k < n → ¬ (bt A k = true ∧ bt B k = true) := by
  constructor
  · intro h k _ hk
    rw [bt_tb, bt_tb] at hk
    have : (A &&& B).testBit k = true := by rw [Nat.testBit_and, hk.1, hk.2]; rfl
    rw [h, Nat.zero_testBit] at this
    exact absurd this (by decide)
  · intro h
    apply Nat.eq_of_testBit_eq
    intro k
    rw [Nat.testBit_and, Nat.zero_testBit]
    by_cases hk : k < n
    · have := h k hk
      rw [bt_tb, bt_tb] at this
      cases h1 : A.testBit k
      · rfl
      · cases h2 : B.testBit k
        · rfl
        · exact absurd ⟨h1, h2⟩ this
    · rw [Nat.testBit_lt_two_pow (Nat.lt_of_lt_of_le hA (Nat.pow_le_pow_right (by decide) (by omega)))]
      rfl
/-- who would light a cell at least so much -/
def sR (d : VD) (hour c x : Nat) : Nat := sRe (fun k => decide (x ≤ sL d hour k c)) (nn d)
theorem sR_lt {d : VD} (hv : VOK d) (hour c x : Nat) : sR d hour c x < 2 ^ 7 := Nat.lt_of_lt_of_le (sRe_lt _ _) (Nat.pow_le_pow_right (by decide) hv.2.1)
theorem reaching_n {N : Nat} {w : Mm} {d : VD} {hour c x : Nat} (h : LPc w d) (hv : VOK d) (hc : c < 64) (hh : hour < 12) (hx : x < 2 ^ 30) : ∀ (r n0 i : Nat), i + r = nn d → r < n0 → fX3_reaching_L6 N w n0 (nI c) (nI hour) (nI x) (nI (sRe (fun k => decide (x ≤ sL d hour k c)) i)) (nI i) = some (nI (sR d hour c x)) := by
  intro r
  induction r with
  | zero =>
    intro n0 i hi hr
    obtain ⟨n1, rfl⟩ : ∃ n1, n0 = n1 + 1 := ⟨n0 - 1, by omega⟩
    have hn := hv.2.1
    rw [fX3_reaching_L6, h.2.1, if_pos (nI_le (by omega) (by omega)), show i = nn d by omega]
    rfl
  | succ r ih =>
    intro n0 i hi hr
    obtain ⟨n1, rfl⟩ : ∃ n1, n0 = n1 + 1 := ⟨n0 - 1, by omega⟩
    have hn := hv.2.1
    have ih' := ih n1 (i + 1) (by omega) (by omega)
    rw [show sRe (fun k => decide (x ≤ sL d hour k c)) (i + 1) = if decide (x ≤ sL d hour i c) = true then sRe (fun k => decide (x ≤ sL d hour k c)) i ||| 2 ^ i else sRe (fun k => decide (x ≤ sL d hour k c)) i from rfl] at ih'
    have hb : sRe (fun k => decide (x ≤ sL d hour k c)) i < 2 ^ 7 := Nat.lt_of_lt_of_le (sRe_lt _ _) (Nat.pow_le_pow_right (by decide) (by omega))
    have h2i : (2 : Nat) ^ i < 2 ^ 7 := Nat.pow_lt_pow_right (by decide) (by omega)
    have hl : sL d hour i c ≤ 23 := sIf_le hv (by omega)
    rw [fX3_reaching_L6, h.2.1, if_neg (nI_ge (by omega) (by omega)), farFrom_n h hv (by omega) hc, bS, ifLit_n h hv (by omega) (sFar_le (hv.2.2.2 i (by omega)).2.1 hc) hh, bS, show sIf d i (sFar (ce d i) c) hour = sL d hour i c from rfl, nI_1]
    by_cases hq : x ≤ sL d hour i c
    · rw [if_neg (nI_nlt hq (by omega)), nI_shl (by omega), nI_or (by omega) (by omega)]
      rw [if_pos (decide_eq_true hq)] at ih'
      exact ih'
    · rw [if_pos (nI_lt (by omega) (by omega))]
      rw [if_neg (by simpa using hq)] at ih'
      exact ih'
theorem reaching_ok {N : Nat} (hN : 100 ≤ N) {w : Mm} {d : VD} {hour c x : Nat} (h : LPc w d) (hv : VOK d) (hc : c < 64) (hh : hour < 12) (hx : x < 2 ^ 30) : fX3_reaching N w (nI c) (nI hour) (nI x) = some (nI (sR d hour c x)) :=
  reaching_n h hv hc hh hx (nn d) N 0 (by omega) (by have := hv.2.1; omega)
theorem sR_z {d : VD} {hour c x S : Nat} (hx : 1 ≤ x) : sR d hour c x &&& S = 0 ↔ sT d S hour c < x := by
  unfold sR
  rw [and_z (sRe_lt _ (nn d))]
  constructor
  · intro h
    have h1 : sT d S hour c ≤ x - 1 := sMx_bd (fun k hk => by
      have h2 := h k hk
      rw [bt_tb, sRe_tb, decide_eq_true hk, Bool.true_and] at h2
      unfold lv_
      by_cases hb : bt S k = true
      · rw [if_pos hb]
        by_cases h3 : x ≤ sL d hour k c
        · exact absurd ⟨decide_eq_true h3, hb⟩ h2
        · show sL d hour k c ≤ x - 1
          omega
      · rw [if_neg hb]; omega)
    omega
  · intro h k hk hb
    rw [bt_tb, sRe_tb, decide_eq_true hk, Bool.true_and] at hb
    have h1 : x ≤ sL d hour k c := of_decide_eq_true hb.1
    have h2 : lv_ S (fun k => sL d hour k c) k ≤ sT d S hour c := sMx_le (L := lv_ S (fun k => sL d hour k c)) hk
    unfold lv_ at h2
    rw [if_pos hb.2] at h2
    have h3 : sL d hour k c ≤ sT d S hour c := h2
    omega
theorem dark_n {N : Nat} (hN : 100 ≤ N) {w w2 : Mm} {d : VD} {c x : Nat} {o : Nat → Nat} (h : LPc w d) (hv : VOK d) (hp : HP w2 d (li d) o) (hc : c < 64) (hx : 1 ≤ x) (hx2 : x < 2 ^ 30) : ∀ (r n0 t : Nat), t + r = 12 → r < n0 → ∃ v, fX11_dark_L34 N n0 w (nI c) (nI x) (nI t) = some (v, w) ∧ fX12_dark_L35 N n0 w2 (nI c) (nI x) (nI t) = some (v, w2) := by
  intro r
  induction r with
  | zero =>
    intro n0 t ht hr
    obtain ⟨n1, rfl⟩ : ∃ n1, n0 = n1 + 1 := ⟨n0 - 1, by omega⟩
    have e : t = 12 := by omega
    subst e
    exact ⟨12, by rw [fX11_dark_L34, if_pos (show (12 : Int32) ≤ nI 12 by decide)], by rw [fX12_dark_L35, if_pos (show (12 : Int32) ≤ nI 12 by decide)]; rfl⟩
  | succ r ih =>
    intro n0 t ht hr
    obtain ⟨n1, rfl⟩ : ∃ n1, n0 = n1 + 1 := ⟨n0 - 1, by omega⟩
    have hS := li31 hv
    have hR := sR_lt hv t c x
    have ht' := sT_le hv (li d) t c
    rw [fX11_dark_L34, fX12_dark_L35, if_neg (show ¬ (12 : Int32) ≤ nI t from nI_ge (b := 12) (by omega) (by decide)), if_neg (show ¬ (12 : Int32) ≤ nI t from nI_ge (b := 12) (by omega) (by decide)), reaching_ok hN h hv hc (by omega) hx2, bS, mlightIn_ok hN hp hv (by omega) hc (by omega), bS, h.2.2.1, nI_and (by omega) (by omega)]
    have hab : sR d t c x &&& li d ≤ sR d t c x := Nat.and_le_left
    by_cases hz : sT d (li d) t c < x
    · rw [if_pos (nI_lt hz (by omega)), if_pos (show nI (sR d t c x &&& li d) = 0 by rw [(sR_z hx).mpr hz]; rfl)]
      exact ⟨_, rfl, rfl⟩
    · rw [if_neg (nI_nlt (by omega) (by omega)), if_neg (show ¬ nI (sR d t c x &&& li d) = 0 from fun z => hz ((sR_z hx).mp ((nI_eq (b := 0) (by omega) (by decide)).mp z))), nI_1]
      exact ih n1 (t + 1) (by omega) (by omega)
theorem op_dark {N : Nat} (hN : 1000 ≤ N) {w : Mm} (h : INV w) (x y z : Int32) : OKi (fX11_dark N w x y z) (fun w => fX12_dark N w x y z) := by
  unfold fX11_dark fX12_dark fX11_isCell fX12_isCell fX11_isHour fX12_isHour fX12_isLight fX11_dark_L24 fX12_dark_L21
  rcases rg_0_63 x with ⟨h3, h4⟩ | ⟨c, -, hc, rfl, h3, h4⟩
  · rw [if_pos h3]; exact ok_bad' (-2) h (fun w' hw' => by rw [if_pos h4])
  rw [if_neg h3]
  rcases rg_0_11 y with ⟨h5, h6⟩ | ⟨t, -, ht, rfl, h5, h6⟩
  · rw [if_pos h5]; exact ok_bad' (-2) h (fun w' hw' => by rw [if_neg h4, if_pos h6])
  rw [if_neg h5]
  rcases rg_1_20 z with ⟨h7, h8⟩ | ⟨j, hj1, hj, rfl, h7, h8⟩
  · rw [if_pos h7]; exact ok_bad' (-2) h (fun w' hw' => by rw [if_neg h4, if_neg h6, if_pos h8])
  rw [if_neg h7]
  obtain ⟨S, s1, s2, s3⟩ := h
  have hv : VOK (vd (gV S)) := s1.1.1
  obtain ⟨w2, g1, g2, g3, g4⟩ := layHand_ok (N := N) (by omega) hv (s3.np (Fr.rf (L := [])) rfl)
  obtain ⟨v, q1, q2⟩ := dark_n (N := N) (by omega) s2.1.lp hv g3 (c := c) (x := j) (by omega) (by omega) (by omega) (12 - t) N t (by omega) (by omega)
  refine ⟨v, w, w2, q1, ?_, INV.q s1 s2 s3 (Fr.rf (L := [])) rfl g2 (by decide) (g4 16 (by decide))⟩
  dsimp only
  rw [if_neg h4, if_neg h6, if_neg h8, g1, bS]
  exact q2
/-! how many are in a set -/
def pcF : Nat → Nat → Nat
  | 0, _ => 0
  | r + 1, s => s % 2 + pcF r (s / 2)
theorem pcF_0 : ∀ r, pcF r 0 = 0 := by
  intro r
  induction r with
  | zero => rfl
  | succ r ih => rw [show pcF (r + 1) 0 = 0 + pcF r 0 from rfl, ih]
theorem pcF_le : ∀ r s, pcF r s ≤ r := by
  intro r
  induction r with
  | zero => intro s; exact Nat.le_refl _
  | succ r ih =>
    intro s
    have := ih (s / 2)
    rw [show pcF (r + 1) s = s % 2 + pcF r (s / 2) from rfl]
    omega
theorem bits_n {N : Nat} : ∀ (r n0 s a : Nat), s < 2 ^ r → r ≤ 7 → r < n0 → fX12_bits_L4 N n0 (nI a) (nI s) = some (nI (a + pcF r s)) := by
  intro r
  induction r with
  | zero =>
    intro n0 s a hs h7 hr
    obtain ⟨n1, rfl⟩ : ∃ n1, n0 = n1 + 1 := ⟨n0 - 1, by omega⟩
    have e : s = 0 := by have : (2 : Nat) ^ 0 = 1 := rfl; omega
    subst e
    rw [fX12_bits_L4, if_pos (show nI 0 ≤ 0 by decide)]
    rfl
  | succ r ih =>
    intro n0 s a hs h7 hr
    obtain ⟨n1, rfl⟩ : ∃ n1, n0 = n1 + 1 := ⟨n0 - 1, by omega⟩
    have h128 : (2 : Nat) ^ (r + 1) ≤ 2 ^ 7 := Nat.pow_le_pow_right (by decide) h7
    by_cases e : s = 0
    · subst e
      rw [fX12_bits_L4, if_pos (show nI 0 ≤ 0 by decide), pcF_0]
      rfl
    · have e1 : nI s &&& 1 = nI (s % 2) := pk_andN (by omega) 1 (by decide)
      have e2 : nI s >>> ((1 : Int32) &&& 31) = nI (s / 2) := (nI_shr (S := s) (k := 1) (by omega) (by decide)).trans (by rw [Nat.pow_one])
      rw [fX12_bits_L4, if_neg (show ¬ nI s ≤ 0 from nI_ge (a := 0) (b := s) (by omega) (by omega)), e1, e2, nI_add, ih n1 (s / 2) (a + s % 2) (by rw [Nat.pow_succ] at hs; omega) (by omega) (by omega), show pcF (r + 1) s = s % 2 + pcF r (s / 2) from rfl, Nat.add_assoc]
theorem bits_ok {N : Nat} (hN : 100 ≤ N) {s : Nat} (hs : s < 128) : fX12_bits N (nI s) = some (nI (pcF 7 s)) := by
  have := bits_n (N := N) 7 N s 0 hs (Nat.le_refl _) (by omega)
  rw [Nat.zero_add] at this
  exact this
theorem bitCount_n : ∀ s, s < 128 → fJ6_bitCount_0f7a4 (nI s) = nI (pcF 7 s) := by decide +kernel
/-! the first least of all that are good enough -/
def enc : Option Nat → Int32
  | none => -1
  | some b => nI b
def sB (ok : Nat → Bool) (m : Nat → Nat) : Nat → Option Nat
  | 0 => none
  | s + 1 => match sB ok m s with
    | none => if ok s = true then some s else none
    | some b => if ok s = true ∧ m s < m b then some s else some b
theorem sB_lt {ok : Nat → Bool} {m : Nat → Nat} : ∀ {n b : Nat}, sB ok m n = some b → b < n := by
  intro n
  induction n with
  | zero => intro b h; exact absurd h (by simp [sB])
  | succ n ih =>
    intro b h
    rw [sB] at h
    cases e : sB ok m n with
    | none =>
      rw [e] at h
      dsimp only at h
      split at h
      · rw [← Option.some.inj h]; omega
      · exact absurd h (by simp)
    | some b2 =>
      rw [e] at h
      dsimp only at h
      split at h
      · rw [← Option.some.inj h]; omega
      · rw [← Option.some.inj h]; have := ih e; omega
/-- every wanted cell has its light -/
def sAll (d : VD) (wa : Nat → Nat) (hour x S : Nat) : Nat → Bool
  | 0 => true
  | i + 1 => sAll d wa hour x S i && decide (x ≤ sT d S hour (wa i))

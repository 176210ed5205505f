/-! ===== sums over sets ===== -/
def wSum (W : Nat → Nat) : Nat → Nat
  | 0 => 0
  | s + 1 => wSum W s + W s
theorem wSum_ext {W U : Nat → Nat} : ∀ {n : Nat}, (∀ k, k < n → W k = U k) → wSum W n = wSum U n := by
  intro n
  induction n with
  | zero => intro _; rfl
  | succ n ih => intro h; rw [wSum, wSum, ih (fun k hk => h k (by omega)), h n (by omega)]
theorem wSum_app (W : Nat → Nat) (a : Nat) : ∀ b, wSum W (a + b) = wSum W a + wSum (fun S => W (a + S)) b := by
  intro b
  induction b with
  | zero => rfl
  | succ b ih => rw [← Nat.add_assoc, wSum, wSum, ih, Nat.add_assoc]
theorem wSum_mul (W : Nat → Nat) (c : Nat) : ∀ n, wSum (fun S => W S * c) n = wSum W n * c := by
  intro n
  induction n with
  | zero => rw [wSum, wSum, Nat.zero_mul]
  | succ n ih => rw [wSum, wSum, ih, Nat.add_mul]
theorem wSum_plus (W U : Nat → Nat) : ∀ n, wSum (fun S => W S + U S) n = wSum W n + wSum U n := by
  intro n
  induction n with
  | zero => rfl
  | succ n ih => rw [wSum, wSum, wSum, ih]; omega
def wPr (w : Nat → Bool → Nat) (S : Nat) : Nat → Nat
  | 0 => 1
  | k + 1 => wPr w S k * w k (bt S k)
theorem wPr_ext {w u : Nat → Bool → Nat} {S T : Nat} : ∀ {n : Nat}, (∀ k, k < n → w k (bt S k) = u k (bt T k)) → wPr w S n = wPr u T n := by
  intro n
  induction n with
  | zero => intro _; rfl
  | succ n ih => intro h; rw [wPr, wPr, ih (fun k hk => h k (by omega)), h n (by omega)]
theorem wPr_z {w : Nat → Bool → Nat} {S k : Nat} (hz : w k (bt S k) = 0) : ∀ {n : Nat}, k < n → wPr w S n = 0 := by
  intro n
  induction n with
  | zero => intro h; omega
  | succ n ih =>
    intro h
    rw [wPr]
    by_cases e : k = n
    · rw [← e, hz, Nat.mul_zero]
    · rw [ih (by omega), Nat.zero_mul]
def wBo (w : Nat → Bool → Nat) : Nat → Nat
  | 0 => 1
  | n + 1 => wBo w n * (w n false + w n true)
theorem bt_hi {S k : Nat} (h : S < 2 ^ k) : bt (2 ^ k + S) k = true := by
  rw [bt_tb, Nat.testBit_two_pow_add_eq, Nat.testBit_lt_two_pow h]
  rfl
theorem bt_lo {S k j : Nat} (h : j < k) : bt (2 ^ k + S) j = bt S j := by
  rw [bt_tb, bt_tb, Nat.testBit_two_pow_add_gt h]
theorem wSum_pr (w : Nat → Bool → Nat) : ∀ n, wSum (fun S => wPr w S n) (2 ^ n) = wBo w n := by
  intro n
  induction n with
  | zero => rfl
  | succ n ih =>
    rw [show (2 : Nat) ^ (n + 1) = 2 ^ n + 2 ^ n by rw [Nat.pow_succ]; omega, wSum_app, wBo, Nat.mul_add, ← ih, ← wSum_mul, ← wSum_mul]
    congr 1
    · apply wSum_ext
      intro S hS
      show wPr w S n * w n (bt S n) = _
      rw [bt_lt hS (Nat.le_refl _)]
    · apply wSum_ext
      intro S hS
      show wPr w (2 ^ n + S) n * w n (bt (2 ^ n + S) n) = _
      rw [bt_hi hS, wPr_ext (S := 2 ^ n + S) (T := S) (fun k hk => by rw [bt_lo hk])]
/-! the weights: all sets of lit ones; those that miss R -/
def wL (T c : Nat) : Nat → Bool → Nat := fun k b => if bt T k = true then (if b = true then 10 - c else c) else 1
def wA_ (T c : Nat) : Nat → Bool → Nat := fun k b => if bt T k = true then (if b = true then 10 - c else c) else if b = true then 0 else 1
def wB (T R c : Nat) : Nat → Bool → Nat := fun k b => if bt T k = true then (if b = true then (if bt R k = true then 0 else 10 - c) else c) else if b = true then 0 else 1
def fSm (T R c n S : Nat) : Nat := if ldf S T = 0 ∧ ¬ S &&& R = 0 then wPr (wL T c) S n else 0
theorem ldf_z {S T n : Nat} (hS : S < 2 ^ n) : ldf S T = 0 ↔ ∀ k, k < n → bt S k = true → bt T k = true := by
  constructor
  · intro h k _ hk
    have h1 : bt (ldf S T) k = false := by rw [h, bt_tb, Nat.zero_testBit]
    rw [ldf_bt, hk] at h1
    cases e : bt T k
    · rw [e] at h1; exact absurd h1 (by decide)
    · rfl
  · intro h
    apply Nat.eq_of_testBit_eq
    intro k
    rw [← bt_tb, ldf_bt, Nat.zero_testBit]
    by_cases hk : k < n
    · have h2 := h k hk
      cases e1 : bt S k
      · rfl
      · rw [h2 e1]; rfl
    · rw [bt_lt hS (by omega)]; rfl
theorem fSm_eq {T R c n S : Nat} (hS : S < 2 ^ n) : fSm T R c n S + wPr (wB T R c) S n = wPr (wA_ T c) S n := by
  unfold fSm
  by_cases h1 : ∀ k, k < n → bt S k = true → bt T k = true
  · have eA : wPr (wA_ T c) S n = wPr (wL T c) S n := wPr_ext (fun k hk => by
      unfold wA_ wL
      cases e : bt S k
      · by_cases q : bt T k = true
        · rw [if_pos q, if_pos q]
        · rw [if_neg q, if_neg q]; rfl
      · rw [if_pos (h1 k hk e), if_pos (h1 k hk e)])
    by_cases h2 : ∀ k, k < n → ¬ (bt S k = true ∧ bt R k = true)
    · rw [if_neg (fun z => z.2 ((and_z hS).mpr h2)), Nat.zero_add, eA]
      refine wPr_ext (fun k hk => ?_)
      unfold wB wL
      cases e : bt S k
      · by_cases q : bt T k = true
        · rw [if_pos q, if_pos q]; rfl
        · rw [if_neg q, if_neg q]; rfl
      · rw [if_pos (h1 k hk e), if_pos (h1 k hk e), if_pos rfl, if_pos rfl, if_neg (fun z => h2 k hk ⟨e, z⟩)]
    · obtain ⟨k, hk⟩ := Classical.not_forall.mp h2
      have hk1 : k < n := Classical.byContradiction (fun z => hk (fun z2 => absurd z2 z))
      have hk2 : bt S k = true ∧ bt R k = true := Classical.byContradiction (fun z => hk (fun _ => z))
      rw [if_pos ⟨(ldf_z hS).mpr h1, fun z => h2 ((and_z hS).mp z)⟩, eA, wPr_z (w := wB T R c) (k := k) _ hk1, Nat.add_zero]
      unfold wB
      rw [if_pos (h1 k hk1 hk2.1), hk2.1, if_pos rfl, if_pos hk2.2]
  · obtain ⟨k, hk⟩ := Classical.not_forall.mp h1
    have hk1 : k < n := Classical.byContradiction (fun z => hk (fun z2 => absurd z2 z))
    have hk2 : bt S k = true := Classical.byContradiction (fun z => hk (fun _ z2 => absurd z2 z))
    have hk3 : ¬ bt T k = true := fun z => hk (fun _ _ => z)
    rw [if_neg (fun z => h1 ((ldf_z hS).mp z.1)), wPr_z (w := wB T R c) (k := k) _ hk1, wPr_z (w := wA_ T c) (k := k) _ hk1]
    · unfold wA_
      rw [if_neg hk3, if_pos hk2]
    · unfold wB
      rw [if_neg hk3, if_pos hk2]
theorem bo_A {T c : Nat} (hc : c ≤ 10) : ∀ n, wBo (wA_ T c) n = 10 ^ sCt (bt T) n := by
  intro n
  induction n with
  | zero => rfl
  | succ n ih =>
    rw [wBo, ih, sCt]
    unfold wA_
    by_cases q : bt T n = true
    · rw [if_pos q, if_pos q, if_pos q, if_neg (by decide), if_pos rfl, Nat.pow_succ, show c + (10 - c) = 10 by omega]
    · rw [if_neg q, if_neg q, if_neg q, if_neg (by decide), if_pos rfl, Nat.add_zero, Nat.mul_one]
theorem bo_B {T R c : Nat} (hc : c ≤ 10) : ∀ n, wBo (wB T R c) n * 10 ^ sCt (bt (R &&& T)) n = c ^ sCt (bt (R &&& T)) n * 10 ^ sCt (bt T) n := by
  intro n
  induction n with
  | zero => rfl
  | succ n ih =>
    rw [wBo, sCt, sCt, bt_and]
    unfold wB
    unfold wB at ih
    by_cases q : bt T n = true
    · rw [if_pos q, if_pos q, if_pos q, if_neg (by decide), if_pos rfl, q, Bool.and_true]
      by_cases q2 : bt R n = true
      · rw [if_pos q2, if_pos q2, Nat.pow_succ, Nat.pow_succ, Nat.pow_succ, Nat.add_zero]
        generalize wBo _ n = X at ih ⊢
        generalize (10 : Nat) ^ sCt (bt (R &&& T)) n = Y at ih ⊢
        generalize (10 : Nat) ^ sCt (bt T) n = Z at ih ⊢
        generalize c ^ sCt (bt (R &&& T)) n = U at ih ⊢
        calc X * c * (Y * 10) = (X * Y) * (c * 10) := by ac_rfl
          _ = (U * Z) * (c * 10) := by rw [ih]
          _ = U * c * (Z * 10) := by ac_rfl
      · rw [if_neg q2, if_neg q2, Nat.pow_succ, show c + (10 - c) = 10 by omega]
        generalize wBo _ n = X at ih ⊢
        generalize (10 : Nat) ^ sCt (bt (R &&& T)) n = Y at ih ⊢
        generalize (10 : Nat) ^ sCt (bt T) n = Z at ih ⊢
        generalize c ^ sCt (bt (R &&& T)) n = U at ih ⊢
        calc X * 10 * Y = (X * Y) * 10 := by ac_rfl
          _ = (U * Z) * 10 := by rw [ih]
          _ = U * (Z * 10) := by ac_rfl
    · rw [if_neg q, if_neg q, if_neg q, if_neg (by decide), if_pos rfl, Nat.add_zero, Nat.mul_one, if_neg]
      · exact ih
      · intro z
        rw [Bool.and_eq_true] at z
        exact q z.2
theorem sCt_sub {p q : Nat → Bool} (h : ∀ k, p k = true → q k = true) : ∀ n, sCt p n ≤ sCt q n := by
  intro n
  induction n with
  | zero => exact Nat.le_refl _
  | succ n ih =>
    rw [sCt, sCt]
    by_cases e : p n = true
    · rw [if_pos e, if_pos (h n e)]; omega
    · rw [if_neg e]; split <;> omega
theorem dr_sum {T R c : Nat} (hc : c ≤ 10) (n : Nat) : ∃ t, 0 < t ∧ wSum (fSm T R c n) (2 ^ n) = (10 ^ sCt (bt (R &&& T)) n - c ^ sCt (bt (R &&& T)) n) * t ∧ 10 ^ sCt (bt T) n = 10 ^ sCt (bt (R &&& T)) n * t := by
  have hle : sCt (bt (R &&& T)) n ≤ sCt (bt T) n := sCt_sub (fun k hk => by rw [bt_and, Bool.and_eq_true] at hk; exact hk.2) n
  have h1 : wSum (fSm T R c n) (2 ^ n) + wSum (fun S => wPr (wB T R c) S n) (2 ^ n) = wSum (fun S => wPr (wA_ T c) S n) (2 ^ n) := by
    rw [← wSum_plus]
    exact wSum_ext (fun S hS => fSm_eq hS)
  rw [wSum_pr, wSum_pr, bo_A hc] at h1
  have h2 := bo_B (T := T) (R := R) hc n
  have h3 : 10 ^ sCt (bt T) n = 10 ^ sCt (bt (R &&& T)) n * 10 ^ (sCt (bt T) n - sCt (bt (R &&& T)) n) := by
    rw [← Nat.pow_add, show sCt (bt (R &&& T)) n + (sCt (bt T) n - sCt (bt (R &&& T)) n) = sCt (bt T) n by omega]
  have ht : 0 < 10 ^ (sCt (bt T) n - sCt (bt (R &&& T)) n) := Nat.pow_pos (by decide)
  have hm : 0 < 10 ^ sCt (bt (R &&& T)) n := Nat.pow_pos (by decide)
  refine ⟨10 ^ (sCt (bt T) n - sCt (bt (R &&& T)) n), ht, ?_, h3⟩
  generalize (10 : Nat) ^ (sCt (bt T) n - sCt (bt (R &&& T)) n) = t at *
  generalize (10 : Nat) ^ sCt (bt (R &&& T)) n = Y at *
  generalize (10 : Nat) ^ sCt (bt T) n = Z at *
  generalize c ^ sCt (bt (R &&& T)) n = U at *
  have h4 : wBo (wB T R c) n = U * t := by
    apply Nat.eq_of_mul_eq_mul_right hm
    rw [h2, h3]
    ac_rfl
  rw [Nat.sub_mul, ← h3, ← h4]
  omega
theorem gcd_cut {o u t : Nat} (ht : 0 < t) : o * t / Nat.gcd (o * t) (u * t) = o / Nat.gcd o u ∧ u * t / Nat.gcd (o * t) (u * t) = u / Nat.gcd o u := by
  rw [Nat.gcd_mul_right]
  exact ⟨Nat.mul_div_mul_right _ _ ht, Nat.mul_div_mul_right _ _ ht⟩
/-! how many bits -/
theorem sCt_sh (p : Nat → Bool) : ∀ n, sCt p (n + 1) = (if p 0 = true then 1 else 0) + sCt (fun k => p (k + 1)) n := by
  intro n
  induction n with
  | zero => rw [sCt, sCt, sCt]; split <;> rfl
  | succ n ih => rw [sCt, ih, sCt]; split <;> split <;> omega
theorem pc_ct : ∀ r S, pcF r S = sCt (bt S) r := by
  intro r
  induction r with
  | zero => intro S; rfl
  | succ r ih =>
    intro S
    rw [pcF, ih, sCt_sh]
    have e1 : (if bt S 0 = true then 1 else 0) = S % 2 := by
      have : bt S 0 = (S % 2 == 1) := by unfold bt; rw [Nat.pow_zero, Nat.div_one]
      rw [this]
      rcases Nat.mod_two_eq_zero_or_one S with h | h <;> rw [h] <;> rfl
    rw [e1]
    congr 1
    apply sCt_ext
    intro k _
    unfold bt
    rw [Nat.div_div_eq_div_mul, Nat.pow_succ, Nat.mul_comm]
theorem sCt_cut {S n : Nat} (hS : S < 2 ^ n) : ∀ j, sCt (bt S) (n + j) = sCt (bt S) n := by
  intro j
  induction j with
  | zero => rfl
  | succ j ih =>
    rw [← Nat.add_assoc, sCt, if_neg, ih]
    rw [bt_lt hS (by omega)]
    decide
theorem pc_nn {S n : Nat} (hS : S < 2 ^ n) (hn : n ≤ 7) : pcF 7 S = sCt (bt S) n := by
  rw [pc_ct, show 7 = n + (7 - n) by omega, sCt_cut hS]
/-! the greatest divisor, on both sides -/
theorem lN_0 : (0 : Int64) = lN 0 := rfl
theorem lcz {a : Nat} (ha : a < 2 ^ 63) : (lg_cmp (lN a) 0 = 0) ↔ a = 0 := by
  rw [lg_cmp_eq, lN_0]
  exact pk_lEQ ha (by decide)
theorem lcp {a : Nat} (ha : a < 2 ^ 63) (h0 : 0 < a) : ¬ lg_cmp (lN a) 0 ≤ 0 := by
  rw [lg_cmp_le, lN_0, pk_lLE ha (by decide)]
  omega
theorem rmJ_n {a b : Nat} (ha : a < 2 ^ 63) (h0 : 0 < b) (hb : b < 2 ^ 63) : rmJ (lN a) (lN b) = some (lN (a % b)) := by
  unfold rmJ
  rw [if_neg, pk_lRem ha h0 hb]
  rw [lN_0, pk_lEQ hb (by decide)]
  omega
theorem dvJ_n {a b : Nat} (ha : a < 2 ^ 63) (h0 : 0 < b) (hb : b < 2 ^ 63) : dvJ (lN a) (lN b) = some (lN (a / b)) := by
  unfold dvJ
  rw [if_neg, pk_lDiv ha h0 hb]
  rw [lN_0, pk_lEQ hb (by decide)]
  omega
theorem gcd_st (a b : Nat) : Nat.gcd b (a % b) = Nat.gcd a b := by
  rw [Nat.gcd_comm b, ← Nat.gcd_rec, Nat.gcd_comm]
theorem mod_half {b r : Nat} (h0 : 0 < r) (h : r < b) {k : Nat} (hb : b < 2 ^ (k + 1)) : b % r < 2 ^ k := by
  have h1 := Nat.mod_lt b h0
  have h2 : b % r + r ≤ b := by
    have h3 := Nat.div_add_mod b r
    have h4 : 0 < b / r := Nat.div_pos (by omega) h0
    have h5 : r * 1 ≤ r * (b / r) := Nat.mul_le_mul_left r h4
    omega
  rw [Nat.pow_succ] at hb
  omega
theorem divisor_n {N : Nat} : ∀ (k n0 i a b : Nat), a < 2 ^ 63 → b < 2 ^ k → k < 60 → 2 * k + 1 ≤ n0 → i + 2 * k ≤ 99 → fX11_divisor_L9 N n0 (lN a) (lN b) (nI i) = some (lN (Nat.gcd a b)) := by
  intro k
  induction k with
  | zero =>
    intro n0 i a b ha hb hk hn hi
    obtain ⟨n1, rfl⟩ : ∃ n1, n0 = n1 + 1 := ⟨n0 - 1, by omega⟩
    have e : b = 0 := by have : (2 : Nat) ^ 0 = 1 := rfl; omega
    subst e
    rw [fX11_divisor_L9, if_neg (show ¬ (100 : Int32) ≤ nI i from nI_ge (b := 100) (by omega) (by decide)), if_pos ((lcz (by decide)).mpr rfl), Nat.gcd_zero_right]
  | succ k ih =>
    intro n0 i a b ha hb hk hn hi
    obtain ⟨n1, rfl⟩ : ∃ n1, n0 = n1 + 1 := ⟨n0 - 1, by omega⟩
    obtain ⟨n2, rfl⟩ : ∃ n2, n1 = n2 + 1 := ⟨n1 - 1, by omega⟩
    have h60 : (2 : Nat) ^ (k + 1) ≤ 2 ^ 60 := Nat.pow_le_pow_right (by decide) (by omega)
    rw [fX11_divisor_L9, if_neg (show ¬ (100 : Int32) ≤ nI i from nI_ge (b := 100) (by omega) (by decide))]
    by_cases e : b = 0
    · subst e
      rw [if_pos ((lcz (by decide)).mpr rfl), Nat.gcd_zero_right]
    · have hm := Nat.mod_lt a (show 0 < b by omega)
      rw [if_neg (fun z => e ((lcz (by omega)).mp z)), rmJ_n ha (by omega) (by omega), bS, nI_1, fX11_divisor_L9, if_neg (show ¬ (100 : Int32) ≤ nI (i + 1) from nI_ge (b := 100) (by omega) (by decide)), ← gcd_st]
      by_cases e2 : a % b = 0
      · rw [if_pos ((lcz (by omega)).mpr e2), e2, Nat.gcd_zero_right]
      · rw [if_neg (fun z => e2 ((lcz (by omega)).mp z)), rmJ_n (by omega) (by omega) (by omega), bS, nI_1, ← gcd_st b]
        exact ih n2 (i + 2) (a % b) (b % (a % b)) (by omega) (mod_half (by omega) hm hb) (by omega) (by omega) (by omega)
theorem fraction_n {N : Nat} {w : Mm} {x1 x3 : Int64} : ∀ (k n0 a b : Nat), a < 2 ^ 63 → b < 2 ^ k → k < 60 → 2 * k + 1 ≤ n0 → fX12_fraction_L6 N n0 w x1 x3 (lN a) (lN b) = Option.bind (dvJ x1 (lN (Nat.gcd a b))) fun a2 => Option.bind (dvJ x3 (lN (Nat.gcd a b))) fun a4 => some (sJ (sJ w 77 4 a2) 77 5 a4) := by
  intro k
  induction k with
  | zero =>
    intro n0 a b ha hb hk hn
    obtain ⟨n1, rfl⟩ : ∃ n1, n0 = n1 + 1 := ⟨n0 - 1, by omega⟩
    have e : b = 0 := by have : (2 : Nat) ^ 0 = 1 := rfl; omega
    subst e
    rw [fX12_fraction_L6, if_pos ((lcz (by decide)).mpr rfl), Nat.gcd_zero_right]
    rfl
  | succ k ih =>
    intro n0 a b ha hb hk hn
    obtain ⟨n1, rfl⟩ : ∃ n1, n0 = n1 + 1 := ⟨n0 - 1, by omega⟩
    obtain ⟨n2, rfl⟩ : ∃ n2, n1 = n2 + 1 := ⟨n1 - 1, by omega⟩
    have h60 : (2 : Nat) ^ (k + 1) ≤ 2 ^ 60 := Nat.pow_le_pow_right (by decide) (by omega)
    rw [fX12_fraction_L6]
    by_cases e : b = 0
    · subst e
      rw [if_pos ((lcz (by decide)).mpr rfl), Nat.gcd_zero_right]
      rfl
    · have hm := Nat.mod_lt a (show 0 < b by omega)
      rw [if_neg (fun z => e ((lcz (by omega)).mp z)), rmJ_n ha (by omega) (by omega), bS, fX12_fraction_L6, ← gcd_st]
      by_cases e2 : a % b = 0
      · rw [if_pos ((lcz (by omega)).mpr e2), e2, Nat.gcd_zero_right]
        rfl
      · rw [if_neg (fun z => e2 ((lcz (by omega)).mp z)), rmJ_n (by omega) (by omega) (by omega), bS, ← gcd_st b]
        exact ih n2 (a % b) (b % (a % b)) (by omega) (mod_half (by omega) hm hb) (by omega) (by omega)
theorem kfrac_ok {N : Nat} (hN : 1000 ≤ N) {w : Mm} {o u : Nat} (ho : o < 2 ^ 24) (hu : u < 2 ^ 24) (h0 : 0 < u) : fX11_keepFraction N w (lN o) (lN u) = some (sJ (sJ w 0 7 (lN (o / Nat.gcd o u))) 0 8 (lN (u / Nat.gcd o u))) := by
  have hg : 0 < Nat.gcd o u := Nat.gcd_pos_of_pos_right _ h0
  have hg2 : Nat.gcd o u ≤ u := Nat.gcd_le_right _ h0
  unfold fX11_keepFraction
  rw [show fX11_divisor N (lN o) (lN u) = _ from divisor_n (N := N) 24 N 0 u o (by omega) ho (by decide) (by omega) (by omega), bS, Nat.gcd_comm u, if_neg (lcp (by omega) hg), dvJ_n (by omega) hg (by omega), bS]
  unfold fX11_keepFraction_L23 fX11_keepFraction_L42
  rw [bS, if_neg (lcp (by omega) hg), dvJ_n (by omega) hg (by omega), bS, bS]
theorem mfrac_ok {N : Nat} (hN : 1000 ≤ N) {w : Mm} {o u : Nat} (ho : o < 2 ^ 31) (hu : u < 2 ^ 31) (h0 : 0 < u) : fX12_fraction N w (lN o) (lN u) = some (sJ (sJ w 77 4 (lN (o / Nat.gcd o u))) 77 5 (lN (u / Nat.gcd o u))) := by
  have hg : 0 < Nat.gcd o u := Nat.gcd_pos_of_pos_right _ h0
  have hg2 : Nat.gcd o u ≤ u := Nat.gcd_le_right _ h0
  rw [show fX12_fraction N w (lN o) (lN u) = _ from fraction_n (N := N) 31 N o u (by omega) hu (by decide) (by omega), dvJ_n (by omega) hg (by omega), bS, dvJ_n (by omega) hg (by omega), bS]

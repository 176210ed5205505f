/-! ===== nights by a seed ===== -/
def nxJ (x : Int64) : Int64 := (x * (1103515245 : Int64) + (12345 : Int64)) - (x * (1103515245 : Int64) + (12345 : Int64)) / (2147483648 : Int64) * (2147483648 : Int64)
def nXs (x : Int64) : Nat → Int64
  | 0 => x
  | k + 1 => nxJ (nXs x k)
def htJ (y v : Int64) : Bool := decide (¬ (0 : Int32) ≤ lg_cmp ((y / (65536 : Int64)) - (y / (65536 : Int64)) / (100 : Int64) * (100 : Int64)) v)
/-- who is lit in a night -/
def nSt (x v : Int64) (n : Nat) : Nat := sRe (fun k => htJ (nXs x (k + 1)) v) n
theorem nSt_lt {x v : Int64} {n : Nat} (h : n ≤ 7) : nSt x v n < 2 ^ 7 := Nat.lt_of_lt_of_le (sRe_lt _ _) (Nat.pow_le_pow_right (by decide) h)
theorem nSt_s (x v : Int64) (n : Nat) : nSt x v (n + 1) = if htJ (nXs x (n + 1)) v = true then nSt x v n ||| 2 ^ n else nSt x v n := rfl
def nNi (d : VD) (a : Int32) (v : Int64) : Nat → Int64 → Int32 → Int32
  | 0, _, s => s
  | r + 1, x, s => nNi d a v r (nXs x (nn d)) (s + nI (sAc d (ow d) (nSt x v (nn d)) 0 a))
theorem nights_in {N : Nat} (hN : 100 ≤ N) {w : Mm} {d : VD} (h : LPc w d) (hv : VOK d) (hs : SP w d 0) {a x3 x4 s x8 : Int32} {x : Int64} {k10 : Int32 → Int32 → Int32 → Int64 → Int32 → Int32 → Option Int32} : ∀ (r n0 i : Nat), i + r = nn d → r < n0 → fX3_acresOfNights_L22 N k10 w n0 a x3 x4 (nXs x i) s x8 (nI (nSt x x4.toInt64 i)) (nI i) = k10 a x3 x4 (nXs x (nn d)) (s + nI (sAc d (ow d) (nSt x x4.toInt64 (nn d)) 0 a)) (x8 + 1) := by
  intro r
  have hn := hv.2.1
  induction r with
  | zero =>
    intro n0 i hi hr
    obtain ⟨n1, rfl⟩ : ∃ n1, n0 = n1 + 1 := ⟨n0 - 1, by omega⟩
    have e : i = nn d := by omega
    have hb := nSt_lt (x := x) (v := x4.toInt64) (n := nn d) hn
    subst e
    rw [fX3_acresOfNights_L22, h.2.1, if_pos (nI_le (by omega) (by omega)), acresOf_ok hN h hv hs (by omega) (fun k hk => ⟨(h.2.2.2 k hk).2.2.2.1, (hv.2.2.2 k hk).2.2.2.2.1⟩), bS]
  | succ r ih =>
    intro n0 i hi hr
    obtain ⟨n1, rfl⟩ : ∃ n1, n0 = n1 + 1 := ⟨n0 - 1, by omega⟩
    have ih' := ih n1 (i + 1) (by omega) (by omega)
    have hb := nSt_lt (x := x) (v := x4.toInt64) (n := i) (by omega)
    have h2i : (2 : Nat) ^ i < 2 ^ 7 := Nat.pow_lt_pow_right (by decide) (by omega)
    rw [nSt_s] at ih'
    rw [fX3_acresOfNights_L22, h.2.1, if_neg (nI_ge (by omega) (by omega))]
    unfold fX3_acresOfNights_L50
    rw [nI_shl (by omega), nI_or (by omega) (by omega), nI_1]
    by_cases hq : htJ (nXs x (i + 1)) x4.toInt64 = true
    · rw [if_pos hq] at ih'
      have hq' := of_decide_eq_true hq
      rw [show nXs x (i + 1) = nxJ (nXs x i) from rfl] at hq' ih'
      unfold nxJ at hq' ih'
      rw [if_neg hq']
      exact ih'
    · rw [if_neg hq] at ih'
      have hq' : (0 : Int32) ≤ lg_cmp ((nXs x (i + 1) / (65536 : Int64)) - (nXs x (i + 1) / (65536 : Int64)) / (100 : Int64) * (100 : Int64)) x4.toInt64 := Classical.byContradiction (fun z => hq (decide_eq_true z))
      rw [show nXs x (i + 1) = nxJ (nXs x i) from rfl] at hq' ih'
      unfold nxJ at hq' ih'
      rw [if_pos hq']
      exact ih'
theorem nights_n {N : Nat} (hN : 100 ≤ N) {w : Mm} {d : VD} (h : LPc w d) (hv : VOK d) (hs : SP w d 0) {a x4 : Int32} {n : Nat} (hn : n ≤ 30) : ∀ (r n0 i : Nat) (x : Int64) (s : Int32), i + r = n → r < n0 → fX3_acresOfNights_L10 N w n0 a (nI n) x4 x s (nI i) = some (nNi d a x4.toInt64 r x s) := by
  intro r
  induction r with
  | zero =>
    intro n0 i x s hi hr
    obtain ⟨n1, rfl⟩ : ∃ n1, n0 = n1 + 1 := ⟨n0 - 1, by omega⟩
    rw [fX3_acresOfNights_L10, if_pos (nI_le (by omega) (by omega))]
    rfl
  | succ r ih =>
    intro n0 i x s hi hr
    obtain ⟨n1, rfl⟩ : ∃ n1, n0 = n1 + 1 := ⟨n0 - 1, by omega⟩
    rw [fX3_acresOfNights_L10, if_neg (nI_ge (by omega) (by omega))]
    have e := nights_in hN h hv hs (a := a) (x3 := nI n) (x4 := x4) (s := s) (x8 := nI i) (x := x) (k10 := fX3_acresOfNights_L10 N w n1) (nn d) N 0 (Nat.zero_add _) (by have := hv.2.1; omega)
    rw [nI_1] at e
    exact e.trans (ih n1 (i + 1) _ _ (by omega) (by omega))
theorem HP.re {w : Mm} {d : VD} {S S2 : Nat} {o : Nat → Nat} (h : HP w d S o) (e : S = S2) : HP w d S2 o := e ▸ h
theorem mnights_in {N : Nat} (hN : 100 ≤ N) {d : VD} (hv : VOK d) {a x3 x4 s x8 : Int32} {x : Int64} {k65 : Mm → Int32 → Int32 → Int32 → Int64 → Int32 → Int32 → Option (Int32 × Mm)} : ∀ (r n0 i : Nat) (w : Mm), i + r = nn d → r < n0 → HP w d (nSt x x4.toInt64 i) (ow d) → ∃ w', fX12_nights_L79 N k65 n0 w a x3 x4 (nXs x i) s x8 (nI i) = k65 w' a x3 x4 (nXs x (nn d)) (s + nI (sAc d (ow d) (nSt x x4.toInt64 (nn d)) 0 a)) (x8 + 1) ∧ Fr [77] w w' ∧ HP w' d (nSt x x4.toInt64 (nn d)) (ow d) ∧ w'.1 77 16 = w.1 77 16 := by
  intro r
  have hn := hv.2.1
  induction r with
  | zero =>
    intro n0 i w hi hr hp
    obtain ⟨n1, rfl⟩ : ∃ n1, n0 = n1 + 1 := ⟨n0 - 1, by omega⟩
    have e : i = nn d := by omega
    have hb := nSt_lt (x := x) (v := x4.toInt64) (n := nn d) hn
    rw [e] at hp ⊢
    have ea : fX12_acresOf N w a (0 : Int32) = some (nI (sAc d (ow d) (nSt x x4.toInt64 (nn d)) 0 a)) := macres_ok hN hp hv (by omega) (hour := 0) (by decide)
    refine ⟨w, ?_, Fr.rf, hp, rfl⟩
    unfold fX12_nights_L79 fX12_candles
    rw [hp.1, if_pos (nI_le (by omega) (by omega)), ea, bS]
  | succ r ih =>
    intro n0 i w hi hr hp
    obtain ⟨n1, rfl⟩ : ∃ n1, n0 = n1 + 1 := ⟨n0 - 1, by omega⟩
    have hb := nSt_lt (x := x) (v := x4.toInt64) (n := i) (by omega)
    have h2i : (2 : Nat) ^ i < 2 ^ 7 := Nat.pow_lt_pow_right (by decide) (by omega)
    obtain ⟨w', g1, g2, g3, g4⟩ := ih n1 (i + 1) (sI w 77 6 (nI (nSt x x4.toInt64 (i + 1)))) (by omega) (by omega) hp.set
    refine ⟨w', ?_, (Fr.sI (by decide)).then g2, g3, by rw [g4, sI_1, if_neg (by decide)]⟩
    unfold fX12_nights_L79 fX12_candles
    rw [hp.1, if_neg (nI_ge (by omega) (by omega))]
    unfold fX12_nights_L104 fX12_nights_L134
    rw [hp.2.2.1, nI_shl (by omega), nI_or (by omega) (by omega), Int32.or_zero, bS, bS, nI_1]
    by_cases hq : htJ (nXs x (i + 1)) x4.toInt64 = true
    · rw [nSt_s, if_pos hq] at g1
      have hq' := of_decide_eq_true hq
      rw [show nXs x (i + 1) = nxJ (nXs x i) from rfl] at hq' g1
      unfold nxJ at hq' g1
      rw [if_neg hq']
      exact g1
    · rw [nSt_s, if_neg hq] at g1
      have hq' : (0 : Int32) ≤ lg_cmp ((nXs x (i + 1) / (65536 : Int64)) - (nXs x (i + 1) / (65536 : Int64)) / (100 : Int64) * (100 : Int64)) x4.toInt64 := Classical.byContradiction (fun z => hq (decide_eq_true z))
      rw [show nXs x (i + 1) = nxJ (nXs x i) from rfl] at hq' g1
      unfold nxJ at hq' g1
      rw [if_pos hq']
      exact g1
theorem mnights_n {N : Nat} (hN : 100 ≤ N) {d : VD} (hv : VOK d) {a x4 : Int32} {n : Nat} (hn : n ≤ 30) : ∀ (r n0 i S : Nat) (x : Int64) (s : Int32) (w : Mm), i + r = n → r < n0 → HP w d S (ow d) → ∃ w', fX12_nights_L65 N n0 w a (nI n) x4 x s (nI i) = some (nNi d a x4.toInt64 r x s, w') ∧ Fr [77] w w' ∧ w'.1 77 16 = w.1 77 16 := by
  intro r
  induction r with
  | zero =>
    intro n0 i S x s w hi hr hp
    obtain ⟨n1, rfl⟩ : ∃ n1, n0 = n1 + 1 := ⟨n0 - 1, by omega⟩
    refine ⟨w, ?_, Fr.rf, rfl⟩
    rw [fX12_nights_L65, if_pos (nI_le (by omega) (by omega))]
    rfl
  | succ r ih =>
    intro n0 i S x s w hi hr hp
    obtain ⟨n1, rfl⟩ : ∃ n1, n0 = n1 + 1 := ⟨n0 - 1, by omega⟩
    obtain ⟨w1, g1, g2, g3, g4⟩ := mnights_in (N := N) hN hv (a := a) (x3 := nI n) (x4 := x4) (s := s) (x8 := nI i) (x := x) (k65 := fX12_nights_L65 N n1) (nn d) N 0 (sI w 77 6 (nI 0)) (Nat.zero_add _) (by have := hv.2.1; omega) hp.set
    obtain ⟨w2, k1, k2, k3⟩ := ih n1 (i + 1) _ (nXs x (nn d)) (s + nI (sAc d (ow d) (nSt x x4.toInt64 (nn d)) 0 a)) w1 (by omega) (by omega) g3
    refine ⟨w2, ?_, ((Fr.sI (by decide)).then g2).then k2, by rw [k3, g4, sI_1, if_neg (by decide)]⟩
    rw [nI_1] at g1
    rw [fX12_nights_L65, if_neg (nI_ge (by omega) (by omega)), bS]
    exact g1.trans k1
theorem op_nights {N : Nat} (hN : 1000 ≤ N) {w : Mm} (h : INV w) (x y z v : Int32) : OKi (fX11_nights N w x y z v) (fun w => fX12_nights N w x y z v) := by
  unfold fX11_nights fX12_nights fX11_isOwner fX12_isOwner fX11_nights_L38 fX12_nights_L44
  rcases rg_0_3 x with ⟨h1, h2⟩ | ⟨a, -, ha, rfl, h1, h2⟩
  · rw [if_pos h1]; exact ok_bad' (-2) h (fun w' hw' => by rw [if_pos h2])
  rw [if_neg h1]
  rcases rg_0_999999 y with ⟨h3, h4⟩ | ⟨b, -, hb, rfl, h3, h4⟩
  · rw [if_pos h3]; exact ok_bad' (-2) h (fun w' hw' => by rw [if_neg h2, if_pos h4])
  rw [if_neg h3]
  rcases rg_0_30 z with ⟨h5, h6⟩ | ⟨t, -, ht, rfl, h5, h6⟩
  · rw [if_pos h5]; exact ok_bad' (-2) h (fun w' hw' => by rw [if_neg h2, if_neg h4, if_pos h6])
  rw [if_neg h5]
  rcases rg_0_100 v with ⟨h7, h8⟩ | ⟨p, -, hp, rfl, h7, h8⟩
  · rw [if_pos h7]; exact ok_bad' (-2) h (fun w' hw' => by rw [if_neg h2, if_neg h4, if_neg h6, if_pos h8])
  rw [if_neg h7]
  obtain ⟨S, s1, s2, s3⟩ := h
  have hv : VOK (vd (gV S)) := s1.1.1
  obtain ⟨w1, e1, e2, e3⟩ := layAll_ok (N := N) (by omega) hv s2.1.lp (hour := 0) (by omega)
  have l1 : LPc w1 (vd (gV S)) := s2.1.lp.fr e2 (by decide)
  obtain ⟨w3, g1, g2, g3, g4⟩ := layHand_ok (N := N) (by omega) hv (s3.np e2 (by decide))
  obtain ⟨w4, q1, q2, q3⟩ := mnights_n (N := N) (by omega) hv (a := nI a) (x4 := nI p) (n := t) ht t N 0 _ (nI b).toInt64 0 w3 (Nat.zero_add _) (by omega) g3
  have c1 := nights_n (N := N) (by omega) l1 hv e3 (a := nI a) (x4 := nI p) (n := t) ht t N 0 (nI b).toInt64 0 (Nat.zero_add _) (by omega)
  refine ⟨nNi (vd (gV S)) (nI a) (nI p).toInt64 t (nI b).toInt64 0, w1, w4, ?_, ?_, INV.q s1 s2 s3 e2 (by decide) (g2.then (q2.up (by decide))) (by decide) (by rw [q3]; exact g4 16 (by decide))⟩
  · rw [show fX3_layAll N w (0 : Int32) = some w1 from e1, bS, show fX3_acresOfNights N w1 (nI a) (nI b) (nI t) (nI p) = _ from c1, bS]
  · dsimp only
    rw [if_neg h2, if_neg h4, if_neg h6, if_neg h8, g1, bS]
    exact q1

/-! ===== the best place ===== -/
theorem who_iff {L o : Nat → Nat} {a : Nat} (ha : a < 2 ^ 31) : ∀ {n : Nat}, (∀ k, k < n → o k < 2 ^ 31) → (sWho L o n = nI a ↔ sMx (fun k => if o k = a then 0 else L k) n < sMx (fun k => if o k = a then L k else 0) n) ∧ sMx L n = max (sMx (fun k => if o k = a then 0 else L k) n) (sMx (fun k => if o k = a then L k else 0) n) := by
  intro n
  induction n with
  | zero =>
    intro _
    refine ⟨⟨fun z => absurd z.symm (nI_m1 ha), fun z => absurd z (Nat.lt_irrefl _)⟩, rfl⟩
  | succ n ih =>
    intro ho
    obtain ⟨i1, i2⟩ := ih (fun k hk => ho k (by omega))
    rw [sWho_step ho]
    have e1 : sMx L (n + 1) = max (sMx L n) (L n) := rfl
    have e2 : sMx (fun k => if o k = a then 0 else L k) (n + 1) = max (sMx (fun k => if o k = a then 0 else L k) n) (if o n = a then 0 else L n) := rfl
    have e3 : sMx (fun k => if o k = a then L k else 0) (n + 1) = max (sMx (fun k => if o k = a then L k else 0) n) (if o n = a then L n else 0) := rfl
    rw [e1, e2, e3]
    generalize sMx (fun k => if o k = a then 0 else L k) n = B at *
    generalize sMx (fun k => if o k = a then L k else 0) n = A at *
    generalize sMx L n = T at *
    generalize sWho L o n = W at *
    have hon := ho n (by omega)
    have hm2 : ¬ (-2 : Int32) = nI a := fun z => nI_m2 ha z.symm
    by_cases hoa : o n = a
    · rw [if_pos hoa, if_pos hoa]
      refine ⟨?_, by omega⟩
      by_cases h1 : T < L n
      · rw [if_pos h1, hoa]
        exact ⟨fun _ => by omega, fun _ => rfl⟩
      · rw [if_neg h1]
        by_cases h2 : 0 < L n ∧ L n = T ∧ ¬ nI (o n) = W
        · rw [if_pos h2]
          rw [hoa] at h2
          have h3 : ¬ B < A := fun z => h2.2.2 (i1.mpr z).symm
          exact ⟨fun z => absurd z hm2, fun z => by omega⟩
        · rw [if_neg h2, i1]
          rw [hoa] at h2
          by_cases h4 : 0 < L n ∧ L n = T
          · have h5 : nI a = W := Classical.byContradiction (fun z => h2 ⟨h4.1, h4.2, z⟩)
            have h6 := i1.mp h5.symm
            constructor <;> intro _ <;> omega
          · constructor <;> intro _ <;> omega
    · rw [if_neg hoa, if_neg hoa]
      refine ⟨?_, by omega⟩
      have hna : ¬ nI (o n) = nI a := fun z => hoa ((nI_eq hon ha).mp z)
      by_cases h1 : T < L n
      · rw [if_pos h1]
        exact ⟨fun z => absurd z hna, fun z => by omega⟩
      · rw [if_neg h1]
        by_cases h2 : 0 < L n ∧ L n = T ∧ ¬ nI (o n) = W
        · rw [if_pos h2]
          exact ⟨fun z => absurd z hm2, fun z => by omega⟩
        · rw [if_neg h2, i1]
          by_cases h4 : 0 < L n ∧ L n = T
          · have h5 : nI (o n) = W := Classical.byContradiction (fun z => h2 ⟨h4.1, h4.2, z⟩)
            have h6 : ¬ B < A := fun z => hna (h5.trans (i1.mpr z))
            constructor <;> intro _ <;> omega
          · constructor <;> intro _ <;> omega
/-- a set less another -/
def ldf (a b : Nat) : Nat := a ^^^ (a &&& b)
theorem ldf_bt (a b k : Nat) : bt (ldf a b) k = (bt a k && !bt b k) := by
  unfold ldf
  rw [bt_tb, bt_tb, bt_tb, Nat.testBit_xor, Nat.testBit_and]
  cases a.testBit k <;> cases b.testBit k <;> rfl
theorem ldf_lt {a b n : Nat} (h : a < 2 ^ n) : ldf a b < 2 ^ n := Nat.xor_lt_two_pow h (Nat.lt_of_le_of_lt Nat.and_le_left h)
theorem nI_ldf {a b : Nat} (ha : a < 2 ^ 31) (hb : b < 2 ^ 31) : nI a &&& (nI b ^^^ -1) = nI (ldf a b) := by
  unfold ldf
  rw [← nI_xor ha (Nat.lt_of_le_of_lt Nat.and_le_left ha), ← nI_and ha hb]
  apply Int32.toBitVec_inj.mp
  show (nI a).toBitVec &&& ((nI b).toBitVec ^^^ (-1 : Int32).toBitVec) = (nI a).toBitVec ^^^ ((nI a).toBitVec &&& (nI b).toBitVec)
  rw [show (-1 : Int32).toBitVec = BitVec.allOnes 32 from by decide]
  apply BitVec.eq_of_getLsbD_eq
  intro i hi
  simp only [BitVec.getLsbD_and, BitVec.getLsbD_xor, BitVec.getLsbD_allOnes, hi, decide_true]
  cases (nI a).toBitVec.getLsbD i <;> cases (nI b).toBitVec.getLsbD i <;> rfl
theorem bt_and (a b k : Nat) : bt (a &&& b) k = (bt a k && bt b k) := by
  rw [bt_tb, bt_tb, bt_tb, Nat.testBit_and]
theorem bt_pow (k j : Nat) : bt (2 ^ k) j = decide (k = j) := by
  rw [bt_tb, Nat.testBit_two_pow]
theorem candlesOf_n {N : Nat} {w : Mm} {d : VD} (h : LPc w d) (hv : VOK d) {a : Nat} (ha : a < 4) : ∀ (r n0 i : Nat), i + r = nn d → r < n0 → fX3_candlesOf_L4 N w n0 (nI a) (nI (sRe (fun j => decide (ow d j = a)) i)) (nI i) = some (nI (sRe (fun j => decide (ow d j = a)) (nn d))) := by
  intro r
  have hn := hv.2.1
  induction r with
  | zero =>
    intro n0 i hi hr
    obtain ⟨n1, rfl⟩ : ∃ n1, n0 = n1 + 1 := ⟨n0 - 1, by omega⟩
    rw [fX3_candlesOf_L4, h.2.1, if_pos (nI_le (by omega) (by omega)), show i = nn d by omega]
  | succ r ih =>
    intro n0 i hi hr
    obtain ⟨n1, rfl⟩ : ∃ n1, n0 = n1 + 1 := ⟨n0 - 1, by omega⟩
    have ih' := ih n1 (i + 1) (by omega) (by omega)
    have hb : sRe (fun j => decide (ow d j = a)) i < 2 ^ 7 := Nat.lt_of_lt_of_le (sRe_lt _ _) (Nat.pow_le_pow_right (by decide) (by omega))
    have h2i : (2 : Nat) ^ i < 2 ^ 7 := Nat.pow_lt_pow_right (by decide) (by omega)
    have ho := (hv.2.2.2 i (by omega)).2.2.2.2.1
    rw [show sRe (fun j => decide (ow d j = a)) (i + 1) = if decide (ow d i = a) = true then sRe (fun j => decide (ow d j = a)) i ||| 2 ^ i else sRe (fun j => decide (ow d j = a)) i from rfl] at ih'
    rw [fX3_candlesOf_L4, h.2.1, if_neg (nI_ge (by omega) (by omega)), rdA_n (by omega) (by decide), bS, (h.2.2.2 i (by omega)).2.2.2.1, nI_1]
    by_cases hq : ow d i = a
    · rw [if_pos (by rw [hq]), nI_shl (by omega), nI_or (by omega) (by omega)]
      rw [if_pos (decide_eq_true hq)] at ih'
      exact ih'
    · rw [if_neg (fun z => hq ((nI_eq (by omega) (by omega)).mp z))]
      rw [if_neg (by simpa using hq)] at ih'
      exact ih'
theorem candlesOf_ok {N : Nat} (hN : 100 ≤ N) {w : Mm} {d : VD} (h : LPc w d) (hv : VOK d) {a : Nat} (ha : a < 4) : fX3_candlesOf N w (nI a) = some (nI (sRe (fun j => decide (ow d j = a)) (nn d))) :=
  candlesOf_n h hv ha (nn d) N 0 (Nat.zero_add _) (by have := hv.2.1; omega)
/-- the valley with one candle elsewhere -/
def pD (d : VD) (k x : Nat) : VD := mvD d (uN (ce d) k x) (li d)
theorem pD_ok {d : VD} (hv : VOK d) {k x : Nat} (hx : x < 64) : VOK (pD d k x) := mvD_ok hv hv.2.2.1 (fun i hi => by
  by_cases e : i = k
  · rw [e, uN_s]; exact hx
  · rw [uN_n e]; exact (hv.2.2.2 i hi).2.1)
theorem pD_n {d : VD} {k x j hour c : Nat} (h : j ≠ k) : sL (pD d k x) hour j c = sL d hour j c := by
  show sIf (pD d k x) j (sFar (uN (ce d) k x j) c) hour = _
  rw [uN_n h]
  rfl
theorem pD_s {d : VD} {k x hour c : Nat} : sL (pD d k x) hour k c = sIf d k (sFar x c) hour := by
  show sIf (pD d k x) k (sFar (uN (ce d) k x k) c) hour = _
  rw [uN_s]
  rfl
theorem mx_split {f g : Nat → Nat} {k v : Nat} : ∀ {n : Nat}, k < n → f k = v → g k = 0 → (∀ j, j ≠ k → f j = g j) → sMx f n = max (sMx g n) v := by
  intro n
  induction n with
  | zero => intro h; omega
  | succ n ih =>
    intro hk h1 h2 h3
    rw [show sMx f (n + 1) = max (sMx f n) (f n) from rfl, show sMx g (n + 1) = max (sMx g n) (g n) from rfl]
    by_cases e : k = n
    · subst e
      rw [h1, h2, sMx_ext (L := f) (M := g) (fun j hj => h3 j (by omega)), Nat.max_eq_left (Nat.zero_le _)]
    · rw [ih (by omega) h1 h2 h3, h3 n (fun z => e z.symm)]
      omega
theorem put_iff {d : VD} (hv : VOK d) {k x hour c : Nat} (hk : k < nn d) (hb : bt (li d) k = true) : sW (pD d k x) (ow d) (li d) hour c = nI (ow d k) ↔ sMx (lv_ (ldf (ldf (li d) (2 ^ k)) (sRe (fun j => decide (ow d j = ow d k)) (nn d))) (fun j => sL d hour j c)) (nn d) < max (sMx (lv_ (ldf (li d) (2 ^ k) &&& sRe (fun j => decide (ow d j = ow d k)) (nn d)) (fun j => sL d hour j c)) (nn d)) (sIf d k (sFar x c) hour) := by
  have ho := (hv.2.2.2 k hk).2.2.2.2.1
  have h1 := (who_iff (L := lv_ (li d) (fun j => sL (pD d k x) hour j c)) (o := ow d) (a := ow d k) (by omega) (n := nn d) (fun j hj => by have := (hv.2.2.2 j hj).2.2.2.2.1; omega)).1
  unfold sW
  rw [show nn (pD d k x) = nn d from rfl, h1]
  have e1 : sMx (fun j => if ow d j = ow d k then 0 else lv_ (li d) (fun j => sL (pD d k x) hour j c) j) (nn d) = sMx (lv_ (ldf (ldf (li d) (2 ^ k)) (sRe (fun j => decide (ow d j = ow d k)) (nn d))) (fun j => sL d hour j c)) (nn d) := by
    apply sMx_ext
    intro j hj
    show (if ow d j = ow d k then 0 else lv_ (li d) (fun j => sL (pD d k x) hour j c) j) = _
    unfold lv_
    rw [ldf_bt, ldf_bt, bt_pow, bt_tb (sRe _ _), sRe_tb, decide_eq_true hj, Bool.true_and]
    by_cases e : ow d j = ow d k
    · rw [if_pos e, decide_eq_true e]; simp
    · have ejk : j ≠ k := fun z => e (by rw [z])
      rw [if_neg e, decide_eq_false e, decide_eq_false (fun z => ejk z.symm), pD_n ejk]
      simp
  have e2 : sMx (fun j => if ow d j = ow d k then lv_ (li d) (fun j => sL (pD d k x) hour j c) j else 0) (nn d) = max (sMx (lv_ (ldf (li d) (2 ^ k) &&& sRe (fun j => decide (ow d j = ow d k)) (nn d)) (fun j => sL d hour j c)) (nn d)) (sIf d k (sFar x c) hour) := by
    rw [← sMx_ext (L := fun j => if j < nn d then lv_ (ldf (li d) (2 ^ k) &&& sRe (fun j => decide (ow d j = ow d k)) (nn d)) (fun j => sL d hour j c) j else if ow d j = ow d k then lv_ (li d) (fun j => sL (pD d k x) hour j c) j else 0) (fun j hj => if_pos hj)]
    refine mx_split hk ?_ ?_ (fun j hj => ?_)
    · show (if ow d k = ow d k then lv_ (li d) (fun j => sL (pD d k x) hour j c) k else 0) = _
      unfold lv_
      rw [if_pos rfl, if_pos hb]
      exact pD_s
    · show (if k < nn d then lv_ (ldf (li d) (2 ^ k) &&& sRe (fun j => decide (ow d j = ow d k)) (nn d)) (fun j => sL d hour j c) k else _) = _
      unfold lv_
      rw [if_pos hk, bt_and, ldf_bt, bt_pow, decide_eq_true rfl]
      simp
    · show (if ow d j = ow d k then lv_ (li d) (fun j => sL (pD d k x) hour j c) j else 0) = (if j < nn d then lv_ (ldf (li d) (2 ^ k) &&& sRe (fun j => decide (ow d j = ow d k)) (nn d)) (fun j => sL d hour j c) j else if ow d j = ow d k then lv_ (li d) (fun j => sL (pD d k x) hour j c) j else 0)
      by_cases hjn : j < nn d
      · rw [if_pos hjn]
        unfold lv_
        rw [bt_and, ldf_bt, bt_pow, bt_tb (sRe _ _), sRe_tb, decide_eq_true hjn, Bool.true_and, decide_eq_false (fun z => hj z.symm)]
        by_cases e : ow d j = ow d k
        · rw [if_pos e, decide_eq_true e]
          simp [pD_n hj]
        · rw [if_neg e, decide_eq_false e]
          simp
      · rw [if_neg hjn]
  rw [e1, e2]

/-! ===== the best place ===== -/
theorem who_iff {L o : Nat → Nat} {a : Nat} (ha : a < 2 ^ 31) : ∀ {n : Nat}, (∀ k, k < n → o k < 2 ^ 31) → (sWho L o n = nI a ↔ sMx (fun k => if o k = a then 0 else L k) n < sMx (fun k => if o k = a then L k else 0) n) ∧ sMx L n = max (sMx (fun k => if o k = a then 0 else L k) n) (sMx (fun k => if o k = a then L k else 0) n) := by
  intro n
  induction n with
  | zero =>
    intro _
    refine ⟨⟨fun z => absurd z.symm (nI_m1 ha), fun z => absurd z (Nat.lt_irrefl _)⟩, rfl⟩
  | succ n ih =>
    intro ho
    obtain ⟨i1, i2⟩ := ih (fun k hk => ho k (by omega))
    rw [sWho_step ho]
    have e1 : sMx L (n + 1) = max (sMx L n) (L n) := rfl
    have e2 : sMx (fun k => if o k = a then 0 else L k) (n + 1) = max (sMx (fun k => if o k = a then 0 else L k) n) (if o n = a then 0 else L n) := rfl
    have e3 : sMx (fun k => if o k = a then L k else 0) (n + 1) = max (sMx (fun k => if o k = a then L k else 0) n) (if o n = a then L n else 0) := rfl
    rw [e1, e2, e3]
    generalize sMx (fun k => if o k = a then 0 else L k) n = B at *
    generalize sMx (fun k => if o k = a then L k else 0) n = A at *
    generalize sMx L n = T at *
    generalize sWho L o n = W at *
    have hon := ho n (by omega)
    have hm2 : ¬ (-2 : Int32) = nI a := fun z => nI_m2 ha z.symm
    by_cases hoa : o n = a
    · rw [if_pos hoa, if_pos hoa]
      refine ⟨?_, by omega⟩
      by_cases h1 : T < L n
      · rw [if_pos h1, hoa]
        exact ⟨fun _ => by omega, fun _ => rfl⟩
      · rw [if_neg h1]
        by_cases h2 : 0 < L n ∧ L n = T ∧ ¬ nI (o n) = W
        · rw [if_pos h2]
          rw [hoa] at h2
          have h3 : ¬ B < A := fun z => h2.2.2 (i1.mpr z).symm
          exact ⟨fun z => absurd z hm2, fun z => by omega⟩
        · rw [if_neg h2, i1]
          rw [hoa] at h2
          by_cases h4 : 0 < L n ∧ L n = T
          · have h5 : nI a = W := Classical.byContradiction (fun z => h2 ⟨h4.1, h4.2, z⟩)
            have h6 := i1.mp h5.symm
            constructor <;> intro _ <;> omega
          · constructor <;> intro _ <;> omega
    · rw [if_neg hoa, if_neg hoa]
      refine ⟨?_, by omega⟩
      have hna : ¬ nI (o n) = nI a := fun z => hoa ((nI_eq hon ha).mp z)
      by_cases h1 : T < L n
      · rw [if_pos h1]
        exact ⟨fun z => absurd z hna, fun z => by omega⟩
      · rw [if_neg h1]
        by_cases h2 : 0 < L n ∧ L n = T ∧ ¬ nI (o n) = W
        · rw [if_pos h2]
          exact ⟨fun z => absurd z hm2, fun z => by omega⟩
        · rw [if_neg h2, i1]
          by_cases h4 : 0 < L n ∧ L n = T
          · have h5 : nI (o n) = W := Classical.byContradiction (fun z => h2 ⟨h4.1, h4.2, z⟩)
            have h6 : ¬ B < A := fun z => hna (h5.trans (i1.mpr z))
            constructor <;> intro _ <;> omega
          · constructor <;> intro _ <;> omega
/-- a set less another -/
def ldf (a b : Nat) : Nat := a ^^^ (a &&& b)
theorem ldf_bt (a b k : Nat) : bt (ldf a b) k = (bt a k && !bt b k) := by
  unfold ldf
  rw [bt_tb, bt_tb, bt_tb, Nat.testBit_xor, Nat.testBit_and]
  cases a.testBit k <;> cases b.testBit k <;> rfl
theorem ldf_lt {a b n : Nat} (h : a < 2 ^ n) : ldf a b < 2 ^ n := Nat.xor_lt_two_pow h (Nat.lt_of_le_of_lt Nat.and_le_left h)
theorem nI_ldf {a b : Nat} (ha : a < 2 ^ 31) (hb : b < 2 ^ 31) : nI a &&& (nI b ^^^ -1) = nI (ldf a b) := by
  unfold ldf
  rw [← nI_xor ha (Nat.lt_of_le_of_lt Nat.and_le_left ha), ← nI_and ha hb]
  apply Int32.toBitVec_inj.mp
  show (nI a).toBitVec &&& ((nI b).toBitVec ^^^ (-1 : Int32).toBitVec) = (nI a).toBitVec ^^^ ((nI a).toBitVec &&& (nI b).toBitVec)
  rw [show (-1 : Int32).toBitVec = BitVec.allOnes 32 from by decide]
  apply BitVec.eq_of_getLsbD_eq
  intro i hi
  simp only [BitVec.getLsbD_and, BitVec.getLsbD_xor, BitVec.getLsbD_allOnes, hi, decide_true]
  cases (nI a).toBitVec.getLsbD i <;> cases (nI b).toBitVec.getLsbD i <;> rfl
theorem bt_and (a b k : Nat) : bt (a &&& b) k = (bt a k && bt b k) := by
  rw [bt_tb, bt_tb, bt_tb, Nat.testBit_and]
theorem bt_pow (k j : Nat) : bt (2 ^ k) j = decide (k = j) := by
  rw [bt_tb, Nat.testBit_two_pow]
theorem candlesOf_n {N : Nat} {w : Mm} {d : VD} (h : LPc w d) (hv : VOK d) {a : Nat} (ha : a < 4) : ∀ (r n0 i : Nat), i + r = nn d → r < n0 → fX3_candlesOf_L4 N w n0 (nI a) (nI (sRe (fun j => decide (ow d j = a)) i)) (nI i) = some (nI (sRe (fun j => decide (ow d j = a)) (nn d))) := by
  intro r
  have hn := hv.2.1
  induction r with
  | zero =>
    intro n0 i hi hr
    obtain ⟨n1, rfl⟩ : ∃ n1, n0 = n1 + 1 := ⟨n0 - 1, by omega⟩
    rw [fX3_candlesOf_L4, h.2.1, if_pos (nI_le (by omega) (by omega)), show i = nn d by omega]
  | succ r ih =>
    intro n0 i hi hr
    obtain ⟨n1, rfl⟩ : ∃ n1, n0 = n1 + 1 := ⟨n0 - 1, by omega⟩
    have ih' := ih n1 (i + 1) (by omega) (by omega)
    have hb : sRe (fun j => decide (ow d j = a)) i < 2 ^ 7 := Nat.lt_of_lt_of_le (sRe_lt _ _) (Nat.pow_le_pow_right (by decide) (by omega))
    have h2i : (2 : Nat) ^ i < 2 ^ 7 := Nat.pow_lt_pow_right (by decide) (by omega)
    have ho := (hv.2.2.2 i (by omega)).2.2.2.2.1
    rw [show sRe (fun j => decide (ow d j = a)) (i + 1) = if decide (ow d i = a) = true then sRe (fun j => decide (ow d j = a)) i ||| 2 ^ i else sRe (fun j => decide (ow d j = a)) i from rfl] at ih'
    rw [fX3_candlesOf_L4, h.2.1, if_neg (nI_ge (by omega) (by omega)), rdA_n (by omega) (by decide), bS, (h.2.2.2 i (by omega)).2.2.2.1, nI_1]
    by_cases hq : ow d i = a
    · rw [if_pos (by rw [hq]), nI_shl (by omega), nI_or (by omega) (by omega)]
      rw [if_pos (decide_eq_true hq)] at ih'
      exact ih'
    · rw [if_neg (fun z => hq ((nI_eq (by omega) (by omega)).mp z))]
      rw [if_neg (by simpa using hq)] at ih'
      exact ih'
theorem candlesOf_ok {N : Nat} (hN : 100 ≤ N) {w : Mm} {d : VD} (h : LPc w d) (hv : VOK d) {a : Nat} (ha : a < 4) : fX3_candlesOf N w (nI a) = some (nI (sRe (fun j => decide (ow d j = a)) (nn d))) :=
  candlesOf_n h hv ha (nn d) N 0 (Nat.zero_add _) (by have := hv.2.1; omega)
/-- the valley with one candle elsewhere -/
def pD (d : VD) (k x : Nat) : VD := mvD d (uN (ce d) k x) (li d)
theorem pD_ok {d : VD} (hv : VOK d) {k x : Nat} (hx : x < 64) : VOK (pD d k x) := mvD_ok hv hv.2.2.1 (fun i hi => by
  by_cases e : i = k
  · rw [e, uN_s]; exact hx
  · rw [uN_n e]; exact (hv.2.2.2 i hi).2.1)
theorem pD_n {d : VD} {k x j hour c : Nat} (h : j ≠ k) : sL (pD d k x) hour j c = sL d hour j c := by
  show sIf (pD d k x) j (sFar (uN (ce d) k x j) c) hour = _
  rw [uN_n h]
  rfl
theorem pD_s {d : VD} {k x hour c : Nat} : sL (pD d k x) hour k c = sIf d k (sFar x c) hour := by
  show sIf (pD d k x) k (sFar (uN (ce d) k x k) c) hour = _
  rw [uN_s]
  rfl
theorem mx_split {f g : Nat → Nat} {k v : Nat} : ∀ {n : Nat}, k < n → f k = v → g k = 0 → (∀ j, j ≠ k → f j = g j) → sMx f n = max (sMx g n) v := by
  intro n
  induction n with
  | zero => intro h; omega
  | succ n ih =>
    intro hk h1 h2 h3
    rw [show sMx f (n + 1) = max (sMx f n) (f n) from rfl, show sMx g (n + 1) = max (sMx g n) (g n) from rfl]
    by_cases e : k = n
    · subst e
      rw [h1, h2, sMx_ext (L := f) (M := g) (fun j hj => h3 j (by omega)), Nat.max_eq_left (Nat.zero_le _)]
    · rw [ih (by omega) h1 h2 h3, h3 n (fun z => e z.symm)]
      omega
theorem put_iff {d : VD} (hv : VOK d) {k x hour c : Nat} (hk : k < nn d) (hb : bt (li d) k = true) : sW (pD d k x) (ow d) (li d) hour c = nI (ow d k) ↔ sMx (lv_ (ldf (ldf (li d) (2 ^ k)) (sRe (fun j => decide (ow d j = ow d k)) (nn d))) (fun j => sL d hour j c)) (nn d) < max (sMx (lv_ (ldf (li d) (2 ^ k) &&& sRe (fun j => decide (ow d j = ow d k)) (nn d)) (fun j => sL d hour j c)) (nn d)) (sIf d k (sFar x c) hour) := by
  have ho := (hv.2.2.2 k hk).2.2.2.2.1
  have h1 := (who_iff (L := lv_ (li d) (fun j => sL (pD d k x) hour j c)) (o := ow d) (a := ow d k) (by omega) (n := nn d) (fun j hj => by have := (hv.2.2.2 j hj).2.2.2.2.1; omega)).1
  unfold sW
  rw [show nn (pD d k x) = nn d from rfl, h1]
  have e1 : sMx (fun j => if ow d j = ow d k then 0 else lv_ (li d) (fun j => sL (pD d k x) hour j c) j) (nn d) = sMx (lv_ (ldf (ldf (li d) (2 ^ k)) (sRe (fun j => decide (ow d j = ow d k)) (nn d))) (fun j => sL d hour j c)) (nn d) := by
    apply sMx_ext
    intro j hj
    show (if ow d j = ow d k then 0 else lv_ (li d) (fun j => sL (pD d k x) hour j c) j) = _
    unfold lv_
    rw [ldf_bt, ldf_bt, bt_pow, bt_tb (sRe _ _), sRe_tb, decide_eq_true hj, Bool.true_and]
    by_cases e : ow d j = ow d k
    · rw [if_pos e, decide_eq_true e]; simp
    · have ejk : j ≠ k := fun z => e (by rw [z])
      rw [if_neg e, decide_eq_false e, decide_eq_false (fun z => ejk z.symm)]
      simp [pD_n ejk]
  have e2 : sMx (fun j => if ow d j = ow d k then lv_ (li d) (fun j => sL (pD d k x) hour j c) j else 0) (nn d) = max (sMx (lv_ (ldf (li d) (2 ^ k) &&& sRe (fun j => decide (ow d j = ow d k)) (nn d)) (fun j => sL d hour j c)) (nn d)) (sIf d k (sFar x c) hour) := by
    rw [← sMx_ext (L := fun j => if j < nn d then lv_ (ldf (li d) (2 ^ k) &&& sRe (fun j => decide (ow d j = ow d k)) (nn d)) (fun j => sL d hour j c) j else if ow d j = ow d k then lv_ (li d) (fun j => sL (pD d k x) hour j c) j else 0) (fun j hj => if_pos hj)]
    refine mx_split hk ?_ ?_ (fun j hj => ?_)
    · show (if ow d k = ow d k then lv_ (li d) (fun j => sL (pD d k x) hour j c) k else 0) = _
      unfold lv_
      rw [if_pos rfl, if_pos hb]
      exact pD_s
    · show (if k < nn d then lv_ (ldf (li d) (2 ^ k) &&& sRe (fun j => decide (ow d j = ow d k)) (nn d)) (fun j => sL d hour j c) k else _) = _
      unfold lv_
      rw [if_pos hk, bt_and, ldf_bt, bt_pow, decide_eq_true rfl]
      simp
    · show (if ow d j = ow d k then lv_ (li d) (fun j => sL (pD d k x) hour j c) j else 0) = (if j < nn d then lv_ (ldf (li d) (2 ^ k) &&& sRe (fun j => decide (ow d j = ow d k)) (nn d)) (fun j => sL d hour j c) j else if ow d j = ow d k then lv_ (li d) (fun j => sL (pD d k x) hour j c) j else 0)
      by_cases hjn : j < nn d
      · rw [if_pos hjn]
        unfold lv_
        rw [bt_and, ldf_bt, bt_pow, bt_tb (sRe _ _), sRe_tb, decide_eq_true hjn, Bool.true_and, decide_eq_false (fun z => hj z.symm)]
        by_cases e : ow d j = ow d k
        · rw [if_pos e, decide_eq_true e]
          simp [pD_n hj]
        · rw [if_neg e, decide_eq_false e]
          simp
      · rw [if_neg hjn]
  rw [e1, e2]
/-! both searches -/
def sG (f : Nat → Nat) : Nat → Nat → Int32 → Int32 → Int32
  | 0, _, b, _ => b
  | r + 1, i, b, v => if nI (f i) ≤ v then sG f r (i + 1) b v else sG f r (i + 1) (nI i) (nI (f i))
theorem sG_same {f : Nat → Nat} {F : Nat} (hf : ∀ i, f i = F) : ∀ r i b, sG f r i b (nI F) = b := by
  intro r
  induction r with
  | zero => intro i b; rfl
  | succ r ih =>
    intro i b
    rw [sG, hf i, if_pos (Int32.le_refl _)]
    exact ih (i + 1) b
def fP (d : VD) (k hour : Nat) : Nat → Nat := fun x => sAc (pD d k x) (ow d) (li d) hour (nI (ow d k))
theorem mput_n {N : Nat} (hN : 100 ≤ N) {d : VD} (hv : VOK d) {k hour : Nat} (hk : k < nn d) (hh : hour < 12) : ∀ (r n0 i : Nat) (b v : Int32) (w : Mm), i + r = 64 → r < n0 → (∃ y, HP w (pD d k y) (li d) (ow d)) → ∃ w', fX12_put_L34 N n0 w (nI k) (nI hour) b v (nI i) = some (sG (fP d k hour) r i b v, w') ∧ Fr [82] w w' := by
  intro r
  have hn := hv.2.1
  have hS := li31 hv
  induction r with
  | zero =>
    intro n0 i b v w hi hr _
    obtain ⟨n1, rfl⟩ : ∃ n1, n0 = n1 + 1 := ⟨n0 - 1, by omega⟩
    refine ⟨w, ?_, Fr.rf⟩
    rw [fX12_put_L34, if_pos (show (64 : Int32) ≤ nI i from nI_le (a := 64) (by omega) (by omega))]
    rfl
  | succ r ih =>
    intro n0 i b v w hi hr hp
    obtain ⟨n1, rfl⟩ : ∃ n1, n0 = n1 + 1 := ⟨n0 - 1, by omega⟩
    obtain ⟨y, hp⟩ := hp
    have hp' : HP (sI w 82 k (nI i)) (pD d k i) (li d) (ow d) := by
      refine ⟨by rw [sI_o _ (by decide)]; exact hp.1, by rw [sI_o _ (by decide)]; exact hp.2.1, by rw [sI_o _ (by decide)]; exact hp.2.2.1, fun j hj => ?_⟩
      obtain ⟨q1, q2, q3, q4, q5⟩ := hp.2.2.2 j hj
      rw [sI_o _ (show (78 : Nat) ≠ 82 by decide), sI_o _ (show (83 : Nat) ≠ 82 by decide)]
      refine ⟨q1, q2, q3, ?_, q5⟩
      show _ = nI (uN (ce d) k i j)
      have q4' : w.1 82 j = nI (uN (ce d) k y j) := q4
      rw [sI_1]
      by_cases e : j = k
      · rw [if_pos ⟨rfl, e⟩, e, uN_s]
      · rw [if_neg (by omega), q4', uN_n e, uN_n e]
    have f1 : Fr [82] w (sI w 82 k (nI i)) := Fr.sI (by decide)
    have e83 : (sI w 82 k (nI i)).1 83 k = nI (ow d k) := (hp'.2.2.2 k hk).2.2.2.2
    have ea := macres_ok (N := N) hN hp' (pD_ok hv (by omega)) (by omega) hh (x := nI (ow d k))
    rw [fX12_put_L34, if_neg (show ¬ (64 : Int32) ≤ nI i from nI_ge (b := 64) (by omega) (by decide)), wrA_n (by omega) (by decide), bS, rdA_n (by omega) (by decide), bS, e83, ea, bS]
    unfold fX12_put_L75
    rw [nI_1]
    rw [show sG (fP d k hour) (r + 1) i b v = if nI (fP d k hour i) ≤ v then sG (fP d k hour) r (i + 1) b v else sG (fP d k hour) r (i + 1) (nI i) (nI (fP d k hour i)) from rfl]
    by_cases hq : nI (sAc (pD d k i) (ow d) (li d) hour (nI (ow d k))) ≤ v
    · rw [if_pos hq, if_pos hq, if_pos (show nI (fP d k hour i) ≤ v from hq)]
      obtain ⟨w', g1, g2⟩ := ih n1 (i + 1) b v (sI w 82 k (nI i)) (by omega) (by omega) ⟨i, hp'⟩
      exact ⟨w', g1, f1.then g2⟩
    · rw [if_neg hq, if_neg hq, if_neg (show ¬ nI (fP d k hour i) ≤ v from hq)]
      obtain ⟨w', g1, g2⟩ := ih n1 (i + 1) (nI i) (nI (fP d k hour i)) (sI w 82 k (nI i)) (by omega) (by omega) ⟨i, hp'⟩
      exact ⟨w', g1, f1.then g2⟩
/-- what the search lays -/
def PP (w : Mm) (d : VD) (k hour : Nat) : Prop := (∀ c, c < 64 → w.1 63 c = nI (sMx (lv_ (ldf (li d) (2 ^ k) &&& sRe (fun j => decide (ow d j = ow d k)) (nn d)) (fun j => sL d hour j c)) (nn d)) ∧ w.1 64 c = nI (sMx (lv_ (ldf (ldf (li d) (2 ^ k)) (sRe (fun j => decide (ow d j = ow d k)) (nn d))) (fun j => sL d hour j c)) (nn d))) ∧ ∀ j, j < 15 → w.1 65 j = nI (sIf d k j hour)
theorem acresFrom_n {N : Nat} {w : Mm} {d : VD} (hv : VOK d) {k x hour : Nat} (hk : k < nn d) (hb : bt (li d) k = true) (hx : x < 64) (hp : PP w d k hour) : ∀ (r n0 i : Nat), i + r = 64 → r < n0 → fX3_acresFrom_L4 N w n0 (nI x) (nI (sCt (fun c => decide (sW (pD d k x) (ow d) (li d) hour c = nI (ow d k))) i)) (nI i) = some (nI (fP d k hour x)) := by
  intro r
  induction r with
  | zero =>
    intro n0 i hi hr
    obtain ⟨n1, rfl⟩ : ∃ n1, n0 = n1 + 1 := ⟨n0 - 1, by omega⟩
    rw [fX3_acresFrom_L4, if_pos (show (64 : Int32) ≤ nI i from nI_le (a := 64) (by omega) (by omega)), show i = 64 by omega]
    rfl
  | succ r ih =>
    intro n0 i hi hr
    obtain ⟨n1, rfl⟩ : ∃ n1, n0 = n1 + 1 := ⟨n0 - 1, by omega⟩
    have ih' := ih n1 (i + 1) (by omega) (by omega)
    rw [show sCt (fun c => decide (sW (pD d k x) (ow d) (li d) hour c = nI (ow d k))) (i + 1) = if decide (sW (pD d k x) (ow d) (li d) hour i = nI (ow d k)) = true then sCt (fun c => decide (sW (pD d k x) (ow d) (li d) hour c = nI (ow d k))) i + 1 else sCt (fun c => decide (sW (pD d k x) (ow d) (li d) hour c = nI (ow d k))) i from rfl] at ih'
    have hf := sFar_le hx (show i < 64 by omega)
    obtain ⟨p1, p2⟩ := hp.1 i (by omega)
    have b1 : sMx (lv_ (ldf (li d) (2 ^ k) &&& sRe (fun j => decide (ow d j = ow d k)) (nn d)) (fun j => sL d hour j i)) (nn d) ≤ 23 := sMx_bd (fun j hj => lv_le hv hj)
    have b2 : sMx (lv_ (ldf (ldf (li d) (2 ^ k)) (sRe (fun j => decide (ow d j = ow d k)) (nn d))) (fun j => sL d hour j i)) (nn d) ≤ 23 := sMx_bd (fun j hj => lv_le hv hj)
    have b3 : sIf d k (sFar x i) hour ≤ 23 := sIf_le hv hk
    have hiff := put_iff hv (x := x) (hour := hour) (c := i) hk hb
    rw [fX3_acresFrom_L4, if_neg (show ¬ (64 : Int32) ≤ nI i from nI_ge (b := 64) (by omega) (by decide)), rdA_n (by omega) (by decide), bS, far_n hx (by omega), rdA_n (by omega) (by decide), bS, rdA_n (by omega) (by decide), bS, p1, p2, hp.2 _ (by omega), mxI_n (by omega) (by omega), nI_1]
    by_cases hq : sW (pD d k x) (ow d) (li d) hour i = nI (ow d k)
    · have h1 := hiff.mp hq
      rw [if_neg (nI_ge h1 (by omega)), nI_1]
      rw [if_pos (decide_eq_true hq)] at ih'
      exact ih'
    · rw [if_pos (nI_le (Nat.le_of_not_lt (fun z => hq (hiff.mpr z))) (by omega))]
      rw [if_neg (by simpa using hq)] at ih'
      exact ih'
theorem best_n {N : Nat} (hN : 100 ≤ N) {w : Mm} {d : VD} (hv : VOK d) {k hour : Nat} (hk : k < nn d) (hb : bt (li d) k = true) (hp : PP w d k hour) : ∀ (r n0 i : Nat) (b v : Int32), i + r = 64 → r < n0 → fX3_bestPlace_L109 N n0 w b v (nI i) = some (sG (fP d k hour) r i b v, w) := by
  intro r
  induction r with
  | zero =>
    intro n0 i b v hi hr
    obtain ⟨n1, rfl⟩ : ∃ n1, n0 = n1 + 1 := ⟨n0 - 1, by omega⟩
    rw [fX3_bestPlace_L109, if_pos (show (64 : Int32) ≤ nI i from nI_le (a := 64) (by omega) (by omega))]
    rfl
  | succ r ih =>
    intro n0 i b v hi hr
    obtain ⟨n1, rfl⟩ : ∃ n1, n0 = n1 + 1 := ⟨n0 - 1, by omega⟩
    have ea : fX3_acresFrom N w (nI i) = some (nI (fP d k hour i)) := acresFrom_n hv hk hb (by omega) hp 64 N 0 rfl (by omega)
    rw [fX3_bestPlace_L109, if_neg (show ¬ (64 : Int32) ≤ nI i from nI_ge (b := 64) (by omega) (by decide)), ea, bS, nI_1]
    rw [show sG (fP d k hour) (r + 1) i b v = if nI (fP d k hour i) ≤ v then sG (fP d k hour) r (i + 1) b v else sG (fP d k hour) r (i + 1) (nI i) (nI (fP d k hour i)) from rfl]
    by_cases hq : nI (fP d k hour i) ≤ v
    · rw [if_pos hq, if_pos hq]
      exact ih n1 (i + 1) b v (by omega) (by omega)
    · rw [if_neg hq, if_neg hq]
      exact ih n1 (i + 1) (nI i) (nI (fP d k hour i)) (by omega) (by omega)
theorem bestLay_n {N : Nat} (hN : 100 ≤ N) {d : VD} (hv : VOK d) {k hour A R : Nat} (hk : k < nn d) (hh : hour < 12) (hA : A < 2 ^ 7) (hR : R < 2 ^ 7) (eR : R = ldf (li d) (2 ^ k)) (eA : A = sRe (fun j => decide (ow d j = ow d k)) (nn d)) : ∀ (r n0 i : Nat) (w : Mm), i + r = 64 → r < n0 → LPc w d → SP w d hour → (∀ c, c < i → w.1 63 c = nI (sMx (lv_ (R &&& A) (fun j => sL d hour j c)) (nn d)) ∧ w.1 64 c = nI (sMx (lv_ (ldf R A) (fun j => sL d hour j c)) (nn d))) → ∃ w', fX3_bestPlace_L45 N n0 w (nI k) (nI hour) (nI A) (nI R) (nI i) = fX3_bestPlace_L109 N N w' 0 (-1) 0 ∧ Fr [63, 64, 65] w w' ∧ PP w' d k hour := by
  intro r
  induction r with
  | zero =>
    intro n0 i w hi hr h hs hc
    obtain ⟨n1, rfl⟩ : ∃ n1, n0 = n1 + 1 := ⟨n0 - 1, by omega⟩
    obtain ⟨w', e1, e2, e3⟩ := layFar_n (N := N) hv (k := k) (hour := hour) hk hh 15 N 0 w rfl (by omega) h (fun j hj => absurd hj (by omega))
    refine ⟨w', ?_, e2.up (by decide), ⟨fun c hc' => ?_, e3⟩⟩
    · rw [fX3_bestPlace_L45, if_pos (show (64 : Int32) ≤ nI i from nI_le (a := 64) (by omega) (by omega)), show fX3_layFar N w (nI k) (nI hour) = some w' from e1, bS]
    · rw [e2.1 63 (by decide), e2.1 64 (by decide), ← eR, ← eA]; exact hc c (by omega)
  | succ r ih =>
    intro n0 i w hi hr h hs hc
    obtain ⟨n1, rfl⟩ : ∃ n1, n0 = n1 + 1 := ⟨n0 - 1, by omega⟩
    have hRA : R &&& A < 2 ^ 7 := Nat.lt_of_le_of_lt Nat.and_le_left hR
    have hld : ldf R A < 2 ^ 7 := ldf_lt hR
    have f1 : ∀ v, Fr [63, 64, 65] w (sI w 63 i v) := fun v => Fr.sI (by decide)
    have f2 : ∀ v v2, Fr [63, 64, 65] w (sI (sI w 63 i v) 64 i v2) := fun v v2 => (f1 v).then (Fr.sI (by decide))
    have s1 : ∀ v, SP (sI w 63 i v) d hour := fun v c j hc hj => by rw [(f1 v).1 61 (by decide)]; exact hs c j hc hj
    rw [fX3_bestPlace_L45, if_neg (show ¬ (64 : Int32) ≤ nI i from nI_ge (b := 64) (by omega) (by decide)), nI_and (by omega) (by omega), nI_ldf (by omega) (by omega), strongest_ok hN h hv (hs.at (by omega)) (by omega) (by omega), bS, wrA_n (by omega) (by decide), bS, strongest_ok hN (h.fr (f1 _) (by decide)) hv ((s1 _).at (by omega)) (by omega) (by omega), bS, wrA_n (by omega) (by decide), bS, nI_1]
    obtain ⟨w', g1, g2, g3⟩ := ih n1 (i + 1) (sI (sI w 63 i (nI (sMx (lv_ (R &&& A) (fun j => sL d hour j i)) (nn d)))) 64 i (nI (sMx (lv_ (ldf R A) (fun j => sL d hour j i)) (nn d)))) (by omega) (by omega) (h.fr (f2 _ _) (by decide)) (fun c j hc hj => by rw [(f2 _ _).1 61 (by decide)]; exact hs c j hc hj) (fun c hc2 => by
      rw [sI_1, if_neg (by omega), sI_1, sI_1, sI_1]
      by_cases e : c = i
      · rw [if_pos ⟨rfl, e⟩, if_pos ⟨rfl, e⟩, e]; exact ⟨rfl, rfl⟩
      · rw [if_neg (by omega), if_neg (by omega), if_neg (by omega)]; exact hc c (by omega))
    exact ⟨w', g1, (f2 _ _).then g2, g3⟩
theorem fP_off {d : VD} {k hour : Nat} (hb : ¬ bt (li d) k = true) (x : Nat) : fP d k hour x = sAc d (ow d) (li d) hour (nI (ow d k)) := by
  unfold fP sAc
  apply sCt_ext
  intro c _
  have : sW (pD d k x) (ow d) (li d) hour c = sW d (ow d) (li d) hour c := by
    unfold sW
    apply sWho_ext
    intro j hj
    refine ⟨?_, rfl⟩
    unfold lv_
    by_cases e : j = k
    · rw [e, if_neg hb, if_neg hb]
    · show (if bt (li d) j = true then sL (pD d k x) hour j c else 0) = _
      rw [pD_n e]
  rw [this]
theorem op_put {N : Nat} (hN : 1000 ≤ N) {w : Mm} (h : INV w) (x y : Int32) : OKi (fX11_put N w x y) (fun w => fX12_put N w x y) := by
  unfold fX11_put fX12_put fX11_isHour fX12_isHour fX11_put_L18 fX12_put_L15
  obtain ⟨S, s1, s2, s3⟩ := id h
  have hv : VOK (vd (gV S)) := s1.1.1
  have hn := hv.2.1
  have hS := li31 hv
  have m1 : w.1 78 0 = nI (nn (vd (gV S))) := s3.1.1.1
  rcases rg_c hn s2.1.1.2.1 m1 x with ⟨h1, h2⟩ | ⟨k, hk, rfl, h1, h2⟩
  · rw [if_pos h1]; exact ok_bad' (-2) h (fun w' hw' => by rw [if_pos (h2 w' (by rw [hw' 78 (by decide)]; exact m1))])
  rw [if_neg h1]
  rcases rg_0_11 y with ⟨h5, h6⟩ | ⟨t, -, ht, rfl, h5, h6⟩
  · rw [if_pos h5]; exact ok_bad' (-2) h (fun w' hw' => by rw [if_neg (h2 w' (by rw [hw' 78 (by decide)]; exact m1)), if_pos h6])
  rw [if_neg h5]
  obtain ⟨w1, e1, e2, e3⟩ := layAll_ok (N := N) (by omega) hv s2.1.lp (hour := t) (by omega)
  have l1 : LPc w1 (vd (gV S)) := s2.1.lp.fr e2 (by decide)
  have ho := (hv.2.2.2 k hk).2.2.2.2.1
  -- the two sides' answers
  have key : ∃ w2, fX3_bestPlace N w1 (nI k) (nI t) = some (sG (fP (vd (gV S)) k t) 64 0 0 (-1), w2) ∧ Fr [63, 64, 65] w1 w2 := by
    unfold fX3_bestPlace fX8_litAt
    rw [l1.2.2.1, nI_bit (by omega) (by omega)]
    by_cases hb : bt (li (vd (gV S))) k = true
    · have hb1 : li (vd (gV S)) / 2 ^ k % 2 = 1 := by simpa [bt] using hb
      have hA : sRe (fun j => decide (ow (vd (gV S)) j = ow (vd (gV S)) k)) (nn (vd (gV S))) < 2 ^ 7 := Nat.lt_of_lt_of_le (sRe_lt _ _) (Nat.pow_le_pow_right (by decide) hn)
      have hR : ldf (li (vd (gV S))) (2 ^ k) < 2 ^ 7 := ldf_lt hS
      have h2k : (2 : Nat) ^ k < 2 ^ 7 := Nat.pow_lt_pow_right (by decide) (by omega)
      obtain ⟨w2, q1, q2, q3⟩ := bestLay_n (N := N) (by omega) hv (k := k) (hour := t) hk (by omega) hA hR rfl rfl 64 N 0 w1 rfl (by omega) l1 e3 (fun c hc => absurd hc (by omega))
      refine ⟨w2, ?_, q2⟩
      rw [hb1, if_neg (show ¬ nI 1 = 0 by decide), rdA_n (by omega) (by decide), bS, (l1.2.2.2 k hk).2.2.2.1, candlesOf_ok (by omega) l1 hv ho, bS, nI_shl (by omega), nI_ldf (by omega) (by omega)]
      unfold fX3_bestPlace_L42
      rw [show (0 : Int32) = nI 0 from rfl, q1]
      exact best_n (by omega) hv hk hb q3 64 N 0 0 (-1) rfl (by omega)
    · have hb0 : li (vd (gV S)) / 2 ^ k % 2 = 0 := by
        have : ¬ li (vd (gV S)) / 2 ^ k % 2 = 1 := by simpa [bt] using hb
        omega
      refine ⟨w1, ?_, Fr.rf⟩
      rw [hb0, if_pos (show nI 0 = 0 from rfl)]
      have hF := fP_off (hour := t) hb
      have hle : sAc (vd (gV S)) (ow (vd (gV S))) (li (vd (gV S))) t (nI (ow (vd (gV S)) k)) ≤ 64 := sCt_le _ 64
      rw [show sG (fP (vd (gV S)) k t) 64 0 0 (-1) = if nI (fP (vd (gV S)) k t 0) ≤ -1 then sG (fP (vd (gV S)) k t) 63 1 0 (-1) else sG (fP (vd (gV S)) k t) 63 1 (nI 0) (nI (fP (vd (gV S)) k t 0)) from rfl, if_neg, hF 0, sG_same hF]
      · rfl
      · rw [hF 0]
        intro z
        exact nI_pos (show sAc (vd (gV S)) (ow (vd (gV S))) (li (vd (gV S))) t (nI (ow (vd (gV S)) k)) < 2 ^ 31 by omega) (Int32.lt_of_le_of_lt z (by decide))
  obtain ⟨w2, k1, k2⟩ := key
  have e12 : Fr [61, 65, 63, 64] w w2 := (e2.up (by decide)).then (k2.up (by decide))
  obtain ⟨w3, g1, g2, g3, g4⟩ := layHand_ok (N := N) (by omega) hv (s3.np e12 (by decide))
  obtain ⟨w4, q1, q2⟩ := mput_n (N := N) (by omega) hv (k := k) (hour := t) hk (by omega) 64 N 0 0 (-1) w3 rfl (by omega) ⟨ce (vd (gV S)) k, g3.1, g3.2.1, g3.2.2.1, fun j hj => by
    obtain ⟨z1, z2, z3, z4, z5⟩ := g3.2.2.2 j hj
    refine ⟨z1, z2, z3, ?_, z5⟩
    rw [z4]
    show _ = nI (uN (ce (vd (gV S))) k (ce (vd (gV S)) k) j)
    by_cases e : j = k
    · rw [e, uN_s]
    · rw [uN_n e]⟩
  refine ⟨sG (fP (vd (gV S)) k t) 64 0 0 (-1), w2, w4, ?_, ?_, INV.q s1 s2 s3 e12 (by decide) (g2.then (q2.up (by decide))) (by decide) (by rw [q2.1 77 (by decide)]; exact g4 16 (by decide))⟩
  · rw [e1, bS, k1, oS]
  · dsimp only
    rw [if_neg (h2 w2 (by rw [e12.1 78 (by decide)]; exact m1)), if_neg h6, g1, bS]
    exact q1

/-! ===== a valley told by a text ===== -/
def outD (d : VD) (v : Nat) : VD := (fo d, nn d, ldf (li d) (2 ^ v), kd d, ce d, he d, ow d, ta d)
def frD (f : Nat) : VD := (f, 0, 0, fun _ => 0, fun _ => 0, fun _ => 0, fun _ => 0, fun _ => 0)
def toV (d : VD) : VV := (d, (0, fun _ => 0), (0, fun _ => 0, fun _ => 0, fun _ => 0), (0, fun _ _ => 0, fun _ => 0))
theorem toV_ok {d : VD} (h : VOK d) : VVOK (toV d) := ⟨h, ⟨Nat.zero_le _, fun k hk => absurd hk (by show ¬ k < 0; omega)⟩, ⟨Nat.zero_le _, fun k hk => absurd hk (by show ¬ k < 0; omega)⟩, ⟨Nat.zero_le _, fun k hk => absurd hk (by show ¬ k < 0; omega)⟩⟩
theorem frD_ok {f : Nat} (h : f ≤ 9) : VOK (frD f) := (freshV_ok h).1
theorem outD_ok {d : VD} (h : VOK d) (v : Nat) : VOK (outD d v) := ⟨h.1, h.2.1, ldf_lt h.2.2.1, h.2.2.2⟩
abbrev PR : Type := Nat ⊕ (VD × Nat)
def pCand (B : Nat → Nat) (L : Nat) (d : VD) (s s1 s2 s3 s4 s5 s6 : Nat) : PR :=
  if nn d = 7 then .inl s else
  if numB B L s1 0 6 = true then
  if numB B L s2 0 64 = true then
  if numB B L s3 1 21 = true then
  if numB B L s4 0 4 = true then
  if numB B L s5 0 13 = true then .inr (addD d (vA B L s1) (vA B L s2) (vA B L s3) (vA B L s4) (vA B L s5), s6)
  else .inl s5 else .inl s4 else .inl s3 else .inl s2 else .inl s1
def pOut (B : Nat → Nat) (L : Nat) (d : VD) (s1 s2 : Nat) : PR := if numB B L s1 0 (nn d) = true then .inr (outD d (vA B L s1), s2) else .inl s1
def pFog (B : Nat → Nat) (L s1 s2 : Nat) : PR := if numB B L s1 0 10 = true then .inr (frD (vA B L s1), s2) else .inl s1
def pItem (B : Nat → Nat) (L : Nat) (d : VD) (s : Nat) : PR :=
  if kK B L s = 1 then
  if cal B L s 1 = true then pCand B L d s (nxt B L s) (nxt B L (nxt B L s)) (nxt B L (nxt B L (nxt B L s))) (nxt B L (nxt B L (nxt B L (nxt B L s)))) (nxt B L (nxt B L (nxt B L (nxt B L (nxt B L s))))) (nxt B L (nxt B L (nxt B L (nxt B L (nxt B L (nxt B L s))))))
  else if cal B L s 2 = true then pOut B L d (nxt B L s) (nxt B L (nxt B L s)) else .inl s
  else .inl s
def pFst (B : Nat → Nat) (L s : Nat) : PR :=
  if kK B L s = 1 then
  if cal B L s 0 = true then pFog B L (nxt B L s) (nxt B L (nxt B L s)) else .inl s
  else .inl s
theorem numB_lt {B : Nat → Nat} {L s lo n : Nat} (h : numB B L s lo n = true) : lo ≤ vA B L s ∧ vA B L s < n := (of_decide_eq_true h).2.2
theorem pItem_ok {B : Nat → Nat} {L : Nat} {d : VD} {s : Nat} {q : VD × Nat} (hv : VOK d) (hs : s ≤ L) (h : pItem B L d s = .inr q) : VOK q.1 ∧ s ≤ q.2 ∧ q.2 ≤ L := by
  have a1 := nxt_ge B L s
  have b1 := nxt_le (B := B) hs
  unfold pItem at h
  split at h
  · split at h
    · have a2 := nxt_ge B L (nxt B L s)
      have b2 := nxt_le (B := B) b1
      have a3 := nxt_ge B L (nxt B L (nxt B L s))
      have b3 := nxt_le (B := B) b2
      have a4 := nxt_ge B L (nxt B L (nxt B L (nxt B L s)))
      have b4 := nxt_le (B := B) b3
      have a5 := nxt_ge B L (nxt B L (nxt B L (nxt B L (nxt B L s))))
      have b5 := nxt_le (B := B) b4
      have a6 := nxt_ge B L (nxt B L (nxt B L (nxt B L (nxt B L (nxt B L s)))))
      have b6 := nxt_le (B := B) b5
      generalize nxt B L (nxt B L (nxt B L (nxt B L (nxt B L (nxt B L s))))) = s6 at *
      generalize nxt B L (nxt B L (nxt B L (nxt B L (nxt B L s)))) = s5 at *
      generalize nxt B L (nxt B L (nxt B L (nxt B L s))) = s4 at *
      generalize nxt B L (nxt B L (nxt B L s)) = s3 at *
      generalize nxt B L (nxt B L s) = s2 at *
      generalize nxt B L s = s1 at *
      unfold pCand at h
      by_cases q7 : nn d = 7
      · rw [if_pos q7] at h; exact absurd h (by simp)
      rw [if_neg q7] at h
      by_cases n1 : numB B L s1 0 6 = true
      case neg => rw [if_neg n1] at h; exact absurd h (by simp)
      rw [if_pos n1] at h
      by_cases n2 : numB B L s2 0 64 = true
      case neg => rw [if_neg n2] at h; exact absurd h (by simp)
      rw [if_pos n2] at h
      by_cases n3 : numB B L s3 1 21 = true
      case neg => rw [if_neg n3] at h; exact absurd h (by simp)
      rw [if_pos n3] at h
      by_cases n4 : numB B L s4 0 4 = true
      case neg => rw [if_neg n4] at h; exact absurd h (by simp)
      rw [if_pos n4] at h
      by_cases n5 : numB B L s5 0 13 = true
      case neg => rw [if_neg n5] at h; exact absurd h (by simp)
      rw [if_pos n5] at h
      have e := Sum.inr.inj h
      rw [← e]
      have hn := hv.2.1
      have v3 := numB_lt n3
      have v5 := numB_lt n5
      exact ⟨addD_ok hv (by omega) (numB_lt n1).2 (numB_lt n2).2 ⟨v3.1, by omega⟩ (numB_lt n4).2 (by omega), by show s ≤ s6; omega, b6⟩
    · split at h
      · have a2 := nxt_ge B L (nxt B L s)
        have b2 := nxt_le (B := B) b1
        unfold pOut at h
        split at h
        · have e := Sum.inr.inj h
          rw [← e]
          exact ⟨outD_ok hv _, by show s ≤ nxt B L (nxt B L s); omega, b2⟩
        · exact absurd h (by simp)
      · exact absurd h (by simp)
  · exact absurd h (by simp)
theorem pFst_ok {B : Nat → Nat} {L s : Nat} {q : VD × Nat} (hs : s ≤ L) (h : pFst B L s = .inr q) : VOK q.1 ∧ s ≤ q.2 ∧ q.2 ≤ L := by
  have a1 := nxt_ge B L s
  have b1 := nxt_le (B := B) hs
  have a2 := nxt_ge B L (nxt B L s)
  have b2 := nxt_le (B := B) b1
  unfold pFst at h
  split at h
  · split at h
    · unfold pFog at h
      by_cases n1 : numB B L (nxt B L s) 0 10 = true
      · rw [if_pos n1] at h
        have e := Sum.inr.inj h
        have := (numB_lt n1).2
        rw [← e]
        exact ⟨frD_ok (by omega), by show s ≤ nxt B L (nxt B L s); omega, b2⟩
      · rw [if_neg n1] at h; exact absurd h (by simp)
    · exact absurd h (by simp)
  · exact absurd h (by simp)
/-! the class's -/
def FC (w w' : Mm) : Prop := Fr [51, 37, 38, 39, 40, 41, 42] w w'
theorem FC.of {w w' : Mm} (h : Fr [51] w w') : FC w w' := h.up (by decide)
def Told (w : Mm) (d : VD) : Prop := CVa w 37 d ∧ w.1 37 8 = 0 ∧ w.1 37 10 = 0 ∧ w.1 37 14 = 0
theorem Told.fr {w w' : Mm} {d : VD} (h : Told w d) (hf : Fr [51] w w') : Told w' d := by
  refine ⟨h.1.fr (by rw [hf.1 37 (by decide)]) (by rw [hf.1 37 (by decide)]) (by rw [hf.1 37 (by decide)]) (fun j h1 h2 => hf.1 _ (by simp; omega)), ?_⟩
  rw [hf.1 37 (by decide)]
  exact h.2
def CO (B : Nat → Nat) (L : Nat) (w : Mm) (res : Option (Int32 × Mm)) (o : PR) : Prop := match o with
  | .inl e => ∃ w', res = some (0, w') ∧ FC w w' ∧ TX w' B L ∧ w'.1 51 5 = nI e
  | .inr q => ∃ w', res = some (b01 (decide (kK B L q.2 = 3)), w') ∧ FC w w' ∧ TX w' B L ∧ AT w' B L q.2 ∧ Told w' q.1
theorem bz_b (b : Bool) : bz (b01 b) = some (b01 b) := by cases b <;> decide
theorem b01_nz {b : Bool} (h : b = true) : ¬ b01 b = 0 := by rw [h]; decide
theorem b01_ff {b : Bool} (h : ¬ b = true) : b01 b = 0 := by
  have : b = false := by simpa using h
  rw [this]; rfl
theorem takeCandle_ok {N : Nat} (hN : 1000 ≤ N) {B : Nat → Nat} {L s : Nat} (hB : TB B L) (hs : s ≤ L) {w : Mm} {d : VD} (hv : VOK d) (h : TX w B L) (ha : AT w B L s) (ht : Told w d) : CO B L w (fX5_takeCandle N w) (pCand B L d s (nxt B L s) (nxt B L (nxt B L s)) (nxt B L (nxt B L (nxt B L s))) (nxt B L (nxt B L (nxt B L (nxt B L s)))) (nxt B L (nxt B L (nxt B L (nxt B L (nxt B L s))))) (nxt B L (nxt B L (nxt B L (nxt B L (nxt B L (nxt B L s))))))) := by
  have hn := hv.2.1
  unfold fX5_takeCandle pCand
  rw [ht.1.2.1]
  by_cases q7 : nn d = 7
  · rw [if_pos (show (7 : Int32) ≤ nI (nn d) by rw [q7]; decide), if_pos q7]
    exact ⟨w, rfl, Fr.rf, h, ha.2.2.1⟩
  rw [if_neg (show ¬ (7 : Int32) ≤ nI (nn d) from nI_ge (b := 7) (by omega) (by decide)), if_neg q7]
  obtain ⟨w1, g1, f1, t1, c1, v1⟩ := takeNumber_ok (N := N) hN (lo := 0) (n := 6) (x1 := 0) (x2 := 5) hB hs (by decide) (by decide) rfl (by decide) h ha.1
  have l1 := nxt_le (B := B) hs
  rw [g1, oS]
  by_cases n1 : numB B L (nxt B L s) 0 6 = true
  case neg =>
    rw [if_pos (b01_ff n1), if_neg n1]
    exact ⟨w1, rfl, FC.of f1, t1, c1.2.2.1⟩
  rw [if_neg (b01_nz n1), if_pos n1]
  obtain ⟨w2, g2, f2, t2, c2, v2⟩ := takeNumber_ok (N := N) hN (lo := 0) (n := 64) (x1 := 0) (x2 := 63) hB l1 (by decide) (by decide) rfl (by decide) t1 c1.1
  have l2 := nxt_le (B := B) l1
  rw [g2, oS]
  by_cases n2 : numB B L (nxt B L (nxt B L s)) 0 64 = true
  case neg =>
    rw [if_pos (b01_ff n2), if_neg n2]
    exact ⟨w2, rfl, FC.of (f1.then f2), t2, c2.2.2.1⟩
  rw [if_neg (b01_nz n2), if_pos n2]
  obtain ⟨w3, g3, f3, t3, c3, v3⟩ := takeNumber_ok (N := N) hN (lo := 1) (n := 21) (x1 := 1) (x2 := 20) hB l2 (by decide) (by decide) rfl (by decide) t2 c2.1
  have l3 := nxt_le (B := B) l2
  rw [g3, oS]
  by_cases n3 : numB B L (nxt B L (nxt B L (nxt B L s))) 1 21 = true
  case neg =>
    rw [if_pos (b01_ff n3), if_neg n3]
    exact ⟨w3, rfl, FC.of ((f1.then f2).then f3), t3, c3.2.2.1⟩
  rw [if_neg (b01_nz n3), if_pos n3]
  obtain ⟨w4, g4, f4, t4, c4, v4⟩ := takeNumber_ok (N := N) hN (lo := 0) (n := 4) (x1 := 0) (x2 := 3) hB l3 (by decide) (by decide) rfl (by decide) t3 c3.1
  have l4 := nxt_le (B := B) l3
  rw [g4, oS]
  by_cases n4 : numB B L (nxt B L (nxt B L (nxt B L (nxt B L s)))) 0 4 = true
  case neg =>
    rw [if_pos (b01_ff n4), if_neg n4]
    exact ⟨w4, rfl, FC.of (((f1.then f2).then f3).then f4), t4, c4.2.2.1⟩
  rw [if_neg (b01_nz n4), if_pos n4]
  obtain ⟨w5, g5, f5, t5, c5, v5⟩ := takeNumber_ok (N := N) hN (lo := 0) (n := 13) (x1 := 0) (x2 := 12) hB l4 (by decide) (by decide) rfl (by decide) t4 c4.1
  have l5 := nxt_le (B := B) l4
  rw [g5, oS]
  by_cases n5 : numB B L (nxt B L (nxt B L (nxt B L (nxt B L (nxt B L s))))) 0 13 = true
  case neg =>
    rw [if_pos (b01_ff n5), if_neg n5]
    exact ⟨w5, rfl, FC.of ((((f1.then f2).then f3).then f4).then f5), t5, c5.2.2.1⟩
  rw [if_neg (b01_nz n5), if_pos n5, v1 n1, v2 n2, v3 n3, v4 n4, v5 n5]
  have f15 : Fr [51] w w5 := (((f1.then f2).then f3).then f4).then f5
  have ht5 := ht.fr f15
  obtain ⟨w6, g6, f6, t6, a1, a2, a3⟩ := add_ok (w := w5) (v := 37) ht5.1 hv (by omega) (k := vA B L (nxt B L s)) (c := vA B L (nxt B L (nxt B L s))) (h := vA B L (nxt B L (nxt B L (nxt B L s)))) (o := vA B L (nxt B L (nxt B L (nxt B L (nxt B L s))))) (t := vA B L (nxt B L (nxt B L (nxt B L (nxt B L (nxt B L s))))))
  have x6 : TX w6 B L := t5.fr (by rw [f6.1 51 (by decide)]) (f6.1 52 (by decide))
  obtain ⟨w7, g7, f7, t7, c7⟩ := takeStop_ok (N := N) hN hB l5 x6 (by rw [f6.1 51 (by decide)]; exact c5.1)
  rw [g6, oS, g7, oS, bz_b, bS]
  have told6 : Told w6 (addD d (vA B L (nxt B L s)) (vA B L (nxt B L (nxt B L s))) (vA B L (nxt B L (nxt B L (nxt B L s)))) (vA B L (nxt B L (nxt B L (nxt B L (nxt B L s))))) (vA B L (nxt B L (nxt B L (nxt B L (nxt B L (nxt B L s))))))) := ⟨t6, by rw [a2]; exact ht5.2.1, by rw [a3]; exact ht5.2.2.1, a1⟩
  exact ⟨w7, rfl, ((FC.of f15).then (f6.up (by decide))).then (FC.of f7), t7, c7, told6.fr f7⟩
theorem takeOut_ok {N : Nat} (hN : 1000 ≤ N) {B : Nat → Nat} {L s : Nat} (hB : TB B L) (hs : s ≤ L) {w : Mm} {d : VD} (hv : VOK d) (h : TX w B L) (ha : AT w B L s) (ht : Told w d) : CO B L w (fX5_takeOut N w) (pOut B L d (nxt B L s) (nxt B L (nxt B L s))) := by
  have hn := hv.2.1
  have hS := li31 hv
  unfold fX5_takeOut pOut
  rw [ht.1.2.1]
  obtain ⟨w1, g1, f1, t1, c1, v1⟩ := takeNumber_ok (N := N) hN (lo := 0) (n := nn d) (x1 := 0) (x2 := nI (nn d) - 1) hB hs (by decide) (by omega) rfl rfl h ha.1
  have l1 := nxt_le (B := B) hs
  rw [g1, oS]
  by_cases n1 : numB B L (nxt B L s) 0 (nn d) = true
  case neg =>
    rw [if_pos (b01_ff n1), if_neg n1]
    exact ⟨w1, rfl, FC.of f1, t1, c1.2.2.1⟩
  have hlt := (numB_lt n1).2
  have ht1 := ht.fr f1
  have h2v : (2 : Nat) ^ vA B L (nxt B L s) < 2 ^ 7 := Nat.pow_lt_pow_right (by decide) (by omega)
  rw [if_neg (b01_nz n1), if_pos n1, v1 n1, bS, ht1.1.2.2.1, nI_shl (by omega), nI_ldf (by omega) (by omega)]
  have f2 : Fr [37] w1 (sI w1 37 2 (nI (ldf (li d) (2 ^ vA B L (nxt B L s))))) := Fr.sI (by decide)
  have fi : ∀ i, i ≠ 2 → (sI w1 37 2 (nI (ldf (li d) (2 ^ vA B L (nxt B L s))))).1 37 i = w1.1 37 i := fun i hi => by rw [sI_1, if_neg (fun z => hi z.2)]
  have told2 : Told (sI w1 37 2 (nI (ldf (li d) (2 ^ vA B L (nxt B L s))))) (outD d (vA B L (nxt B L s))) := by
    obtain ⟨⟨p1, p2, p3, p4⟩, p5, p6, p7⟩ := ht1
    refine ⟨⟨by rw [fi 0 (by decide)]; exact p1, by rw [fi 1 (by decide)]; exact p2, by rw [sI_1, if_pos ⟨rfl, rfl⟩]; rfl, fun k hk => ?_⟩, by rw [fi 8 (by decide)]; exact p5, by rw [fi 10 (by decide)]; exact p6, by rw [fi 14 (by decide)]; exact p7⟩
    rw [f2.1 (37 + 1) (by decide), f2.1 (37 + 2) (by decide), f2.1 (37 + 3) (by decide), f2.1 (37 + 4) (by decide), f2.1 (37 + 5) (by decide)]
    exact p4 k hk
  obtain ⟨w7, g7, f7, t7, c7⟩ := takeStop_ok (N := N) hN hB l1 (t1.fr (by rw [f2.1 51 (by decide)]) (f2.1 52 (by decide))) (by rw [f2.1 51 (by decide)]; exact c1.1)
  rw [g7, oS, bz_b, bS]
  exact ⟨w7, rfl, ((FC.of f1).then (f2.up (by decide))).then (FC.of f7), t7, c7, told2.fr f7⟩
theorem takeFog_ok {N : Nat} (hN : 1000 ≤ N) {B : Nat → Nat} {L s : Nat} (hB : TB B L) (hs : s ≤ L) {w : Mm} (h : TX w B L) (ha : AT w B L s) (ht : Told w (frD 0)) : CO B L w (fX5_takeFog N w) (pFog B L (nxt B L s) (nxt B L (nxt B L s))) := by
  unfold fX5_takeFog pFog
  obtain ⟨w1, g1, f1, t1, c1, v1⟩ := takeNumber_ok (N := N) hN (lo := 0) (n := 10) (x1 := 0) (x2 := 9) hB hs (by decide) (by decide) rfl (by decide) h ha.1
  have l1 := nxt_le (B := B) hs
  rw [g1, oS]
  by_cases n1 : numB B L (nxt B L s) 0 10 = true
  case neg =>
    rw [if_pos (b01_ff n1), if_neg n1]
    exact ⟨w1, rfl, FC.of f1, t1, c1.2.2.1⟩
  have ht1 := ht.fr f1
  rw [if_neg (b01_nz n1), if_pos n1, v1 n1, bS]
  have f2 : Fr [37] w1 (sI w1 37 0 (nI (vA B L (nxt B L s)))) := Fr.sI (by decide)
  have fi : ∀ i, i ≠ 0 → (sI w1 37 0 (nI (vA B L (nxt B L s)))).1 37 i = w1.1 37 i := fun i hi => by rw [sI_1, if_neg (fun z => hi z.2)]
  have told2 : Told (sI w1 37 0 (nI (vA B L (nxt B L s)))) (frD (vA B L (nxt B L s))) := by
    obtain ⟨⟨p1, p2, p3, p4⟩, p5, p6, p7⟩ := ht1
    refine ⟨⟨by rw [sI_1, if_pos ⟨rfl, rfl⟩]; rfl, by rw [fi 1 (by decide)]; exact p2, by rw [fi 2 (by decide)]; exact p3, fun k hk => absurd hk (by show ¬ k < 0; omega)⟩, by rw [fi 8 (by decide)]; exact p5, by rw [fi 10 (by decide)]; exact p6, by rw [fi 14 (by decide)]; exact p7⟩
  obtain ⟨w7, g7, f7, t7, c7⟩ := takeStop_ok (N := N) hN hB l1 (t1.fr (by rw [f2.1 51 (by decide)]) (f2.1 52 (by decide))) (by rw [f2.1 51 (by decide)]; exact c1.1)
  rw [g7, oS, bz_b, bS]
  exact ⟨w7, rfl, ((FC.of f1).then (f2.up (by decide))).then (FC.of f7), t7, c7, told2.fr f7⟩
/-- a result handed on as it is -/
theorem CO.bz {B : Nat → Nat} {L : Nat} {w : Mm} {res : Option (Int32 × Mm)} {o : PR} (h : CO B L w res o) : CO B L w (ob2 res fun a m => Option.bind (bz a) fun b => some (b, m)) o := by
  cases o with
  | inl e =>
    obtain ⟨w', g1, g2⟩ := h
    refine ⟨w', ?_, g2⟩
    rw [g1, oS]
    rfl
  | inr q =>
    obtain ⟨w', g1, g2⟩ := h
    refine ⟨w', ?_, g2⟩
    rw [g1, oS, bz_b, bS]
theorem CO.ite {B : Nat → Nat} {L : Nat} {w : Mm} {res : Option (Int32 × Mm)} {o : PR} (h : CO B L w res o) : CO B L w (ob2 res fun a m => if a = (0 : Int32) then some ((0 : Int32), m) else some ((1 : Int32), m)) o := by
  cases o with
  | inl e =>
    obtain ⟨w', g1, g2⟩ := h
    refine ⟨w', ?_, g2⟩
    rw [g1, oS, if_pos rfl]
  | inr q =>
    obtain ⟨w', g1, g2⟩ := h
    refine ⟨w', ?_, g2⟩
    rw [g1, oS]
    cases decide (kK B L q.2 = 3)
    · rw [if_pos (show b01 false = 0 from rfl)]; rfl
    · rw [if_neg (show ¬ b01 true = 0 by decide)]; rfl
theorem takeItem_ok {N : Nat} (hN : 1000 ≤ N) {B : Nat → Nat} {L s : Nat} (hB : TB B L) (hs : s ≤ L) {w : Mm} {d : VD} (hv : VOK d) (h : TX w B L) (ha : AT w B L s) (ht : Told w d) : CO B L w (fX5_takeItem N w 0) (pItem B L d s) := by
  have hk := kK_le B L s
  unfold fX5_takeItem fX5_takeItem_L70 pItem
  rw [ha.2.1]
  by_cases q1 : kK B L s = 1
  · rw [if_pos (show nI (kK B L s) = 1 by rw [q1]; rfl), if_pos q1, if_pos rfl, spells_ok hN hB (by decide) hs h ha, bS, spells_ok hN hB (by decide) hs h ha, bS]
    by_cases q2 : cal B L s 1 = true
    · rw [if_neg (b01_nz q2), if_pos q2]
      exact (takeCandle_ok hN hB hs hv h ha ht).bz
    · rw [if_pos (b01_ff q2), if_neg q2]
      by_cases q3 : cal B L s 2 = true
      · rw [if_neg (b01_nz q3), if_pos q3]
        exact (takeOut_ok hN hB hs hv h ha ht).ite
      · rw [if_pos (b01_ff q3), if_neg q3]
        exact ⟨w, rfl, Fr.rf, h, ha.2.2.1⟩
  · rw [if_neg (show ¬ nI (kK B L s) = 1 from fun z => q1 ((nI_eq (b := 1) (by omega) (by decide)).mp z)), if_neg q1]
    exact ⟨w, rfl, Fr.rf, h, ha.2.2.1⟩
theorem takeFirst_ok {N : Nat} (hN : 1000 ≤ N) {B : Nat → Nat} {L s : Nat} (hB : TB B L) (hs : s ≤ L) {w : Mm} (h : TX w B L) (ha : AT w B L s) (ht : Told w (frD 0)) : CO B L w (fX5_takeItem N w 1) (pFst B L s) := by
  have hk := kK_le B L s
  unfold fX5_takeItem fX5_takeItem_L34 pFst
  rw [ha.2.1]
  by_cases q1 : kK B L s = 1
  · rw [if_pos (show nI (kK B L s) = 1 by rw [q1]; rfl), if_pos q1, if_neg (by decide), spells_ok hN hB (i := 0) (by decide) hs h ha, bS]
    by_cases q2 : cal B L s 0 = true
    · rw [if_neg (b01_nz q2), if_pos q2]
      exact (takeFog_ok hN hB hs h ha ht).ite
    · rw [if_pos (b01_ff q2), if_neg q2]
      exact ⟨w, rfl, Fr.rf, h, ha.2.2.1⟩
  · rw [if_neg (show ¬ nI (kK B L s) = 1 from fun z => q1 ((nI_eq (b := 1) (by omega) (by decide)).mp z)), if_neg q1]
    exact ⟨w, rfl, Fr.rf, h, ha.2.2.1⟩
/-! the reference's -/
def Anew (w : Mm) (d : VD) : Prop := MVa (w.1 90) d ∧ w.1 90 3 = 0 ∧ w.1 90 4 = 0 ∧ w.1 90 5 = 0
theorem Anew.fr {w w' : Mm} {d : VD} (h : Anew w d) (hf : w'.1 90 = w.1 90) : Anew w' d := by
  unfold Anew
  rw [hf]
  exact h
def MO (B : Nat → Nat) (L : Nat) (w : Mm) (res : Option (Int32 × Mm)) (o : PR) : Prop := match o with
  | .inl e => ∃ w', res = some (0, w') ∧ FM w w' ∧ w'.1 77 17 = nI e
  | .inr q => ∃ w', res = some (1, w') ∧ FM w w' ∧ MT w' B L q.2 ∧ Anew w' q.1
theorem FM.of {w w' : Mm} {l : List Nat} (h : Fr l w w') (hl : ∀ o ∈ l, o ∈ [77, 90, 91]) (hi : ∀ i, i < 17 → w'.1 77 i = w.1 77 i) : FM w w' := ⟨h.up hl, hi⟩
theorem takesCandle_ok {N : Nat} (hN : 1000 ≤ N) {B : Nat → Nat} {L s : Nat} (hB : TB B L) (hs : s ≤ L) {w : Mm} {d : VD} (hv : VOK d) (h : TM w B L) (ha : MT w B L s) (ht : Anew w d) : MO B L w (fX12_takesCandle N w) (pCand B L d s (nxt B L s) (nxt B L (nxt B L s)) (nxt B L (nxt B L (nxt B L s))) (nxt B L (nxt B L (nxt B L (nxt B L s)))) (nxt B L (nxt B L (nxt B L (nxt B L (nxt B L s))))) (nxt B L (nxt B L (nxt B L (nxt B L (nxt B L (nxt B L s))))))) := by
  have hn := hv.2.1
  unfold fX12_takesCandle pCand
  rw [ht.1.1]
  by_cases q7 : nn d = 7
  · rw [if_pos (show nI (nn d) = 7 by rw [q7]; rfl), if_pos q7]
    exact ⟨w, rfl, FM.rf, ha.1⟩
  rw [if_neg (show ¬ nI (nn d) = 7 from fun z => q7 ((nI_eq (b := 7) (by omega) (by decide)).mp z)), if_neg q7]
  obtain ⟨w0, g0, f0, i0, c0⟩ := behind_ok (N := N) hN hB hs h ha
  have m0 : FM w w0 := FM.of f0 (by decide) i0
  have t0 := h.fm m0
  have l1 := nxt_le (B := B) hs
  rw [g0, bS]
  by_cases n1 : numB B L (nxt B L s) 0 6 = true
  case neg =>
    rw [show fX12_takes N w0 0 0 5 = _ from takes_no (k := 0) hB l1 (lo := 0) (n := 6) (by decide) (by decide) rfl (by decide) c0 n1, oS, if_pos rfl, if_neg n1]
    exact ⟨w0, rfl, m0, c0.1⟩
  obtain ⟨w1, g1, f1, i1, c1, v1, u1⟩ := takes_yes (N := N) (k := 0) hN hB l1 (lo := 0) (n := 6) (x1 := 0) (x2 := 5) (by decide) (by decide) (by decide) rfl (by decide) t0 c0 n1
  have m1 := m0.then (FM.of f1 (by decide) i1)
  have t1 := h.fm m1
  have l2 := nxt_le (B := B) l1
  rw [show fX12_takes N w0 0 0 5 = _ from g1, oS, if_neg (by decide), if_pos n1]
  by_cases n2 : numB B L (nxt B L (nxt B L s)) 0 64 = true
  case neg =>
    rw [show fX12_takes N w1 1 0 63 = _ from takes_no (k := 1) hB l2 (lo := 0) (n := 64) (by decide) (by decide) rfl (by decide) c1 n2, oS, if_pos rfl, if_neg n2]
    exact ⟨w1, rfl, m1, c1.1⟩
  obtain ⟨w2, g2, f2, i2, c2, v2, u2⟩ := takes_yes (N := N) (k := 1) hN hB l2 (lo := 0) (n := 64) (x1 := 0) (x2 := 63) (by decide) (by decide) (by decide) rfl (by decide) t1 c1 n2
  have m2 := m1.then (FM.of f2 (by decide) i2)
  have t2 := h.fm m2
  have l3 := nxt_le (B := B) l2
  rw [show fX12_takes N w1 1 0 63 = _ from g2, oS, if_neg (by decide), if_pos n2]
  by_cases n3 : numB B L (nxt B L (nxt B L (nxt B L s))) 1 21 = true
  case neg =>
    rw [show fX12_takes N w2 2 1 20 = _ from takes_no (k := 2) hB l3 (lo := 1) (n := 21) (by decide) (by decide) rfl (by decide) c2 n3, oS, if_pos rfl, if_neg n3]
    exact ⟨w2, rfl, m2, c2.1⟩
  obtain ⟨w3, g3, f3, i3, c3, v3, u3⟩ := takes_yes (N := N) (k := 2) hN hB l3 (lo := 1) (n := 21) (x1 := 1) (x2 := 20) (by decide) (by decide) (by decide) rfl (by decide) t2 c2 n3
  have m3 := m2.then (FM.of f3 (by decide) i3)
  have t3 := h.fm m3
  have l4 := nxt_le (B := B) l3
  rw [show fX12_takes N w2 2 1 20 = _ from g3, oS, if_neg (by decide), if_pos n3]
  by_cases n4 : numB B L (nxt B L (nxt B L (nxt B L (nxt B L s)))) 0 4 = true
  case neg =>
    rw [show fX12_takes N w3 3 0 3 = _ from takes_no (k := 3) hB l4 (lo := 0) (n := 4) (by decide) (by decide) rfl (by decide) c3 n4, oS, if_pos rfl, if_neg n4]
    exact ⟨w3, rfl, m3, c3.1⟩
  obtain ⟨w4, g4, f4, i4, c4, v4, u4⟩ := takes_yes (N := N) (k := 3) hN hB l4 (lo := 0) (n := 4) (x1 := 0) (x2 := 3) (by decide) (by decide) (by decide) rfl (by decide) t3 c3 n4
  have m4 := m3.then (FM.of f4 (by decide) i4)
  have t4 := h.fm m4
  have l5 := nxt_le (B := B) l4
  rw [show fX12_takes N w3 3 0 3 = _ from g4, oS, if_neg (by decide), if_pos n4]
  by_cases n5 : numB B L (nxt B L (nxt B L (nxt B L (nxt B L (nxt B L s))))) 0 13 = true
  case neg =>
    rw [show fX12_takes N w4 4 0 12 = _ from takes_no (k := 4) hB l5 (lo := 0) (n := 13) (by decide) (by decide) rfl (by decide) c4 n5, oS, if_pos rfl, if_neg n5]
    exact ⟨w4, rfl, m4, c4.1⟩
  obtain ⟨w5, g5, f5, i5, c5, v5, u5⟩ := takes_yes (N := N) (k := 4) hN hB l5 (lo := 0) (n := 13) (x1 := 0) (x2 := 12) (by decide) (by decide) (by decide) rfl (by decide) t4 c4 n5
  have m5 := m4.then (FM.of f5 (by decide) i5)
  rw [show fX12_takes N w4 4 0 12 = _ from g5, oS, if_neg (by decide), if_pos n5]
  have e4 : w5.1 91 4 = nI (vA B L (nxt B L (nxt B L (nxt B L (nxt B L (nxt B L s)))))) := v5
  have e3 : w5.1 91 3 = nI (vA B L (nxt B L (nxt B L (nxt B L (nxt B L s))))) := by rw [u5 3 (by decide)]; exact v4
  have e2 : w5.1 91 2 = nI (vA B L (nxt B L (nxt B L (nxt B L s)))) := by rw [u5 2 (by decide), u4 2 (by decide)]; exact v3
  have e1 : w5.1 91 1 = nI (vA B L (nxt B L (nxt B L s))) := by rw [u5 1 (by decide), u4 1 (by decide), u3 1 (by decide)]; exact v2
  have e0 : w5.1 91 0 = nI (vA B L (nxt B L s)) := by rw [u5 0 (by decide), u4 0 (by decide), u3 0 (by decide), u2 0 (by decide)]; exact v1
  have e90 : w5.1 90 = w.1 90 := by rw [f5.1 90 (by decide), f4.1 90 (by decide), f3.1 90 (by decide), f2.1 90 (by decide), f1.1 90 (by decide), f0.1 90 (by decide)]
  have ht5 := ht.fr e90
  rw [e0, e1, e2, e3, e4]
  obtain ⟨w6, g6, f6, t6, a1⟩ := layCandle_ok (w := w5) (a := 90) (n := 65) (by decide) (by decide) ht5.1 hv (by omega) (k := vA B L (nxt B L s)) (c := vA B L (nxt B L (nxt B L s))) (h := vA B L (nxt B L (nxt B L (nxt B L s)))) (o := vA B L (nxt B L (nxt B L (nxt B L (nxt B L s))))) (t := vA B L (nxt B L (nxt B L (nxt B L (nxt B L (nxt B L s))))))
  rw [g6, bS]
  refine ⟨w6, rfl, m5.then (FM.of f6 (by decide) (fun i _ => by rw [f6.1 77 (by decide)])), ?_, t6, ?_, ?_, ?_⟩
  · unfold MT
    rw [f6.1 77 (by decide)]
    exact c5
  · rw [a1 3 (by decide)]; exact ht5.2.1
  · rw [a1 4 (by decide)]; exact ht5.2.2.1
  · rw [a1 5 (by decide)]; exact ht5.2.2.2
theorem takesOut_ok {N : Nat} (hN : 1000 ≤ N) {B : Nat → Nat} {L s : Nat} (hB : TB B L) (hs : s ≤ L) {w : Mm} {d : VD} (hv : VOK d) (h : TM w B L) (ha : MT w B L s) (ht : Anew w d) : MO B L w (fX12_takesOut N w) (pOut B L d (nxt B L s) (nxt B L (nxt B L s))) := by
  have hn := hv.2.1
  have hS := li31 hv
  unfold fX12_takesOut pOut
  obtain ⟨w0, g0, f0, i0, c0⟩ := behind_ok (N := N) hN hB hs h ha
  have m0 : FM w w0 := FM.of f0 (by decide) i0
  have t0 := h.fm m0
  have l1 := nxt_le (B := B) hs
  have ht0 := ht.fr (f0.1 90 (by decide))
  rw [g0, bS, ht0.1.1]
  by_cases n1 : numB B L (nxt B L s) 0 (nn d) = true
  case neg =>
    rw [show fX12_takes N w0 0 0 (nI (nn d) - 1) = _ from takes_no (k := 0) hB l1 (lo := 0) (n := nn d) (by decide) (by omega) rfl rfl c0 n1, oS, if_pos rfl, if_neg n1]
    exact ⟨w0, rfl, m0, c0.1⟩
  obtain ⟨w1, g1, f1, i1, c1, v1, u1⟩ := takes_yes (N := N) (k := 0) hN hB l1 (lo := 0) (n := nn d) (x1 := 0) (x2 := nI (nn d) - 1) (by decide) (by decide) (by omega) rfl rfl t0 c0 n1
  have m1 := m0.then (FM.of f1 (by decide) i1)
  have hlt := (numB_lt n1).2
  have h2v : (2 : Nat) ^ vA B L (nxt B L s) < 2 ^ 7 := Nat.pow_lt_pow_right (by decide) (by omega)
  have ht1 := ht0.fr (f1.1 90 (by decide))
  rw [show fX12_takes N w0 0 0 (nI (nn d) - 1) = _ from g1, oS, if_neg (by decide), if_pos n1, v1, ht1.1.2.2.1, nI_shl (by omega), nI_ldf (by omega) (by omega), bS]
  have f2 : Fr [90] w1 (sI w1 90 2 (nI (ldf (li d) (2 ^ vA B L (nxt B L s))))) := Fr.sI (by decide)
  have fi : ∀ i, i ≠ 2 → (sI w1 90 2 (nI (ldf (li d) (2 ^ vA B L (nxt B L s))))).1 90 i = w1.1 90 i := fun i hi => by rw [sI_1, if_neg (fun z => hi z.2)]
  refine ⟨_, rfl, m1.then (FM.of f2 (by decide) (fun i _ => by rw [f2.1 77 (by decide)])), ?_, ⟨?_, ?_, ?_, fun k hk => ?_⟩, ?_, ?_, ?_⟩
  · unfold MT
    rw [f2.1 77 (by decide)]
    exact c1
  · rw [fi 0 (by decide)]; exact ht1.1.1
  · rw [fi 1 (by decide)]; exact ht1.1.2.1
  · rw [sI_1, if_pos ⟨rfl, rfl⟩]; rfl
  · rw [fi _ (by omega), fi _ (by omega), fi _ (by omega), fi _ (by omega), fi _ (by omega)]
    exact ht1.1.2.2.2 k hk
  · rw [fi 3 (by decide)]; exact ht1.2.1
  · rw [fi 4 (by decide)]; exact ht1.2.2.1
  · rw [fi 5 (by decide)]; exact ht1.2.2.2
theorem takesItem_ok {N : Nat} (hN : 1000 ≤ N) {B : Nat → Nat} {L s : Nat} (hB : TB B L) (hs : s ≤ L) {w : Mm} {d : VD} (hv : VOK d) (h : TM w B L) (ha : MT w B L s) (ht : Anew w d) : MO B L w (fX12_takesItem N w) (pItem B L d s) := by
  unfold fX12_takesItem fX12_takesItem_L54 pItem
  rw [show fX12_isCalled N w 6 99 97 110 100 108 101 = _ from called_ok (i := 1) hN hB (by decide) hs h ha, bS, show fX12_isCalled N w 3 111 117 116 0 0 0 = _ from called_ok (i := 2) hN hB (by decide) hs h ha, bS]
  by_cases q1 : kK B L s = 1
  · rw [decide_eq_true q1, Bool.true_and, Bool.true_and, if_pos q1]
    by_cases q2 : cal B L s 1 = true
    · rw [if_neg (b01_nz q2), if_pos q2]
      have hc := takesCandle_ok hN hB hs hv h ha ht
      generalize pCand B L d s _ _ _ _ _ _ = o at hc ⊢
      cases o with
      | inl e => obtain ⟨w', g1, g2⟩ := hc; exact ⟨w', by rw [g1, oS]; rfl, g2⟩
      | inr q => obtain ⟨w', g1, g2⟩ := hc; exact ⟨w', by rw [g1, oS]; rfl, g2⟩
    · rw [if_pos (b01_ff q2), if_neg q2]
      by_cases q3 : cal B L s 2 = true
      · rw [if_neg (b01_nz q3), if_pos q3]
        have hc := takesOut_ok hN hB hs hv h ha ht
        generalize pOut B L d _ _ = o at hc ⊢
        cases o with
        | inl e => obtain ⟨w', g1, g2⟩ := hc; exact ⟨w', by rw [g1, oS]; rfl, g2⟩
        | inr q => obtain ⟨w', g1, g2⟩ := hc; exact ⟨w', by rw [g1, oS]; rfl, g2⟩
      · rw [if_pos (b01_ff q3), if_neg q3]
        exact ⟨w, rfl, FM.rf, ha.1⟩
  · rw [decide_eq_false q1, Bool.false_and, Bool.false_and, if_pos b01_0, if_pos b01_0, if_neg q1]
    exact ⟨w, rfl, FM.rf, ha.1⟩
/-- the first item, with its end -/
def MF (B : Nat → Nat) (L : Nat) (w : Mm) (res : Option (Int32 × Mm)) (o : PR) : Prop := match o with
  | .inl e => ∃ w', res = some (0, w') ∧ FM w w' ∧ w'.1 77 17 = nI e
  | .inr q => ∃ w', res = some (b01 (decide (kK B L q.2 = 3)), w') ∧ FM w w' ∧ MT w' B L q.2 ∧ Anew w' q.1
theorem takesFirst_ok {N : Nat} (hN : 1000 ≤ N) {B : Nat → Nat} {L s : Nat} (hB : TB B L) (hs : s ≤ L) {w : Mm} (h : TM w B L) (ha : MT w B L s) : MF B L w (fX12_takesFirst N w) (pFst B L s) := by
  unfold fX12_takesFirst pFst
  rw [show fX12_isCalled N w 6 118 97 108 108 101 121 = _ from called_ok (i := 0) hN hB (by decide) hs h ha, bS]
  by_cases q1 : kK B L s = 1
  case neg =>
    rw [decide_eq_false q1, Bool.false_and, if_pos b01_0, if_neg q1]
    exact ⟨w, rfl, FM.rf, ha.1⟩
  rw [decide_eq_true q1, Bool.true_and, if_pos q1]
  by_cases q2 : cal B L s 0 = true
  case neg =>
    rw [if_pos (b01_ff q2), if_neg q2]
    exact ⟨w, rfl, FM.rf, ha.1⟩
  rw [if_neg (b01_nz q2), if_pos q2]
  unfold pFog
  obtain ⟨w0, g0, f0, i0, c0⟩ := behind_ok (N := N) hN hB hs h ha
  have m0 : FM w w0 := FM.of f0 (by decide) i0
  have t0 := h.fm m0
  have l1 := nxt_le (B := B) hs
  rw [g0, bS]
  by_cases n1 : numB B L (nxt B L s) 0 10 = true
  case neg =>
    rw [show fX12_takes N w0 0 0 9 = _ from takes_no (k := 0) hB l1 (lo := 0) (n := 10) (by decide) (by decide) rfl (by decide) c0 n1, oS, if_pos rfl, if_neg n1]
    exact ⟨w0, rfl, m0, c0.1⟩
  obtain ⟨w1, g1, f1, i1, c1, v1, u1⟩ := takes_yes (N := N) (k := 0) hN hB l1 (lo := 0) (n := 10) (x1 := 0) (x2 := 9) (by decide) (by decide) (by decide) rfl (by decide) t0 c0 n1
  have m1 := m0.then (FM.of f1 (by decide) i1)
  rw [show fX12_takes N w0 0 0 9 = _ from g1, oS, if_neg (by decide), if_pos n1, v1]
  obtain ⟨w2, g2, f2, a2, b2⟩ := begin_n (N := N) (a := 90) (n := 65) (by decide) (by decide) (f := nI (vA B L (nxt B L s))) 65 N 0 w1 rfl (by omega) (fun j hj => absurd hj (by omega))
  have c2 : MT w2 B L (nxt B L (nxt B L s)) := by
    unfold MT
    rw [f2.1 77 (by decide)]
    exact c1
  rw [show fX12_begin N 90 65 w1 (nI (vA B L (nxt B L s))) = some w2 from g2, bS]
  have fv := fresh_mv (q := w2.1 90) (f := vA B L (nxt B L s)) a2
  refine ⟨w2, ?_, m1.then (FM.of f2 (by decide) (fun i _ => by rw [f2.1 77 (by decide)])), c2, fv.1, ?_, ?_, ?_⟩
  · show (if w2.1 77 19 = 3 then some (1, w2) else some (0, w2)) = some (b01 (decide (kK B L (nxt B L (nxt B L s)) = 3)), w2)
    by_cases q : kK B L (nxt B L (nxt B L s)) = 3
    · rw [if_pos (show w2.1 77 19 = 3 from (c2.k (t := 3) (by decide) (by decide)).mpr q), decide_eq_true q]; rfl
    · rw [if_neg (show ¬ w2.1 77 19 = 3 from fun z => q ((c2.k (t := 3) (by decide) (by decide)).mp z)), decide_eq_false q]; rfl
  · rw [a2 3 (by decide)]; rfl
  · rw [a2 4 (by decide)]; rfl
  · rw [a2 5 (by decide)]; rfl

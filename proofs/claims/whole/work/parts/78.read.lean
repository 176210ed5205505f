/-! ===== read ===== -/
def pLoop (B : Nat → Nat) (L : Nat) : Nat → Nat → VD → Nat → Nat ⊕ (Nat × VD)
  | 0, _, _, _ => .inl 0
  | r + 1, it, d, s => if kK B L s = 0 then .inr (it, d) else match pItem B L d s with
    | .inl e => .inl e
    | .inr q => if kK B L q.2 = 3 then pLoop B L r (it + 1) q.1 (nxt B L q.2) else .inl q.2
def pRead (B : Nat → Nat) (L : Nat) : Nat ⊕ (Nat × VD) := match pFst B L (tS B L 0) with
  | .inl e => .inl e
  | .inr q => if kK B L q.2 = 3 then pLoop B L 152 1 q.1 (nxt B L q.2) else .inl q.2
theorem pItem_el {B : Nat → Nat} {L : Nat} {d : VD} {s e : Nat} (hs : s ≤ L) (h : pItem B L d s = .inl e) : e ≤ L := by
  have b1 := nxt_le (B := B) hs
  have b2 := nxt_le (B := B) b1
  have b3 := nxt_le (B := B) b2
  have b4 := nxt_le (B := B) b3
  have b5 := nxt_le (B := B) b4
  unfold pItem at h
  generalize nxt B L (nxt B L (nxt B L (nxt B L (nxt B L (nxt B L s))))) = s6 at *
  generalize nxt B L (nxt B L (nxt B L (nxt B L (nxt B L s)))) = s5 at *
  generalize nxt B L (nxt B L (nxt B L (nxt B L s))) = s4 at *
  generalize nxt B L (nxt B L (nxt B L s)) = s3 at *
  generalize nxt B L (nxt B L s) = s2 at *
  generalize nxt B L s = s1 at *
  unfold pCand pOut at h
  repeat' (split at h)
  all_goals first
    | (have e1 := Sum.inl.inj h; omega)
    | exact absurd h (by simp)
theorem pFst_el {B : Nat → Nat} {L : Nat} {s e : Nat} (hs : s ≤ L) (h : pFst B L s = .inl e) : e ≤ L := by
  have b1 := nxt_le (B := B) hs
  unfold pFst pFog at h
  generalize nxt B L (nxt B L s) = s2 at *
  generalize nxt B L s = s1 at *
  repeat' (split at h)
  all_goals first
    | (have e1 := Sum.inl.inj h; omega)
    | exact absurd h (by simp)
def CR (B : Nat → Nat) (L : Nat) (w : Mm) (res : Option (Int32 × Mm)) (o : Nat ⊕ (Nat × VD)) : Prop := match o with
  | .inl e => ∃ w', res = some (-10 - nI e, w') ∧ FC w w' ∧ TX w' B L ∧ e ≤ 150
  | .inr q => ∃ w', res = some (nI q.1, w') ∧ FC w w' ∧ TX w' B L ∧ Told w' q.2 ∧ VOK q.2 ∧ q.1 < 1000
theorem CR.up {B : Nat → Nat} {L : Nat} {w w1 : Mm} {res : Option (Int32 × Mm)} {o : Nat ⊕ (Nat × VD)} (hf : FC w w1) (h : CR B L w1 res o) : CR B L w res o := by
  cases o with
  | inl e => obtain ⟨w', g1, g2, g3⟩ := h; exact ⟨w', g1, Fr.then hf g2, g3⟩
  | inr q => obtain ⟨w', g1, g2, g3⟩ := h; exact ⟨w', g1, Fr.then hf g2, g3⟩
theorem kK_lt {B : Nat → Nat} {L s : Nat} (h : kK B L s ≠ 0) : s < L := by
  by_cases q : s < L
  · exact q
  · exact absurd (kK_0.mpr (by omega)) h
theorem parse_n {N : Nat} (hN : 1000 ≤ N) {B : Nat → Nat} {L : Nat} (hB : TB B L) : ∀ (r n0 it p : Nat) (d : VD) (w : Mm), L - p < r → r < n0 → 1 ≤ it → it ≤ p → p ≤ L → VOK d → TX w B L → w.1 51 3 = nI p → Told w d → CR B L w (fX5_parse_L15 N n0 w (nI it)) (pLoop B L r it d (tS B L p)) := by
  intro r
  have hL := hB.1
  induction r with
  | zero => intro n0 it p d w h1; omega
  | succ r ih =>
    intro n0 it p d w h1 h2 h3 h4 h5 hv ht h51 hd
    obtain ⟨n1, rfl⟩ : ∃ n1, n0 = n1 + 1 := ⟨n0 - 1, by omega⟩
    obtain ⟨w1, g1, f1, t1, c1⟩ := advance_ok (N := N) hN hB h5 ht h51
    have hps := tS_ge B L p
    have hs := tS_le (B := B) h5
    have hk4 := kK_le B L (tS B L p)
    rw [fX5_parse_L15, if_neg (show ¬ (150 : Int32) < nI it from nI_nlt (a := 150) (by omega) (by decide)), g1, bS, c1.2.1, pLoop]
    generalize tS B L p = s at *
    by_cases k0 : kK B L s = 0
    · rw [if_pos (show nI (kK B L s) = 0 by rw [k0]; rfl), if_neg (nI_nle (by omega) (by omega)), if_pos k0]
      exact ⟨w1, rfl, FC.of f1, t1, hd.fr f1, hv, by show it < 1000; omega⟩
    · rw [if_neg (show ¬ nI (kK B L s) = 0 from fun z => k0 ((nI_eq (b := 0) (by omega) (by decide)).mp z)), if_neg k0]
      unfold fX5_parse_L39 fX5_parse_L49
      rw [if_neg (nI_ne0 (by omega) (by omega))]
      have hc := takeItem_ok (N := N) hN hB hs hv t1 c1 (hd.fr f1)
      cases hq : pItem B L d s with
      | inl e =>
        rw [hq] at hc
        obtain ⟨w2, g2, f2, t2, e2⟩ := hc
        have he := pItem_el hs hq
        rw [g2, oS, if_pos rfl, e2]
        exact ⟨w2, rfl, Fr.then (FC.of f1) f2, t2, by omega⟩
      | inr q =>
        rw [hq] at hc
        obtain ⟨w2, g2, f2, t2, c2, o2⟩ := hc
        obtain ⟨hv2, hq1, hq2⟩ := pItem_ok hv hs hq
        rw [g2, oS, nI_1]
        dsimp only
        by_cases k3 : kK B L q.2 = 3
        · rw [if_neg (b01_nz (decide_eq_true k3)), if_pos k3]
          have hlt := kK_lt (show kK B L q.2 ≠ 0 by omega)
          have hgt := kE_gt (B := B) hlt
          exact CR.up (Fr.then (FC.of f1) f2) (ih n1 (it + 1) (kE B L q.2) q.1 w2 (by omega) (by omega) (by omega) (by omega) (kE_le hq2) hv2 t2 c2.1 o2)
        · rw [if_pos (b01_ff (fun z => k3 (of_decide_eq_true z))), if_neg k3, c2.2.2.1]
          exact ⟨w2, rfl, Fr.then (FC.of f1) f2, t2, by omega⟩
theorem parse_ok {N : Nat} (hN : 1000 ≤ N) {B : Nat → Nat} {L : Nat} (hB : TB B L) {w : Mm} (h : TX w B L) : CR B L w (fX5_parse N w) (pRead B L) := by
  have hL := hB.1
  unfold fX5_parse pRead
  rw [bS, bS]
  have f0 : FC w (fX8_startAnew 37 (sI w 51 3 0) 0) := by
    refine ⟨fun o ho => ?_, rfl⟩
    rw [startAnew_o (fun z => ho (by rw [z]; decide)), sI_o _ (fun z => ho (by rw [z]; decide))]
  have e51 : (fX8_startAnew 37 (sI w 51 3 0) 0).1 51 = (sI w 51 3 0).1 51 := startAnew_o (by decide)
  have e52 : (fX8_startAnew 37 (sI w 51 3 0) 0).1 52 = w.1 52 := by rw [startAnew_o (by decide), sI_o _ (by decide)]
  have t0 : TX (fX8_startAnew 37 (sI w 51 3 0) 0) B L := h.fr (by rw [e51, sI_1, if_neg (by decide)]) e52
  have p0 : (fX8_startAnew 37 (sI w 51 3 0) 0).1 51 3 = nI 0 := by rw [e51, sI_1, if_pos ⟨rfl, rfl⟩]; rfl
  have d0 : Told (fX8_startAnew 37 (sI w 51 3 0) 0) (frD 0) := by
    have hc : CV (fX8_startAnew 37 (sI w 51 3 0) (nI 0)) 37 (freshV 0) := startAnew_cv
    exact ⟨hc.1, hc.2.1.1, hc.2.2.1.1, hc.2.2.2.1⟩
  generalize fX8_startAnew 37 (sI w 51 3 0) 0 = m at *
  obtain ⟨w1, g1, f1, t1, c1⟩ := advance_ok (N := N) hN hB (Nat.zero_le _) t0 p0
  have hs := tS_le (B := B) (Nat.zero_le L)
  have hk4 := kK_le B L (tS B L 0)
  obtain ⟨n1, e1⟩ : ∃ n1, N = n1 + 1 := ⟨N - 1, by omega⟩
  have e0 : fX5_parse_L15 N N m 0 = fX5_parse_L49 N (fX5_parse_L15 N n1) w1 0 1 := by
    rw [show fX5_parse_L15 N N m 0 = fX5_parse_L15 N (n1 + 1) m 0 by rw [← e1], fX5_parse_L15, if_neg (by decide), g1, bS]
    unfold fX5_parse_L39
    rw [if_pos (show (0 : Int32) = 0 from rfl), if_pos (show (0 : Int32) ≤ 0 by decide)]
    split <;> rfl
  rw [e0]
  have hc := takeFirst_ok (N := N) hN hB hs t1 c1 (d0.fr f1)
  have f01 : FC w w1 := Fr.then f0 (FC.of f1)
  unfold fX5_parse_L49
  cases hq : pFst B L (tS B L 0) with
  | inl e =>
    rw [hq] at hc
    obtain ⟨w2, g2, f2, t2, e2⟩ := hc
    have he := pFst_el hs hq
    rw [g2, oS, if_pos rfl, e2]
    exact ⟨w2, rfl, Fr.then f01 f2, t2, by omega⟩
  | inr q =>
    rw [hq] at hc
    obtain ⟨w2, g2, f2, t2, c2, o2⟩ := hc
    obtain ⟨hv2, hq1, hq2⟩ := pFst_ok hs hq
    rw [g2, oS]
    dsimp only
    by_cases k3 : kK B L q.2 = 3
    · rw [if_neg (b01_nz (decide_eq_true k3)), if_pos k3]
      have hlt := kK_lt (show kK B L q.2 ≠ 0 by omega)
      have hgt := kE_gt (B := B) hlt
      exact CR.up (Fr.then f01 f2) (parse_n hN hB 152 n1 1 (kE B L q.2) q.1 w2 (by omega) (by omega) (by omega) (by omega) (kE_le hq2) hv2 t2 c2.1 o2)
    · rw [if_pos (b01_ff (fun z => k3 (of_decide_eq_true z))), if_neg k3, c2.2.2.1]
      exact ⟨w2, rfl, Fr.then f01 f2, t2, by omega⟩
/-! the reference's -/
def MRq (B : Nat → Nat) (L : Nat) (w : Mm) (res : Option (Int32 × Mm)) (o : Nat ⊕ (Nat × VD)) : Prop := match o with
  | .inl e => ∃ w', res = some (-10 - nI e, w') ∧ FM w w'
  | .inr q => ∃ w', res = some (nI q.1, w') ∧ Fr [77, 78, 90, 91] w w' ∧ (∀ i, i < 17 → w'.1 77 i = w.1 77 i) ∧ MV (w'.1 78) (toV q.2)
theorem MRq.up {B : Nat → Nat} {L : Nat} {w w1 : Mm} {res : Option (Int32 × Mm)} {o : Nat ⊕ (Nat × VD)} (hf : FM w w1) (h : MRq B L w1 res o) : MRq B L w res o := by
  cases o with
  | inl e => obtain ⟨w', g1, g2⟩ := h; exact ⟨w', g1, hf.then g2⟩
  | inr q => obtain ⟨w', g1, g2, g3, g4⟩ := h; exact ⟨w', g1, (hf.1.up (by decide)).then g2, fun i hi => by rw [g3 i hi, hf.2 i hi], g4⟩
theorem copy_n {N : Nat} {x : Int32} : ∀ (r n0 i : Nat) (w : Mm), i + r = 65 → r < n0 → (∀ k, k < i → w.1 78 k = w.1 90 k) → ∃ w', fX12_read_L68 N n0 w x (nI i) = some (x, w') ∧ Fr [78] w w' ∧ ∀ k, k < 65 → w'.1 78 k = w.1 90 k := by
  intro r
  induction r with
  | zero =>
    intro n0 i w hi hr h
    obtain ⟨n1, rfl⟩ : ∃ n1, n0 = n1 + 1 := ⟨n0 - 1, by omega⟩
    refine ⟨w, ?_, Fr.rf, fun k hk => h k (by omega)⟩
    rw [fX12_read_L68, if_pos (show (65 : Int32) ≤ nI i from nI_le (a := 65) (by omega) (by omega))]
  | succ r ih =>
    intro n0 i w hi hr h
    obtain ⟨n1, rfl⟩ : ∃ n1, n0 = n1 + 1 := ⟨n0 - 1, by omega⟩
    obtain ⟨w', g1, g2, g3⟩ := ih n1 (i + 1) (sI w 78 i (w.1 90 i)) (by omega) (by omega) (fun k hk => by
      rw [sI_o _ (show (90 : Nat) ≠ 78 by decide), sI_1]
      by_cases e : k = i
      · rw [if_pos ⟨rfl, e⟩, e]
      · rw [if_neg (fun z => e z.2)]; exact h k (by omega))
    refine ⟨w', ?_, (Fr.sI (by decide)).then g2, fun k hk => by rw [g3 k hk, sI_o _ (by decide)]⟩
    rw [fX12_read_L68, if_neg (show ¬ (65 : Int32) ≤ nI i from nI_ge (b := 65) (by omega) (by decide)), rdA_n (by omega) (by decide), bS, wrA_n (by omega) (by decide), bS, nI_1]
    exact g1
theorem anew_mv {w : Mm} {d : VD} {q : Nat → Int32} (h : Anew w d) (hv : VOK d) (e : ∀ k, k < 65 → q k = w.1 90 k) : MV q (toV d) := by
  have hn := hv.2.1
  refine ⟨h.1.fr hn (fun i hi => e i (by omega)), ⟨?_, fun k hk => absurd hk (by show ¬ k < 0; omega)⟩, ⟨?_, fun k hk => absurd hk (by show ¬ k < 0; omega)⟩, ⟨?_, fun k hk => absurd hk (by show ¬ k < 0; omega)⟩⟩
  · rw [e 3 (by decide), h.2.1]; rfl
  · rw [e 4 (by decide), h.2.2.1]; rfl
  · rw [e 5 (by decide), h.2.2.2]; rfl
theorem mread_n {N : Nat} (hN : 1000 ≤ N) {B : Nat → Nat} {L : Nat} (hB : TB B L) : ∀ (r n0 it s : Nat) (d : VD) (w : Mm), L - s < r → r < n0 → s ≤ L → VOK d → TM w B L → MT w B L s → Anew w d → MRq B L w (fX12_read_L26 N n0 w (nI it)) (pLoop B L r it d s) := by
  intro r
  have hL := hB.1
  induction r with
  | zero => intro n0 it s d w h1; omega
  | succ r ih =>
    intro n0 it s d w h1 h2 hs hv ht ha hd
    obtain ⟨n1, rfl⟩ : ∃ n1, n0 = n1 + 1 := ⟨n0 - 1, by omega⟩
    rw [fX12_read_L26, pLoop]
    by_cases k0 : kK B L s = 0
    · rw [if_pos (show w.1 77 19 = 0 from (ha.k (t := 0) (by decide) (by decide)).mpr k0), if_pos k0]
      obtain ⟨w', g1, g2, g3⟩ := copy_n (N := N) (x := nI it) 65 N 0 w rfl (by omega) (fun k hk => absurd hk (by omega))
      exact ⟨w', g1, g2.up (by decide), fun i _ => by rw [g2.1 77 (by decide)], anew_mv hd hv g3⟩
    · rw [if_neg (show ¬ w.1 77 19 = 0 from fun z => k0 ((ha.k (t := 0) (by decide) (by decide)).mp z)), if_neg k0]
      have hc := takesItem_ok (N := N) hN hB hs hv ht ha hd
      cases hq : pItem B L d s with
      | inl e =>
        rw [hq] at hc
        obtain ⟨w2, g2, f2, e2⟩ := hc
        rw [g2, oS, if_pos rfl, e2]
        exact ⟨w2, rfl, f2⟩
      | inr q =>
        rw [hq] at hc
        obtain ⟨w2, g2, f2, c2, o2⟩ := hc
        obtain ⟨hv2, hq1, hq2⟩ := pItem_ok hv hs hq
        have t2 := ht.fm f2
        rw [g2, oS, if_neg (by decide)]
        dsimp only
        by_cases k3 : kK B L q.2 = 3
        · rw [if_pos (show w2.1 77 19 = 3 from (c2.k (t := 3) (by decide) (by decide)).mpr k3), if_pos k3]
          have hlt := kK_lt (show kK B L q.2 ≠ 0 by omega)
          have hgt := kE_gt (B := B) hlt
          have hge : kE B L q.2 ≤ nxt B L q.2 := tS_ge B L _
          obtain ⟨w3, g3, f3, i3, c3⟩ := behind_ok (N := N) hN hB hq2 t2 c2
          have m3 : FM w w3 := f2.then (FM.of f3 (by decide) i3)
          rw [g3, bS, nI_1]
          exact MRq.up m3 (ih n1 (it + 1) (nxt B L q.2) q.1 w3 (by omega) (by omega) (nxt_le hq2) hv2 (ht.fm m3) c3 (o2.fr (f3.1 90 (by decide))))
        · rw [if_neg (show ¬ w2.1 77 19 = 3 from fun z => k3 ((c2.k (t := 3) (by decide) (by decide)).mp z)), if_neg k3, c2.1]
          exact ⟨w2, rfl, f2⟩
theorem mread_ok {N : Nat} (hN : 1000 ≤ N) {B : Nat → Nat} {L : Nat} (hB : TB B L) {w : Mm} (h : TM w B L) : MRq B L w (fX12_read N w) (pRead B L) := by
  have hL := hB.1
  unfold fX12_read pRead
  obtain ⟨w1, g1, f1, i1, c1⟩ := look_ok (N := N) hN hB (Nat.zero_le L) h
  have hs := tS_le (B := B) (Nat.zero_le L)
  have m1 : FM w w1 := FM.of f1 (by decide) i1
  have hc := takesFirst_ok (N := N) hN hB hs (h.fm m1) c1
  rw [show fX12_lookAt N w 0 = some w1 from g1, bS]
  cases hq : pFst B L (tS B L 0) with
  | inl e =>
    rw [hq] at hc
    obtain ⟨w2, g2, f2, e2⟩ := hc
    rw [g2, oS, if_pos rfl, e2]
    exact ⟨w2, rfl, m1.then f2⟩
  | inr q =>
    rw [hq] at hc
    obtain ⟨w2, g2, f2, c2, o2⟩ := hc
    obtain ⟨hv2, hq1, hq2⟩ := pFst_ok hs hq
    have m2 := m1.then f2
    rw [g2, oS]
    dsimp only
    by_cases k3 : kK B L q.2 = 3
    · rw [if_neg (b01_nz (decide_eq_true k3)), if_pos k3]
      have hlt := kK_lt (show kK B L q.2 ≠ 0 by omega)
      have hgt := kE_gt (B := B) hlt
      have hge : kE B L q.2 ≤ nxt B L q.2 := tS_ge B L _
      obtain ⟨w3, g3, f3, i3, c3⟩ := behind_ok (N := N) hN hB hq2 (h.fm m2) c2
      have m3 : FM w w3 := m2.then (FM.of f3 (by decide) i3)
      rw [g3, bS]
      exact MRq.up m3 (mread_n hN hB 152 N 1 (nxt B L q.2) q.1 w3 (by omega) (by omega) (nxt_le hq2) hv2 (h.fm m3) c3 (o2.fr (f3.1 90 (by decide))))
    · rw [if_pos (b01_ff (fun z => k3 (of_decide_eq_true z))), if_neg k3, c2.1]
      exact ⟨w2, rfl, m2⟩
theorem fault_neg : ∀ e, e < 151 → (-10 : Int32) - nI e < 0 := by decide +kernel
theorem op_read {N : Nat} (hN : 1000 ≤ N) {w : Mm} (h : INV w) : OKi (fX11_read N w) (fun w => fX12_read N w) := by
  obtain ⟨S, s1, s2, s3⟩ := h
  have hB : TB (gB S) (gN S) := s1.2.2
  have tx : TX w (gB S) (gN S) := s2.2.2.1
  have tm : TM w (gB S) (gN S) := s3.2.2.1
  have hc := parse_ok (N := N) hN hB tx
  unfold fX11_read
  cases hq : pRead (gB S) (gN S) with
  | inl e =>
    rw [hq] at hc
    obtain ⟨w1, g1, f1, t1, he⟩ := hc
    have c1 : CI w1 S := s2.fr (fun o ho => f1.1 o (by simp; omega)) (by rw [t1.1, tx.1]) (by rw [f1.2])
    have m1 : MI w1 S := s3.mem (fun o ho => f1.1 o (by simp; omega)) (by rw [f1.2])
    have hm := mread_ok (N := N) hN hB (w := w1) m1.2.2.1
    rw [hq] at hm
    obtain ⟨w2, g2, f2⟩ := hm
    refine ⟨-10 - nI e, w1, w2, ?_, g2, S, s1, c1.hand f2.1 (by decide), m1.hand f2.1 (by decide) (f2.2 16 (by decide))⟩
    rw [g1, oS, if_pos (fault_neg e (by omega))]
  | inr q =>
    rw [hq] at hc
    obtain ⟨w1, g1, f1, t1, d1, hv, h3⟩ := hc
    have c1 : CI w1 S := s2.fr (fun o ho => f1.1 o (by simp; omega)) (by rw [t1.1, tx.1]) (by rw [f1.2])
    have m1 : MI w1 S := s3.mem (fun o ho => f1.1 o (by simp; omega)) (by rw [f1.2])
    have cv : CV w1 37 (toV q.2) := ⟨d1.1, ⟨d1.2.1, fun k hk => absurd hk (by show ¬ k < 0; omega)⟩, ⟨d1.2.2.1, fun k hk => absurd hk (by show ¬ k < 0; omega)⟩, ⟨d1.2.2.2, fun k hk => absurd hk (by show ¬ k < 0; omega)⟩⟩
    obtain ⟨w2, k1, k2, k3, k4⟩ := take_ok (w := w1) (v := 1) (u := 37) (by omega) cv (toV_ok hv)
    have c2 : CI w2 (toV q.2, S.2) := c1.setV (fun o ho => k2 o (by omega)) (by rw [k3]) k4
    have m2 : MI w2 S := m1.mem (fun o ho => k2 o (by omega)) (by rw [k3])
    have hm := mread_ok (N := N) hN hB (w := w2) m2.2.2.1
    rw [hq] at hm
    obtain ⟨w3, p1, p2, p3, p4⟩ := hm
    refine ⟨nI q.1, w2, w3, ?_, p1, (toV q.2, S.2), ⟨toV_ok hv, s1.2⟩, c2.mem (fun o ho => p2.1 o (by simp; omega)) (by rw [p2.2]), ?_⟩
    · rw [g1, oS, if_neg (nI_pos (by omega)), k1, bS]
    · unfold MI
      rw [p3 16 (by decide), p2.1 79 (by decide), p2.1 80 (by decide), p2.1 81 (by decide), p2.1 89 (by decide), p2.2]
      exact ⟨p4, m2.2⟩

/-! ===== the law answers 1 ===== -/
theorem rdS_n {L : Nat} {xs : Nat → Int32} {j : Nat} (hj : j < L) (hL : L < 2 ^ 31) : rdS L xs (nI j) = some (xs j) := by
  unfold rdS
  rw [if_neg (nI_in hj hL), nI_clamp (Nat.lt_trans hj hL)]
theorem st_i {fx : Option (Int32 × Mm)} {fm : Mm → Option (Int32 × Mm)} (h : OKi fx fm) {K : Mm → Option Int32} (hK : ∀ w, INV w → K w = some 1) : (ob2 fx fun a m => ob2 (fm m) fun b m2 => if a = b then K m2 else some (0 : Int32)) = some 1 := by
  obtain ⟨r, w1, w2, h1, h2, h3⟩ := h
  rw [h1, oS, h2, oS, if_pos rfl]
  exact hK w2 h3
theorem st_j {fx : Option (Int64 × Mm)} {fm : Mm → Option (Int64 × Mm)} (h : OKj fx fm) {K : Mm → Option Int32} (hK : ∀ w, INV w → K w = some 1) : (ob2 fx fun a m => ob2 (fm m) fun b m2 => if lg_cmp a b = (0 : Int32) then K m2 else some (0 : Int32)) = some 1 := by
  obtain ⟨r, w1, w2, h1, h2, h3⟩ := h
  rw [h1, oS, h2, oS, if_pos ((lg_cmp_eq _ _).mpr rfl)]
  exact hK w2 h3
theorem st_ite {P : Prop} [Decidable P] {a b : Option Int32} (ha : P → a = some 1) (hb : ¬ P → b = some 1) : (if P then a else b) = some 1 := by
  by_cases h : P
  · rw [if_pos h]; exact ha h
  · rw [if_neg h]; exact hb h
theorem law_end {L i : Nat} (hL : L ≤ 384) (hi : i ≤ 400) : (Int32.ofNat L - (6 : Int32) < nI i) ↔ L < i + 6 := by
  have h1 : (nI L - nI 6).toInt = (L : Int) - (6 : Nat) := pk_sub_toInt (by omega) (by decide)
  have h2 : (nI i).toInt = (i : Int) := nI_toInt (by omega)
  show nI L - nI 6 < nI i ↔ _
  rw [Int32.lt_iff_toInt_lt, h1, h2]
  omega
set_option maxRecDepth 100000 in
set_option maxHeartbeats 4000000 in
theorem law_n {N L : Nat} {xs : Nat → Int32} (hN : 70000000 ≤ N) (hL : L ≤ 384) : ∀ (r n0 i : Nat) (w : Mm), L - i < r → r < n0 → i ≤ L + 6 → INV w → fL_law_L18 N L xs n0 w (nI i) = some 1 := by
  intro r
  induction r with
  | zero => intro n0 i w h1; omega
  | succ r ih =>
    intro n0 i w h1 h2 h3 h
    obtain ⟨n1, rfl⟩ : ∃ n1, n0 = n1 + 1 := ⟨n0 - 1, by omega⟩
    have h1000 : 1000 ≤ N := by omega
    rw [fL_law_L18]
    by_cases hq : L < i + 6
    · rw [if_pos ((law_end hL (by omega)).mpr hq)]
    rw [if_neg (fun z => hq ((law_end hL (by omega)).mp z))]
    have r0 : rdS L xs (nI i) = some (xs i) := rdS_n (by omega) (by omega)
    have r1 : rdS L xs (nI i + 1) = some (xs (i + 1)) := by rw [nI_1]; exact rdS_n (by omega) (by omega)
    have r2 : rdS L xs (nI i + 2) = some (xs (i + 2)) := by rw [show nI i + 2 = nI (i + 2) from nI_add i 2]; exact rdS_n (by omega) (by omega)
    have r3 : rdS L xs (nI i + 3) = some (xs (i + 3)) := by rw [show nI i + 3 = nI (i + 3) from nI_add i 3]; exact rdS_n (by omega) (by omega)
    have r4 : rdS L xs (nI i + 4) = some (xs (i + 4)) := by rw [show nI i + 4 = nI (i + 4) from nI_add i 4]; exact rdS_n (by omega) (by omega)
    have r5 : rdS L xs (nI i + 5) = some (xs (i + 5)) := by rw [show nI i + 5 = nI (i + 5) from nI_add i 5]; exact rdS_n (by omega) (by omega)
    have hK : ∀ w, INV w → fL_law_L18 N L xs n1 w (nI i + 6) = some 1 := fun w hw => by
      rw [show nI i + 6 = nI (i + 6) from nI_add i 6]
      exact ih n1 (i + 6) w (by omega) (by omega) (by omega) hw
    rw [r0, bS]
    generalize fL_law_L18 N L xs n1 = K at hK ⊢
    generalize xs i &&& (63 : Int32) = t
    refine st_ite (fun _ => ?_) (fun _ => ?_)
    · skip
      simp only [r1, bS]
      exact st_i (op_valley h1000 h (xs (i + 1))) (K := fun m => K m (nI i + 6)) hK
    refine st_ite (fun _ => ?_) (fun _ => ?_)
    · skip
      simp only [r1, bS]
      exact st_i (op_fog h (xs (i + 1))) (K := fun m => K m (nI i + 6)) hK
    refine st_ite (fun _ => ?_) (fun _ => ?_)
    · skip
      simp only [r1, r2, r3, r4, r5, bS]
      exact st_i (op_candle h (xs (i + 1)) (xs (i + 2)) (xs (i + 3)) (xs (i + 4)) (xs (i + 5))) (K := fun m => K m (nI i + 6)) hK
    refine st_ite (fun _ => ?_) (fun _ => ?_)
    · skip
      simp only [r1, r2, bS]
      exact st_i (op_move h1000 h (xs (i + 1)) (xs (i + 2))) (K := fun m => K m (nI i + 6)) hK
    refine st_ite (fun _ => ?_) (fun _ => ?_)
    · skip
      simp only [r1, r2, bS]
      exact st_i (op_light h1000 h (xs (i + 1)) (xs (i + 2))) (K := fun m => K m (nI i + 6)) hK
    refine st_ite (fun _ => ?_) (fun _ => ?_)
    · skip
      exact st_i (op_undo h1000 h) (K := fun m => K m (nI i + 6)) hK
    refine st_ite (fun _ => ?_) (fun _ => ?_)
    · skip
      simp only [r1, bS]
      exact st_i (op_type h (xs (i + 1))) (K := fun m => K m (nI i + 6)) hK
    refine st_ite (fun _ => ?_) (fun _ => ?_)
    · skip
      exact st_i (op_clear h) (K := fun m => K m (nI i + 6)) hK
    refine st_ite (fun _ => ?_) (fun _ => ?_)
    · skip
      exact st_i (op_read h1000 h) (K := fun m => K m (nI i + 6)) hK
    refine st_ite (fun _ => ?_) (fun _ => ?_)
    · skip
      simp only [r1, r2, bS]
      exact st_i (op_of h (xs (i + 1)) (xs (i + 2))) (K := fun m => K m (nI i + 6)) hK
    refine st_ite (fun _ => ?_) (fun _ => ?_)
    · skip
      simp only [r1, r2, r3, bS]
      exact st_i (op_shines h1000 h (xs (i + 1)) (xs (i + 2)) (xs (i + 3))) (K := fun m => K m (nI i + 6)) hK
    refine st_ite (fun _ => ?_) (fun _ => ?_)
    · skip
      simp only [r1, r2, r3, bS]
      exact st_i (op_cell h1000 h (xs (i + 1)) (xs (i + 2)) (xs (i + 3))) (K := fun m => K m (nI i + 6)) hK
    refine st_ite (fun _ => ?_) (fun _ => ?_)
    · skip
      simp only [r1, r2, r3, bS]
      exact st_i (op_acres h1000 h (xs (i + 1)) (xs (i + 2)) (xs (i + 3))) (K := fun m => K m (nI i + 6)) hK
    refine st_ite (fun _ => ?_) (fun _ => ?_)
    · skip
      simp only [r1, r2, bS]
      exact st_i (op_hedges h1000 h (xs (i + 1)) (xs (i + 2))) (K := fun m => K m (nI i + 6)) hK
    refine st_ite (fun _ => ?_) (fun _ => ?_)
    · skip
      simp only [r1, r2, r3, bS]
      exact st_i (op_dark h1000 h (xs (i + 1)) (xs (i + 2)) (xs (i + 3))) (K := fun m => K m (nI i + 6)) hK
    refine st_ite (fun _ => ?_) (fun _ => ?_)
    · skip
      simp only [r1, bS]
      exact st_i (op_want h (xs (i + 1))) (K := fun m => K m (nI i + 6)) hK
    refine st_ite (fun _ => ?_) (fun _ => ?_)
    · skip
      exact st_i (op_forget h) (K := fun m => K m (nI i + 6)) hK
    refine st_ite (fun _ => ?_) (fun _ => ?_)
    · skip
      simp only [r1, r2, bS]
      exact st_i (op_lighting h1000 h (xs (i + 1)) (xs (i + 2))) (K := fun m => K m (nI i + 6)) hK
    refine st_ite (fun _ => ?_) (fun _ => ?_)
    · skip
      simp only [r1, r2, bS]
      exact st_i (op_tallow h1000 h (xs (i + 1)) (xs (i + 2))) (K := fun m => K m (nI i + 6)) hK
    refine st_ite (fun _ => ?_) (fun _ => ?_)
    · skip
      simp only [r1, r2, bS]
      exact st_i (op_put h1000 h (xs (i + 1)) (xs (i + 2))) (K := fun m => K m (nI i + 6)) hK
    refine st_ite (fun _ => ?_) (fun _ => ?_)
    · skip
      simp only [r1, r2, r3, r4, r5, bS]
      exact st_i (op_thief hN h (xs (i + 1)) (xs (i + 2)) (xs (i + 3)) (xs (i + 4)) (xs (i + 5))) (K := fun m => K m (nI i + 6)) hK
    refine st_ite (fun _ => ?_) (fun _ => ?_)
    · skip
      simp only [r1, r2, r3, bS]
      exact st_i (op_wedding h1000 h (xs (i + 1)) (xs (i + 2)) (xs (i + 3))) (K := fun m => K m (nI i + 6)) hK
    refine st_ite (fun _ => ?_) (fun _ => ?_)
    · skip
      simp only [r1, r2, r3, r4, bS]
      exact st_i (op_spite h1000 h (xs (i + 1)) (xs (i + 2)) (xs (i + 3)) (xs (i + 4))) (K := fun m => K m (nI i + 6)) hK
    refine st_ite (fun _ => ?_) (fun _ => ?_)
    · skip
      simp only [r1, r2, r3, bS]
      exact st_i (op_reading h (xs (i + 1)) (xs (i + 2)) (xs (i + 3))) (K := fun m => K m (nI i + 6)) hK
    refine st_ite (fun _ => ?_) (fun _ => ?_)
    · skip
      exact st_i (op_burnt h) (K := fun m => K m (nI i + 6)) hK
    refine st_ite (fun _ => ?_) (fun _ => ?_)
    · skip
      simp only [r1, bS]
      exact st_i (op_burn h1000 h (xs (i + 1))) (K := fun m => K m (nI i + 6)) hK
    refine st_ite (fun _ => ?_) (fun _ => ?_)
    · skip
      simp only [r1, bS]
      exact st_i (op_measure h1000 h (xs (i + 1))) (K := fun m => K m (nI i + 6)) hK
    refine st_ite (fun _ => ?_) (fun _ => ?_)
    · skip
      simp only [r1, r2, r3, r4, bS]
      exact st_i (op_draught h1000 h (xs (i + 1)) (xs (i + 2)) (xs (i + 3)) (xs (i + 4))) (K := fun m => K m (nI i + 6)) hK
    refine st_ite (fun _ => ?_) (fun _ => ?_)
    · skip
      simp only [r1, r2, r3, r4, bS]
      exact st_i (op_nights h1000 h (xs (i + 1)) (xs (i + 2)) (xs (i + 3)) (xs (i + 4))) (K := fun m => K m (nI i + 6)) hK
    refine st_ite (fun _ => ?_) (fun _ => ?_)
    · skip
      obtain ⟨a, w1, w2, d1, d2, d3⟩ := op_part h (xs (i + 1))
      have d2 : some (fX12_part w1 (xs (i + 1))) = some (a, w2) := d2
      rw [r1, bS, d1, oS, bS, d2, oS, if_pos ((lg_cmp_eq a a).mpr rfl)]
      exact hK w2 d3
    refine st_ite (fun _ => ?_) (fun _ => ?_)
    · skip
      simp only [r1, bS]
      exact st_i (op_image h1000 h (xs (i + 1))) (K := fun m => K m (nI i + 6)) hK
    refine st_ite (fun _ => ?_) (fun _ => ?_)
    · skip
      simp only [r1, bS]
      exact st_i (op_from h1000 h (xs (i + 1))) (K := fun m => K m (nI i + 6)) hK
    refine st_ite (fun _ => ?_) (fun _ => ?_)
    · skip
      simp only [r1, bS]
      exact st_i (op_status h (xs (i + 1))) (K := fun m => K m (nI i + 6)) hK
    refine st_ite (fun _ => ?_) (fun _ => ?_)
    · skip
      simp only [r1, bS]
      exact st_i (op_count h (xs (i + 1))) (K := fun m => K m (nI i + 6)) hK
    refine st_ite (fun _ => ?_) (fun _ => ?_)
    · skip
      obtain ⟨a, d1, d2⟩ := op_digest h1000 h
      rw [d1, bS, d2, bS, if_pos ((lg_cmp_eq _ _).mpr rfl)]
      exact hK w h
    exact hK w h
theorem inv0 : INV w0 := by
  have z : ∀ k, ¬ k < 0 := fun k => by omega
  have cv : CV w0 1 (freshV 0) := ⟨⟨rfl, rfl, rfl, fun k hk => absurd hk (z k)⟩, ⟨rfl, fun k hk => absurd hk (z k)⟩, ⟨rfl, fun k hk => absurd hk (z k)⟩, ⟨rfl, fun k hk => absurd hk (z k)⟩⟩
  have mv : MV (w0.1 78) (freshV 0) := ⟨⟨rfl, rfl, rfl, fun k hk => absurd hk (z k)⟩, ⟨rfl, fun k hk => absurd hk (z k)⟩, ⟨rfl, fun k hk => absurd hk (z k)⟩, ⟨rfl, fun k hk => absurd hk (z k)⟩⟩
  refine ⟨(freshV 0, fun _ => none, (0, fun _ => 0), (0, 1), (0, 0, 0)), ⟨freshV_ok (Nat.zero_le _), fun i V _ hV => ?_, Nat.zero_le _, fun k hk => absurd hk (z k)⟩, ⟨cv, fun i _ => ⟨fun _ => rfl, fun V hV => ?_⟩, ⟨rfl, fun k hk => absurd hk (z k)⟩, ⟨rfl, rfl⟩, rfl, rfl, rfl⟩, ⟨mv, fun i _ => ⟨fun _ => rfl, fun V hV => ?_⟩, ⟨rfl, fun k hk => absurd hk (z k)⟩, ⟨rfl, rfl⟩, rfl, rfl, rfl⟩⟩
  · exact absurd (show (none : Option VV) = some V from hV) (by simp)
  · exact absurd (show (none : Option VV) = some V from hV) (by simp)
  · exact absurd (show (none : Option VV) = some V from hV) (by simp)
theorem law_true {L : Nat} {xs : Nat → Int32} (hL : L ≤ 384) : fL_law_L18 BIG L xs BIG w0 0 = some 1 := by
  have hB : BIG = 100000000 := rfl
  exact law_n (N := BIG) (by omega) hL 400 BIG 0 w0 (by omega) (by omega) (by omega) inv0
theorem whole_start {p : Program} {e : Env} {s : State} {m : MethodId} {below : List Frame} {meth : Method} {c : Code} (l : Launch) {b L : Nat} {xs : Nat → Int32} (hL : L ≤ 384) (C0 : lw_At p s m meth c b L xs) : W p l e room_1 s m #[Value.ref b] below meth c s.heap [] 0 0 (lw_Z below #[Value.ref b] s) (entryFrame m ([Value.ref b] : List Value).toArray 4) := st_whole l (law_true hL) C0

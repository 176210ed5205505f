/-! ===== from the world that the constructors made to the law's loop ===== -/
def BIG : Nat := 100000000
set_option maxRecDepth 100000 in
set_option maxHeartbeats 4000000 in
theorem st_loop {l : Launch} {g : Gt} {b L : Nat} {xs : Nat → Int32} {adK adV : Nat → Nat} (hf : fL_law_L18 BIG L xs BIG w0 0 = some 1) (q1 q2 : Nat) (g1 g2 : Nat → Nat) : NW l g cL_law RL 4 room_1 92 2717 (st_E b L xs adK adV) st_Q (st_ws g q1 q2 g1 g2) 18 [(3, .int 0), (2, .ref q2), (1, .ref q1), (0, .ref b)] [] := by
  intro p e s m args below meth c H locs ls A hC hP hD hS hA hl
  by_cases hq : ∀ q, A q → s.heap.size ≤ q
  · obtain ⟨e1, e2, e3, e4, e5, e6, e7, e8, e9, e10, e11⟩ := hC.2.2.2.2.2.2.2
    have hin : ∀ q, ap_A (st_K g q1 q2 g1 g2 adK adV) q → s.heap.size ≤ q := fun q h => hq q (st_in hD q h)
    have hCC : ap_C (st_K g q1 q2 g1 g2 adK adV) cL_law RL 4 ret (lw_E (st_K g q1 q2 g1 g2 adK adV) b L xs) p s m args meth c :=
      ⟨hC.1, hC.2.1, hC.2.2.1, e1, hC.2.2.2.1, hC.2.2.2.2.1, hC.2.2.2.2.2.1, ⟨hC.2.2.2.2.2.2.1.1, e5, st_inj hD, ⟨e6.narrow hin, e7.narrow hin, e8.narrow hin⟩, e9, e10, e11⟩, e2, e3, e4, hin⟩
    have hl2 : lv_has ls 4 [(0, .ref b), (1, .ref ((st_K g q1 q2 g1 g2 adK adV).1 0)), (2, .ref ((st_K g q1 q2 g1 g2 adK adV).1 77)), (3, .int 0)] := lv_sub hl [3, 2, 1, 0] rfl
    have hW : W p l e room_1 s m args below meth c H [] 92 2717 (lw_Qf below args s) (F0 m 18 ls []) :=
      AL_law_L18 (K := st_K g q1 q2 g1 g2 adK adV) (b := b) BIG w0 0 hf p e s m args below meth c H [] ls hCC (st_P hP) ⟨hS.1, fun q h1 h2 => hS.2.1 q h1 (fun z => absurd h1 (Nat.not_lt.mpr (hq q z))), fun q h => absurd h List.not_mem_nil⟩ hl2
    refine va_forget (fun q hq' => hq _ (hS.2.2 q hq')) ?_
    intro T hT X
    obtain ⟨t, a1, b1⟩ := hW T hT X
    exact ⟨t, a1, fun _ => b1⟩
  · intro T hT X
    exact ⟨_, Steps.refl _, fun h => absurd h hq⟩
theorem st_aw {p : Program} {l : Launch} {e : Env} {R : Room} {s : State} {m : MethodId} {args : Array Value} {below : List Frame} {meth : Method} {c : Code} {H : Heap} {locs : List Loc} {cells slots : Nat} {Q Q' : State → Prop} {g : JFrame} (h : W p l e R s m args below meth c H locs cells slots Q g) (hQ : ∀ t, Q t → Q' t) : W p l e R s m args below meth c H locs cells slots Q' g := by
  intro T hT X
  obtain ⟨t, a1, b1⟩ := h T hT X
  exact ⟨t, a1, hQ t b1⟩
theorem st_arr {s : State} {args : Array Value} {ty : FieldType} (hp : refKind ty = false) (h : (Cond.arrayClass ty).before args s = true) : ∃ cA : ClassId, ArrOfT s cA ty ∧ va_RA s cA ty := by
  obtain ⟨c, k, comp, h1, h2, h3⟩ := Cond.arrayClass_spec h
  refine ⟨c, fun n z => ⟨fun k h => (by cases h), k, h2, comp, h3⟩, ?_⟩
  cases ty <;> first | (cases hp; done) | exact h1
theorem st_arrq {s : State} {args : Array Value} {C : String} (h : (Cond.arrayOver (.object C)).before args s = true) : ∃ cA : ClassId, ArrOfT s cA (.object C) ∧ va_RA s cA (.object C) := by
  obtain ⟨comp, c, k, h1, h2, h3, h4, h5⟩ := Cond.arrayOver_spec h
  exact ⟨c, fun n z => ⟨fun k h => (by cases h), k, h3, comp, h4⟩, k, comp, h3, h4, h1, h5⟩
def st_tm (i : Nat) : Term := match i with
  | 0 => .string "CandleLand$Reader" 49
  | 1 => .string "CandleLand$Reader" 59
  | _ => .string "CandleLand$Reader" 64
set_option maxRecDepth 100000 in
set_option maxHeartbeats 4000000 in
theorem st_txt {s : State} {args : Array Value} (h : (Jvm.Cond.and given_1 narrow_1).before args s = true) : ∃ adK adV : Nat → Nat, vk_S 3 [6, 6, 3] [[118, 97, 108, 108, 101, 121], [99, 97, 110, 100, 108, 101], [111, 117, 116]] adK adV (fun q => s.heap.size ≤ q) s s.heap ∧ ∀ i : Nat, i < 3 → (st_tm i).eval args s none [] s = some (.ref (adK i)) := by
  have hs := flat_of_before _ h
  refine vk_Sof (tm := st_tm) ?_ ?_ ?_ ?_ ?_ ?_ ?_ (fun a ha => Nat.not_le.mpr ha)
  · decide
  · intro i hi
    rcases (show i = 0 ∨ i = 1 ∨ i = 2 by omega) with rfl | rfl | rfl <;> exact hs _ (by decide +kernel)
  · intro i hi
    rcases (show i = 0 ∨ i = 1 ∨ i = 2 by omega) with rfl | rfl | rfl <;> exact hs _ (by decide +kernel)
  · intro i hi
    rcases (show i = 0 ∨ i = 1 ∨ i = 2 by omega) with rfl | rfl | rfl <;> exact hs _ (by decide +kernel)
  · intro i hi
    rcases (show i = 0 ∨ i = 1 ∨ i = 2 by omega) with rfl | rfl | rfl <;> exact hs _ (by decide +kernel)
  · intro i hi j hj
    rcases (show i = 0 ∨ i = 1 ∨ i = 2 by omega) with rfl | rfl | rfl
    · have hj : j < 6 := hj
      rcases (show j = 0 ∨ j = 1 ∨ j = 2 ∨ j = 3 ∨ j = 4 ∨ j = 5 by omega) with rfl | rfl | rfl | rfl | rfl | rfl <;> exact hs _ (by decide +kernel)
    · have hj : j < 6 := hj
      rcases (show j = 0 ∨ j = 1 ∨ j = 2 ∨ j = 3 ∨ j = 4 ∨ j = 5 by omega) with rfl | rfl | rfl | rfl | rfl | rfl <;> exact hs _ (by decide +kernel)
    · have hj : j < 3 := hj
      rcases (show j = 0 ∨ j = 1 ∨ j = 2 by omega) with rfl | rfl | rfl <;> exact hs _ (by decide +kernel)
  · intro i j hi hj hij
    rcases (show i = 0 ∨ i = 1 ∨ i = 2 by omega) with rfl | rfl | rfl <;> rcases (show j = 0 ∨ j = 1 ∨ j = 2 by omega) with rfl | rfl | rfl <;> first | exact absurd rfl hij | exact Or.inl (hs _ (by decide +kernel)) | exact Or.inr (hs _ (by decide +kernel))
set_option maxRecDepth 100000 in
set_option maxHeartbeats 4000000 in
theorem st_K0 {s : State} {args : Array Value} (hts : ∀ w ∈ lw_tbl, w.before args s = true) : ∃ g : Gt, nw_K g s := by
  have hw : ∀ w ∈ ap_gw, w.before args s = true := fun w h => hts w (List.mem_filter.mp h).1
  obtain ⟨c0, i0, k0⟩ := u_known (C := RX0) (T := TX0) (N := 0) (n := 0) hw inw_X0 (hts (.instantiable RX0 0) (by decide +kernel))
  obtain ⟨c1, i1, k1⟩ := u_known (C := RX1) (T := TX1) (N := 0) (n := 0) hw inw_X1 (hts (.instantiable RX1 0) (by decide +kernel))
  obtain ⟨c2, i2, k2⟩ := u_known (C := RX2) (T := TX2) (N := 0) (n := 0) hw inw_X2 (hts (.instantiable RX2 0) (by decide +kernel))
  obtain ⟨c3, i3, k3⟩ := u_known (C := RX3) (T := TX3) (N := 9) (n := 9) hw inw_X3 (hts (.instantiable RX3 9) (by decide +kernel))
  obtain ⟨c4, i4, k4⟩ := u_known (C := RX4) (T := TX4) (N := 0) (n := 0) hw inw_X4 (hts (.instantiable RX4 0) (by decide +kernel))
  obtain ⟨c5, i5, k5⟩ := u_known (C := RX5) (T := TX5) (N := 7) (n := 7) hw inw_X5 (hts (.instantiable RX5 7) (by decide +kernel))
  obtain ⟨c6, i6, k6⟩ := u_known (C := RX6) (T := TX6) (N := 7) (n := 7) hw inw_X6 (hts (.instantiable RX6 7) (by decide +kernel))
  obtain ⟨c7, i7, k7⟩ := u_known (C := RX7) (T := TX7) (N := 0) (n := 0) hw inw_X7 (hts (.instantiable RX7 0) (by decide +kernel))
  obtain ⟨c8, i8, k8⟩ := u_known (C := RX8) (T := TX8) (N := 17) (n := 17) hw inw_X8 (hts (.instantiable RX8 17) (by decide +kernel))
  obtain ⟨c9, i9, k9⟩ := u_known (C := RX9) (T := TX9) (N := 5) (n := 5) hw inw_X9 (hts (.instantiable RX9 5) (by decide +kernel))
  obtain ⟨c10, i10, k10⟩ := u_known (C := RX10) (T := TX10) (N := 0) (n := 0) hw inw_X10 (hts (.instantiable RX10 0) (by decide +kernel))
  obtain ⟨c11, i11, k11⟩ := u_known (C := RX11) (T := TX11) (N := 12) (n := 12) hw inw_X11 (hts (.instantiable RX11 12) (by decide +kernel))
  obtain ⟨c12, i12, k12⟩ := u_known (C := RX12) (T := TX12) (N := 23) (n := 23) hw inw_X12 (hts (.instantiable RX12 23) (by decide +kernel))
  obtain ⟨a0, f0, r0⟩ := st_arr (ty := .int) rfl (hts (.arrayClass .int) (by decide +kernel))
  obtain ⟨a1, f1, r1⟩ := st_arr (ty := .boolean) rfl (hts (.arrayClass .boolean) (by decide +kernel))
  obtain ⟨a2, f2, r2⟩ := st_arr (ty := .byte) rfl (hts (.arrayClass .byte) (by decide +kernel))
  have o3 := hts (.arrayOver (.object "CandleLand$Valley")) (by decide +kernel)
  have o4 := hts (.arrayOver (.object "CandleLand$Plain")) (by decide +kernel)
  obtain ⟨a3, f3, r3⟩ := st_arrq o3
  obtain ⟨a4, f4, r4⟩ := st_arrq o4
  refine ⟨((fun k => ([c0, c1, c2, c3, c4, c5, c6, c7, c8, c9, c10, c11, c12] : List ClassId).getD k c0, fun k => ([i0, i1, i2, i3, i4, i5, i6, i7, i8, i9, i10, i11, i12] : List (Nat → Nat)).getD k i0), fun k => ([a0, a1, a2, a3, a4] : List ClassId).getD k a0), ⟨?_, ?_⟩, ?_, ?_, va_AO.of (A := args) o3, va_AO.of (A := args) o4⟩
  · intro c q hq
    match c, hq with
    | 0, hq => cases hq; exact k0
    | 1, hq => cases hq; exact k1
    | 2, hq => cases hq; exact k2
    | 3, hq => cases hq; exact k3
    | 4, hq => cases hq; exact k4
    | 5, hq => cases hq; exact k5
    | 6, hq => cases hq; exact k6
    | 7, hq => cases hq; exact k7
    | 8, hq => cases hq; exact k8
    | 9, hq => cases hq; exact k9
    | 10, hq => cases hq; exact k10
    | 11, hq => cases hq; exact k11
    | 12, hq => cases hq; exact k12
    | c + 13, hq => simp at hq
  · intro k q hq
    match k, hq with
    | 0, hq => cases hq; exact ⟨f0, r0⟩
    | 1, hq => cases hq; exact ⟨f1, r1⟩
    | 2, hq => cases hq; exact ⟨f2, r2⟩
    | 3, hq => cases hq; exact ⟨f3, r3⟩
    | 4, hq => cases hq; exact ⟨f4, r4⟩
    | k + 5, hq => simp at hq
  · intro q hq
    have h9 : ∀ q ∈ nw_lnk, Cond.methodLinkNest q.1 q.2.1 q.2.2 "CandleLand" ∈ lw_tbl := by decide +kernel
    exact va_Nw.of rfl (hts _ (h9 q hq))
  · intro q hq
    have h9 : ∀ q ∈ nw_cst, Cond.castable q "CandleLand$Plain" ∈ lw_tbl := by decide +kernel
    exact va_Nw.of rfl (hts _ (h9 q hq))
set_option maxRecDepth 100000 in
set_option maxHeartbeats 4000000 in
/-- from the entry, if the decompiled law answers 1 -/
theorem st_whole {p : Program} {e : Env} {s : State} {m : MethodId} {below : List Frame} {meth : Method} {c : Code} (l : Launch) {b L : Nat} {xs : Nat → Int32} (hf : fL_law_L18 BIG L xs BIG w0 0 = some 1) (C0 : lw_At p s m meth c b L xs) : W p l e room_1 s m #[Value.ref b] below meth c s.heap [] 0 0 (lw_Z below #[Value.ref b] s) (entryFrame m ([Value.ref b] : List Value).toArray 4) := by
  obtain ⟨hx, hb, hr, hml, hown, hts, hX, hbl, hlocks, hgv⟩ := id C0
  have hw : ∀ w ∈ ap_gw, w.before #[Value.ref b] s = true := fun w h => hts w (List.mem_filter.mp h).1
  obtain ⟨g, hg⟩ := st_K0 hts
  obtain ⟨adK, adV, hS3, hev⟩ := st_txt hgv
  have hs := flat_of_before _ hgv
  have hA : ∀ a : Nat, a < s.heap.size → ¬ (fun q : Nat => s.heap.size ≤ q) a := fun a ha => Nat.not_le.mpr ha
  have hZ : va_Z "java/lang/String" "COMPACT_STRINGS" "Z" (.int 1) (fun q => s.heap.size ≤ q) s s.heap := va_Zof (hts (.laysStatic "java/lang/String" "COMPACT_STRINGS" "Z") (by decide +kernel)) (hts (.initialized "java/lang/String") (by decide +kernel)) (va_eqt (hs (Cond.eq (.static "java/lang/String" "COMPACT_STRINGS" "Z") (.int 1)) (by decide +kernel))) hA
  have hZq : va_Zq "jdk/internal/util/Preconditions" "SIOOBE_FORMATTER" "Ljava/util/function/BiFunction;" (fun q => s.heap.size ≤ q) s s.heap := va_Zqof (hts (.laysStatic "jdk/internal/util/Preconditions" "SIOOBE_FORMATTER" "Ljava/util/function/BiFunction;") (by decide +kernel)) (hts (.initialized "jdk/internal/util/Preconditions") (by decide +kernel)) (hs (Cond.isRef (.static "jdk/internal/util/Preconditions" "SIOOBE_FORMATTER" "Ljava/util/function/BiFunction;")) (by decide +kernel)) hA
  have hR0 : vk_R "CandleLand$Reader" 49 "valley" (adK 0) s := vk_R.of (A := #[Value.ref b]) (hts (.stringRef "CandleLand$Reader" 49 "valley") (by decide +kernel)) (hev 0 (by decide))
  have hR1 : vk_R "CandleLand$Reader" 59 "candle" (adK 1) s := vk_R.of (A := #[Value.ref b]) (hts (.stringRef "CandleLand$Reader" 59 "candle") (by decide +kernel)) (hev 1 (by decide))
  have hR2 : vk_R "CandleLand$Reader" 64 "out" (adK 2) s := vk_R.of (A := #[Value.ref b]) (hts (.stringRef "CandleLand$Reader" 64 "out") (by decide +kernel)) (hev 2 (by decide))
  have hN : ∀ q ∈ ap_nst, va_Nw q s := by
    intro q hq
    have h9 : ∀ q ∈ ap_nst, q ∈ lw_tbl ∧ q.onTables = true := by decide +kernel
    exact va_Nw.of (h9 q hq).2 (hts _ (h9 q hq).1)
  have hl := lv_entry ([.ref b]) (n := 4) (Nat.le_of_ble_eq_true rfl)
  rw [lg_entry_eq]
  have K := st_walk (l := l) (g := g) (b := b) (L := L) (xs := xs) (adK := adK) (adV := adV) (fun q1 q2 g1 g2 => st_loop hf q1 q2 g1 g2) p e s m #[Value.ref b] below meth c s.heap [] _ (fun q => s.heap.size ≤ q) ⟨hx, hb, hml, hown, hw, hlocks, hg, hr, rfl, hX, hbl, hN, hS3, hZ, hZq, hR0, hR1, hR2⟩ (fun k q h => by simp at h) ⟨fun i j p q h => by simp at h, fun k q h => by simp at h⟩ va_S.rf (fun q h => h) hl
  exact st_aw K (fun t ht => ht (fun q h => h))

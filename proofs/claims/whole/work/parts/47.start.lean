theorem st_piv : ∀ i, i < 92 → ∃ j, st_pi[i]? = some j ∧ j < 92 := by decide +kernel
theorem st_pin : st_pi.Nodup := by decide +kernel
set_option maxRecDepth 100000 in
set_option maxHeartbeats 4000000 in
theorem st_at {g : Gt} {q1 q2 : Nat} {g1 g2 adK adV : Nat → Nat} {i j : Nat} (h : st_pi[i]? = some j) : ∃ e, (st_ws g q1 q2 g1 g2)[j]? = some ((st_K g q1 q2 g1 g2 adK adV).1 i, e) := by
  have e1 : st_pi.map (fun j => ((st_ws g q1 q2 g1 g2)[j]?).map Prod.fst) = (st_ad q1 q2 g1 g2).map some := rfl
  have e2 : (st_pi.map (fun j => ((st_ws g q1 q2 g1 g2)[j]?).map Prod.fst))[i]? = some (((st_ws g q1 q2 g1 g2)[j]?).map Prod.fst) := by rw [List.getElem?_map, h]; rfl
  rw [e1, List.getElem?_map] at e2
  cases ha : (st_ad q1 q2 g1 g2)[i]? with
  | none => rw [ha] at e2; cases e2
  | some a =>
    rw [ha] at e2
    have e3 := Option.some.inj e2
    cases hw : (st_ws g q1 q2 g1 g2)[j]? with
    | none => rw [hw] at e3; cases e3
    | some q =>
      rw [hw] at e3
      have e4 : a = q.1 := Option.some.inj e3
      refine ⟨q.2, ?_⟩
      show some q = some ((st_ad q1 q2 g1 g2).getD i 0, q.2)
      rw [List.getD_eq_getElem?_getD, ha, e4]
      rfl
theorem st_inj {A : Nat → Prop} {g : Gt} {q1 q2 : Nat} {g1 g2 adK adV : Nat → Nat} (hD : va_D A (st_ws g q1 q2 g1 g2)) : ∀ i j, i < 92 → j < 92 → (st_K g q1 q2 g1 g2 adK adV).1 i = (st_K g q1 q2 g1 g2 adK adV).1 j → i = j := by
  intro i j hi hj e
  obtain ⟨i1, h1, -⟩ := st_piv i hi
  obtain ⟨j1, h2, -⟩ := st_piv j hj
  obtain ⟨e1, h3⟩ := st_at (g := g) (q1 := q1) (q2 := q2) (g1 := g1) (g2 := g2) (adK := adK) (adV := adV) h1
  obtain ⟨e2, h4⟩ := st_at (g := g) (q1 := q1) (q2 := q2) (g1 := g1) (g2 := g2) (adK := adK) (adV := adV) h2
  have h5 := hD.1 i1 j1 _ _ h3 h4 e
  subst h5
  have hl : ∀ {k z : Nat}, st_pi[k]? = some z → k < st_pi.length := fun h => (List.getElem?_eq_some_iff.mp h).1
  exact (List.getElem_inj st_pin).mp (by rw [(List.getElem?_eq_some_iff.mp h1).2, (List.getElem?_eq_some_iff.mp h2).2] : st_pi[i]'(hl h1) = st_pi[j]'(hl h2))
theorem st_in {A : Nat → Prop} {g : Gt} {q1 q2 : Nat} {g1 g2 adK adV : Nat → Nat} (hD : va_D A (st_ws g q1 q2 g1 g2)) : ∀ q, ap_A (st_K g q1 q2 g1 g2 adK adV) q → A q := by
  rintro q ⟨k, hk, rfl⟩
  obtain ⟨i1, h1, -⟩ := st_piv k hk
  obtain ⟨e1, h3⟩ := st_at (g := g) (q1 := q1) (q2 := q2) (g1 := g1) (g2 := g2) (adK := adK) (adV := adV) h1
  exact hD.2 i1 _ h3
def st_E (b L : Nat) (xs : Nat → Int32) (adK adV : Nat → Nat) : Method → Array Value → State → Prop := fun meth args s => meth.sig.returnType = ret ∧ args = #[Value.ref b] ∧ va_X b L xs s s.heap ∧ b < s.heap.size ∧ (∀ q ∈ ap_nst, va_Nw q s) ∧ vk_S 3 [6, 6, 3] [[118, 97, 108, 108, 101, 121], [99, 97, 110, 100, 108, 101], [111, 117, 116]] adK adV (fun q => s.heap.size ≤ q) s s.heap ∧ va_Z "java/lang/String" "COMPACT_STRINGS" "Z" (.int 1) (fun q => s.heap.size ≤ q) s s.heap ∧ va_Zq "jdk/internal/util/Preconditions" "SIOOBE_FORMATTER" "Ljava/util/function/BiFunction;" (fun q => s.heap.size ≤ q) s s.heap ∧ vk_R "CandleLand$Reader" 49 "valley" (adK 0) s ∧ vk_R "CandleLand$Reader" 59 "candle" (adK 1) s ∧ vk_R "CandleLand$Reader" 64 "out" (adK 2) s
def st_Q : List Frame → Array Value → State → (Nat → Prop) → State → Prop := fun below args s A t => (∀ q, A q → s.heap.size ≤ q) → lw_Z below args s t
set_option maxRecDepth 100000 in
set_option maxHeartbeats 4000000 in
theorem st_walk {l : Launch} {g : Gt} {b L : Nat} {xs : Nat → Int32} {adK adV : Nat → Nat} (h : ∀ (q1 q2 : Nat) (g1 g2 : Nat → Nat), NW l g cL_law RL 4 room_1 92 2717 (st_E b L xs adK adV) st_Q (st_ws g q1 q2 g1 g2) 18 [(3, .int 0), (2, .ref q2), (1, .ref q1), (0, .ref b)] []) : NW l g cL_law RL 4 room_1 0 0 (st_E b L xs adK adV) st_Q [] 0 [(0, .ref b)] [] := by
  refine nw_new st_nm7 (by decide) (by decide) dL_law_0 (fun q1 => ?_)
  refine nw_dup dL_law_3 rfl ?_
  refine nw_callI (n := 0) (As := []) (st := [.ref q1]) (wr := []) [0] [] (ncX11_init q1) wd_79 wd_81 wd_57 wd_80 ⟨rfl, by decide +kernel⟩ ⟨rfl, rfl, by decide, by decide⟩ rfl (Nat.le_of_ble_eq_true rfl) ⟨by decide, by decide⟩ dL_law_4 rfl rfl rfl (by decide) (by decide) (by decide) (fun g1 => ?_)
  refine nw_astore (i := 1) (lv' := [(1, .ref q1), (0, .ref b)]) dL_law_7 rfl (by decide) rfl ?_
  refine nw_new st_nm10 (by decide) (by decide) dL_law_8 (fun q2 => ?_)
  refine nw_dup dL_law_11 rfl ?_
  refine nw_callI (n := 0) (As := []) (st := [.ref q2]) (wr := poX11 g q1 g1) [77] [0, 1, 2, 3, 4, 5, 6, 7, 8, 9, 10, 11, 12, 13, 14, 15, 16, 17, 18, 19, 20, 21, 22, 23, 24, 25, 26, 27, 28, 29, 30, 31, 32, 33, 34, 35, 36, 37, 38, 39, 40, 41, 42, 43, 44, 45, 46, 47, 48, 49, 50, 51, 52, 53, 54, 55, 56, 57, 58, 59, 60, 61, 62, 63, 64, 65, 66, 67, 68, 69, 70, 71, 72, 73, 74, 75, 76] (ncX12_init q2) wd_904 wd_906 wd_69 wd_905 ⟨rfl, by decide +kernel⟩ ⟨rfl, rfl, by decide, by decide⟩ rfl (Nat.le_of_ble_eq_true rfl) ⟨by decide, by decide⟩ dL_law_12 rfl rfl rfl (by decide) (by decide) (by decide) (fun g2 => ?_)
  refine nw_astore (i := 2) (lv' := [(2, .ref q2), (1, .ref q1), (0, .ref b)]) dL_law_15 rfl (by decide) rfl ?_
  refine nw_iconst (v := 0) dL_law_16 (by decide) ?_
  refine nw_istore (i := 3) (lv' := [(3, .int 0), (2, .ref q2), (1, .ref q1), (0, .ref b)]) dL_law_17 rfl (by decide) rfl ?_
  exact h q1 q2 g1 g2

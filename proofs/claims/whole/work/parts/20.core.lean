/-! ===== the world: 92 cells, laid out once for all; its numbers ===== -/
abbrev Mm : Type := (Nat → Nat → Int32) × (Nat → Nat → Int64)
abbrev Ld : Type := (Nat × List (Option (Option Nat))) ⊕ (Nat × Nat) ⊕ (Nat × List Nat)
/-- addresses, array classes, the tables' numbers, the text constants' two addresses -/
abbrev Kt : Type := (Nat → Nat) × (Nat → ClassId) × va_G × (Nat → Nat) × (Nat → Nat)
def sA (w : Mm) (k : Nat) (f : Nat → Int32) : Mm := (fun a => if a = k then f else w.1 a, w.2)
def sI (w : Mm) (k i : Nat) (v : Int32) : Mm := sA w k (upd (w.1 k) i v)
def sJ (w : Mm) (k i : Nat) (v : Int64) : Mm := (w.1, fun a => if a = k then vp_updL (w.2 k) i v else w.2 a)
abbrev ap_cl : List vw_C := [(RX0, TX0, 0), (RX1, TX1, 0), (RX2, TX2, 0), (RX3, TX3, 9), (RX4, TX4, 0), (RX5, TX5, 7), (RX6, TX6, 7), (RX7, TX7, 0), (RX8, TX8, 17), (RX9, TX9, 5), (RX10, TX10, 0), (RX11, TX11, 12), (RX12, TX12, 23)]
def ap_fv (K : Kt) (w : Mm) (k i : Nat) (d : Option (Option Nat)) : Value := match d with
  | none => .int (w.1 k i)
  | some none => .long (w.2 k i)
  | some (some j) => .ref (K.1 j)
def ap_cell (K : Kt) (w : Mm) (k : Nat) (d : Ld) : va_E := match d with
  | .inl q => .inr (q.1, q.2.mapIdx (fun i fd => ap_fv K w k i fd))
  | .inr (.inl q) => .inl (K.2.1 q.1, q.2, .inl (w.1 k))
  | .inr (.inr q) => .inl (K.2.1 q.1, q.2.length, .inr (.inr (.inr (.inr (fun j => (q.2[j]?).map K.1)))))
/-- a valley: its object, eleven arrays behind it -/
def ap_val (v : Nat) : List Ld := [.inl (8, [none, none, none, some (some (v + 1)), some (some (v + 2)), some (some (v + 3)), some (some (v + 4)), some (some (v + 5)), none, some (some (v + 6)), none, some (some (v + 7)), some (some (v + 8)), some (some (v + 9)), none, some (some (v + 10)), some (some (v + 11))]),
  .inr (.inl (0, 7)), .inr (.inl (0, 7)), .inr (.inl (0, 7)), .inr (.inl (0, 7)), .inr (.inl (0, 7)), .inr (.inl (0, 6)), .inr (.inl (0, 6)), .inr (.inl (0, 6)), .inr (.inl (0, 6)), .inr (.inl (0, 56)), .inr (.inl (0, 8))]
def LAY : List Ld := [.inl (11, [some (some 1), some (some 49), some (some 50), some (some 51), some (some 53), some (some 68), some (some 73), some none, some none, none, none, none])] ++ ap_val 1 ++ ap_val 13 ++ ap_val 25 ++ ap_val 37 ++
  [.inr (.inr (3, [13, 25])), .inr (.inl (1, 2)),
   .inl (5, [some (some 37), none, some (some 52), none, none, none, none]), .inr (.inl (2, 150)),
   .inl (3, [some (some 1), some (some 54), some (some 61), some (some 62), some (some 63), some (some 64), some (some 65), some (some 66), some (some 67)]), .inr (.inr (4, [55, 56, 57, 58, 59, 60])),
   .inl (4, []), .inl (10, []), .inl (1, []), .inl (2, []), .inl (0, []), .inl (7, []),
   .inr (.inl (0, 448)), .inr (.inl (0, 7)), .inr (.inl (0, 64)), .inr (.inl (0, 64)), .inr (.inl (0, 15)), .inr (.inl (0, 4)), .inr (.inl (0, 4)),
   .inl (6, [some (some 1), some (some 53), some (some 69), some (some 70), none, some (some 71), some (some 72)]), .inr (.inl (0, 6)), .inr (.inl (1, 128)), .inr (.inl (0, 128)), .inr (.inl (0, 24)),
   .inl (9, [some (some 1), some (some 53), some (some 74), some (some 75), some (some 76)]), .inr (.inl (0, 64)), .inr (.inl (1, 64)), .inr (.inl (0, 64)),
   .inl (12, [some (some 78), some (some 79), some (some 80), some (some 81), some none, some none, none, some (some 82), some (some 83), some (some 84), some (some 85), some (some 86), some (some 87), some (some 88), none, some (some 89), none, none, none, none, none, some (some 90), some (some 91)]),
   .inr (.inl (0, 129)), .inr (.inl (0, 258)), .inr (.inl (1, 2)), .inr (.inl (0, 3)), .inr (.inl (0, 7)), .inr (.inl (0, 7)), .inr (.inl (0, 64)), .inr (.inl (0, 4)), .inr (.inl (0, 4)), .inr (.inl (1, 128)), .inr (.inl (0, 24)), .inr (.inl (0, 150)), .inr (.inl (0, 65)), .inr (.inl (0, 5))]
theorem LAY_len : LAY.length = 92 := by decide +kernel
def ap_w (K : Kt) (w : Mm) : va_W := LAY.mapIdx (fun k d => (K.1 k, ap_cell K w k d))
def ap_A (K : Kt) : Nat → Prop := fun q => ∃ k, k < 92 ∧ q = K.1 k
theorem ap_w_at {K : Kt} {w : Mm} {k : Nat} {d : Ld} (h : LAY[k]? = some d) : (ap_w K w)[k]? = some (K.1 k, ap_cell K w k d) := by
  simp [ap_w, List.getElem?_mapIdx, h]
theorem ap_w_of {K : Kt} {w : Mm} {k : Nat} {q : Nat × va_E} (h : (ap_w K w)[k]? = some q) : k < 92 ∧ q.1 = K.1 k := by
  rw [ap_w, List.getElem?_mapIdx] at h
  cases hd : LAY[k]? with
  | none => rw [hd] at h; cases h
  | some d =>
    rw [hd] at h
    have h2 := Option.some.inj h
    refine ⟨by rw [← LAY_len]; exact (List.getElem?_eq_some_iff.mp hd).1, by rw [← h2]⟩
theorem ap_cell_ne {K : Kt} {w w' : Mm} {k : Nat} {d : Ld} (h1 : w'.1 k = w.1 k) (h2 : w'.2 k = w.2 k) : ap_cell K w' k d = ap_cell K w k d := by
  cases d with
  | inl q =>
    have e : (fun i fd => ap_fv K w' k i fd) = (fun i fd => ap_fv K w k i fd) := by
      funext i fd
      cases fd with
      | none => simp [ap_fv, h1]
      | some x => cases x <;> simp [ap_fv, h2]
    simp only [ap_cell, e]
  | inr q => cases q with
    | inl q => simp only [ap_cell, h1]
    | inr q => rfl
theorem ap_w_set {K : Kt} {w w' : Mm} {k : Nat} {d : Ld} {x : va_E} (h : LAY[k]? = some d) (hx : ap_cell K w' k d = x) (h1 : ∀ j, j ≠ k → w'.1 j = w.1 j) (h2 : ∀ j, j ≠ k → w'.2 j = w.2 j) : (ap_w K w).set k (K.1 k, x) = ap_w K w' := by
  apply List.ext_getElem?
  intro j
  have hl : k < LAY.length := (List.getElem?_eq_some_iff.mp h).1
  rw [List.getElem?_set]
  by_cases hj : k = j
  · subst hj
    have : k < (ap_w K w).length := by simp only [ap_w, List.length_mapIdx]; exact hl
    rw [if_pos rfl, if_pos this, ap_w_at h, hx]
  · rw [if_neg hj]
    simp only [ap_w, List.getElem?_mapIdx]
    cases LAY[j]? with
    | none => rfl
    | some d' => simp only [Option.map_some]; rw [ap_cell_ne (h1 j (Ne.symm hj)) (h2 j (Ne.symm hj))]
theorem sA_same (w : Mm) (k : Nat) (f : Nat → Int32) : (sA w k f).1 k = f := by simp [sA]
theorem sA_ne (w : Mm) {k j : Nat} (f : Nat → Int32) (h : j ≠ k) : (sA w k f).1 j = w.1 j := by simp [sA, h]
theorem ap_w_sA {K : Kt} {w : Mm} {k t n : Nat} {f : Nat → Int32} (h : LAY[k]? = some (.inr (.inl (t, n)))) : (ap_w K w).set k (K.1 k, .inl (K.2.1 t, n, .inl f)) = ap_w K (sA w k f) :=
  ap_w_set h (by simp only [ap_cell, sA_same]) (fun j hj => sA_ne w f hj) (fun j _ => rfl)
theorem ap_w_sI {K : Kt} {w : Mm} {k ci i : Nat} {fds : List (Option (Option Nat))} {v : Int32} (h : LAY[k]? = some (.inl (ci, fds))) (hi : fds[i]? = some none) : (ap_w K w).set k (K.1 k, .inr (ci, (fds.mapIdx (fun i fd => ap_fv K w k i fd)).set i (.int v))) = ap_w K (sI w k i v) := by
  refine ap_w_set h ?_ (fun j hj => sA_ne w _ hj) (fun j _ => rfl)
  simp only [ap_cell]
  congr 2
  apply List.ext_getElem?
  intro j
  have hl : i < fds.length := (List.getElem?_eq_some_iff.mp hi).1
  rw [List.getElem?_set, List.getElem?_mapIdx, List.getElem?_mapIdx]
  by_cases hj : i = j
  · subst hj
    rw [if_pos rfl, if_pos (by simpa using hl), hi]
    simp [ap_fv, sI, sA, upd]
  · rw [if_neg hj]
    cases fds[j]? with
    | none => rfl
    | some fd =>
      simp only [Option.map_some]
      cases fd with
      | none => simp [ap_fv, sI, sA, upd, Ne.symm hj]
      | some x => cases x <;> rfl
theorem ap_w_sJ {K : Kt} {w : Mm} {k ci i : Nat} {fds : List (Option (Option Nat))} {v : Int64} (h : LAY[k]? = some (.inl (ci, fds))) (hi : fds[i]? = some (some none)) : (ap_w K w).set k (K.1 k, .inr (ci, (fds.mapIdx (fun i fd => ap_fv K w k i fd)).set i (.long v))) = ap_w K (sJ w k i v) := by
  refine ap_w_set h ?_ (fun j _ => rfl) (fun j hj => by simp [sJ, hj])
  simp only [ap_cell]
  congr 2
  apply List.ext_getElem?
  intro j
  have hl : i < fds.length := (List.getElem?_eq_some_iff.mp hi).1
  rw [List.getElem?_set, List.getElem?_mapIdx, List.getElem?_mapIdx]
  by_cases hj : i = j
  · subst hj
    rw [if_pos rfl, if_pos (by simpa using hl), hi]
    simp [ap_fv, sJ, vp_updL]
  · rw [if_neg hj]
    cases fds[j]? with
    | none => rfl
    | some fd =>
      simp only [Option.map_some]
      cases fd with
      | none => rfl
      | some x => cases x with
        | none => simp [ap_fv, sJ, vp_updL, Ne.symm hj]
        | some y => rfl
/-! ===== words, and what holds at a state ===== -/
def ap_gw : List Cond := lw_tbl.filter goodWord
theorem ap_in {w : Cond} (i : Nat) (h : lw_tbl[i]? = some w) (hg : goodWord w = true) : w ∈ ap_gw := List.mem_filter.mpr ⟨List.mem_of_getElem? h, hg⟩
def ap_ws (y : MethodName) (cc : ByteArray) (nL : Nat) (ret : Option FieldType) : List Cond := .code y cc nL ret :: ap_gw
theorem ap_good {y : MethodName} {cc : ByteArray} {nL : Nat} {ret : Option FieldType} (h : Cond.code y cc nL ret ∈ ap_gw) : GoodIn ap_gw (ap_ws y cc nL ret) := by
  intro w hw
  have h1 : w ∈ ap_gw := by
    rcases List.mem_cons.mp hw with e | e
    · rw [e]; exact h
    · exact e
  exact ⟨h1, good_of_word (List.mem_filter.mp h1).2⟩
abbrev ap_tys (K : Kt) : List (ClassId × FieldType) := [(K.2.1 0, .int), (K.2.1 1, .boolean), (K.2.1 2, .byte), (K.2.1 3, .object "CandleLand$Valley"), (K.2.1 4, .object "CandleLand$Plain")]
/-- the nest mates' words -/
def ap_nst : List Cond := [.methodLinkNest "CandleLand$Reader" 89 ⟨"CandleLand", "within", "(III)Z"⟩ "CandleLand", .methodLinkNest "CandleLand$Valley" 64 ⟨"CandleLand", "farBetween", "(II)I"⟩ "CandleLand", .methodLinkNest "CandleLand$Night" 141 ⟨"CandleLand", "farBetween", "(II)I"⟩ "CandleLand"]
/-- the text constants: candle .. -/
def ap_str (K : Kt) (U : State) : Prop := vk_S 3 [6, 6, 3] [[118, 97, 108, 108, 101, 121], [99, 97, 110, 100, 108, 101], [111, 117, 116]] K.2.2.2.1 K.2.2.2.2 (ap_A K) U U.heap ∧ va_Z "java/lang/String" "COMPACT_STRINGS" "Z" (.int 1) (ap_A K) U U.heap ∧ va_Zq "jdk/internal/util/Preconditions" "SIOOBE_FORMATTER" "Ljava/util/function/BiFunction;" (ap_A K) U U.heap
def ap_ldc (K : Kt) (U : State) : Prop := vk_R "CandleLand$Reader" 49 "valley" (K.2.2.2.1 0) U ∧ vk_R "CandleLand$Reader" 59 "candle" (K.2.2.2.1 1) U ∧ vk_R "CandleLand$Reader" 64 "out" (K.2.2.2.1 2) U
def ap_K (K : Kt) (U : State) : Prop := va_K K.2.2.1 ap_cl (ap_tys K) U ∧ (∀ q ∈ ap_nst, va_Nw q U) ∧ (∀ i j, i < 92 → j < 92 → K.1 i = K.1 j → i = j) ∧ ap_str K U ∧ ap_ldc K U
theorem ap_str.blind {K : Kt} {U : State} {g : JFrame} {mk : MethodId} {a : Array Value} (h : ap_str K U) : ap_str K (U.calling g mk a) :=
  ⟨vk_S.moved (u := U) (U := U.calling g mk a) (Vm.Alike.refl U.vm) h.1, va_Z.moved (u := U) (U := U.calling g mk a) (Vm.Alike.refl U.vm) h.2.1, va_Zq.moved (u := U) (U := U.calling g mk a) (Vm.Alike.refl U.vm) h.2.2⟩
theorem ap_K.blind {K : Kt} {U : State} {g : JFrame} {mk : MethodId} {a : Array Value} (h : ap_K K U) : ap_K K (U.calling g mk a) :=
  ⟨va_K.moved (u := U) (U := U.calling g mk a) (Vm.Alike.refl U.vm) h.1, fun q hq => by
    have h1 := h.2.1 q hq
    simp only [ap_nst, List.mem_cons, List.not_mem_nil, or_false] at hq
    rcases hq with rfl | rfl | rfl <;> exact va_Nw.same rfl rfl h1, h.2.2.1, h.2.2.2.1.blind, vk_R.same (u := U) rfl h.2.2.2.2.1, vk_R.same (u := U) rfl h.2.2.2.2.2.1, vk_R.same (u := U) rfl h.2.2.2.2.2.2⟩
theorem ap_K.call {K : Kt} {s U : State} {H : Heap} {locs : List Loc} (h : ap_K K s) (hS : va_S (ap_A K) s.heap H locs) (hU : U.heap = H) (hW : s.WarmedH U.vm) : ap_K K U := by
  obtain ⟨h1, h2, h3, ⟨h4, h5, h6⟩, h7, h8, h9⟩ := h
  have hq : ∀ a : Nat, a < s.heap.size → ¬ (ap_A K) a → U.heap[a]? = s.heap[a]? := fun a ha hA => by rw [hU]; exact hS.2.1 a ha hA
  refine ⟨va_K.moved hW.alike h1, fun q hq => ?_, h3, ⟨(vk_S.moved hW.alike h4).kept hq, (va_Z.moved hW.alike h5).kept hq, (va_Zq.moved hW.alike h6).kept hq⟩, vk_R.warm hW h7, vk_R.warm hW h8, vk_R.warm hW h9⟩
  have h10 := h2 q hq
  simp only [ap_nst, List.mem_cons, List.not_mem_nil, or_false] at hq
  rcases hq with rfl | rfl | rfl <;> exact va_Nw.warmM hW h10
theorem ap_D {K : Kt} {w : Mm} (h : ∀ i j, i < 92 → j < 92 → K.1 i = K.1 j → i = j) : va_D (ap_A K) (ap_w K w) := by
  refine ⟨fun i j p q hp hq e => ?_, fun k q hq => ?_⟩
  · have h1 := ap_w_of hp
    have h2 := ap_w_of hq
    exact h i j h1.1 h2.1 (by rw [← h1.2, ← h2.2]; exact e)
  · have h1 := ap_w_of hq
    exact ⟨k, h1.1, h1.2⟩
/-! ===== the walk over the world ===== -/
/-- where a method stands: its code, the words, the tables -/
def ap_C (K : Kt) (cc : ByteArray) (own : String) (nL : Nat) (ret : Option FieldType) (E : Array Value → State → Prop) (p : Program) (s : State) (m : MethodId) (args : Array Value) (meth : Method) (c : Code) : Prop :=
  p.tables.exec = Jvm.exec ∧ c.code = cc ∧ c.maxLocals = nL ∧ meth.sig.returnType = ret ∧ s.vm.findClass own = some m.cls ∧ (∀ w ∈ ap_gw, w.before args s = true) ∧ meth.locks = false ∧ ap_K K s ∧ E args s
def AW (l : Launch) (K : Kt) (cc : ByteArray) (own : String) (nL : Nat) (ret : Option FieldType) (R : Room) (cells slots : Nat) (E : Array Value → State → Prop) (Qf : List Frame → Array Value → State → State → Prop) (w : Mm) (pc : Nat) (lv : List (Nat × Value)) (st : List Value) : Prop :=
  ∀ (p : Program) (e : Env) (s : State) (m : MethodId) (args : Array Value) (below : List Frame) (meth : Method) (c : Code) (H : Heap) (locs : List Loc) (ls : Array Slot), ap_C K cc own nL ret E p s m args meth c → va_P K.2.2.1 ap_cl (ap_w K w) H → va_S (ap_A K) s.heap H locs → lv_has ls nL lv → W p l e R s m args below meth c H locs cells slots (Qf below args s) (F0 m pc ls st)
/-- a method's end: its answer, and the world -/
def ap_Q (K : Kt) (r : Option Value) (w : Mm) : Array Value → State → Outcome → State → Prop := fun _ s o t => o = .returned r ∧ va_P K.2.2.1 ap_cl (ap_w K w) t.heap ∧ va_F (ap_A K) s t
def ap_F (K : Kt) (r : Option Value) (w : Mm) : List Frame → Array Value → State → State → Prop := fun below args s => MQ below (ap_Q K r w) args s 0 0 (ap_A K)
def ap_P (K : Kt) (w : Mm) (As : List Value) : Array Value → State → Prop := va_Pc As (fun U => va_P K.2.2.1 ap_cl (ap_w K w) U.heap ∧ ap_K K U)
/-- a method's contract, at these arguments in this world -/
def MC (l : Launch) (K : Kt) (y : MethodName) (cc : ByteArray) (nL : Nat) (ret : Option FieldType) (rm : Room) (w : Mm) (As : List Value) (r : Option Value) (w' : Mm) : Prop :=
  Met l y (ap_ws y cc nL ret) rm (ap_P K w As) (ap_Q K r w') 0 0 (ap_A K)
abbrev ap_E : Array Value → State → Prop := fun _ _ => True
theorem ap_P.blind {K : Kt} {w : Mm} {As : List Value} : FrameBlind (ap_P K w As) := fun a U g mk h => ⟨h.1, h.2.1, h.2.2.blind⟩
theorem MC.of {l : Launch} {K : Kt} {y : MethodName} {cc : ByteArray} {nL : Nat} {ret : Option FieldType} {rm : Room} {w w' : Mm} {As : List Value} {r : Option Value} {lv : List (Nat × Value)} (hy : plainName y.cls = true) (hn : (lg_sl As).length ≤ nL) (hlv : lv_args 0 As = lv)
    (h : AW l K cc y.cls nL ret rm 0 0 ap_E (ap_F K r w') w 0 lv []) : MC l K y cc nL ret rm w As r w' := by
  refine Met.ofW (cc := cc) (maxL := nL) (ret := ret) hy rfl ?_
  intro p e s m args below meth c s₁ B hml hv
  obtain ⟨rfl, hP, hK⟩ := hv
  have hts := atoms_spec (ws := ap_ws y cc nL ret) B.pre
  have hown : s.vm.findClass y.cls = some m.cls := findClass_of_methodNamed B.named
  have hl := lv_entry As (n := nL) hn
  rw [hlv] at hl
  rw [lg_entry_eq]
  exact h p e s m As.toArray below meth c s.heap [] _ ⟨B.exec, B.bytes, hml, B.returns, hown, fun w hw => hts w (List.mem_cons_of_mem _ hw), B.notSynchronized, hK, trivial⟩ hP va_S.rf hl
section AP
variable {l : Launch} {K : Kt} {cc : ByteArray} {own : String} {nL : Nat} {ret : Option FieldType} {R : Room} {cells slots : Nat} {E : Array Value → State → Prop} {Qf : List Frame → Array Value → State → State → Prop} {w : Mm} {pc : Nat} {lv lv' : List (Nat × Value)} {st : List Value}
theorem ap_sub (ks : List Nat) (h : lv_pick lv ks = lv') (k : AW l K cc own nL ret R cells slots E Qf w pc lv' st) : AW l K cc own nL ret R cells slots E Qf w pc lv st :=
  fun p e s m args below meth c H locs ls hC hP hS hl => k p e s m args below meth c H locs ls hC hP hS (lv_sub hl ks h)
theorem ap_iconst {n : Int} {v : Int32} (hdg : decode cc pc = .ok (.iconst n, 1)) (hv : Int32.ofInt n = v) (k : AW l K cc own nL ret R cells slots E Qf w (pc + 1) lv (.int v :: st)) : AW l K cc own nL ret R cells slots E Qf w pc lv (st) :=
  fun p e s m args below meth c H locs ls hC hP hS hl => lv_iconst hC.1 hC.2.1  hdg hv (k p e s m args below meth c H locs ls hC hP hS hl)
theorem ap_bipush {n : Int} {v : Int32} (hdg : decode cc pc = .ok (.bipush n, 2)) (hv : (Int8.ofInt n).toInt32 = v) (k : AW l K cc own nL ret R cells slots E Qf w (pc + 2) lv (.int v :: st)) : AW l K cc own nL ret R cells slots E Qf w pc lv (st) :=
  fun p e s m args below meth c H locs ls hC hP hS hl => lv_bipush hC.1 hC.2.1  hdg hv (k p e s m args below meth c H locs ls hC hP hS hl)
theorem ap_sipush {n : Int} {v : Int32} (hdg : decode cc pc = .ok (.sipush n, 3)) (hv : (Int16.ofInt n).toInt32 = v) (k : AW l K cc own nL ret R cells slots E Qf w (pc + 3) lv (.int v :: st)) : AW l K cc own nL ret R cells slots E Qf w pc lv (st) :=
  fun p e s m args below meth c H locs ls hC hP hS hl => lv_sipush hC.1 hC.2.1  hdg hv (k p e s m args below meth c H locs ls hC hP hS hl)
theorem ap_lconst {n : Fin 2} {v : Int64} (hdg : decode cc pc = .ok (.lconst n, 1)) (hv : Int64.ofNat (n : Nat) = v) (k : AW l K cc own nL ret R cells slots E Qf w (pc + 1) lv (.long v :: st)) : AW l K cc own nL ret R cells slots E Qf w pc lv (st) :=
  fun p e s m args below meth c H locs ls hC hP hS hl => lv_lconst hC.1 hC.2.1  hdg hv (k p e s m args below meth c H locs ls hC hP hS hl)
theorem ap_iload_n {k0 : Fin 4} {i : Nat} {x : Int32} (hdg : decode cc pc = .ok (.iload_n k0, 1)) (q : Nat) (hi : (k0 : Nat) = i) (hq : lv[q]? = some (i, .int x)) (k : AW l K cc own nL ret R cells slots E Qf w (pc + 1) lv (.int x :: st)) : AW l K cc own nL ret R cells slots E Qf w pc lv (st) :=
  fun p e s m args below meth c H locs ls hC hP hS hl => lv_iload_n hC.1 hC.2.1  hdg hi (lv_at hl q hq) (k p e s m args below meth c H locs ls hC hP hS hl)
theorem ap_iload {i : Nat} {x : Int32} (hdg : decode cc pc = .ok (.iload i, 2)) (q : Nat) (hq : lv[q]? = some (i, .int x)) (k : AW l K cc own nL ret R cells slots E Qf w (pc + 2) lv (.int x :: st)) : AW l K cc own nL ret R cells slots E Qf w pc lv (st) :=
  fun p e s m args below meth c H locs ls hC hP hS hl => lv_iload hC.1 hC.2.1  hdg (lv_at hl q hq) (k p e s m args below meth c H locs ls hC hP hS hl)
theorem ap_lload_n {k0 : Fin 4} {i : Nat} {x : Int64} (hdg : decode cc pc = .ok (.lload_n k0, 1)) (q : Nat) (hi : (k0 : Nat) = i) (hq : lv[q]? = some (i, .long x)) (k : AW l K cc own nL ret R cells slots E Qf w (pc + 1) lv (.long x :: st)) : AW l K cc own nL ret R cells slots E Qf w pc lv (st) :=
  fun p e s m args below meth c H locs ls hC hP hS hl => lv_lload_n hC.1 hC.2.1  hdg hi (lv_at hl q hq) (k p e s m args below meth c H locs ls hC hP hS hl)
theorem ap_lload {i : Nat} {x : Int64} (hdg : decode cc pc = .ok (.lload i, 2)) (q : Nat) (hq : lv[q]? = some (i, .long x)) (k : AW l K cc own nL ret R cells slots E Qf w (pc + 2) lv (.long x :: st)) : AW l K cc own nL ret R cells slots E Qf w pc lv (st) :=
  fun p e s m args below meth c H locs ls hC hP hS hl => lv_lload hC.1 hC.2.1  hdg (lv_at hl q hq) (k p e s m args below meth c H locs ls hC hP hS hl)
theorem ap_aload_n {k0 : Fin 4} {i : Nat} {x : Nat} (hdg : decode cc pc = .ok (.aload_n k0, 1)) (q : Nat) (hi : (k0 : Nat) = i) (hq : lv[q]? = some (i, .ref x)) (k : AW l K cc own nL ret R cells slots E Qf w (pc + 1) lv (.ref x :: st)) : AW l K cc own nL ret R cells slots E Qf w pc lv (st) :=
  fun p e s m args below meth c H locs ls hC hP hS hl => lv_aload_n hC.1 hC.2.1  hdg hi (lv_at hl q hq) (k p e s m args below meth c H locs ls hC hP hS hl)
theorem ap_aload {i : Nat} {x : Nat} (hdg : decode cc pc = .ok (.aload i, 2)) (q : Nat) (hq : lv[q]? = some (i, .ref x)) (k : AW l K cc own nL ret R cells slots E Qf w (pc + 2) lv (.ref x :: st)) : AW l K cc own nL ret R cells slots E Qf w pc lv (st) :=
  fun p e s m args below meth c H locs ls hC hP hS hl => lv_aload hC.1 hC.2.1  hdg (lv_at hl q hq) (k p e s m args below meth c H locs ls hC hP hS hl)
theorem ap_istore_n {k0 : Fin 4} {i : Nat} {x : Int32} (hdg : decode cc pc = .ok (.istore_n k0, 1)) (hi : (k0 : Nat) = i) (hn : i < nL) (hv : (i, Value.int x) :: lv.filter (fun q => !(q.1 == i) && !(q.1 + 1 == i && q.2.category == 2)) = lv') (k : AW l K cc own nL ret R cells slots E Qf w (pc + 1) lv' st) : AW l K cc own nL ret R cells slots E Qf w pc lv (Value.int x :: st) :=
  fun p e s m args below meth c H locs ls hC hP hS hl => lv_istore_n hC.1 hC.2.1 hdg hi hl hn hv (fun ls hl => k p e s m args below meth c H locs ls hC hP hS hl)
theorem ap_istore {i : Nat} {x : Int32} (hdg : decode cc pc = .ok (.istore i, 2)) (hn : i < nL) (hv : (i, Value.int x) :: lv.filter (fun q => !(q.1 == i) && !(q.1 + 1 == i && q.2.category == 2)) = lv') (k : AW l K cc own nL ret R cells slots E Qf w (pc + 2) lv' st) : AW l K cc own nL ret R cells slots E Qf w pc lv (Value.int x :: st) :=
  fun p e s m args below meth c H locs ls hC hP hS hl => lv_istore hC.1 hC.2.1 hdg hl hn hv (fun ls hl => k p e s m args below meth c H locs ls hC hP hS hl)
theorem ap_lstore_n {k0 : Fin 4} {i : Nat} {x : Int64} (hdg : decode cc pc = .ok (.lstore_n k0, 1)) (hi : (k0 : Nat) = i) (hn : i + 1 < nL) (hv : (i, Value.long x) :: lv.filter (fun q => !(q.1 == i) && (!(q.1 == i + 1) && !(q.1 + 1 == i && q.2.category == 2))) = lv') (k : AW l K cc own nL ret R cells slots E Qf w (pc + 1) lv' st) : AW l K cc own nL ret R cells slots E Qf w pc lv (Value.long x :: st) :=
  fun p e s m args below meth c H locs ls hC hP hS hl => lv_lstore_n hC.1 hC.2.1 hdg hi hl hn hv (fun ls hl => k p e s m args below meth c H locs ls hC hP hS hl)
theorem ap_lstore {i : Nat} {x : Int64} (hdg : decode cc pc = .ok (.lstore i, 2)) (hn : i + 1 < nL) (hv : (i, Value.long x) :: lv.filter (fun q => !(q.1 == i) && (!(q.1 == i + 1) && !(q.1 + 1 == i && q.2.category == 2))) = lv') (k : AW l K cc own nL ret R cells slots E Qf w (pc + 2) lv' st) : AW l K cc own nL ret R cells slots E Qf w pc lv (Value.long x :: st) :=
  fun p e s m args below meth c H locs ls hC hP hS hl => lv_lstore hC.1 hC.2.1 hdg hl hn hv (fun ls hl => k p e s m args below meth c H locs ls hC hP hS hl)
theorem ap_astore_n {k0 : Fin 4} {i : Nat} {x : Nat} (hdg : decode cc pc = .ok (.astore_n k0, 1)) (hi : (k0 : Nat) = i) (hn : i < nL) (hv : (i, Value.ref x) :: lv.filter (fun q => !(q.1 == i) && !(q.1 + 1 == i && q.2.category == 2)) = lv') (k : AW l K cc own nL ret R cells slots E Qf w (pc + 1) lv' st) : AW l K cc own nL ret R cells slots E Qf w pc lv (Value.ref x :: st) :=
  fun p e s m args below meth c H locs ls hC hP hS hl => lv_astore_n hC.1 hC.2.1 hdg hi hl hn hv (fun ls hl => k p e s m args below meth c H locs ls hC hP hS hl)
theorem ap_astore {i : Nat} {x : Nat} (hdg : decode cc pc = .ok (.astore i, 2)) (hn : i < nL) (hv : (i, Value.ref x) :: lv.filter (fun q => !(q.1 == i) && !(q.1 + 1 == i && q.2.category == 2)) = lv') (k : AW l K cc own nL ret R cells slots E Qf w (pc + 2) lv' st) : AW l K cc own nL ret R cells slots E Qf w pc lv (Value.ref x :: st) :=
  fun p e s m args below meth c H locs ls hC hP hS hl => lv_astore hC.1 hC.2.1 hdg hl hn hv (fun ls hl => k p e s m args below meth c H locs ls hC hP hS hl)
theorem ap_iinc {i : Nat} {n : Int} {x v : Int32} (hdg : decode cc pc = .ok (.iinc i n, 3)) (q : Nat) (hq : lv[q]? = some (i, .int x)) (hw : x + Int32.ofInt n = v) (hn : i < nL) (hv : (i, Value.int v) :: lv.filter (fun q => !(q.1 == i) && !(q.1 + 1 == i && q.2.category == 2)) = lv') (k : AW l K cc own nL ret R cells slots E Qf w (pc + 3) lv' st) : AW l K cc own nL ret R cells slots E Qf w pc lv st :=
  fun p e s m args below meth c H locs ls hC hP hS hl => lv_iinc hC.1 hC.2.1 hdg hl hq hw hn hv (fun ls hl => k p e s m args below meth c H locs ls hC hP hS hl)
theorem ap_iadd {x y : Int32} (hdg : decode cc pc = .ok (.iadd, 1))  (k : AW l K cc own nL ret R cells slots E Qf w (pc + 1) lv (.int (x + y) :: st)) : AW l K cc own nL ret R cells slots E Qf w pc lv (.int y :: .int x :: st) :=
  fun p e s m args below meth c H locs ls hC hP hS hl => lv_iadd hC.1 hC.2.1  hdg  (k p e s m args below meth c H locs ls hC hP hS hl)
theorem ap_isub {x y : Int32} (hdg : decode cc pc = .ok (.isub, 1))  (k : AW l K cc own nL ret R cells slots E Qf w (pc + 1) lv (.int (x - y) :: st)) : AW l K cc own nL ret R cells slots E Qf w pc lv (.int y :: .int x :: st) :=
  fun p e s m args below meth c H locs ls hC hP hS hl => lv_isub hC.1 hC.2.1  hdg  (k p e s m args below meth c H locs ls hC hP hS hl)
theorem ap_imul {x y : Int32} (hdg : decode cc pc = .ok (.imul, 1))  (k : AW l K cc own nL ret R cells slots E Qf w (pc + 1) lv (.int (x * y) :: st)) : AW l K cc own nL ret R cells slots E Qf w pc lv (.int y :: .int x :: st) :=
  fun p e s m args below meth c H locs ls hC hP hS hl => lv_imul hC.1 hC.2.1  hdg  (k p e s m args below meth c H locs ls hC hP hS hl)
theorem ap_iand {x y : Int32} (hdg : decode cc pc = .ok (.iand, 1))  (k : AW l K cc own nL ret R cells slots E Qf w (pc + 1) lv (.int (x &&& y) :: st)) : AW l K cc own nL ret R cells slots E Qf w pc lv (.int y :: .int x :: st) :=
  fun p e s m args below meth c H locs ls hC hP hS hl => lv_iand hC.1 hC.2.1  hdg  (k p e s m args below meth c H locs ls hC hP hS hl)
theorem ap_ior {x y : Int32} (hdg : decode cc pc = .ok (.ior, 1))  (k : AW l K cc own nL ret R cells slots E Qf w (pc + 1) lv (.int (x ||| y) :: st)) : AW l K cc own nL ret R cells slots E Qf w pc lv (.int y :: .int x :: st) :=
  fun p e s m args below meth c H locs ls hC hP hS hl => lv_ior hC.1 hC.2.1  hdg  (k p e s m args below meth c H locs ls hC hP hS hl)
theorem ap_ixor {x y : Int32} (hdg : decode cc pc = .ok (.ixor, 1))  (k : AW l K cc own nL ret R cells slots E Qf w (pc + 1) lv (.int (x ^^^ y) :: st)) : AW l K cc own nL ret R cells slots E Qf w pc lv (.int y :: .int x :: st) :=
  fun p e s m args below meth c H locs ls hC hP hS hl => lv_ixor hC.1 hC.2.1  hdg  (k p e s m args below meth c H locs ls hC hP hS hl)
theorem ap_ishl {x y : Int32} (hdg : decode cc pc = .ok (.ishl, 1))  (k : AW l K cc own nL ret R cells slots E Qf w (pc + 1) lv (.int (x <<< (y &&& 31)) :: st)) : AW l K cc own nL ret R cells slots E Qf w pc lv (.int y :: .int x :: st) :=
  fun p e s m args below meth c H locs ls hC hP hS hl => lv_ishl hC.1 hC.2.1  hdg  (k p e s m args below meth c H locs ls hC hP hS hl)
theorem ap_ishr {x y : Int32} (hdg : decode cc pc = .ok (.ishr, 1))  (k : AW l K cc own nL ret R cells slots E Qf w (pc + 1) lv (.int (x >>> (y &&& 31)) :: st)) : AW l K cc own nL ret R cells slots E Qf w pc lv (.int y :: .int x :: st) :=
  fun p e s m args below meth c H locs ls hC hP hS hl => lv_ishr hC.1 hC.2.1  hdg  (k p e s m args below meth c H locs ls hC hP hS hl)
theorem ap_ineg {x : Int32} (hdg : decode cc pc = .ok (.ineg, 1))  (k : AW l K cc own nL ret R cells slots E Qf w (pc + 1) lv (.int (-x) :: st)) : AW l K cc own nL ret R cells slots E Qf w pc lv (.int x :: st) :=
  fun p e s m args below meth c H locs ls hC hP hS hl => lv_ineg hC.1 hC.2.1  hdg  (k p e s m args below meth c H locs ls hC hP hS hl)
theorem ap_idiv {x y : Int32} (hdg : decode cc pc = .ok (.idiv, 1)) (hne : ¬ y = 0) (k : AW l K cc own nL ret R cells slots E Qf w (pc + 1) lv (.int (x / y) :: st)) : AW l K cc own nL ret R cells slots E Qf w pc lv (.int y :: .int x :: st) :=
  fun p e s m args below meth c H locs ls hC hP hS hl => lv_idiv hC.1 hC.2.1  hdg hne (k p e s m args below meth c H locs ls hC hP hS hl)
theorem ap_irem {x y : Int32} (hdg : decode cc pc = .ok (.irem, 1)) (hne : ¬ y = 0) (k : AW l K cc own nL ret R cells slots E Qf w (pc + 1) lv (.int (x - x / y * y) :: st)) : AW l K cc own nL ret R cells slots E Qf w pc lv (.int y :: .int x :: st) :=
  fun p e s m args below meth c H locs ls hC hP hS hl => lv_irem hC.1 hC.2.1  hdg hne (k p e s m args below meth c H locs ls hC hP hS hl)
theorem ap_iushr {x y v : Int32} (hdg : decode cc pc = .ok (.iushr, 1)) (hv : (x.toUInt32 >>> (y.toUInt32 &&& Int32.toUInt32 31)).toInt32 = v) (k : AW l K cc own nL ret R cells slots E Qf w (pc + 1) lv (.int v :: st)) : AW l K cc own nL ret R cells slots E Qf w pc lv (.int y :: .int x :: st) :=
  fun p e s m args below meth c H locs ls hC hP hS hl => lv_iushr hC.1 hC.2.1  hdg hv (k p e s m args below meth c H locs ls hC hP hS hl)
theorem ap_i2l {x : Int32} {v : Int64} (hdg : decode cc pc = .ok (.i2l, 1)) (hv : x.toInt64 = v) (k : AW l K cc own nL ret R cells slots E Qf w (pc + 1) lv (.long v :: st)) : AW l K cc own nL ret R cells slots E Qf w pc lv (.int x :: st) :=
  fun p e s m args below meth c H locs ls hC hP hS hl => lv_i2l hC.1 hC.2.1  hdg hv (k p e s m args below meth c H locs ls hC hP hS hl)
theorem ap_i2b {x v : Int32} (hdg : decode cc pc = .ok (.i2b, 1)) (hv : x.toInt8.toInt32 = v) (k : AW l K cc own nL ret R cells slots E Qf w (pc + 1) lv (.int v :: st)) : AW l K cc own nL ret R cells slots E Qf w pc lv (.int x :: st) :=
  fun p e s m args below meth c H locs ls hC hP hS hl => lv_i2b hC.1 hC.2.1  hdg hv (k p e s m args below meth c H locs ls hC hP hS hl)
theorem ap_i2c {x v : Int32} (hdg : decode cc pc = .ok (.i2c, 1)) (hv : (x.toUInt32 % 65536).toInt32 = v) (k : AW l K cc own nL ret R cells slots E Qf w (pc + 1) lv (.int v :: st)) : AW l K cc own nL ret R cells slots E Qf w pc lv (.int x :: st) :=
  fun p e s m args below meth c H locs ls hC hP hS hl => lv_i2c hC.1 hC.2.1  hdg hv (k p e s m args below meth c H locs ls hC hP hS hl)
theorem ap_ladd {x y : Int64} (hdg : decode cc pc = .ok (.ladd, 1))  (k : AW l K cc own nL ret R cells slots E Qf w (pc + 1) lv (.long (x + y) :: st)) : AW l K cc own nL ret R cells slots E Qf w pc lv (.long y :: .long x :: st) :=
  fun p e s m args below meth c H locs ls hC hP hS hl => lv_ladd hC.1 hC.2.1  hdg  (k p e s m args below meth c H locs ls hC hP hS hl)
theorem ap_lsub {x y : Int64} (hdg : decode cc pc = .ok (.lsub, 1))  (k : AW l K cc own nL ret R cells slots E Qf w (pc + 1) lv (.long (x - y) :: st)) : AW l K cc own nL ret R cells slots E Qf w pc lv (.long y :: .long x :: st) :=
  fun p e s m args below meth c H locs ls hC hP hS hl => lv_lsub hC.1 hC.2.1  hdg  (k p e s m args below meth c H locs ls hC hP hS hl)
theorem ap_lmul {x y : Int64} (hdg : decode cc pc = .ok (.lmul, 1))  (k : AW l K cc own nL ret R cells slots E Qf w (pc + 1) lv (.long (x * y) :: st)) : AW l K cc own nL ret R cells slots E Qf w pc lv (.long y :: .long x :: st) :=
  fun p e s m args below meth c H locs ls hC hP hS hl => lv_lmul hC.1 hC.2.1  hdg  (k p e s m args below meth c H locs ls hC hP hS hl)
theorem ap_ldiv {x y : Int64} (hdg : decode cc pc = .ok (.ldiv, 1)) (hne : ¬ y = 0) (k : AW l K cc own nL ret R cells slots E Qf w (pc + 1) lv (.long (x / y) :: st)) : AW l K cc own nL ret R cells slots E Qf w pc lv (.long y :: .long x :: st) :=
  fun p e s m args below meth c H locs ls hC hP hS hl => lv_ldiv hC.1 hC.2.1  hdg hne (k p e s m args below meth c H locs ls hC hP hS hl)
theorem ap_lrem {x y : Int64} (hdg : decode cc pc = .ok (.lrem, 1)) (hne : ¬ y = 0) (k : AW l K cc own nL ret R cells slots E Qf w (pc + 1) lv (.long (x - x / y * y) :: st)) : AW l K cc own nL ret R cells slots E Qf w pc lv (.long y :: .long x :: st) :=
  fun p e s m args below meth c H locs ls hC hP hS hl => lv_lrem hC.1 hC.2.1  hdg hne (k p e s m args below meth c H locs ls hC hP hS hl)
theorem ap_lcmp {x y : Int64} (hdg : decode cc pc = .ok (.lcmp, 1))  (k : AW l K cc own nL ret R cells slots E Qf w (pc + 1) lv (.int (lg_cmp x y) :: st)) : AW l K cc own nL ret R cells slots E Qf w pc lv (.long y :: .long x :: st) :=
  fun p e s m args below meth c H locs ls hC hP hS hl => W.lcmp hC.1 hC.2.1  hdg  (k p e s m args below meth c H locs ls hC hP hS hl)
theorem ap_dup {va : Value} (hdg : decode cc pc = .ok (.dup, 1)) (hva : va.category = 1) (k : AW l K cc own nL ret R cells slots E Qf w (pc + 1) lv (va :: va :: st)) : AW l K cc own nL ret R cells slots E Qf w pc lv (va :: st) :=
  fun p e s m args below meth c H locs ls hC hP hS hl => lv_dup hC.1 hC.2.1  hdg hva (k p e s m args below meth c H locs ls hC hP hS hl)
theorem ap_pop {va : Value} (hdg : decode cc pc = .ok (.pop, 1)) (hva : va.category = 1) (k : AW l K cc own nL ret R cells slots E Qf w (pc + 1) lv (st)) : AW l K cc own nL ret R cells slots E Qf w pc lv (va :: st) :=
  fun p e s m args below meth c H locs ls hC hP hS hl => lv_pop hC.1 hC.2.1  hdg hva (k p e s m args below meth c H locs ls hC hP hS hl)
theorem ap_dup2 {va vb : Value} (hdg : decode cc pc = .ok (.dup2, 1)) (hva : va.category = 1) (hvb : vb.category = 1) (k : AW l K cc own nL ret R cells slots E Qf w (pc + 1) lv (va :: vb :: va :: vb :: st)) : AW l K cc own nL ret R cells slots E Qf w pc lv (va :: vb :: st) :=
  fun p e s m args below meth c H locs ls hC hP hS hl => lv_dup2_11 hC.1 hC.2.1  hdg hva hvb (k p e s m args below meth c H locs ls hC hP hS hl)
theorem ap_if_eq {x : Int32} {off : Int} {tgt : Nat} (hdg : decode cc pc = .ok (.ifCond .eq off, 3)) (ht : (pc : Int) + off = (tgt : Int)) (kt : x = 0 → AW l K cc own nL ret R cells slots E Qf w tgt lv st) (kf : ¬ x = 0 → AW l K cc own nL ret R cells slots E Qf w (pc + 3) lv st) : AW l K cc own nL ret R cells slots E Qf w pc lv (.int x :: st) :=
  fun p e s m args below meth c H locs ls hC hP hS hl => lv_if_eq hC.1 hC.2.1 hdg ht (fun z => kt z p e s m args below meth c H locs ls hC hP hS hl) (fun z => kf z p e s m args below meth c H locs ls hC hP hS hl)
theorem ap_icmp_eq {x y : Int32} {off : Int} {tgt : Nat} (hdg : decode cc pc = .ok (.if_icmp .eq off, 3)) (ht : (pc : Int) + off = (tgt : Int)) (kt : x = y → AW l K cc own nL ret R cells slots E Qf w tgt lv st) (kf : ¬ x = y → AW l K cc own nL ret R cells slots E Qf w (pc + 3) lv st) : AW l K cc own nL ret R cells slots E Qf w pc lv (.int y :: .int x :: st) :=
  fun p e s m args below meth c H locs ls hC hP hS hl => lv_icmp_eq hC.1 hC.2.1 hdg ht (fun z => kt z p e s m args below meth c H locs ls hC hP hS hl) (fun z => kf z p e s m args below meth c H locs ls hC hP hS hl)
theorem ap_if_ne {x : Int32} {off : Int} {tgt : Nat} (hdg : decode cc pc = .ok (.ifCond .ne off, 3)) (ht : (pc : Int) + off = (tgt : Int)) (kt : ¬ x = 0 → AW l K cc own nL ret R cells slots E Qf w tgt lv st) (kf : x = 0 → AW l K cc own nL ret R cells slots E Qf w (pc + 3) lv st) : AW l K cc own nL ret R cells slots E Qf w pc lv (.int x :: st) :=
  fun p e s m args below meth c H locs ls hC hP hS hl => lv_if_ne hC.1 hC.2.1 hdg ht (fun z => kt z p e s m args below meth c H locs ls hC hP hS hl) (fun z => kf z p e s m args below meth c H locs ls hC hP hS hl)
theorem ap_icmp_ne {x y : Int32} {off : Int} {tgt : Nat} (hdg : decode cc pc = .ok (.if_icmp .ne off, 3)) (ht : (pc : Int) + off = (tgt : Int)) (kt : ¬ x = y → AW l K cc own nL ret R cells slots E Qf w tgt lv st) (kf : x = y → AW l K cc own nL ret R cells slots E Qf w (pc + 3) lv st) : AW l K cc own nL ret R cells slots E Qf w pc lv (.int y :: .int x :: st) :=
  fun p e s m args below meth c H locs ls hC hP hS hl => lv_icmp_ne hC.1 hC.2.1 hdg ht (fun z => kt z p e s m args below meth c H locs ls hC hP hS hl) (fun z => kf z p e s m args below meth c H locs ls hC hP hS hl)
theorem ap_if_lt {x : Int32} {off : Int} {tgt : Nat} (hdg : decode cc pc = .ok (.ifCond .lt off, 3)) (ht : (pc : Int) + off = (tgt : Int)) (kt : x < 0 → AW l K cc own nL ret R cells slots E Qf w tgt lv st) (kf : ¬ x < 0 → AW l K cc own nL ret R cells slots E Qf w (pc + 3) lv st) : AW l K cc own nL ret R cells slots E Qf w pc lv (.int x :: st) :=
  fun p e s m args below meth c H locs ls hC hP hS hl => lv_if_lt hC.1 hC.2.1 hdg ht (fun z => kt z p e s m args below meth c H locs ls hC hP hS hl) (fun z => kf z p e s m args below meth c H locs ls hC hP hS hl)
theorem ap_icmp_lt {x y : Int32} {off : Int} {tgt : Nat} (hdg : decode cc pc = .ok (.if_icmp .lt off, 3)) (ht : (pc : Int) + off = (tgt : Int)) (kt : x < y → AW l K cc own nL ret R cells slots E Qf w tgt lv st) (kf : ¬ x < y → AW l K cc own nL ret R cells slots E Qf w (pc + 3) lv st) : AW l K cc own nL ret R cells slots E Qf w pc lv (.int y :: .int x :: st) :=
  fun p e s m args below meth c H locs ls hC hP hS hl => lv_icmp_lt hC.1 hC.2.1 hdg ht (fun z => kt z p e s m args below meth c H locs ls hC hP hS hl) (fun z => kf z p e s m args below meth c H locs ls hC hP hS hl)
theorem ap_if_ge {x : Int32} {off : Int} {tgt : Nat} (hdg : decode cc pc = .ok (.ifCond .ge off, 3)) (ht : (pc : Int) + off = (tgt : Int)) (kt : 0 ≤ x → AW l K cc own nL ret R cells slots E Qf w tgt lv st) (kf : ¬ 0 ≤ x → AW l K cc own nL ret R cells slots E Qf w (pc + 3) lv st) : AW l K cc own nL ret R cells slots E Qf w pc lv (.int x :: st) :=
  fun p e s m args below meth c H locs ls hC hP hS hl => lv_if_ge hC.1 hC.2.1 hdg ht (fun z => kt z p e s m args below meth c H locs ls hC hP hS hl) (fun z => kf z p e s m args below meth c H locs ls hC hP hS hl)
theorem ap_icmp_ge {x y : Int32} {off : Int} {tgt : Nat} (hdg : decode cc pc = .ok (.if_icmp .ge off, 3)) (ht : (pc : Int) + off = (tgt : Int)) (kt : y ≤ x → AW l K cc own nL ret R cells slots E Qf w tgt lv st) (kf : ¬ y ≤ x → AW l K cc own nL ret R cells slots E Qf w (pc + 3) lv st) : AW l K cc own nL ret R cells slots E Qf w pc lv (.int y :: .int x :: st) :=
  fun p e s m args below meth c H locs ls hC hP hS hl => lv_icmp_ge hC.1 hC.2.1 hdg ht (fun z => kt z p e s m args below meth c H locs ls hC hP hS hl) (fun z => kf z p e s m args below meth c H locs ls hC hP hS hl)
theorem ap_if_gt {x : Int32} {off : Int} {tgt : Nat} (hdg : decode cc pc = .ok (.ifCond .gt off, 3)) (ht : (pc : Int) + off = (tgt : Int)) (kt : 0 < x → AW l K cc own nL ret R cells slots E Qf w tgt lv st) (kf : ¬ 0 < x → AW l K cc own nL ret R cells slots E Qf w (pc + 3) lv st) : AW l K cc own nL ret R cells slots E Qf w pc lv (.int x :: st) :=
  fun p e s m args below meth c H locs ls hC hP hS hl => lv_if_gt hC.1 hC.2.1 hdg ht (fun z => kt z p e s m args below meth c H locs ls hC hP hS hl) (fun z => kf z p e s m args below meth c H locs ls hC hP hS hl)
theorem ap_icmp_gt {x y : Int32} {off : Int} {tgt : Nat} (hdg : decode cc pc = .ok (.if_icmp .gt off, 3)) (ht : (pc : Int) + off = (tgt : Int)) (kt : y < x → AW l K cc own nL ret R cells slots E Qf w tgt lv st) (kf : ¬ y < x → AW l K cc own nL ret R cells slots E Qf w (pc + 3) lv st) : AW l K cc own nL ret R cells slots E Qf w pc lv (.int y :: .int x :: st) :=
  fun p e s m args below meth c H locs ls hC hP hS hl => lv_icmp_gt hC.1 hC.2.1 hdg ht (fun z => kt z p e s m args below meth c H locs ls hC hP hS hl) (fun z => kf z p e s m args below meth c H locs ls hC hP hS hl)
theorem ap_if_le {x : Int32} {off : Int} {tgt : Nat} (hdg : decode cc pc = .ok (.ifCond .le off, 3)) (ht : (pc : Int) + off = (tgt : Int)) (kt : x ≤ 0 → AW l K cc own nL ret R cells slots E Qf w tgt lv st) (kf : ¬ x ≤ 0 → AW l K cc own nL ret R cells slots E Qf w (pc + 3) lv st) : AW l K cc own nL ret R cells slots E Qf w pc lv (.int x :: st) :=
  fun p e s m args below meth c H locs ls hC hP hS hl => lv_if_le hC.1 hC.2.1 hdg ht (fun z => kt z p e s m args below meth c H locs ls hC hP hS hl) (fun z => kf z p e s m args below meth c H locs ls hC hP hS hl)
theorem ap_icmp_le {x y : Int32} {off : Int} {tgt : Nat} (hdg : decode cc pc = .ok (.if_icmp .le off, 3)) (ht : (pc : Int) + off = (tgt : Int)) (kt : x ≤ y → AW l K cc own nL ret R cells slots E Qf w tgt lv st) (kf : ¬ x ≤ y → AW l K cc own nL ret R cells slots E Qf w (pc + 3) lv st) : AW l K cc own nL ret R cells slots E Qf w pc lv (.int y :: .int x :: st) :=
  fun p e s m args below meth c H locs ls hC hP hS hl => lv_icmp_le hC.1 hC.2.1 hdg ht (fun z => kt z p e s m args below meth c H locs ls hC hP hS hl) (fun z => kf z p e s m args below meth c H locs ls hC hP hS hl)
theorem ap_goto {off : Int} {tgt : Nat} (hdg : decode cc pc = .ok (.goto off, 3)) (ht : (pc : Int) + off = (tgt : Int)) (k : AW l K cc own nL ret R cells slots E Qf w tgt lv st) : AW l K cc own nL ret R cells slots E Qf w pc lv st :=
  fun p e s m args below meth c H locs ls hC hP hS hl => lv_goto hC.1 hC.2.1 hdg ht (k p e s m args below meth c H locs ls hC hP hS hl)
theorem ap_ldci {index : Nat} {v : Int32} (hc : Cond.constant own index v ∈ ap_gw) (hdg : decode cc pc = .ok (.ldc index, 2)) (k : AW l K cc own nL ret R cells slots E Qf w (pc + 2) lv (.int v :: st)) : AW l K cc own nL ret R cells slots E Qf w pc lv st :=
  fun p e s m args below meth c H locs ls hC hP hS hl => lv_ldc hC.1 hC.2.1 hC.2.2.2.2.1 (hC.2.2.2.2.2.1 _ hc) hdg (k p e s m args below meth c H locs ls hC hP hS hl)
theorem ap_ldcw {index : Nat} {v : Int32} (hc : Cond.constant own index v ∈ ap_gw) (hdg : decode cc pc = .ok (.ldc_w index, 3)) (k : AW l K cc own nL ret R cells slots E Qf w (pc + 3) lv (.int v :: st)) : AW l K cc own nL ret R cells slots E Qf w pc lv st :=
  fun p e s m args below meth c H locs ls hC hP hS hl => lv_ldcw hC.1 hC.2.1 hC.2.2.2.2.1 (hC.2.2.2.2.2.1 _ hc) hdg (k p e s m args below meth c H locs ls hC hP hS hl)
theorem ap_ldc2 {index : Nat} {v : Int64} (hc : Cond.constantLong own index v ∈ ap_gw) (hdg : decode cc pc = .ok (.ldc2_w index, 3)) (k : AW l K cc own nL ret R cells slots E Qf w (pc + 3) lv (.long v :: st)) : AW l K cc own nL ret R cells slots E Qf w pc lv st :=
  fun p e s m args below meth c H locs ls hC hP hS hl => lv_ldc2 hC.1 hC.2.1 hC.2.2.2.2.1 (hC.2.2.2.2.2.1 _ hc) hdg (k p e s m args below meth c H locs ls hC hP hS hl)
theorem ap_tabIn {dflt lo hi : Int} {offs : Array Int} {len : Nat} {x : Int32} {off : Int} {tgt : Nat} (hdg : decode cc pc = .ok (.tableswitch dflt lo hi offs, len)) (h1 : ¬ x.toInt < lo) (h2 : ¬ hi < x.toInt) (ho : offs[(x.toInt - lo).toNat]? = some off) (ht : (pc : Int) + off = (tgt : Int)) (k : AW l K cc own nL ret R cells slots E Qf w tgt lv st) : AW l K cc own nL ret R cells slots E Qf w pc lv (.int x :: st) :=
  fun p e s m args below meth c H locs ls hC hP hS hl => lv_tableIn hC.1 hC.2.1 hdg h1 h2 ho ht (k p e s m args below meth c H locs ls hC hP hS hl)
theorem ap_tabOut {dflt lo hi : Int} {offs : Array Int} {len : Nat} {x : Int32} {tgt : Nat} (hdg : decode cc pc = .ok (.tableswitch dflt lo hi offs, len)) (h : x.toInt < lo ∨ hi < x.toInt) (ht : (pc : Int) + dflt = (tgt : Int)) (k : AW l K cc own nL ret R cells slots E Qf w tgt lv st) : AW l K cc own nL ret R cells slots E Qf w pc lv (.int x :: st) :=
  fun p e s m args below meth c H locs ls hC hP hS hl => lv_tableOut hC.1 hC.2.1 hdg h ht (k p e s m args below meth c H locs ls hC hP hS hl)
/-! ===== fields ===== -/
def ap_fld (own : String) (index ci i : Nat) : Prop := ∃ (C : String) (T : u_T) (N : Nat), ap_cl[ci]? = some (C, T, N) ∧ (∀ w ∈ u_ws C T N, w ∈ ap_gw) ∧ i < N ∧ Cond.fieldLink own index (T i).1 (T i).2.1 (T i).2.2.1 ∈ ap_gw
def ap_fldP (own : String) (index ci i : Nat) (ty : FieldType) : Prop := ∃ (C : String) (T : u_T) (N : Nat) (ty0 : Nat → FieldType), ap_cl[ci]? = some (C, T, N) ∧ (∀ w ∈ u_ws C T N, w ∈ ap_gw) ∧ i < N ∧ Cond.fieldLink own index (T i).1 (T i).2.1 (T i).2.2.1 ∈ ap_gw ∧ (∀ k, k < N → parseFieldDescriptor (T k).2.2.1 = some (ty0 k)) ∧ (∀ a, a < N → ∀ b, b < N → a ≠ b → (T a).2.1 ≠ (T b).2.1) ∧ (T i).2.2.2 = false ∧ parseFieldDescriptor (T i).2.2.1 = some ty
theorem ap_get {k ci i index : Nat} {fds : List (Option (Option Nat))} {fd : Option (Option Nat)} {v : Value} (hF : ap_fld own index ci i) (hd : LAY[k]? = some (.inl (ci, fds))) (hf : fds[i]? = some fd) (hv : ap_fv K w k i fd = v) (hdg : decode cc pc = .ok (.getfield index, 3)) (kk : AW l K cc own nL ret R cells slots E Qf w (pc + 3) lv (v :: st)) : AW l K cc own nL ret R cells slots E Qf w pc lv (.ref (K.1 k) :: st) := by
  intro p e s m args below meth c H locs ls hC hP hS hl
  obtain ⟨C, T, N, h1, h2, h3, h4⟩ := hF
  exact va_get (D := K.2.2.1) (C := C) (T := T) (N := N) (ref := (T i).1) hC.1 hC.2.1 hC.2.2.2.2.2.1 h2 hC.2.2.2.2.1 hC.2.2.2.2.2.2.2.1.1 hP k (ap_w_at hd) h1 i h3 (hC.2.2.2.2.2.1 _ h4) (fun _ h9 => h9) (v := v) (by rw [List.getElem?_mapIdx, hf, ← hv]; rfl) hdg (kk p e s m args below meth c H locs ls hC hP hS hl)
theorem ap_putI {k ci i index : Nat} {fds : List (Option (Option Nat))} {v : Int32} {w1 : Mm} (hF : ap_fldP own index ci i .int) (hd : LAY[k]? = some (.inl (ci, fds))) (hf : fds[i]? = some none) (hw : sI w k i v = w1) (hdg : decode cc pc = .ok (.putfield index, 3)) (kk : AW l K cc own nL ret R cells slots E Qf w1 (pc + 3) lv st) : AW l K cc own nL ret R cells slots E Qf w pc lv (.int v :: .ref (K.1 k) :: st) := by
  intro p e s m args below meth c H locs ls hC hP hS hl
  obtain ⟨C, T, N, ty0, h1, h2, h3, h4, h5, h6, h7, h8⟩ := hF
  refine va_put (D := K.2.2.1) (C := C) (T := T) (N := N) (ref := (T i).1) (ty := .int) (v := .int v) hC.1 hC.2.1 hC.2.2.2.2.2.1 h2 ty0 h5 h6 hC.2.2.2.2.1 hC.2.2.2.2.2.2.2.1.1 hP (ap_D hC.2.2.2.2.2.2.2.1.2.2.1) hS k (ap_w_at hd) h1 i h3 (hC.2.2.2.2.2.1 _ h4) (fun _ h9 => h9) h7 h8 rfl rfl (by simpa using (List.getElem?_eq_some_iff.mp hf).1) hdg (fun H1 locs1 hP1 _ hS1 => ?_)
  rw [ap_w_sI hd hf, hw] at hP1
  exact kk p e s m args below meth c H1 locs1 ls hC hP1 hS1 hl
theorem ap_putJ {k ci i index : Nat} {fds : List (Option (Option Nat))} {v : Int64} {w1 : Mm} (hF : ap_fldP own index ci i .long) (hd : LAY[k]? = some (.inl (ci, fds))) (hf : fds[i]? = some (some none)) (hw : sJ w k i v = w1) (hdg : decode cc pc = .ok (.putfield index, 3)) (kk : AW l K cc own nL ret R cells slots E Qf w1 (pc + 3) lv st) : AW l K cc own nL ret R cells slots E Qf w pc lv (.long v :: .ref (K.1 k) :: st) := by
  intro p e s m args below meth c H locs ls hC hP hS hl
  obtain ⟨C, T, N, ty0, h1, h2, h3, h4, h5, h6, h7, h8⟩ := hF
  refine va_put (D := K.2.2.1) (C := C) (T := T) (N := N) (ref := (T i).1) (ty := .long) (v := .long v) hC.1 hC.2.1 hC.2.2.2.2.2.1 h2 ty0 h5 h6 hC.2.2.2.2.1 hC.2.2.2.2.2.2.2.1.1 hP (ap_D hC.2.2.2.2.2.2.2.1.2.2.1) hS k (ap_w_at hd) h1 i h3 (hC.2.2.2.2.2.1 _ h4) (fun _ h9 => h9) h7 h8 rfl rfl (by simpa using (List.getElem?_eq_some_iff.mp hf).1) hdg (fun H1 locs1 hP1 _ hS1 => ?_)
  rw [ap_w_sJ hd hf, hw] at hP1
  exact kk p e s m args below meth c H1 locs1 ls hC hP1 hS1 hl
/-! ===== arrays ===== -/
def rdA (w : Mm) (o n : Nat) (i : Int32) : Option Int32 := if i < 0 ∨ n ≤ i.toNatClampNeg then none else some (w.1 o i.toNatClampNeg)
def wrA (w : Mm) (o n : Nat) (i v : Int32) : Option Mm := if i < 0 ∨ n ≤ i.toNatClampNeg then none else some (sI w o i.toNatClampNeg v)
def rdR (n : Nat) (i : Int32) : Option Nat := if i < 0 ∨ n ≤ i.toNatClampNeg then none else some i.toNatClampNeg
def cpA (w : Mm) (o0 n0 o1 n1 : Nat) (sp dp n : Int32) : Option Mm := if (sp < 0 ∨ dp < 0 ∨ n < 0) ∨ n0 < sp.toNatClampNeg + n.toNatClampNeg ∨ n1 < dp.toNatClampNeg + n.toNatClampNeg then none else some (sA w o1 (va_cpy (w.1 o0) (w.1 o1) sp.toNatClampNeg dp.toNatClampNeg n.toNatClampNeg))
theorem rdA_some {w : Mm} {o n : Nat} {i x : Int32} (h : rdA w o n i = some x) : vp_in i n ∧ w.1 o i.toNatClampNeg = x := by
  unfold rdA at h
  by_cases hc : i < 0 ∨ n ≤ i.toNatClampNeg
  · rw [if_pos hc] at h; cases h
  · rw [if_neg hc] at h; exact ⟨hc, Option.some.inj h⟩
theorem wrA_some {w w1 : Mm} {o n : Nat} {i x : Int32} (h : wrA w o n i x = some w1) : vp_in i n ∧ sI w o i.toNatClampNeg x = w1 := by
  unfold wrA at h
  by_cases hc : i < 0 ∨ n ≤ i.toNatClampNeg
  · rw [if_pos hc] at h; cases h
  · rw [if_neg hc] at h; exact ⟨hc, Option.some.inj h⟩
theorem rdR_some {n : Nat} {i : Int32} {j : Nat} (h : rdR n i = some j) : vp_in i n ∧ i.toNatClampNeg = j ∧ j < n := by
  unfold rdR at h
  by_cases hc : i < 0 ∨ n ≤ i.toNatClampNeg
  · rw [if_pos hc] at h; cases h
  · rw [if_neg hc] at h
    have h1 := Option.some.inj h
    exact ⟨hc, h1, by rw [← h1]; exact Nat.not_le.mp (fun q => hc (Or.inr q))⟩
theorem ap_iald {k n : Nat} {i x : Int32} (hd : LAY[k]? = some (.inr (.inl (0, n)))) (h : rdA w k n i = some x) (hdg : decode cc pc = .ok (.iaload, 1)) (kk : AW l K cc own nL ret R cells slots E Qf w (pc + 1) lv (.int x :: st)) : AW l K cc own nL ret R cells slots E Qf w pc lv (.int i :: .ref (K.1 k) :: st) := by
  intro p e s m args below meth c H locs ls hC hP hS hl
  obtain ⟨h1, rfl⟩ := rdA_some h
  exact va_iald hC.1 hC.2.1 hC.2.2.2.2.2.2.2.1.1 hP k 0 (ap_w_at hd) rfl h1 hdg (kk p e s m args below meth c H locs ls hC hP hS hl)
theorem ap_zald {k n : Nat} {i x : Int32} (hd : LAY[k]? = some (.inr (.inl (1, n)))) (h : rdA w k n i = some x) (hdg : decode cc pc = .ok (.baload, 1)) (kk : AW l K cc own nL ret R cells slots E Qf w (pc + 1) lv (.int x :: st)) : AW l K cc own nL ret R cells slots E Qf w pc lv (.int i :: .ref (K.1 k) :: st) := by
  intro p e s m args below meth c H locs ls hC hP hS hl
  obtain ⟨h1, rfl⟩ := rdA_some h
  exact va_zald hC.1 hC.2.1 hC.2.2.2.2.2.2.2.1.1 hP k 1 (ap_w_at hd) rfl h1 hdg (kk p e s m args below meth c H locs ls hC hP hS hl)
theorem ap_bald {k n : Nat} {i x : Int32} (hd : LAY[k]? = some (.inr (.inl (2, n)))) (h : rdA w k n i = some x) (hdg : decode cc pc = .ok (.baload, 1)) (kk : AW l K cc own nL ret R cells slots E Qf w (pc + 1) lv (.int x :: st)) : AW l K cc own nL ret R cells slots E Qf w pc lv (.int i :: .ref (K.1 k) :: st) := by
  intro p e s m args below meth c H locs ls hC hP hS hl
  obtain ⟨h1, rfl⟩ := rdA_some h
  exact va_bald hC.1 hC.2.1 hC.2.2.2.2.2.2.2.1.1 hP k 2 (ap_w_at hd) rfl h1 hdg (kk p e s m args below meth c H locs ls hC hP hS hl)
theorem ap_iast {k n : Nat} {i x : Int32} {w1 : Mm} (hd : LAY[k]? = some (.inr (.inl (0, n)))) (h : wrA w k n i x = some w1) (hdg : decode cc pc = .ok (.iastore, 1)) (kk : AW l K cc own nL ret R cells slots E Qf w1 (pc + 1) lv st) : AW l K cc own nL ret R cells slots E Qf w pc lv (.int x :: .int i :: .ref (K.1 k) :: st) := by
  intro p e s m args below meth c H locs ls hC hP hS hl
  obtain ⟨h1, rfl⟩ := wrA_some h
  refine va_iast hC.1 hC.2.1 hC.2.2.2.2.2.2.2.1.1 hP (ap_D hC.2.2.2.2.2.2.2.1.2.2.1) hS k 0 (ap_w_at hd) rfl h1 hdg (fun H1 locs1 hP1 _ hS1 => ?_)
  rw [ap_w_sA hd] at hP1
  exact kk p e s m args below meth c H1 locs1 ls hC hP1 hS1 hl
theorem ap_zast {k n : Nat} {i x : Int32} {w1 : Mm} (hd : LAY[k]? = some (.inr (.inl (1, n)))) (h : wrA w k n i (vp_nar .boolean x) = some w1) (hdg : decode cc pc = .ok (.bastore, 1)) (kk : AW l K cc own nL ret R cells slots E Qf w1 (pc + 1) lv st) : AW l K cc own nL ret R cells slots E Qf w pc lv (.int x :: .int i :: .ref (K.1 k) :: st) := by
  intro p e s m args below meth c H locs ls hC hP hS hl
  obtain ⟨h1, rfl⟩ := wrA_some h
  refine va_zast hC.1 hC.2.1 hC.2.2.2.2.2.2.2.1.1 hP (ap_D hC.2.2.2.2.2.2.2.1.2.2.1) hS k 1 (ap_w_at hd) rfl h1 hdg (fun H1 locs1 hP1 _ hS1 => ?_)
  rw [ap_w_sA hd] at hP1
  exact kk p e s m args below meth c H1 locs1 ls hC hP1 hS1 hl
theorem ap_bast {k n : Nat} {i x : Int32} {w1 : Mm} (hd : LAY[k]? = some (.inr (.inl (2, n)))) (h : wrA w k n i (vp_nar .byte x) = some w1) (hdg : decode cc pc = .ok (.bastore, 1)) (kk : AW l K cc own nL ret R cells slots E Qf w1 (pc + 1) lv st) : AW l K cc own nL ret R cells slots E Qf w pc lv (.int x :: .int i :: .ref (K.1 k) :: st) := by
  intro p e s m args below meth c H locs ls hC hP hS hl
  obtain ⟨h1, rfl⟩ := wrA_some h
  refine va_bast hC.1 hC.2.1 hC.2.2.2.2.2.2.2.1.1 hP (ap_D hC.2.2.2.2.2.2.2.1.2.2.1) hS k 2 (ap_w_at hd) rfl h1 hdg (fun H1 locs1 hP1 _ hS1 => ?_)
  rw [ap_w_sA hd] at hP1
  exact kk p e s m args below meth c H1 locs1 ls hC hP1 hS1 hl
theorem ap_aald {k t j q : Nat} {C : String} {ids : List Nat} {i : Int32} (hd : LAY[k]? = some (.inr (.inr (t, ids)))) (ht : (ap_tys K)[t]? = some (K.2.1 t, .object C)) (h : rdR ids.length i = some j) (hq : ids[j]? = some q) (hdg : decode cc pc = .ok (.aaload, 1)) (kk : AW l K cc own nL ret R cells slots E Qf w (pc + 1) lv (.ref (K.1 q) :: st)) : AW l K cc own nL ret R cells slots E Qf w pc lv (.int i :: .ref (K.1 k) :: st) := by
  intro p e s m args below meth c H locs ls hC hP hS hl
  obtain ⟨h1, rfl, -⟩ := rdR_some h
  refine va_aldq hC.1 hC.2.1 hC.2.2.2.2.2.2.2.1.1 hP k t (ap_w_at hd) ht h1 hdg ?_
  rw [hq]
  exact kk p e s m args below meth c H locs ls hC hP hS hl
theorem ap_alen {k t n : Nat} {ty : FieldType} {v : Int32} (hd : LAY[k]? = some (.inr (.inl (t, n)))) (ht : (ap_tys K)[t]? = some (K.2.1 t, ty)) (hv : Int32.ofNat n = v) (hdg : decode cc pc = .ok (.arraylength, 1)) (kk : AW l K cc own nL ret R cells slots E Qf w (pc + 1) lv (.int v :: st)) : AW l K cc own nL ret R cells slots E Qf w pc lv (.ref (K.1 k) :: st) := by
  intro p e s m args below meth c H locs ls hC hP hS hl
  exact va_alen hC.1 hC.2.1 hC.2.2.2.2.2.2.2.1.1 hP k t (ap_w_at hd) ht hv hdg (kk p e s m args below meth c H locs ls hC hP hS hl)
theorem ap_copy {k0 k1 n0 n1 index : Nat} {sp dp n : Int32} {w1 : Mm} (hlink : Cond.methodLink own index arraycopyName ∈ ap_gw) (hnat : Cond.native arraycopyName ∈ ap_gw) (hstat : Cond.static arraycopyName ∈ ap_gw) (hini : Cond.initialized "java/lang/System" ∈ ap_gw) (hd0 : LAY[k0]? = some (.inr (.inl (0, n0)))) (hd1 : LAY[k1]? = some (.inr (.inl (0, n1)))) (h : cpA w k0 n0 k1 n1 sp dp n = some w1) (hR : 1 ≤ R.frames ∧ (st.map fun v => v.category).sum + (nativeFrameWords "java/lang/System" "arraycopy" 5 + 11) ≤ R.locals) (hdg : decode cc pc = .ok (.invokestatic index, 3))
    (kk : AW l K cc own nL ret R cells slots E Qf w1 (pc + 3) lv st) : AW l K cc own nL ret R cells slots E Qf w pc lv (.int n :: .int dp :: .ref (K.1 k1) :: .int sp :: .ref (K.1 k0) :: st) := by
  intro p e s m args below meth c H locs ls hC hP hS hl
  unfold cpA at h
  by_cases hc : (sp < 0 ∨ dp < 0 ∨ n < 0) ∨ n0 < sp.toNatClampNeg + n.toNatClampNeg ∨ n1 < dp.toNatClampNeg + n.toNatClampNeg
  · rw [if_pos hc] at h; cases h
  rw [if_neg hc] at h
  have hw := Option.some.inj h
  refine va_copyi (ty := .int) hC.1 hC.2.1 (by rw [hC.2.2.1]; exact hl.1.symm) hC.2.2.2.2.1 (hC.2.2.2.2.2.1 _ hlink) (hC.2.2.2.2.2.1 _ hnat) (hC.2.2.2.2.2.1 _ hstat) (hC.2.2.2.2.2.1 _ hini) hC.2.2.2.2.2.2.2.1.1 hP (ap_D hC.2.2.2.2.2.2.2.1.2.2.1) hS k0 k1 0 0 (ap_w_at hd0) (ap_w_at hd1) rfl rfl rfl (fun q => hc (Or.inl (Or.inl q))) (fun q => hc (Or.inl (Or.inr (Or.inl q)))) (fun q => hc (Or.inl (Or.inr (Or.inr q)))) (by omega) (by omega) (fun _ _ => rfl) hR.1 hR.2 hdg (fun H1 locs1 hP1 _ hS1 => ?_)
  rw [ap_w_sA hd1, hw] at hP1
  exact kk p e s m args below meth c H1 locs1 ls hC hP1 hS1 hl
/-! ===== ends ===== -/
theorem ap_iret {v : Int32} (hret : ret = some .int) (hdg : decode cc pc = .ok (.ireturn, 1)) : AW l K cc own nL ret R 0 0 E (ap_F K (some (.int v)) w) w pc lv [.int v] := by
  intro p e s m args below meth c H locs ls hC hP hS hl
  have hlocks := hC.2.2.2.2.2.2.1
  exact W.iret (v := v) hC.1 hC.2.1 (hC.2.2.2.1.trans hret) (fun t ht hW => ⟨rfl, by rw [ht]; exact hP, hS.F ht⟩) hS.2.2 hdg hlocks
def bz (v : Int32) : Option Int32 := if v = 0 ∨ v = 1 then some v else none
theorem bz_some {v x : Int32} (h : bz v = some x) : (v = 0 ∨ v = 1) ∧ v = x := by
  unfold bz at h
  by_cases hc : v = 0 ∨ v = 1
  · rw [if_pos hc] at h; exact ⟨hc, Option.some.inj h⟩
  · rw [if_neg hc] at h; cases h
theorem ap_zret {v : Int32} (hret : ret = some .boolean) (hv : v = 0 ∨ v = 1) (hdg : decode cc pc = .ok (.ireturn, 1)) : AW l K cc own nL ret R 0 0 E (ap_F K (some (.int v)) w) w pc lv [.int v] := by
  intro p e s m args below meth c H locs ls hC hP hS hl
  have hlocks := hC.2.2.2.2.2.2.1
  exact W.zret (v := v) (ty := .boolean) hC.1 hC.2.1 (hC.2.2.2.1.trans hret) (by rcases hv with rfl | rfl <;> decide) (fun t ht hW => ⟨rfl, by rw [ht]; exact hP, hS.F ht⟩) hS.2.2 hdg hlocks
theorem ap_lret {v : Int64} (hret : ret = some .long) (hdg : decode cc pc = .ok (.lreturn, 1)) : AW l K cc own nL ret R 0 0 E (ap_F K (some (.long v)) w) w pc lv [.long v] := by
  intro p e s m args below meth c H locs ls hC hP hS hl
  have hlocks := hC.2.2.2.2.2.2.1
  exact W.lret (v := v) hC.1 hC.2.1 (hC.2.2.2.1.trans hret) (fun t ht hW => ⟨rfl, by rw [ht]; exact hP, hS.F ht⟩) hS.2.2 hdg hlocks
theorem ap_vret (hret : ret = none) (hdg : decode cc pc = .ok (.return_, 1)) : AW l K cc own nL ret R 0 0 E (ap_F K none w) w pc lv [] := by
  intro p e s m args below meth c H locs ls hC hP hS hl
  have hlocks := hC.2.2.2.2.2.2.1
  exact W.vret hC.1 hC.2.1 (hC.2.2.2.1.trans hret) (fun t ht hW => ⟨rfl, by rw [ht]; exact hP, hS.F ht⟩) hS.2.2 hdg hlocks
/-! ===== calls ===== -/
theorem ap_after {p : Program} {e : Env} {s : State} {m : MethodId} {args : Array Value} {below : List Frame} {meth : Method} {c : Code} {H : Heap} {locs : List Loc} {ls : Array Slot} {st0 : List Value} {As : Array Value} {r : Option Value} {w1 : Mm} (hr : va_Run p l e R s m args below meth c H locs cells slots 0 0 (F0 m pc ls st0) st (ap_Q K r w1 As) (ap_A K)) (hC : ap_C K cc own nL ret E p s m args meth c) (hS : va_S (ap_A K) s.heap H locs) (hl : lv_has ls nL lv)
    (kk : AW l K cc own nL ret R cells slots E Qf w1 (pc + 3) lv (r.toList ++ st)) : W p l e R s m args below meth c H locs cells slots (Qf below args s) (F0 m pc ls st0) := by
  intro T hT X
  obtain ⟨v, st₀, t, T', L, h0, X', hL, e1, e2, ⟨hv, hPt, hz, hk⟩, stp⟩ := hr T hT X
  cases hv
  rw [h0] at hz hk
  obtain ⟨t2, a1, b1⟩ := kk p e s m args below meth c T'.heap (locs ++ L) ls hC (by rw [e1]; exact hPt)
    ⟨Nat.le_trans hS.1 (by rw [e1]; exact hz), fun q h1 h2 => by rw [e1, hk q (Nat.lt_of_lt_of_le h1 hS.1) h2]; exact hS.2.1 q h1 h2, fun q hq => by
      rcases List.mem_append.mp hq with h | h
      · exact hS.2.2 q h
      · exact hL q h⟩ hl T' rfl X'
  exact ⟨t2, stp t2 a1, b1⟩
def ap_rm (R rm : Room) (maxL : Nat) : Prop := rm.cells = 0 ∧ rm.slots = 0 ∧ rm.frames + 1 ≤ R.frames ∧ 8 + (maxL + 11) + rm.locals ≤ R.locals
/-- what a call's words are -/
def ap_cV (own : String) (index : Nat) (C : String) (y : MethodName) (cc : ByteArray) (nL : Nat) (ret : Option FieldType) (n : Nat) : Prop := GoodIn ap_gw (wsV own index C y (ap_ws y cc nL ret)) ∧ y.cls = C ∧ y.cls ≠ "java/lang/invoke/MethodHandle" ∧ y.cls ≠ "java/lang/invoke/VarHandle" ∧ (parseMethodDescriptor y.desc).map (fun d => d.parameters.length) = some n
def ap_cS (own : String) (index : Nat) (y : MethodName) (cc : ByteArray) (nL : Nat) (ret : Option FieldType) (n : Nat) : Prop := GoodIn ap_gw (va_wsS own index y (ap_ws y cc nL ret)) ∧ y.cls ≠ "java/lang/invoke/MethodHandle" ∧ y.cls ≠ "java/lang/invoke/VarHandle" ∧ (parseMethodDescriptor y.desc).map (fun d => d.parameters.length) = some n
def ap_cN (own : String) (index : Nat) (y : MethodName) (host : String) (cc : ByteArray) (nL : Nat) (ret : Option FieldType) (n : Nat) : Prop := Cond.code y cc nL ret ∈ ap_gw ∧ Cond.static y ∈ ap_gw ∧ Cond.initialized y.cls ∈ ap_gw ∧ Cond.methodLinkNest own index y host ∈ ap_nst ∧ y.cls ≠ "java/lang/invoke/MethodHandle" ∧ y.cls ≠ "java/lang/invoke/VarHandle" ∧ (parseMethodDescriptor y.desc).map (fun d => d.parameters.length) = some n
def ap_cU (own : String) (index : Nat) (y : MethodName) (cc : ByteArray) (nL : Nat) (ret : Option FieldType) (n : Nat) : Prop := GoodIn ap_gw (va_wsSU own index y (ap_ws y cc nL ret)) ∧ y.name ≠ "<init>" ∧ (parseMethodDescriptor y.desc).map (fun d => d.parameters.length) = some n
def ap_cO (own : String) (index : Nat) (C owner : String) (x y : MethodName) (cc : ByteArray) (nL : Nat) (ret : Option FieldType) (n : Nat) : Prop := GoodIn ap_gw (va_wsO own index C owner x y (ap_ws y cc nL ret)) ∧ (∃ (b0 : ByteArray) (m0 : Nat) (r0 : Option FieldType), Cond.code ⟨owner, x.name, x.desc⟩ b0 m0 r0 ∈ ap_gw) ∧ owner ≠ "java/lang/invoke/MethodHandle" ∧ owner ≠ "java/lang/invoke/VarHandle" ∧ (parseMethodDescriptor x.desc).map (fun d => d.parameters.length) = some n
theorem ap_g4 {a b c d : Cond} {ws : List Cond} (h1 : a ∈ ap_gw) (h2 : b ∈ ap_gw) (h3 : c ∈ ap_gw) (h4 : d ∈ ap_gw) (h5 : GoodIn ap_gw ws) : GoodIn ap_gw ([a, b, c, d] ++ ws) := by
  intro x hx
  rcases List.mem_append.mp hx with h | h
  · simp only [List.mem_cons, List.not_mem_nil, or_false] at h
    rcases h with rfl | rfl | rfl | rfl
    · exact ⟨h1, good_of_word (List.mem_filter.mp h1).2⟩
    · exact ⟨h2, good_of_word (List.mem_filter.mp h2).2⟩
    · exact ⟨h3, good_of_word (List.mem_filter.mp h3).2⟩
    · exact ⟨h4, good_of_word (List.mem_filter.mp h4).2⟩
  · exact h5 x h
theorem ap_gl {us ws : List Cond} (h1 : ∀ a ∈ us, a ∈ ap_gw) (h5 : GoodIn ap_gw ws) : GoodIn ap_gw (us ++ ws) := by
  intro x hx
  rcases List.mem_append.mp hx with h | h
  · exact ⟨h1 x h, good_of_word (List.mem_filter.mp (h1 x h)).2⟩
  · exact h5 x h
theorem ap_callV {index n k ci : Nat} {y : MethodName} {bytes : ByteArray} {maxL : Nat} {ret1 : Option FieldType} {rm : Room} {w1 : Mm} {As st0 : List Value} {r : Option Value} {fds : List (Option (Option Nat))} {C : String} {T : u_T} {N : Nat} (hM : MC l K y bytes maxL ret1 rm w (.ref (K.1 k) :: As) r w1) (hw : ap_cV own index C y bytes maxL ret1 n) (hcl : ap_cl[ci]? = some (C, T, N)) (hd : LAY[k]? = some (.inl (ci, fds))) (hR : ap_rm R rm maxL) (hn : As.length = n) (hcat : (st.map fun v => v.category).sum ≤ 8) (hcs : cells ≤ R.cells ∧ slots ≤ R.slots) (hdg : decode cc pc = .ok (.invokevirtual index, 3)) (hst : st0 = As.reverse ++ .ref (K.1 k) :: st)
    {st1 : List Value} (hst1 : r.toList ++ st = st1) (kk : AW l K cc own nL ret R cells slots E Qf w1 (pc + 3) lv st1) : AW l K cc own nL ret R cells slots E Qf w pc lv st0 := by
  intro p e s m args below meth c H locs ls hC hP hS hl
  subst hst1
  refine ap_after (va_runV (Ts := ap_gw) (As := As) (rest := st) (b := K.1 k) ⟨hC.1, hC.2.1, hC.2.2.1, hC.2.2.2.2.1, hC.2.2.2.2.2.1⟩ hM (cwV n hC.2.2.2.2.2.1 hw.1 rfl hR.1 hR.2.1 hw.2 hR.2.2) ⟨ap_P.blind, va_recv hC.2.2.2.2.2.2.2.1.1 hP hcl (ap_w_at hd), fun U hU hW => ⟨rfl, by rw [hU]; exact hP, hC.2.2.2.2.2.2.2.1.call hS hU hW⟩⟩ rfl hn hl.1 hst (lv_room hcat) hdg hcs) hC hS hl kk
theorem ap_callS {index n : Nat} {y : MethodName} {bytes : ByteArray} {maxL : Nat} {ret1 : Option FieldType} {rm : Room} {w1 : Mm} {As st0 : List Value} {r : Option Value} (hM : MC l K y bytes maxL ret1 rm w As r w1) (hw : ap_cS own index y bytes maxL ret1 n) (hR : ap_rm R rm maxL) (hn : As.length = n) (hcat : (st.map fun v => v.category).sum ≤ 8) (hcs : cells ≤ R.cells ∧ slots ≤ R.slots) (hdg : decode cc pc = .ok (.invokestatic index, 3)) (hst : st0 = As.reverse ++ st)
    {st1 : List Value} (hst1 : r.toList ++ st = st1) (kk : AW l K cc own nL ret R cells slots E Qf w1 (pc + 3) lv st1) : AW l K cc own nL ret R cells slots E Qf w pc lv st0 := by
  intro p e s m args below meth c H locs ls hC hP hS hl
  subst hst1
  refine ap_after (va_runS (Ts := ap_gw) (As := As) (rest := st) ⟨hC.1, hC.2.1, hC.2.2.1, hC.2.2.2.2.1, hC.2.2.2.2.2.1⟩ hM (va_cwS n hC.2.2.2.2.2.1 hw.1 rfl hR.1 hR.2.1 hw.2 hR.2.2) ⟨ap_P.blind, fun U hU hW => ⟨rfl, by rw [hU]; exact hP, hC.2.2.2.2.2.2.2.1.call hS hU hW⟩⟩ rfl hn hl.1 hst (lv_room hcat) hdg hcs) hC hS hl kk
theorem ap_callN {index n : Nat} {y : MethodName} {host : String} {bytes : ByteArray} {maxL : Nat} {ret1 : Option FieldType} {rm : Room} {w1 : Mm} {As st0 : List Value} {r : Option Value} (hM : MC l K y bytes maxL ret1 rm w As r w1) (hw : ap_cN own index y host bytes maxL ret1 n) (hR : ap_rm R rm maxL) (hn : As.length = n) (hcat : (st.map fun v => v.category).sum ≤ 8) (hcs : cells ≤ R.cells ∧ slots ≤ R.slots) (hdg : decode cc pc = .ok (.invokestatic index, 3)) (hst : st0 = As.reverse ++ st)
    {st1 : List Value} (hst1 : r.toList ++ st = st1) (kk : AW l K cc own nL ret R cells slots E Qf w1 (pc + 3) lv st1) : AW l K cc own nL ret R cells slots E Qf w pc lv st0 := by
  intro p e s m args below meth c H locs ls hC hP hS hl
  subst hst1
  refine ap_after (va_runSN (Ts := ap_gw) (As := As) (rest := st) ⟨hC.1, hC.2.1, hC.2.2.1, hC.2.2.2.2.1, hC.2.2.2.2.2.1⟩ hM ⟨va_cnB n hC.2.2.2.2.2.1 (ap_good hw.1) rfl hR.1 hR.2.1 (hC.2.2.2.2.2.2.2.1.2.1 _ hw.2.2.2.1) (hC.2.2.2.2.2.1 _ hw.2.2.1) hw.2.2.2.2 hR.2.2, hC.2.2.2.2.2.1 _ hw.2.1, trivial⟩ ⟨ap_P.blind, fun U hU hW => ⟨rfl, by rw [hU]; exact hP, hC.2.2.2.2.2.2.2.1.call hS hU hW⟩⟩ rfl hn hl.1 hst (lv_room hcat) hdg hcs) hC hS hl kk
theorem ap_callU {index n k ci : Nat} {y : MethodName} {bytes : ByteArray} {maxL : Nat} {ret1 : Option FieldType} {rm : Room} {w1 : Mm} {As st0 : List Value} {r : Option Value} {fds : List (Option (Option Nat))} {q : vw_C} (hM : MC l K y bytes maxL ret1 rm w (.ref (K.1 k) :: As) r w1) (hw : ap_cU own index y bytes maxL ret1 n) (hcl : ap_cl[ci]? = some q) (hd : LAY[k]? = some (.inl (ci, fds))) (hR : ap_rm R rm maxL) (hn : As.length = n) (hcat : (st.map fun v => v.category).sum ≤ 8) (hcs : cells ≤ R.cells ∧ slots ≤ R.slots) (hdg : decode cc pc = .ok (.invokespecial index, 3)) (hst : st0 = As.reverse ++ .ref (K.1 k) :: st)
    {st1 : List Value} (hst1 : r.toList ++ st = st1) (kk : AW l K cc own nL ret R cells slots E Qf w1 (pc + 3) lv st1) : AW l K cc own nL ret R cells slots E Qf w pc lv st0 := by
  intro p e s m args below meth c H locs ls hC hP hS hl
  subst hst1
  refine ap_after (va_runSU (Ts := ap_gw) (C := q.1) (As := As) (rest := st) (b := K.1 k) (hC.2.2.2.2.2.2.2.1.1.1 ci q hcl).2 ⟨hC.1, hC.2.1, hC.2.2.1, hC.2.2.2.2.1, hC.2.2.2.2.2.1⟩ hM (va_cwSU n hC.2.2.2.2.2.1 hw.1 rfl hR.1 hR.2.1 hw.2 hR.2.2) ⟨ap_P.blind, va_recv hC.2.2.2.2.2.2.2.1.1 hP hcl (ap_w_at hd), fun U hU hW => ⟨rfl, by rw [hU]; exact hP, hC.2.2.2.2.2.2.2.1.call hS hU hW⟩⟩ rfl hn hl.1 hst (lv_room hcat) hdg hcs) hC hS hl kk
theorem ap_callO {index n k ci : Nat} {owner : String} {x y : MethodName} {bytes : ByteArray} {maxL : Nat} {ret1 : Option FieldType} {rm : Room} {w1 : Mm} {As st0 : List Value} {r : Option Value} {fds : List (Option (Option Nat))} {C : String} {T : u_T} {N : Nat} (hM : MC l K y bytes maxL ret1 rm w (.ref (K.1 k) :: As) r w1) (hw : ap_cO own index C owner x y bytes maxL ret1 n) (hcl : ap_cl[ci]? = some (C, T, N)) (hd : LAY[k]? = some (.inl (ci, fds))) (hR : ap_rm R rm maxL) (hn : As.length = n) (hcat : (st.map fun v => v.category).sum ≤ 8) (hcs : cells ≤ R.cells ∧ slots ≤ R.slots) (hdg : decode cc pc = .ok (.invokevirtual index, 3)) (hst : st0 = As.reverse ++ .ref (K.1 k) :: st)
    {st1 : List Value} (hst1 : r.toList ++ st = st1) (kk : AW l K cc own nL ret R cells slots E Qf w1 (pc + 3) lv st1) : AW l K cc own nL ret R cells slots E Qf w pc lv st0 := by
  intro p e s m args below meth c H locs ls hC hP hS hl
  subst hst1
  obtain ⟨b0, m0, r0, h0⟩ := hw.2.1
  refine ap_after (va_runU (Ts := ap_gw) (C := C) (As := As) (rest := st) (b := K.1 k) ⟨hC.1, hC.2.1, hC.2.2.1, hC.2.2.2.2.1, hC.2.2.2.2.2.1⟩ hM (va_cwO n hC.2.2.2.2.2.1 hw.1 rfl hR.1 hR.2.1 h0 hw.2.2 hR.2.2) ⟨ap_P.blind, va_recv hC.2.2.2.2.2.2.2.1.1 hP hcl (ap_w_at hd), fun U hU hW => ⟨rfl, by rw [hU]; exact hP, hC.2.2.2.2.2.2.2.1.call hS hU hW⟩⟩ rfl hn hl.1 hst (lv_room hcat) hdg hcs) hC hS hl kk
/-! ===== long division, a switch's other values, and the binds of the decompiled text ===== -/
def dvJ (x y : Int64) : Option Int64 := if y = 0 then none else some (x / y)
def rmJ (x y : Int64) : Option Int64 := if y = 0 then none else some (x - x / y * y)
theorem ap_ldivO {x y v : Int64} (h : dvJ x y = some v) (hdg : decode cc pc = .ok (.ldiv, 1)) (k : AW l K cc own nL ret R cells slots E Qf w (pc + 1) lv (.long v :: st)) : AW l K cc own nL ret R cells slots E Qf w pc lv (.long y :: .long x :: st) := by
  unfold dvJ at h
  by_cases hc : y = 0
  · rw [if_pos hc] at h; cases h
  · rw [if_neg hc] at h; cases h; exact ap_ldiv hdg hc k
theorem ap_lremO {x y v : Int64} (h : rmJ x y = some v) (hdg : decode cc pc = .ok (.lrem, 1)) (k : AW l K cc own nL ret R cells slots E Qf w (pc + 1) lv (.long v :: st)) : AW l K cc own nL ret R cells slots E Qf w pc lv (.long y :: .long x :: st) := by
  unfold rmJ at h
  by_cases hc : y = 0
  · rw [if_pos hc] at h; cases h
  · rw [if_neg hc] at h; cases h; exact ap_lrem hdg hc k
theorem ap_ldcS {index i : Nat} {tx : String} (hT : own = "CandleLand$Reader" ∧ ((index = 49 ∧ i = 0) ∨ (index = 59 ∧ i = 1) ∨ (index = 64 ∧ i = 2))) (hdg : decode cc pc = .ok (.ldc index, 2)) (k : AW l K cc own nL ret R cells slots E Qf w (pc + 2) lv (.ref (K.2.2.2.1 i) :: st)) : AW l K cc own nL ret R cells slots E Qf w pc lv st := by
  intro p e s m args below meth c H locs ls hC hP hS hl
  obtain ⟨rfl, h⟩ := hT
  obtain ⟨h7, h8, h9⟩ := hC.2.2.2.2.2.2.2.1.2.2.2.2
  rcases h with ⟨rfl, rfl⟩ | ⟨rfl, rfl⟩ | ⟨rfl, rfl⟩
  · exact va_ldcS hC.1 hC.2.1 hC.2.2.2.2.1 h7 hdg (k p e s m args below meth c H locs ls hC hP hS hl)
  · exact va_ldcS hC.1 hC.2.1 hC.2.2.2.2.1 h8 hdg (k p e s m args below meth c H locs ls hC hP hS hl)
  · exact va_ldcS hC.1 hC.2.1 hC.2.2.2.2.1 h9 hdg (k p e s m args below meth c H locs ls hC hP hS hl)
end AP
theorem ap_out {x : Int32} {lo hi : Int} (h : ∀ z : Int, lo ≤ z → z ≤ hi → ¬ x = Int32.ofInt z) : x.toInt < lo ∨ hi < x.toInt := by
  by_cases h1 : x.toInt < lo
  · exact Or.inl h1
  · by_cases h2 : hi < x.toInt
    · exact Or.inr h2
    · exact absurd (Int32.ofInt_toInt x).symm (h x.toInt (by omega) (by omega))
def ob2 {α β : Type} (o : Option (α × Mm)) (k : α → Mm → Option β) : Option β := match o with
  | none => none
  | some q => k q.1 q.2
theorem ob2_iff {α β : Type} {o : Option (α × Mm)} {k : α → Mm → Option β} {b : β} (h : ob2 o k = some b) : ∃ a w, o = some (a, w) ∧ k a w = some b := by
  cases o with
  | none => cases h
  | some q => exact ⟨q.1, q.2, rfl, h⟩
def isV (v : Nat) : Prop := v = 1 ∨ v = 13 ∨ v = 25 ∨ v = 37
def isK (o : Nat) : Prop := ∃ (ci : Nat) (q : vw_C) (fds : List (Option (Option Nat))), ap_cl[ci]? = some q ∧ LAY[o]? = some (.inl (ci, fds))

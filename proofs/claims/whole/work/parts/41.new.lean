/-! ===== making the world: constructors ===== -/
abbrev Gt : Type := va_G × (Nat → ClassId)
abbrev nw_tys (g : Gt) : List (ClassId × FieldType) := [(g.2 0, .int), (g.2 1, .boolean), (g.2 2, .byte), (g.2 3, .object "CandleLand$Valley"), (g.2 4, .object "CandleLand$Plain")]
def nw_lnk : List (String × Nat × MethodName) := [("CandleLand", 11, yX8_init), ("CandleLand", 26, yX5_init), ("CandleLand$Reader", 11, yX8_init), ("CandleLand$Night", 11, yX4_init), ("CandleLand$Night", 14, yX10_init), ("CandleLand$Wick", 1, yX4_init), ("CandleLand$Night", 17, yX1_init), ("CandleLand$Lamp", 1, yX4_init), ("CandleLand$Night", 20, yX2_init), ("CandleLand$Lantern", 1, yX1_init), ("CandleLand$Night", 23, yX0_init), ("CandleLand$Gutters", 1, yX10_init), ("CandleLand$Night", 26, yX7_init), ("CandleLand$Star", 3, yX4_init)]
def nw_cst : List String := ["CandleLand$Wick", "CandleLand$Lamp", "CandleLand$Lantern", "CandleLand$Gutters", "CandleLand$Star"]
def nw_K (g : Gt) (U : State) : Prop := va_K g.1 ap_cl (nw_tys g) U ∧ (∀ q ∈ nw_lnk, va_Nw (.methodLinkNest q.1 q.2.1 q.2.2 "CandleLand") U) ∧ (∀ q ∈ nw_cst, va_Nw (.castable q "CandleLand$Plain") U) ∧ va_AO "CandleLand$Valley" U ∧ va_AO "CandleLand$Plain" U
theorem nw_K.blind {g : Gt} {U : State} {gf : JFrame} {mk : MethodId} {a : Array Value} (h : nw_K g U) : nw_K g (U.calling gf mk a) :=
  ⟨va_K.moved (u := U) (U := U.calling gf mk a) (Vm.Alike.refl U.vm) h.1, fun q hq => va_Nw.same rfl rfl (h.2.1 q hq), fun q hq => va_Nw.same rfl rfl (h.2.2.1 q hq), va_AO.moved (u := U) (U := U.calling gf mk a) (Vm.Alike.refl U.vm) h.2.2.2.1, va_AO.moved (u := U) (U := U.calling gf mk a) (Vm.Alike.refl U.vm) h.2.2.2.2⟩
theorem nw_K.call {g : Gt} {s U : State} (h : nw_K g s) (hW : s.WarmedH U.vm) : nw_K g U :=
  ⟨va_K.moved hW.alike h.1, fun q hq => va_Nw.warmM hW (h.2.1 q hq), fun q hq => va_Nw.warmC hW (h.2.2.1 q hq), va_AO.moved hW.alike h.2.2.2.1, va_AO.moved hW.alike h.2.2.2.2⟩
def nw_C (g : Gt) (cc : ByteArray) (own : String) (nL : Nat) (E : Method → Array Value → State → Prop) (p : Program) (s : State) (m : MethodId) (args : Array Value) (meth : Method) (c : Code) : Prop :=
  p.tables.exec = Jvm.exec ∧ c.code = cc ∧ c.maxLocals = nL ∧ s.vm.findClass own = some m.cls ∧ (∀ w ∈ ap_gw, w.before args s = true) ∧ meth.locks = false ∧ nw_K g s ∧ E meth args s
def NW (l : Launch) (g : Gt) (cc : ByteArray) (own : String) (nL : Nat) (R : Room) (cells slots : Nat) (E : Method → Array Value → State → Prop) (Qf : List Frame → Array Value → State → (Nat → Prop) → State → Prop) (ws : va_W) (pc : Nat) (lv : List (Nat × Value)) (st : List Value) : Prop :=
  ∀ (p : Program) (e : Env) (s : State) (m : MethodId) (args : Array Value) (below : List Frame) (meth : Method) (c : Code) (H : Heap) (locs : List Loc) (ls : Array Slot) (A : Nat → Prop), nw_C g cc own nL E p s m args meth c → va_P g.1 ap_cl ws H → va_D A ws → va_S A s.heap H locs → (∀ q, s.heap.size ≤ q → A q) → lv_has ls nL lv → W p l e R s m args below meth c H locs cells slots (Qf below args s A) (F0 m pc ls st)
abbrev nw_E : Method → Array Value → State → Prop := fun meth _ _ => meth.name = "<init>" ∧ meth.sig.returnType = none
def nw_Q (g : Gt) (post : (Nat → Nat) → va_W) (A : Nat → Prop) : Array Value → State → Outcome → State → Prop := fun _ s o t => (o = .returned none ∧ ∃ gq, va_P g.1 ap_cl (post gq) t.heap ∧ va_D A (post gq)) ∧ va_F A s t
def nw_F (g : Gt) (post : (Nat → Nat) → va_W) (mc ms : Nat) : List Frame → Array Value → State → (Nat → Prop) → State → Prop := fun below args s A => MQ below (nw_Q g post A) args s mc ms A
def nw_P (g : Gt) (wsin : va_W) (sz : Nat) (As : List Value) : Array Value → State → Prop := va_Pc As (fun U => U.heap.size = sz ∧ va_P g.1 ap_cl wsin U.heap ∧ nw_K g U ∧ va_D (fun _ => True) wsin)
def NC (l : Launch) (g : Gt) (y : MethodName) (cc : ByteArray) (nL : Nat) (rm : Room) (wsin : va_W) (As : List Value) (post : (Nat → Nat) → va_W) (mc ms : Nat) : Prop :=
  ∀ sz, Met l y (ap_ws y cc nL none) rm (nw_P g wsin sz As) (nw_Q g post (va_A wsin sz)) mc ms (va_A wsin sz)
theorem nw_P.blind {g : Gt} {wsin : va_W} {sz : Nat} {As : List Value} : FrameBlind (nw_P g wsin sz As) := fun a U gf mk h => ⟨h.1, h.2.1, h.2.2.1, h.2.2.2.1.blind, h.2.2.2.2⟩
theorem NC.of {l : Launch} {g : Gt} {y : MethodName} {cc : ByteArray} {nL : Nat} {rm : Room} {wsin : va_W} {As : List Value} {post : (Nat → Nat) → va_W} {mc ms : Nat} {lv : List (Nat × Value)} (hy : plainName y.cls = true) (hi : y.name = "<init>") (hn : (lg_sl As).length ≤ nL) (hlv : lv_args 0 As = lv)
    (h : NW l g cc y.cls nL rm 0 0 nw_E (nw_F g post mc ms) wsin 0 lv []) : NC l g y cc nL rm wsin As post mc ms := by
  intro sz
  refine Met.ofW (cc := cc) (maxL := nL) (ret := none) hy rfl ?_
  intro p e s m args below meth c s₁ B hml hv
  obtain ⟨rfl, hsz, hP, hK, hD0⟩ := hv
  subst hsz
  have hts := atoms_spec (ws := ap_ws y cc nL none) B.pre
  have hown : s.vm.findClass y.cls = some m.cls := findClass_of_methodNamed B.named
  have hin : meth.name = "<init>" := (name_of_methodNamed B.named B.method).1.trans hi
  have hl := lv_entry As (n := nL) hn
  rw [hlv] at hl
  rw [lg_entry_eq]
  exact h p e s m As.toArray below meth c s.heap [] _ (va_A wsin s.heap.size) ⟨B.exec, B.bytes, hml, hown, fun w hw => hts w (List.mem_cons_of_mem _ hw), B.notSynchronized, hK, hin, B.returns⟩ hP hD0.self va_S.rf (fun q hq => Or.inr hq) hl
theorem nw_fm {α β : Type} {f : α → Option β} : ∀ {is : List α} {l : List β}, is.map f = l.map some → is.filterMap f = l := by
  intro is
  induction is with
  | nil => intro l h; cases l with
    | nil => rfl
    | cons a l => simp at h
  | cons a is ih => intro l h; cases l with
    | nil => simp at h
    | cons b l =>
      simp only [List.map_cons, List.cons.injEq] at h
      rw [List.filterMap_cons, h.1, ih h.2]
section NWR
variable {l : Launch} {g : Gt} {cc : ByteArray} {own : String} {nL : Nat} {R : Room} {cells slots : Nat} {E : Method → Array Value → State → Prop} {Qf : List Frame → Array Value → State → (Nat → Prop) → State → Prop} {ws ws' : va_W} {pc : Nat} {lv lv' : List (Nat × Value)} {st : List Value}
theorem nw_aload {k0 : Fin 4} {i x : Nat} (hdg : decode cc pc = .ok (.aload_n k0, 1)) (q : Nat) (hi : (k0 : Nat) = i) (hq : lv[q]? = some (i, .ref x)) (k : NW l g cc own nL R cells slots E Qf ws (pc + 1) lv (.ref x :: st)) : NW l g cc own nL R cells slots E Qf ws pc lv st :=
  fun p e s m args below meth c H locs ls A hC hP hD hS hA hl => lv_aload_n hC.1 hC.2.1 hdg hi (lv_at hl q hq) (k p e s m args below meth c H locs ls A hC hP hD hS hA hl)
theorem nw_iconst {n : Int} {v : Int32} (hdg : decode cc pc = .ok (.iconst n, 1)) (hv : Int32.ofInt n = v) (k : NW l g cc own nL R cells slots E Qf ws (pc + 1) lv (.int v :: st)) : NW l g cc own nL R cells slots E Qf ws pc lv st :=
  fun p e s m args below meth c H locs ls A hC hP hD hS hA hl => lv_iconst hC.1 hC.2.1 hdg hv (k p e s m args below meth c H locs ls A hC hP hD hS hA hl)
theorem nw_bipush {n : Int} {v : Int32} (hdg : decode cc pc = .ok (.bipush n, 2)) (hv : (Int8.ofInt n).toInt32 = v) (k : NW l g cc own nL R cells slots E Qf ws (pc + 2) lv (.int v :: st)) : NW l g cc own nL R cells slots E Qf ws pc lv st :=
  fun p e s m args below meth c H locs ls A hC hP hD hS hA hl => lv_bipush hC.1 hC.2.1 hdg hv (k p e s m args below meth c H locs ls A hC hP hD hS hA hl)
theorem nw_sipush {n : Int} {v : Int32} (hdg : decode cc pc = .ok (.sipush n, 3)) (hv : (Int16.ofInt n).toInt32 = v) (k : NW l g cc own nL R cells slots E Qf ws (pc + 3) lv (.int v :: st)) : NW l g cc own nL R cells slots E Qf ws pc lv st :=
  fun p e s m args below meth c H locs ls A hC hP hD hS hA hl => lv_sipush hC.1 hC.2.1 hdg hv (k p e s m args below meth c H locs ls A hC hP hD hS hA hl)
theorem nw_lconst {n : Fin 2} {v : Int64} (hdg : decode cc pc = .ok (.lconst n, 1)) (hv : Int64.ofNat (n : Nat) = v) (k : NW l g cc own nL R cells slots E Qf ws (pc + 1) lv (.long v :: st)) : NW l g cc own nL R cells slots E Qf ws pc lv st :=
  fun p e s m args below meth c H locs ls A hC hP hD hS hA hl => lv_lconst hC.1 hC.2.1 hdg hv (k p e s m args below meth c H locs ls A hC hP hD hS hA hl)
theorem nw_dup {va : Value} (hdg : decode cc pc = .ok (.dup, 1)) (hva : va.category = 1) (k : NW l g cc own nL R cells slots E Qf ws (pc + 1) lv (va :: va :: st)) : NW l g cc own nL R cells slots E Qf ws pc lv (va :: st) :=
  fun p e s m args below meth c H locs ls A hC hP hD hS hA hl => lv_dup hC.1 hC.2.1 hdg hva (k p e s m args below meth c H locs ls A hC hP hD hS hA hl)
theorem nw_astore {k0 : Fin 4} {i x : Nat} (hdg : decode cc pc = .ok (.astore_n k0, 1)) (hi : (k0 : Nat) = i) (hn : i < nL) (hv : (i, Value.ref x) :: lv.filter (fun q => !(q.1 == i) && !(q.1 + 1 == i && q.2.category == 2)) = lv') (k : NW l g cc own nL R cells slots E Qf ws (pc + 1) lv' st) : NW l g cc own nL R cells slots E Qf ws pc lv (.ref x :: st) :=
  fun p e s m args below meth c H locs ls A hC hP hD hS hA hl => lv_astore_n hC.1 hC.2.1 hdg hi hl hn hv (fun ls hl => k p e s m args below meth c H locs ls A hC hP hD hS hA hl)
theorem nw_istore {k0 : Fin 4} {i : Nat} {x : Int32} (hdg : decode cc pc = .ok (.istore_n k0, 1)) (hi : (k0 : Nat) = i) (hn : i < nL) (hv : (i, Value.int x) :: lv.filter (fun q => !(q.1 == i) && !(q.1 + 1 == i && q.2.category == 2)) = lv') (k : NW l g cc own nL R cells slots E Qf ws (pc + 1) lv' st) : NW l g cc own nL R cells slots E Qf ws pc lv (.int x :: st) :=
  fun p e s m args below meth c H locs ls A hC hP hD hS hA hl => lv_istore_n hC.1 hC.2.1 hdg hi hl hn hv (fun ls hl => k p e s m args below meth c H locs ls A hC hP hD hS hA hl)
theorem nw_obj {idx a : Nat} (h1 : Cond.methodLink own idx objectInit ∈ ap_gw) (h2 : Cond.instanceMethod objectInit ∈ ap_gw) (h3 : Cond.code objectInit ⟨#[0xb1]⟩ 1 none ∈ ap_gw) (hR : 1 ≤ R.frames ∧ (st.map fun v => v.category).sum + 12 ≤ R.locals) (hdg : decode cc pc = .ok (.invokespecial idx, 3)) (k : NW l g cc own nL R cells slots E Qf ws (pc + 3) lv st) : NW l g cc own nL R cells slots E Qf ws pc lv (.ref a :: st) := by
  intro p e s m args below meth c H locs ls A hC hP hD hS hA hl
  refine W.objInit hC.1 hC.2.1 hC.2.2.2.1 (hC.2.2.2.2.1 _ h1) (hC.2.2.2.2.1 _ h2) (hC.2.2.2.2.1 _ h3) rfl (by rw [hC.2.2.1]; exact hl.1) rfl hdg hR.1 (by show 2 * 0 + _ + 12 ≤ _; omega) ?_
  exact k p e s m args below meth c H locs ls A hC hP hD hS hA hl
theorem nw_get {a q0 ci i index : Nat} {fs : List Value} {v : Value} (hF : ap_fld own index ci i) (he : ws[q0]? = some (a, .inr (ci, fs))) (hv : fs[i]? = some v) (hdg : decode cc pc = .ok (.getfield index, 3)) (kk : NW l g cc own nL R cells slots E Qf ws (pc + 3) lv (v :: st)) : NW l g cc own nL R cells slots E Qf ws pc lv (.ref a :: st) := by
  intro p e s m args below meth c H locs ls A hC hP hD hS hA hl
  obtain ⟨C, T, N, h1, h2, h3, h4⟩ := hF
  exact va_get (D := g.1) (C := C) (T := T) (N := N) (ref := (T i).1) hC.1 hC.2.1 hC.2.2.2.2.1 h2 hC.2.2.2.1 hC.2.2.2.2.2.2.1.1 hP q0 he h1 i h3 (hC.2.2.2.2.1 _ h4) (fun _ h9 => h9) hv hdg (kk p e s m args below meth c H locs ls A hC hP hD hS hA hl)
/-- a field that is no final one -/
theorem nw_put {a q0 ci i index : Nat} {fs : List Value} {ty : FieldType} {v : Value} (hF : ap_fldP own index ci i ty) (he : ws[q0]? = some (a, .inr (ci, fs))) (hn : narrow ty v = v) (hfit : fits ty v = true) (hl0 : i < fs.length) (hws : ws.set q0 (a, .inr (ci, fs.set i v)) = ws') (hdg : decode cc pc = .ok (.putfield index, 3)) (kk : NW l g cc own nL R cells slots E Qf ws' (pc + 3) lv st) : NW l g cc own nL R cells slots E Qf ws pc lv (v :: .ref a :: st) := by
  intro p e s m args below meth c H locs ls A hC hP hD hS hA hl
  obtain ⟨C, T, N, ty0, h1, h2, h3, h4, h5, h6, h7, h8⟩ := hF
  refine va_put (D := g.1) (C := C) (T := T) (N := N) (ref := (T i).1) (ty := ty) (v := v) hC.1 hC.2.1 hC.2.2.2.2.1 h2 ty0 h5 h6 hC.2.2.2.1 hC.2.2.2.2.2.2.1.1 hP hD hS q0 he h1 i h3 (hC.2.2.2.2.1 _ h4) (fun _ h9 => h9) h7 h8 hn hfit hl0 hdg (fun H1 locs1 hP1 hD1 hS1 => ?_)
  rw [hws] at hP1 hD1
  exact kk p e s m args below meth c H1 locs1 ls A hC hP1 hD1 hS1 hA hl
def nw_fin (own : String) (index ci i : Nat) (ty : FieldType) : Prop := ∃ (C : String) (T : u_T) (N : Nat) (ty0 : Nat → FieldType), ap_cl[ci]? = some (C, T, N) ∧ (∀ w ∈ u_ws C T N, w ∈ ap_gw) ∧ i < N ∧ Cond.fieldLink own index (T i).1 (T i).2.1 (T i).2.2.1 ∈ ap_gw ∧ (∀ k, k < N → parseFieldDescriptor (T k).2.2.1 = some (ty0 k)) ∧ (∀ a, a < N → ∀ b, b < N → a ≠ b → (T a).2.1 ≠ (T b).2.1) ∧ (T i).2.2.2 = true ∧ (T i).1 = own ∧ parseFieldDescriptor (T i).2.2.1 = some ty
theorem nw_putF {a q0 ci i index : Nat} {fs : List Value} {ty : FieldType} {v : Value} (hF : nw_fin own index ci i ty) (he : ws[q0]? = some (a, .inr (ci, fs))) (hE : E = nw_E) (hn : narrow ty v = v) (hfit : fits ty v = true) (hl0 : i < fs.length) (hws : ws.set q0 (a, .inr (ci, fs.set i v)) = ws') (hdg : decode cc pc = .ok (.putfield index, 3)) (kk : NW l g cc own nL R cells slots E Qf ws' (pc + 3) lv st) : NW l g cc own nL R cells slots E Qf ws pc lv (v :: .ref a :: st) := by
  intro p e s m args below meth c H locs ls A hC hP hD hS hA hl
  subst hE
  obtain ⟨C, T, N, ty0, h1, h2, h3, h4, h5, h6, h7, h8, h9⟩ := hF
  refine va_putF (D := g.1) (C := C) (T := T) (N := N) (ref := (T i).1) (ty := ty) (v := v) hC.1 hC.2.1 hC.2.2.2.2.1 h2 ty0 h5 h6 hC.2.2.2.1 hC.2.2.2.2.2.2.1.1 hP hD hS q0 he h1 i h3 (hC.2.2.2.2.1 _ h4) (fun _ h9 => h9) h7 hC.2.2.2.2.2.2.2.1 h8 h9 hn hfit hl0 hdg (fun H1 locs1 hP1 hD1 hS1 => ?_)
  rw [hws] at hP1 hD1
  exact kk p e s m args below meth c H1 locs1 ls A hC hP1 hD1 hS1 hA hl
/-- a new array of numbers -/
theorem nw_newa {atype : ArrayType} {ty : FieldType} {t N' : Nat} {n : Int32} (hty : newarray.typeOf atype = ty) (ht : (nw_tys g)[t]? = some (g.2 t, ty)) (hp : refKind ty = false) (hw : Cond.arrayClass (newarray.typeOf atype) ∈ ap_gw) (hd : defaultValue ty = .int 0) (hn : ¬ n < 0) (hN : n.toNatClampNeg = N') (hb : N' * componentBytes ty ≤ 536870912) (hcells : cells + 1 ≤ R.cells) (hslots : slots + N' ≤ R.slots) (hdg : decode cc pc = .ok (.newarray atype, 2))
    (kk : ∀ q : Nat, NW l g cc own nL R (cells + 1) (slots + N') E Qf (ws ++ [(q, .inl (g.2 t, N', .inl (fun _ => 0)))]) (pc + 2) lv (.ref q :: st)) : NW l g cc own nL R cells slots E Qf ws pc lv (.int n :: st) := by
  intro p e s m args below meth c H locs ls A hC hP hD hS hA hl
  have hK := hC.2.2.2.2.2.2.1.1
  refine va_newa (a0 := (N', .inl (fun _ => 0))) hC.1 hC.2.1 (hC.2.2.2.2.1 _ hw) hty hK hP hD hS hA (fun cA => by rw [vp_cell_i, hd]) hn hN hb hcells hslots hdg (fun q cA H1 hK1 hP1 hD1 hS1 => ?_)
  have h1 : va_RA s cA ty := (hK1.2 (nw_tys g).length (cA, ty) (by rw [List.getElem?_append_right (Nat.le_refl _)]; simp)).2
  have h2 : va_RA s (g.2 t) ty := (hK.2 t _ ht).2
  have h3 : cA = g.2 t := by
    cases ty <;> first | (cases hp; done) | exact Option.some.inj (h1.symm.trans h2)
  subst h3
  exact kk q p e s m args below meth c H1 locs ls A hC hP1 hD1 hS1 hA hl
theorem nw_newq {index t N' : Nat} {C : String} {n : Int32} (ht : (nw_tys g)[t]? = some (g.2 t, .object C)) (hAO : ∀ U, nw_K g U → va_AO C U) (hw : Cond.classLink own index C ∈ ap_gw) (hn : ¬ n < 0) (hN : n.toNatClampNeg = N') (hb : N' * 4 ≤ 536870912) (hcells : cells + 1 ≤ R.cells) (hslots : slots + N' ≤ R.slots) (hdg : decode cc pc = .ok (.anewarray index, 3))
    (kk : ∀ q : Nat, NW l g cc own nL R (cells + 1) (slots + N') E Qf (ws ++ [(q, .inl (g.2 t, N', .inr (.inr (.inr (.inr (fun _ => none))))))]) (pc + 3) lv (.ref q :: st)) : NW l g cc own nL R cells slots E Qf ws pc lv (.int n :: st) := by
  intro p e s m args below meth c H locs ls A hC hP hD hS hA hl
  have hK := hC.2.2.2.2.2.2.1.1
  refine va_newq hC.1 hC.2.1 hC.2.2.2.1 (hC.2.2.2.2.1 _ hw) (hAO s hC.2.2.2.2.2.2.1) hK hP hD hS hA hn hN hb hcells hslots hdg (fun q cA H1 hK1 hP1 hD1 hS1 => ?_)
  have h1 : va_RA s cA (.object C) := (hK1.2 (nw_tys g).length (cA, .object C) (by rw [List.getElem?_append_right (Nat.le_refl _)]; simp)).2
  have h2 : va_RA s (g.2 t) (.object C) := (hK.2 t _ ht).2
  have h3 : cA = g.2 t := by
    obtain ⟨_, _, _, _, _, e1⟩ := h1
    obtain ⟨_, _, _, _, _, e2⟩ := h2
    exact Option.some.inj (e1.symm.trans e2)
  subst h3
  exact kk q p e s m args below meth c H1 locs ls A hC hP1 hD1 hS1 hA hl
def nw_mk (own : String) (index ci : Nat) (fs : List Value) (C : String) (N : Nat) : Prop := ∃ (T : u_T) (ty : Nat → FieldType), ap_cl[ci]? = some (C, T, N) ∧ (∀ w ∈ u_ws C T N, w ∈ ap_gw) ∧ (∀ k, k < N → parseFieldDescriptor (T k).2.2.1 = some (ty k)) ∧ Cond.classLink own index C ∈ ap_gw ∧ Cond.instantiable C N ∈ ap_gw ∧ Cond.initialized C ∈ ap_gw ∧ ∀ j, j < N → defaultValue (ty j) = vp_V fs j
theorem nw_new {index ci N : Nat} {fs : List Value} {C : String} (hm : nw_mk own index ci fs C N) (hcells : cells + 1 ≤ R.cells) (hslots : slots + N ≤ R.slots) (hdg : decode cc pc = .ok (.new index, 3))
    (kk : ∀ q : Nat, NW l g cc own nL R (cells + 1) (slots + N) E Qf (ws ++ [(q, .inr (ci, fs))]) (pc + 3) lv (.ref q :: st)) : NW l g cc own nL R cells slots E Qf ws pc lv st := by
  intro p e s m args below meth c H locs ls A hC hP hD hS hA hl
  obtain ⟨T, ty, h1, h2, h3, h4, h5, h6, h7⟩ := hm
  exact va_new hC.1 hC.2.1 hC.2.2.2.2.1 h2 ty h3 hC.2.2.2.1 (hC.2.2.2.2.1 _ h4) (hC.2.2.2.2.1 _ h5) (hC.2.2.2.2.1 _ h6) hC.2.2.2.2.2.2.1.1 hP hD hS hA h1 h7 hcells hslots hdg (fun q H1 hP1 hD1 hS1 => kk q p e s m args below meth c H1 locs ls A hC hP1 hD1 hS1 hA hl)
/-- a row of references gets one -/
theorem nw_aast {a q0 t qk ci v n j : Nat} {r : vw_C} {C : String} {vs : List Value} {f f' : Nat → Option Nat} {i : Int32} (ha : ws[q0]? = some (a, .inl (g.2 t, n, .inr (.inr (.inr (.inr f)))))) (ht : (nw_tys g)[t]? = some (g.2 t, .object C)) (hv : ws[qk]? = some (v, .inr (ci, vs))) (hc : ap_cl[ci]? = some r) (hca : r.1 = C ∨ (C = "CandleLand$Plain" ∧ r.1 ∈ nw_cst)) (hin : vp_in i n) (hj : i.toNatClampNeg = j) (hf : va_up f j (some v) = f') (hws : ws.set q0 (a, .inl (g.2 t, n, .inr (.inr (.inr (.inr f'))))) = ws') (hdg : decode cc pc = .ok (.aastore, 1))
    (kk : NW l g cc own nL R cells slots E Qf ws' (pc + 1) lv st) : NW l g cc own nL R cells slots E Qf ws pc lv (.ref v :: .int i :: .ref a :: st) := by
  intro p e s m args below meth c H locs ls A hC hP hD hS hA hl
  subst hj; subst hf; subst hws
  rcases hca with rfl | ⟨rfl, hm⟩
  · exact va_astq hC.1 hC.2.1 hC.2.2.2.2.2.2.1.1 hP hD hS q0 t qk ci ha ht hv hc hin hdg (fun H1 locs1 hP1 hD1 hS1 => kk p e s m args below meth c H1 locs1 ls A hC hP1 hD1 hS1 hA hl)
  · exact va_astqO hC.1 hC.2.1 hC.2.2.2.2.2.2.1.1 hP hD hS q0 t qk ci ha ht (hC.2.2.2.2.2.2.1.2.2.1 _ hm) hv hc hin hdg (fun H1 locs1 hP1 hD1 hS1 => kk p e s m args below meth c H1 locs1 ls A hC hP1 hD1 hS1 hA hl)
theorem nw_ret (gq : Nat → Nat) {post : (Nat → Nat) → va_W} (hp : post gq = ws) (hdg : decode cc pc = .ok (.return_, 1)) : NW l g cc own nL R cells slots nw_E (nw_F g post cells slots) ws pc lv [] := by
  intro p e s m args below meth c H locs ls A hC hP hD hS hA hl
  subst hp
  have hlocks := hC.2.2.2.2.2.1
  exact W.vret hC.1 hC.2.1 hC.2.2.2.2.2.2.2.2 (fun t ht hW => ⟨⟨rfl, gq, by rw [ht]; exact hP, hD⟩, hS.F ht⟩) hS.2.2 hdg hlocks
/-- behind a constructor -/
theorem nw_after {p : Program} {e : Env} {s : State} {m : MethodId} {args : Array Value} {below : List Frame} {meth : Method} {c : Code} {H : Heap} {locs : List Loc} {ls : Array Slot} {A : Nat → Prop} {st0 : List Value} {As : Array Value} {wc wr : va_W} {post : (Nat → Nat) → va_W} {mc ms : Nat} (isC isR : List Nat) (hr : va_Run p l e R s m args below meth c H locs cells slots mc ms (F0 m pc ls st0) st (nw_Q g post (va_A wc H.size) As) (va_A wc H.size)) (hC : nw_C g cc own nL E p s m args meth c) (hP : va_P g.1 ap_cl ws H) (hD : va_D A ws) (hS : va_S A s.heap H locs) (hA : ∀ q, s.heap.size ≤ q → A q) (hl : lv_has ls nL lv) (hc : isC.map (fun i => ws[i]?) = wc.map some) (hrr : isR.map (fun i => ws[i]?) = wr.map some) (hnd : va_nd isR = true) (hdis : ∀ i ∈ isR, i ∉ isC)
    (kk : ∀ gq, NW l g cc own nL R (cells + mc) (slots + ms) E Qf (wr ++ post gq) (pc + 3) lv st) : W p l e R s m args below meth c H locs cells slots (Qf below args s A) (F0 m pc ls st0) := by
  intro T hT X
  obtain ⟨v, st₀, t, T', L, h0, X', hL, e1, e2, ⟨⟨hv, gq, hPt, hDt⟩, hz, hk⟩, stp⟩ := hr T hT X
  cases hv
  rw [h0] at hz hk
  have hF := va_free (wc := wc) hD hS hA isC hc
  have hk' : ∀ q : Nat, q < H.size → ¬ va_A wc H.size q → T'.heap[q]? = H[q]? := fun q h1 h2 => by rw [e1]; exact hk q h1 h2
  obtain ⟨hP2, hD2⟩ := va_join hP hD isC isR hc hrr hnd hdis hk' hF (by rw [e1]; exact hPt) hDt
  obtain ⟨t2, a1, b1⟩ := kk gq p e s m args below meth c T'.heap (locs ++ L) ls A hC hP2 hD2
    ⟨Nat.le_trans hS.1 (by rw [e1]; exact hz), fun q h1 h2 => by rw [hk' q (Nat.lt_of_lt_of_le h1 hS.1) (fun z => h2 (hF q z))]; exact hS.2.1 q h1 h2, fun q hq => by
      rcases List.mem_append.mp hq with h | h
      · exact hS.2.2 q h
      · exact hF _ (hL q h)⟩ hA hl T' rfl X'
  exact ⟨t2, stp t2 a1, b1⟩
def nw_rm (R rm : Room) (maxL mc ms : Nat) : Prop := rm.cells = mc ∧ rm.slots = ms ∧ rm.frames + 1 ≤ R.frames ∧ 8 + (maxL + 11) + rm.locals ≤ R.locals
/-- a private constructor of a nest mate -/
theorem nw_callN {index n : Nat} {y : MethodName} {bytes : ByteArray} {maxL b : Nat} {rm : Room} {wc wr : va_W} {As st0 : List Value} {post : (Nat → Nat) → va_W} {mc ms : Nat} (isC isR : List Nat) (hM : NC l g y bytes maxL rm wc (.ref b :: As) post mc ms) (hw : (own, index, y) ∈ nw_lnk) (hcode : Cond.code y bytes maxL none ∈ ap_gw) (hini : Cond.initialized y.cls ∈ ap_gw) (hinst : Cond.instanceMethod y ∈ ap_gw) (hd : y.name = "<init>" ∧ y.cls ≠ "java/lang/invoke/MethodHandle" ∧ y.cls ≠ "java/lang/invoke/VarHandle" ∧ (parseMethodDescriptor y.desc).map (fun d => d.parameters.length) = some n) (hR : nw_rm R rm maxL mc ms) (hn : As.length = n) (hcat : (st.map fun v => v.category).sum ≤ 8) (hcs : cells + mc ≤ R.cells ∧ slots + ms ≤ R.slots) (hdg : decode cc pc = .ok (.invokespecial index, 3)) (hst : st0 = As.reverse ++ .ref b :: st)
    (hc : isC.map (fun i => ws[i]?) = wc.map some) (hrr : isR.map (fun i => ws[i]?) = wr.map some) (hnd : va_nd isR = true) (hdis : ∀ i ∈ isR, i ∉ isC) (hndc : va_nd isC = true)
    (kk : ∀ gq, NW l g cc own nL R (cells + mc) (slots + ms) E Qf (wr ++ post gq) (pc + 3) lv st) : NW l g cc own nL R cells slots E Qf ws pc lv st0 := by
  intro p e s m args below meth c H locs ls A hC hP hD hS hA hl
  refine nw_after isC isR (va_runIN (Ts := ap_gw) (host := "CandleLand") (As := As) (rest := st) (b := b) ⟨hC.1, hC.2.1, hC.2.2.1, hC.2.2.2.1, hC.2.2.2.2.1⟩ (hM H.size) ⟨va_cnB n hC.2.2.2.2.1 (ap_good hcode) rfl hR.1 hR.2.1 (hC.2.2.2.2.2.2.1.2.1 _ hw) (hC.2.2.2.2.1 _ hini) hd.2 hR.2.2, hd.1, hC.2.2.2.2.1 _ hinst⟩ ⟨nw_P.blind, fun U hU hW => ⟨rfl, by rw [hU], by rw [hU]; exact hP.sub isC (nw_fm hc), hC.2.2.2.2.2.2.1.call hW, (hD.sub isC hndc hc).weaken (fun _ _ _ _ => trivial)⟩⟩ rfl hn hl.1 hst (lv_room hcat) hdg hcs) hC hP hD hS hA hl hc hrr hnd hdis kk
/-- another class's constructor -/
theorem nw_callI {index n : Nat} {y : MethodName} {bytes : ByteArray} {maxL b : Nat} {rm : Room} {wc wr : va_W} {As st0 : List Value} {post : (Nat → Nat) → va_W} {mc ms : Nat} (isC isR : List Nat) (hM : NC l g y bytes maxL rm wc (.ref b :: As) post mc ms) (hw : Cond.methodLink own index y ∈ ap_gw) (hcode : Cond.code y bytes maxL none ∈ ap_gw) (hini : Cond.initialized y.cls ∈ ap_gw) (hinst : Cond.instanceMethod y ∈ ap_gw) (hd : y.name = "<init>" ∧ y.cls ≠ "java/lang/invoke/MethodHandle" ∧ y.cls ≠ "java/lang/invoke/VarHandle" ∧ (parseMethodDescriptor y.desc).map (fun d => d.parameters.length) = some n) (hR : nw_rm R rm maxL mc ms) (hn : As.length = n) (hcat : (st.map fun v => v.category).sum ≤ 8) (hcs : cells + mc ≤ R.cells ∧ slots + ms ≤ R.slots) (hdg : decode cc pc = .ok (.invokespecial index, 3)) (hst : st0 = As.reverse ++ .ref b :: st)
    (hc : isC.map (fun i => ws[i]?) = wc.map some) (hrr : isR.map (fun i => ws[i]?) = wr.map some) (hnd : va_nd isR = true) (hdis : ∀ i ∈ isR, i ∉ isC) (hndc : va_nd isC = true)
    (kk : ∀ gq, NW l g cc own nL R (cells + mc) (slots + ms) E Qf (wr ++ post gq) (pc + 3) lv st) : NW l g cc own nL R cells slots E Qf ws pc lv st0 := by
  intro p e s m args below meth c H locs ls A hC hP hD hS hA hl
  refine nw_after isC isR (va_runI (Ts := ap_gw) (As := As) (rest := st) (b := b) ⟨hC.1, hC.2.1, hC.2.2.1, hC.2.2.2.1, hC.2.2.2.2.1⟩ (hM H.size) ⟨callB_of n hC.2.2.2.2.1 (ap_good hcode) rfl hR.1 hR.2.1 (hC.2.2.2.2.1 _ hini) (hC.2.2.2.2.1 _ hw) hd.2 hR.2.2, hd.1, hC.2.2.2.2.1 _ hinst⟩ ⟨nw_P.blind, fun U hU hW => ⟨rfl, by rw [hU], by rw [hU]; exact hP.sub isC (nw_fm hc), hC.2.2.2.2.2.2.1.call hW, (hD.sub isC hndc hc).weaken (fun _ _ _ _ => trivial)⟩⟩ rfl hn hl.1 hst (lv_room hcat) hdg hcs) hC hP hD hS hA hl hc hrr hnd hdis kk
end NWR

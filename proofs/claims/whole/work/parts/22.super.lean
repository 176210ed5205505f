/-! ===== super.hours of Lantern: named in Lamp, Plain's own ===== -/
theorem ap_callUU {l : Launch} {K : Kt} {cc : ByteArray} {nL : Nat} {ret : Option FieldType} {R : Room} {cells slots : Nat} {E : Array Value → State → Prop} {Qf : List Frame → Array Value → State → State → Prop} {w : Mm} {pc : Nat} {lv : List (Nat × Value)} {st : List Value} {k ci : Nat} {rm : Room} {w1 : Mm} {As st0 : List Value} {r : Option Value} {fds : List (Option (Option Nat))} {q : vw_C} (hM : MC l K yX4_hours cX4_hours 2 (some .int) rm w (.ref (K.1 k) :: As) r w1) (hcl : ap_cl[ci]? = some q) (hd : LAY[k]? = some (.inl (ci, fds))) (hR : ap_rm R rm 2) (hn : As.length = 1) (hcat : (st.map fun v => v.category).sum ≤ 8) (hcs : cells ≤ R.cells ∧ slots ≤ R.slots) (hdg : decode cc pc = .ok (.invokespecial 7, 3)) (hst : st0 = As.reverse ++ .ref (K.1 k) :: st)
    {st1 : List Value} (hst1 : r.toList ++ st = st1) (kk : AW l K cc RX2 nL ret R cells slots E Qf w1 (pc + 3) lv st1) : AW l K cc RX2 nL ret R cells slots E Qf w pc lv st0 := by
  intro p e s m args below meth c H locs ls hC hP hS hl
  subst hst1
  obtain ⟨hx, hb, hml, hr, ho, hts, hlocks, hK, hE⟩ := id hC
  have hKb : Back l R p e below s args yX4_hours 3 8 (PreOf R 0 0 (ap_P K w (.ref (K.1 k) :: As))) (PostOf (ap_Q K r w1) 0 0 (ap_A K)) := back_of (bytes := cX4_hours) (maxL := 2) (ret := some .int) hM ap_P.blind hR.1 hR.2.1 hR.2.2.1 hR.2.2.2 (pay_in hts (ap_good wd_594)) (List.mem_cons_self) (fun a' U hW => word_at hW (Or.inl (by first | rfl | simp [Cond.onTables, Cond.keeps, Cond.steady])) (hts _ wd_61))
  obtain ⟨cellB, hcB, hoB, hclB⟩ := va_recv hK.1 hP hcl (ap_w_at hd)
  obtain ⟨hfc, kB, hkB, -⟩ := (hK.1.1 ci q hcl).2
  have hce := Option.some.inj (hfc.symm.trans hclB)
  rw [hce] at hkB
  refine ap_after (As := (Value.ref (K.1 k) :: As).toArray) ?_ hC hS hl kk
  intro T hT X
  obtain ⟨mk, methM, hnamed, hmethM, hstM, habM⟩ := Cond.instanceMethod_spec (hts _ wd_573)
  obtain ⟨methM', cM, hmethM', -, -, -, -, -, -, hsigM⟩ := Cond.code_spec hnamed (hts _ wd_594)
  cases hmethM.symm.trans hmethM'
  obtain ⟨ps, dk, kp, hps, hdk, hkp, hsuper, -, -, hnid⟩ := Cond.superclass_spec ho (hts _ wd_244)
  obtain ⟨ps2, dk2, kp2, hps2, hdk2, hkp2, hsuper2, -, -, -⟩ := Cond.superclass_spec hps (hts _ wd_237)
  have hpm : ps2 = mk.cls := Option.some.inj (hps2.symm.trans (findClass_of_methodNamed hnamed))
  have hlt : ps < s.vm.classes.size := (Array.getElem?_eq_some_iff.mp hdk2).1
  have hsub : s.vm.isSubclass ps mk.cls = true := by
    obtain ⟨z, hz⟩ : ∃ z, s.vm.classes.size = z + 1 := Nat.exists_eq_succ_of_ne_zero (Nat.ne_of_gt (Nat.lt_of_le_of_lt (Nat.zero_le _) hlt))
    rw [← hpm]
    simp [Vm.isSubclass, Vm.isSubclassAux, hz, hdk2, hsuper2]
  have hlen : ∀ sig, parseMethodDescriptor yX4_hours.desc = some sig → As.length = sig.parameters.length := by
    intro sig hs
    have h2 : (parseMethodDescriptor yX4_hours.desc).map (fun d => d.parameters.length) = some 1 := by decide +kernel
    rw [hs] at h2
    rw [hn]
    exact (Option.some.inj h2).symm
  obtain ⟨vm₁, X₁, hstep₁⟩ := X.invokespecialUp hx (x := ⟨"CandleLand$Lamp", "hours", "(I)I"⟩) (owner := "CandleLand$Plain") ho (hts _ wd_587) (hts _ wd_588) hnamed hmethM hstM habM (by decide) hdk hnid hps hsuper hsub (a := K.1 k) (cell := cellB) (by rw [hT]; exact hcB)
    (fun z h => by rw [h] at hoB; cases hoB) hkB (g := F0 m pc ls st0) rfl (argsL := As) (rest := st) (hlen _ hsigM) hst (by rw [hb]; exact hdg)
  obtain ⟨v, ⟨U', l2, c2, s2⟩, X', ⟨g', mk', t, L, e1, e2, hq, h1, hL, h2, h3⟩, hsteps⟩ := hKb m meth c ⟨T.setVm vm₁, locs, cells, slots⟩ { (F0 m pc ls st0) with stack := st } (.invokespecial 7) mk (Value.ref (K.1 k) :: As).toArray X₁ rfl (by rw [hml]; exact hl.1) (by rw [hb]; exact hdg) (lv_room hcat) (X₁.named hnamed) ⟨hcs.1, hcs.2, rfl, by show va_P _ _ _ T.heap; rw [hT]; exact hP, hK.call hS (show (T.setVm vm₁).heap = H from hT) X₁.warmed⟩
  dsimp only [Pt.U, Pt.locs, Pt.cells, Pt.slots] at X' e1 e2 h1 h2 h3 hsteps
  subst h1; subst h2; subst h3
  exact ⟨v, (T.setVm vm₁).calling g' mk' (Value.ref (K.1 k) :: As).toArray, t, U', L, hT, X', hL, e1, e2, hq, fun target h => hstep₁ _ (by rw [doInvoke_state]; exact hsteps.trans h)⟩
/-! ===== Math.max, Math.abs ===== -/
def mxI (x y : Int32) : Int32 := if x < y then y else x
def abI (x : Int32) : Int32 := if 0 ≤ x then x else 0 - x
theorem ap_mmax {l : Launch} {K : Kt} {cc : ByteArray} {own : String} {nL : Nat} {ret : Option FieldType} {R : Room} {cells slots : Nat} {E : Array Value → State → Prop} {Qf : List Frame → Array Value → State → State → Prop} {w : Mm} {pc : Nat} {lv : List (Nat × Value)} {st : List Value} {index : Nat} {x y : Int32} (hlink : Cond.methodLink own index Lib.Math.max.name ∈ ap_gw) (hR : 1 ≤ R.frames ∧ 21 ≤ R.locals) (hcat : (st.map fun v => v.category).sum ≤ 8) (hcs : cells ≤ R.cells ∧ slots ≤ R.slots) (hdg : decode cc pc = .ok (.invokestatic index, 3)) (kk : AW l K cc own nL ret R cells slots E Qf w (pc + 3) lv (.int (mxI x y) :: st)) : AW l K cc own nL ret R cells slots E Qf w pc lv (.int y :: .int x :: st) := by
  intro p e s m args below meth c H locs ls hC hP hS hl
  exact va_mmax hC.1 hC.2.1 (by rw [hC.2.2.1]; exact hl.1.symm) hC.2.2.2.2.1 (hC.2.2.2.2.2.1 _ hlink) (hC.2.2.2.2.2.1 _ wd_639) (hC.2.2.2.2.2.1 _ wd_75) (hC.2.2.2.2.2.1 _ wd_640) hR.1 (Nat.le_trans (Nat.add_le_add_right hcat 13) hR.2) hcs.1 hcs.2 hdg (kk p e s m args below meth c H locs ls hC hP hS hl)
theorem ap_mabs {l : Launch} {K : Kt} {cc : ByteArray} {own : String} {nL : Nat} {ret : Option FieldType} {R : Room} {cells slots : Nat} {E : Array Value → State → Prop} {Qf : List Frame → Array Value → State → State → Prop} {w : Mm} {pc : Nat} {lv : List (Nat × Value)} {st : List Value} {index : Nat} {x : Int32} (hlink : Cond.methodLink own index Lib.Math.abs.name ∈ ap_gw) (hR : 1 ≤ R.frames ∧ 21 ≤ R.locals) (hcat : (st.map fun v => v.category).sum ≤ 8) (hcs : cells ≤ R.cells ∧ slots ≤ R.slots) (hdg : decode cc pc = .ok (.invokestatic index, 3)) (kk : AW l K cc own nL ret R cells slots E Qf w (pc + 3) lv (.int (abI x) :: st)) : AW l K cc own nL ret R cells slots E Qf w pc lv (.int x :: st) := by
  intro p e s m args below meth c H locs ls hC hP hS hl
  exact va_mabs hC.1 hC.2.1 (by rw [hC.2.2.1]; exact hl.1.symm) hC.2.2.2.2.1 (hC.2.2.2.2.2.1 _ hlink) (hC.2.2.2.2.2.1 _ wd_610) (hC.2.2.2.2.2.1 _ wd_75) (hC.2.2.2.2.2.1 _ wd_611) hR.1 (Nat.le_trans (Nat.add_le_add_right hcat 13) hR.2) hcs.1 hcs.2 hdg (kk p e s m args below meth c H locs ls hC hP hS hl)

/-! ===== the pure layer: numbers, memory ===== -/
theorem rdA_n {w : Mm} {o n j : Nat} (hj : j < n) (hn : n < 2 ^ 31) : rdA w o n (nI j) = some (w.1 o j) := by
  unfold rdA
  rw [if_neg (nI_in hj hn), nI_clamp (Nat.lt_trans hj hn)]
theorem wrA_n {w : Mm} {o n j : Nat} {v : Int32} (hj : j < n) (hn : n < 2 ^ 31) : wrA w o n (nI j) v = some (sI w o j v) := by
  unfold wrA
  rw [if_neg (nI_in hj hn), nI_clamp (Nat.lt_trans hj hn)]
theorem rdR_n {n j : Nat} (hj : j < n) (hn : n < 2 ^ 31) : rdR n (nI j) = some j := by
  unfold rdR
  rw [if_neg (nI_in hj hn), nI_clamp (Nat.lt_trans hj hn)]
theorem cpA_n {w : Mm} {o0 n0 o1 n1 sp dp n : Nat} (h0 : sp + n ≤ n0) (h1 : dp + n ≤ n1) (hn0 : n0 < 2 ^ 31) (hn1 : n1 < 2 ^ 31) : cpA w o0 n0 o1 n1 (nI sp) (nI dp) (nI n) = some (sA w o1 (va_cpy (w.1 o0) (w.1 o1) sp dp n)) := by
  have a1 : sp < 2 ^ 31 := by omega
  have a2 : dp < 2 ^ 31 := by omega
  have a3 : n < 2 ^ 31 := by omega
  unfold cpA
  rw [nI_clamp a1, nI_clamp a2, nI_clamp a3, if_neg]
  intro h
  rcases h with (h | h | h) | h | h
  · exact nI_pos a1 h
  · exact nI_pos a2 h
  · exact nI_pos a3 h
  · omega
  · omega
theorem sI_1 (w : Mm) (o i : Nat) (v : Int32) (a b : Nat) : (sI w o i v).1 a b = if a = o ∧ b = i then v else w.1 a b := by
  unfold sI sA upd
  by_cases h : a = o
  · subst h
    by_cases h2 : b = i <;> simp [h2]
  · simp [h]
theorem sI_o (w : Mm) {o i : Nat} {v : Int32} {a : Nat} (h : a ≠ o) : (sI w o i v).1 a = w.1 a := by
  simp [sI, sA, h]
theorem sI_2 (w : Mm) (o i : Nat) (v : Int32) : (sI w o i v).2 = w.2 := rfl
theorem sA_o (w : Mm) {o : Nat} {f : Nat → Int32} {a : Nat} (h : a ≠ o) : (sA w o f).1 a = w.1 a := by
  simp [sA, h]
theorem sA_2 (w : Mm) (o : Nat) (f : Nat → Int32) : (sA w o f).2 = w.2 := rfl
theorem sJ_1 (w : Mm) (o i : Nat) (v : Int64) : (sJ w o i v).1 = w.1 := rfl
/-- nothing but these objects has changed -/
def Fr (L : List Nat) (w w' : Mm) : Prop := (∀ o, o ∉ L → w'.1 o = w.1 o) ∧ w'.2 = w.2
theorem Fr.rf {L : List Nat} {w : Mm} : Fr L w w := ⟨fun _ _ => rfl, rfl⟩
theorem Fr.tr {L1 L2 : List Nat} {w w1 w2 : Mm} (h1 : Fr L1 w w1) (h2 : Fr L2 w1 w2) : Fr (L1 ++ L2) w w2 :=
  ⟨fun o ho => by rw [h2.1 o (fun z => ho (List.mem_append_right _ z)), h1.1 o (fun z => ho (List.mem_append_left _ z))], h2.2.trans h1.2⟩
theorem Fr.up {L1 L2 : List Nat} {w w1 : Mm} (h1 : Fr L1 w w1) (h : ∀ o ∈ L1, o ∈ L2) : Fr L2 w w1 := ⟨fun o ho => h1.1 o (fun z => ho (h o z)), h1.2⟩
theorem Fr.then {L : List Nat} {w w1 w2 : Mm} (h1 : Fr L w w1) (h2 : Fr L w1 w2) : Fr L w w2 :=
  ⟨fun o ho => by rw [h2.1 o ho, h1.1 o ho], h2.2.trans h1.2⟩
theorem Fr.sI {L : List Nat} {w : Mm} {o i : Nat} {v : Int32} (h : o ∈ L) : Fr L w (sI w o i v) := ⟨fun a ha => sI_o w (fun e => ha (e ▸ h)), rfl⟩
theorem Fr.sA {L : List Nat} {w : Mm} {o : Nat} {f : Nat → Int32} (h : o ∈ L) : Fr L w (sA w o f) := ⟨fun a ha => sA_o w (fun e => ha (e ▸ h)), rfl⟩
/-! bits -/
def bt (S k : Nat) : Bool := S / 2 ^ k % 2 == 1
theorem bt_lt {S k n : Nat} (h : S < 2 ^ n) (hk : n ≤ k) : bt S k = false := by
  have h1 : 2 ^ n ≤ 2 ^ k := Nat.pow_le_pow_right (by decide) hk
  have h2 : S / 2 ^ k = 0 := Nat.div_eq_of_lt (Nat.lt_of_lt_of_le h h1)
  simp [bt, h2]
theorem nI_lit (n : Nat) : Int32.ofNat n = nI n := rfl
theorem nI_a31 {k : Nat} (hk : k < 32) : nI k &&& 31 = nI k := by
  have h := pk_andN (n := k) (by omega) (m := 31) 5 (by decide)
  rw [h, Nat.mod_eq_of_lt (by omega)]
theorem nI_smod {k : Nat} (hk : k < 32) : ((nI k).toBitVec.smod 32).toNat = k := by
  have : ∀ k, k < 32 → ((nI k).toBitVec.smod 32).toNat = k := by decide
  exact this k hk
theorem nI_shr {S k : Nat} (hS : S < 2 ^ 31) (hk : k < 32) : nI S >>> (nI k &&& 31) = nI (S / 2 ^ k) := by
  rw [nI_a31 hk]
  exact pk_shrN hS (nI k) k (nI_smod hk)
theorem nI_bit {S k : Nat} (hS : S < 2 ^ 31) (hk : k < 32) : (nI S >>> (nI k &&& 31)) &&& 1 = nI (S / 2 ^ k % 2) := by
  rw [nI_shr hS hk]
  exact pk_andN (Nat.lt_of_le_of_lt (Nat.div_le_self _ _) (by omega)) 1 (by decide)
theorem nI_bit1 {S k : Nat} (hS : S < 2 ^ 31) (hk : k < 32) : ((nI S >>> (nI k &&& 31)) &&& 1 = 1) ↔ bt S k = true := by
  rw [nI_bit hS hk, show (1 : Int32) = nI 1 from rfl, nI_eq (by omega) (by decide)]
  simp [bt]
theorem nI_shl {k : Nat} (hk : k < 31) : (1 : Int32) <<< (nI k &&& 31) = nI (2 ^ k) := by
  rw [nI_a31 (by omega)]
  have h := pk_shlN (n := 1) (nI k) k (nI_smod (by omega)) (by rw [Nat.one_mul]; exact Nat.pow_lt_pow_right (by decide) (by omega))
  rw [Nat.one_mul] at h
  exact h
theorem nI_and {a b : Nat} (ha : a < 2 ^ 31) (hb : b < 2 ^ 31) : nI a &&& nI b = nI (a &&& b) := by
  apply Int32.toBitVec_inj.mp
  apply BitVec.eq_of_toNat_eq
  have hab : a &&& b < 2 ^ 31 := Nat.lt_of_le_of_lt Nat.and_le_left ha
  show ((nI a).toBitVec &&& (nI b).toBitVec).toNat = _
  rw [BitVec.toNat_and, pk_tn (by omega), pk_tn (by omega), pk_tn (by omega)]
theorem nI_or {a b : Nat} (ha : a < 2 ^ 31) (hb : b < 2 ^ 31) : nI a ||| nI b = nI (a ||| b) := by
  apply Int32.toBitVec_inj.mp
  apply BitVec.eq_of_toNat_eq
  have hab : a ||| b < 2 ^ 31 := Nat.or_lt_two_pow ha hb
  show ((nI a).toBitVec ||| (nI b).toBitVec).toNat = _
  rw [BitVec.toNat_or, pk_tn (by omega), pk_tn (by omega), pk_tn (by omega)]
theorem nI_xor {a b : Nat} (ha : a < 2 ^ 31) (hb : b < 2 ^ 31) : nI a ^^^ nI b = nI (a ^^^ b) := by
  apply Int32.toBitVec_inj.mp
  apply BitVec.eq_of_toNat_eq
  have hab : a ^^^ b < 2 ^ 31 := Nat.xor_lt_two_pow ha hb
  show ((nI a).toBitVec ^^^ (nI b).toBitVec).toNat = _
  rw [BitVec.toNat_xor, pk_tn (by omega), pk_tn (by omega), pk_tn (by omega)]
theorem mxI_n {a b : Nat} (ha : a < 2 ^ 31) (hb : b < 2 ^ 31) : mxI (nI a) (nI b) = nI (max a b) := by
  unfold mxI
  by_cases h : a < b
  · rw [if_pos ((nI_ltI ha hb).mpr h), Nat.max_eq_right (Nat.le_of_lt h)]
  · rw [if_neg (fun z => h ((nI_ltI ha hb).mp z)), Nat.max_eq_left (by omega)]
theorem nI_sub0 {a b : Nat} (ha : a < 2 ^ 30) (hb : b < 2 ^ 30) : mxI 0 (nI a - nI b) = nI (a - b) := by
  unfold mxI
  by_cases h : b ≤ a
  · rw [pk_sub h]
    by_cases h2 : 0 < a - b
    · rw [if_pos]; exact (nI_ltI (a := 0) (by decide) (by omega)).mpr h2
    · rw [if_neg]
      · rw [show a - b = 0 by omega]; rfl
      · intro z; exact h2 ((nI_ltI (a := 0) (by decide) (by omega)).mp z)
  · have h1 : nI a - nI b < 0 := pk_sneg hb (by omega)
    rw [if_neg (Int32.lt_asymm h1), show a - b = 0 by omega]
    rfl
theorem abI_n {a b : Nat} (ha : a < 2 ^ 30) (hb : b < 2 ^ 30) : abI (nI a - nI b) = nI ((a - b) + (b - a)) := by
  unfold abI
  by_cases h : b ≤ a
  · rw [pk_sub h, if_pos (nI_pos' (by omega)), show b - a = 0 by omega, Nat.add_zero]
  · have h1 : nI a - nI b < 0 := pk_sneg hb (by omega)
    rw [if_neg (fun z => Int32.lt_irrefl (Int32.lt_of_lt_of_le h1 z)), show a - b = 0 by omega, Nat.zero_add, ← pk_sub (show a ≤ b by omega)]
    rw [Int32.zero_sub, Int32.neg_sub]

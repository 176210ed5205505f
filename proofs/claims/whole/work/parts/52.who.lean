/-! ===== whose a cell is ===== -/
def sMx (L : Nat → Nat) : Nat → Nat
  | 0 => 0
  | n + 1 => max (sMx L n) (L n)
def sWf (L o : Nat → Nat) (T : Nat) : Nat → Int32
  | 0 => -1
  | n + 1 => if T = 0 ∨ L n ≠ T then sWf L o T n else if sWf L o T n = nI (o n) then sWf L o T n else if sWf L o T n = -1 then nI (o n) else -2
/-- whose: the owner's number, -1 nobody's, -2 a hedge -/
def sWho (L o : Nat → Nat) (n : Nat) : Int32 := sWf L o (sMx L n) n
/-- the light of candle k if it is in the set S -/
def lv_ (S : Nat) (L : Nat → Nat) (k : Nat) : Nat := if bt S k = true then L k else 0
theorem nI_m1 {a : Nat} (h : a < 2 ^ 31) : ¬ nI a = -1 := by
  intro e
  have h1 := congrArg Int32.toInt e
  rw [nI_toInt h] at h1
  have h2 : ((-1 : Int32)).toInt = -1 := by decide
  omega
theorem nI_m2 {a : Nat} (h : a < 2 ^ 31) : ¬ nI a = -2 := by
  intro e
  have h1 := congrArg Int32.toInt e
  rw [nI_toInt h] at h1
  have h2 : ((-2 : Int32)).toInt = -2 := by decide
  omega
theorem sMx_le {L : Nat → Nat} {n k : Nat} (h : k < n) : L k ≤ sMx L n := by
  induction n with
  | zero => omega
  | succ n ih =>
    show L k ≤ max (sMx L n) (L n)
    rcases Nat.lt_or_ge k n with h1 | h1
    · exact Nat.le_trans (ih h1) (Nat.le_max_left _ _)
    · rw [show k = n by omega]; exact Nat.le_max_right _ _
theorem sMx_at {L : Nat → Nat} {n : Nat} (h : 0 < sMx L n) : ∃ k, k < n ∧ L k = sMx L n := by
  induction n with
  | zero => exact absurd h (by simp [sMx])
  | succ n ih =>
    have e : sMx L (n + 1) = max (sMx L n) (L n) := rfl
    rcases Nat.le_total (sMx L n) (L n) with h1 | h1
    · exact ⟨n, by omega, by rw [e, Nat.max_eq_right h1]⟩
    · rw [e, Nat.max_eq_left h1] at h ⊢
      obtain ⟨k, h2, h3⟩ := ih h
      exact ⟨k, by omega, h3⟩
theorem sMx_bd {L : Nat → Nat} {n B : Nat} (h : ∀ k, k < n → L k ≤ B) : sMx L n ≤ B := by
  induction n with
  | zero => exact Nat.zero_le _
  | succ n ih => exact Nat.max_le.mpr ⟨ih (fun k hk => h k (by omega)), h n (by omega)⟩
theorem sMx_ext {L M : Nat → Nat} {n : Nat} (h : ∀ k, k < n → L k = M k) : sMx L n = sMx M n := by
  induction n with
  | zero => rfl
  | succ n ih => show max _ _ = max _ _; rw [ih (fun k hk => h k (by omega)), h n (by omega)]
theorem sWf_ext {L M o q : Nat → Nat} {T n : Nat} (h : ∀ k, k < n → L k = M k ∧ o k = q k) : sWf L o T n = sWf M q T n := by
  induction n with
  | zero => rfl
  | succ n ih => simp only [sWf]; rw [ih (fun k hk => h k (by omega)), (h n (by omega)).1, (h n (by omega)).2]
theorem sWho_ext {L M o q : Nat → Nat} {n : Nat} (h : ∀ k, k < n → L k = M k ∧ o k = q k) : sWho L o n = sWho M q n := by
  unfold sWho
  rw [sMx_ext (fun k hk => (h k hk).1), sWf_ext h]
theorem sWf_none {L o : Nat → Nat} {T n : Nat} (h : ∀ k, k < n → L k ≠ T) : sWf L o T n = -1 := by
  induction n with
  | zero => rfl
  | succ n ih => simp only [sWf]; rw [if_pos (Or.inr (h n (by omega))), ih (fun k hk => h k (by omega))]
theorem sWf_some {L o : Nat → Nat} {T n k : Nat} (hT : 0 < T) (ho : ∀ k, k < n → o k < 2 ^ 31) (hk : k < n) (h : L k = T) : sWf L o T n ≠ -1 := by
  induction n with
  | zero => omega
  | succ n ih =>
    simp only [sWf]
    by_cases e : T = 0 ∨ L n ≠ T
    · rw [if_pos e]
      have : k ≠ n := fun z => by rw [z] at h; rcases e with e | e <;> omega
      exact ih (fun k hk => ho k (by omega)) (by omega)
    · rw [if_neg e]
      by_cases e2 : sWf L o T n = nI (o n)
      · rw [if_pos e2, e2]; exact nI_m1 (ho n (by omega))
      · rw [if_neg e2]
        by_cases e3 : sWf L o T n = -1
        · rw [if_pos e3]; exact nI_m1 (ho n (by omega))
        · rw [if_neg e3]; decide
/-- the class's way: strongest so far, and whose -/
theorem sWho_step {L o : Nat → Nat} {n : Nat} (ho : ∀ k, k < n + 1 → o k < 2 ^ 31) : sWho L o (n + 1) = if sMx L n < L n then nI (o n) else if 0 < L n ∧ L n = sMx L n ∧ ¬ nI (o n) = sWho L o n then -2 else sWho L o n := by
  unfold sWho
  have e : sMx L (n + 1) = max (sMx L n) (L n) := rfl
  by_cases h : sMx L n < L n
  · rw [if_pos h, e, Nat.max_eq_right (Nat.le_of_lt h)]
    have hn : sWf L o (L n) n = -1 := sWf_none (fun k hk z => by have := sMx_le (L := L) hk; omega)
    simp only [sWf]
    rw [if_neg (by omega), hn, if_neg (fun z => nI_m1 (ho n (by omega)) z.symm), if_pos rfl]
  · rw [if_neg h, e, Nat.max_eq_left (by omega)]
    simp only [sWf]
    by_cases h2 : sMx L n = 0 ∨ L n ≠ sMx L n
    · rw [if_pos h2, if_neg (by omega)]
    · rw [if_neg h2]
      obtain ⟨k, k1, k2⟩ := sMx_at (L := L) (n := n) (by omega)
      have hs := sWf_some (o := o) (n := n) (T := sMx L n) (by omega) (fun k hk => ho k (by omega)) k1 k2
      by_cases h3 : sWf L o (sMx L n) n = nI (o n)
      · rw [if_pos h3, if_neg (fun z => z.2.2 h3.symm)]
      · rw [if_neg h3, if_neg hs, if_pos ⟨by omega, by omega, fun z => h3 z.symm⟩]
/-! the class's loops -/
/-- the same, for one cell -/
def SPc (w : Mm) (d : VD) (hour c : Nat) : Prop := ∀ k, k < nn d → w.1 61 (c * 7 + k) = nI (sL d hour k c)
theorem SP.at {w : Mm} {d : VD} {hour c : Nat} (h : SP w d hour) (hc : c < 64) : SPc w d hour c := fun k hk => h c k hc hk
theorem strongest_n {N : Nat} {w : Mm} {d : VD} {hour c S : Nat} (h : LPc w d) (hv : VOK d) (hs : SPc w d hour c) (hc : c < 64) (hS : S < 2 ^ 31) : ∀ (r n0 i : Nat), i + r = nn d → r < n0 → fX3_strongest_L5 N w n0 (nI c) (nI S) (nI (sMx (lv_ S (fun k => sL d hour k c)) i)) (nI i) = some (nI (sMx (lv_ S (fun k => sL d hour k c)) (nn d))) := by
  intro r
  have hn7 := hv.2.1
  induction r with
  | zero =>
    intro n0 i hi hn
    obtain ⟨n1, rfl⟩ : ∃ n1, n0 = n1 + 1 := ⟨n0 - 1, by omega⟩
    rw [fX3_strongest_L5, h.2.1, if_pos (nI_le (by omega) (by omega)), show i = nn d by omega]
  | succ r ih =>
    intro n0 i hi hn
    obtain ⟨n1, rfl⟩ : ∃ n1, n0 = n1 + 1 := ⟨n0 - 1, by omega⟩
    have hb : ∀ k, k < i → lv_ S (fun k => sL d hour k c) k ≤ 23 := fun k hk => by
      unfold lv_
      split
      · exact sIf_le hv (by omega)
      · omega
    have hm := sMx_bd hb
    have hl : sL d hour i c ≤ 23 := sIf_le hv (by omega)
    have e0 : nI c * 7 + nI i = nI (c * 7 + i) := by rw [show (7 : Int32) = nI 7 from rfl, pk_mul, nI_add]
    rw [fX3_strongest_L5, h.2.1, if_neg (nI_ge (by omega) (by omega))]
    have e : sMx (lv_ S (fun k => sL d hour k c)) (i + 1) = max (sMx (lv_ S (fun k => sL d hour k c)) i) (lv_ S (fun k => sL d hour k c) i) := rfl
    by_cases hbit : bt S i = true
    · rw [if_pos ((nI_bit1 hS (by omega)).mpr hbit), e0, rdA_n (by omega) (by decide), bS, hs i (by omega), mxI_n (by omega) (by omega), nI_1]
      have := ih n1 (i + 1) (by omega) (by omega)
      rw [e] at this
      rw [show lv_ S (fun k => sL d hour k c) i = sL d hour i c by unfold lv_; rw [if_pos hbit]] at this
      exact this
    · rw [if_neg (fun z => hbit ((nI_bit1 hS (by omega)).mp z)), nI_1]
      have := ih n1 (i + 1) (by omega) (by omega)
      rw [e] at this
      rw [show lv_ S (fun k => sL d hour k c) i = 0 by unfold lv_; rw [if_neg hbit], Nat.max_eq_left (Nat.zero_le _)] at this
      exact this
theorem strongest_ok {N : Nat} (hN : 100 ≤ N) {w : Mm} {d : VD} {hour c S : Nat} (h : LPc w d) (hv : VOK d) (hs : SPc w d hour c) (hc : c < 64) (hS : S < 2 ^ 31) : fX3_strongest N w (nI c) (nI S) = some (nI (sMx (lv_ S (fun k => sL d hour k c)) (nn d))) :=
  strongest_n h hv hs hc hS (nn d) N 0 (by omega) (by have := hv.2.1; omega)
theorem holder_n {N a : Nat} {w : Mm} {d : VD} {o : Nat → Nat} {hour c S : Nat} (h : LPc w d) (hv : VOK d) (hs : SPc w d hour c) (hc : c < 64) (hS : S < 2 ^ 31) (ho : ∀ k, k < nn d → w.1 a k = nI (o k) ∧ o k < 4) : ∀ (r n0 i : Nat), i + r = nn d → r < n0 → fX3_holder_L9 N a 7 w n0 (nI c) (nI S) (nI (sMx (lv_ S (fun k => sL d hour k c)) i)) (sWho (lv_ S (fun k => sL d hour k c)) o i) (nI i) = some (sWho (lv_ S (fun k => sL d hour k c)) o (nn d)) := by
  intro r
  have hn7 := hv.2.1
  induction r with
  | zero =>
    intro n0 i hi hn
    obtain ⟨n1, rfl⟩ : ∃ n1, n0 = n1 + 1 := ⟨n0 - 1, by omega⟩
    rw [fX3_holder_L9, h.2.1, if_pos (nI_le (by omega) (by omega)), show i = nn d by omega]
  | succ r ih =>
    intro n0 i hi hn
    obtain ⟨n1, rfl⟩ : ∃ n1, n0 = n1 + 1 := ⟨n0 - 1, by omega⟩
    have ih := ih n1 (i + 1) (by omega) (by omega)
    generalize hL : lv_ S (fun k => sL d hour k c) = L at ih ⊢
    have hb : ∀ k, k < nn d → L k ≤ 23 := fun k hk => by
      rw [← hL]
      unfold lv_
      split
      · exact sIf_le hv (by omega)
      · omega
    have hm : sMx L i ≤ 23 := sMx_bd (fun k hk => hb k (by omega))
    have hli := hb i (by omega)
    have e0 : nI c * 7 + nI i = nI (c * 7 + i) := by rw [show (7 : Int32) = nI 7 from rfl, pk_mul, nI_add]
    have e : sMx L (i + 1) = max (sMx L i) (L i) := rfl
    have key : fX3_holder_L54 N (fX3_holder_L9 N a 7 w n1) a 7 w (nI c) (nI S) (nI (sMx L i)) (sWho L o i) (nI i) (nI (L i)) = some (sWho L o (nn d)) := by
      unfold fX3_holder_L54
      rw [sWho_step (fun k hk => by have := (ho k (by omega)).2; omega), e] at ih
      by_cases h1 : sMx L i < L i
      · rw [if_neg (nI_ge h1 (by omega)), rdA_n (by omega) (by decide), bS, (ho i (by omega)).1, nI_1]
        rw [if_pos h1, Nat.max_eq_right (Nat.le_of_lt h1)] at ih
        exact ih
      · rw [if_pos (nI_le (by omega) (by omega))]
        rw [if_neg h1, Nat.max_eq_left (by omega)] at ih
        by_cases h2 : L i = 0
        · rw [h2, if_pos (show nI 0 ≤ 0 from Int32.le_refl _), nI_1]
          rw [if_neg (by omega)] at ih
          exact ih
        · rw [if_neg (nI_nle (by omega) (by omega))]
          by_cases h3 : L i = sMx L i
          · rw [if_pos (by rw [h3]), rdA_n (by omega) (by decide), bS, (ho i (by omega)).1]
            by_cases h4 : nI (o i) = sWho L o i
            · rw [if_pos h4, nI_1]
              rw [if_neg (fun z => z.2.2 h4)] at ih
              exact ih
            · rw [if_neg h4, nI_1]
              rw [if_pos ⟨by omega, h3, h4⟩] at ih
              exact ih
          · rw [if_neg (fun z => h3 ((nI_eq (by omega) (by omega)).mp z)), nI_1]
            rw [if_neg (fun z => h3 z.2.1)] at ih
            exact ih
    rw [fX3_holder_L9, h.2.1, if_neg (nI_ge (by omega) (by omega)), if_neg (show ¬ Int32.ofNat 7 ≤ nI i from nI_ge (b := 7) (by omega) (by decide))]
    by_cases hbit : bt S i = true
    · rw [if_pos ((nI_bit1 hS (by omega)).mpr hbit), e0, rdA_n (by omega) (by decide), bS, hs i (by omega)]
      rw [show L i = sL d hour i c by rw [← hL]; unfold lv_; rw [if_pos hbit]] at key
      exact key
    · rw [if_neg (fun z => hbit ((nI_bit1 hS (by omega)).mp z))]
      rw [show L i = 0 by rw [← hL]; unfold lv_; rw [if_neg hbit]] at key
      exact key
/-- whose a cell is, by a set of lit ones and a row of owners -/
def sW (d : VD) (o : Nat → Nat) (S hour c : Nat) : Int32 := sWho (lv_ S (fun k => sL d hour k c)) o (nn d)
theorem holder_ok {N a : Nat} (hN : 100 ≤ N) {w : Mm} {d : VD} {o : Nat → Nat} {hour c S : Nat} (h : LPc w d) (hv : VOK d) (hs : SPc w d hour c) (hc : c < 64) (hS : S < 2 ^ 31) (ho : ∀ k, k < nn d → w.1 a k = nI (o k) ∧ o k < 4) : fX3_holder N a 7 w (nI c) (nI S) = some (sW d o S hour c) :=
  holder_n h hv hs hc hS ho (nn d) N 0 (by omega) (by have := hv.2.1; omega)
/-- how many below n -/
def sCt (p : Nat → Bool) : Nat → Nat
  | 0 => 0
  | n + 1 => if p n = true then sCt p n + 1 else sCt p n
theorem sCt_le (p : Nat → Bool) (n : Nat) : sCt p n ≤ n := by
  induction n with
  | zero => exact Nat.le_refl _
  | succ n ih => simp only [sCt]; split <;> omega
theorem sCt_ext {p q : Nat → Bool} {n : Nat} (h : ∀ k, k < n → p k = q k) : sCt p n = sCt q n := by
  induction n with
  | zero => rfl
  | succ n ih => simp only [sCt]; rw [ih (fun k hk => h k (by omega)), h n (by omega)]
/-- acres -/
def sAc (d : VD) (o : Nat → Nat) (S hour : Nat) (x : Int32) : Nat := sCt (fun c => decide (sW d o S hour c = x)) 64
theorem acresOf_n {N a : Nat} (hN : 100 ≤ N) {w : Mm} {d : VD} {o : Nat → Nat} {hour S : Nat} {x : Int32} (h : LPc w d) (hv : VOK d) (hs : SP w d hour) (hS : S < 2 ^ 31) (ho : ∀ k, k < nn d → w.1 a k = nI (o k) ∧ o k < 4) : ∀ (r n0 i : Nat), i + r = 64 → r < n0 → fX3_acresOf_L6 N a 7 w n0 x (nI S) (nI (sCt (fun c => decide (sW d o S hour c = x)) i)) (nI i) = some (nI (sAc d o S hour x)) := by
  intro r
  induction r with
  | zero =>
    intro n0 i hi hn
    obtain ⟨n1, rfl⟩ : ∃ n1, n0 = n1 + 1 := ⟨n0 - 1, by omega⟩
    rw [fX3_acresOf_L6, if_pos (show (64 : Int32) ≤ nI i from nI_le (a := 64) (by omega) (by omega)), show i = 64 by omega]
    rfl
  | succ r ih =>
    intro n0 i hi hn
    obtain ⟨n1, rfl⟩ : ∃ n1, n0 = n1 + 1 := ⟨n0 - 1, by omega⟩
    have ih := ih n1 (i + 1) (by omega) (by omega)
    rw [fX3_acresOf_L6, if_neg (show ¬ (64 : Int32) ≤ nI i from nI_ge (b := 64) (by omega) (by decide)), holder_ok hN h hv (hs.at (by omega)) (by omega) hS ho, bS]
    simp only [sCt] at ih
    by_cases e : sW d o S hour i = x
    · rw [if_pos e, nI_1, nI_1]
      rw [if_pos (by simp [e])] at ih
      exact ih
    · rw [if_neg e, nI_1]
      rw [if_neg (by simp [e])] at ih
      exact ih
theorem acresOf_ok {N a : Nat} (hN : 100 ≤ N) {w : Mm} {d : VD} {o : Nat → Nat} {hour S : Nat} {x : Int32} (h : LPc w d) (hv : VOK d) (hs : SP w d hour) (hS : S < 2 ^ 31) (ho : ∀ k, k < nn d → w.1 a k = nI (o k) ∧ o k < 4) : fX3_acresOf N a 7 w x (nI S) = some (nI (sAc d o S hour x)) :=
  acresOf_n hN h hv hs hS ho 64 N 0 rfl (by omega)

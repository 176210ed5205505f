/-! ===== a thief's ways: one measure, two reckonings ===== -/
def bes (c y : Nat) : Nat := if y = 0 then (if c < 8 then 64 else c - 8) else if y = 1 then (if c % 8 = 0 then 64 else c - 1) else if y = 2 then (if 7 ≤ c % 8 then 64 else c + 1) else if 56 ≤ c then 64 else c + 8
theorem bes_n : ∀ c, c < 64 → ∀ y, y < 4 → fX9_beside (nI c) (nI y) = if bes c y < 64 then nI (bes c y) else -1 := by decide +kernel
theorem bes_nb : ∀ c, c < 64 → ∀ y, y < 4 → bes c y < 64 → sFar c (bes c y) = 1 := by decide +kernel
theorem nb_bes4 : ∀ c, c < 64 → ∀ e, e < 64 → sFar c e = 1 → bes c 0 = e ∨ bes c 1 = e ∨ bes c 2 = e ∨ bes c 3 = e := by decide +kernel
theorem nb_bes {c e : Nat} (hc : c < 64) (he : e < 64) (h : sFar c e = 1) : ∃ y, y < 4 ∧ bes c y = e := by
  rcases nb_bes4 c hc e he h with z | z | z | z
  · exact ⟨0, by decide, z⟩
  · exact ⟨1, by decide, z⟩
  · exact ⟨2, by decide, z⟩
  · exact ⟨3, by decide, z⟩
theorem bes_mono4 : ∀ c, c < 64 → ∀ y, y < 4 → ∀ z, z < 4 → (y < z ∧ bes c y < 64 ∧ bes c z < 64) → bes c y < bes c z := by decide +kernel
theorem bes_mono {c y z : Nat} (hc : c < 64) (hz : z < 4) (h : y < z) (h1 : bes c y < 64) (h2 : bes c z < 64) : bes c y < bes c z := bes_mono4 c hc y (by omega) z hz ⟨h, h1, h2⟩
theorem sFar_comm (a b : Nat) : sFar a b = sFar b a := by unfold sFar; omega
theorem sFar_self (a : Nat) : sFar a a = 0 := by unfold sFar; omega
def Gd (op : Nat → Bool) (to : Nat) (D : Nat → Nat) : Prop := (op to = true → D to = 0) ∧ (∀ c, c < 64 → D c ≤ 1000000 ∧ (D c < 1000000 → op c = true ∧ (c = to ∧ D c = 0 ∨ ∃ e, e < 64 ∧ sFar c e = 1 ∧ D e + 1 = D c))) ∧ ∀ c e, c < 64 → e < 64 → sFar c e = 1 → op c = true → D e < 1000000 → D c ≤ D e + 1
theorem Gd_half {op : Nat → Bool} {to : Nat} {D E : Nat → Nat} (h1 : Gd op to D) (h2 : Gd op to E) {k : Nat} (hk : k < 1000000) (ih : ∀ j, j < k → ∀ c, c < 64 → E c = j → D c = j) (ih2 : ∀ j, j < k → ∀ c, c < 64 → D c = j → E c = j) {c : Nat} (hc : c < 64) (h : D c = k) : E c = k := by
  obtain ⟨hle, hf⟩ := h1.2.1 c hc
  obtain ⟨ho, hw⟩ := hf (by omega)
  rcases hw with ⟨e1, e2⟩ | ⟨e, he, hn, hd⟩
  · rw [e1] at ho ⊢
    rw [h2.1 ho]
    omega
  · have h3 := ih2 (k - 1) (by omega) e he (by omega)
    have h4 := h2.2.2 c e hc he hn ho (by omega)
    by_cases h5 : E c = k
    · exact h5
    · have h6 := ih (E c) (by omega) c hc rfl
      omega
theorem Gd_uniq {op : Nat → Bool} {to : Nat} {D E : Nat → Nat} (h1 : Gd op to D) (h2 : Gd op to E) {c : Nat} (hc : c < 64) : D c = E c := by
  have P : ∀ k, k < 1000000 → ∀ c, c < 64 → (D c = k → E c = k) ∧ (E c = k → D c = k) := by
    intro k
    induction k using Nat.strongRecOn with
    | ind k ih =>
      intro hk c hc
      exact ⟨fun h => Gd_half h1 h2 hk (fun j hj c hc => (ih j hj (by omega) c hc).2) (fun j hj c hc => (ih j hj (by omega) c hc).1) hc h, fun h => Gd_half h2 h1 hk (fun j hj c hc => (ih j hj (by omega) c hc).1) (fun j hj c hc => (ih j hj (by omega) c hc).2) hc h⟩
  have a1 := (h1.2.1 c hc).1
  have a2 := (h2.2.1 c hc).1
  by_cases q : D c < 1000000
  · exact ((P (D c) q c hc).1 rfl).symm
  · by_cases q2 : E c < 1000000
    · exact (P (E c) q2 c hc).2 rfl
    · omega
/-! counts -/
theorem sCt_full {p : Nat → Bool} {k : Nat} (hp : p k = false) : ∀ {n : Nat}, k < n → sCt p n < n := by
  intro n
  induction n with
  | zero => intro h; omega
  | succ n ih =>
    intro h
    rw [sCt]
    by_cases e : k = n
    · rw [if_neg (by rw [← e, hp]; decide)]
      have := sCt_le p n
      omega
    · have := ih (by omega)
      split <;> omega
theorem sCt_flip {p q : Nat → Bool} {k : Nat} (hp : p k = false) (hq : q k = true) (h : ∀ j, j ≠ k → q j = p j) : ∀ {n : Nat}, k < n → sCt q n = sCt p n + 1 := by
  intro n
  induction n with
  | zero => intro h; omega
  | succ n ih =>
    intro hn
    rw [sCt, sCt]
    by_cases e : k = n
    · rw [← e, hp, hq, if_pos rfl, if_neg (by decide), sCt_ext (p := q) (q := p) (fun j hj => h j (by omega))]
    · rw [h n (fun z => e z.symm), ih (by omega)]
      split <;> omega
/-! the class's: a queue -/
def BI (op : Nat → Bool) (to : Nat) (D q : Nat → Nat) (a i : Nat) : Prop := (op to = true → D to = 0) ∧ a = sCt (fun c => decide (D c < 1000000)) 64 ∧ (∀ j, j < a → q j < 64 ∧ D (q j) ≤ j) ∧ (∀ c, c < 64 → D c ≤ 1000000 ∧ (D c < 1000000 → op c = true ∧ (∃ j, j < a ∧ q j = c) ∧ (c = to ∧ D c = 0 ∨ ∃ e, e < 64 ∧ sFar c e = 1 ∧ D e + 1 = D c))) ∧ (∀ j k, j < k → k < a → D (q j) ≤ D (q k)) ∧ (∀ j, j < i → ∀ c, c < 64 → sFar (q j) c = 1 → op c = true → D c ≤ D (q j) + 1)
/-- in the midst of the ways of the i-th -/
def BJ (op : Nat → Bool) (to : Nat) (D q : Nat → Nat) (a i y : Nat) : Prop := BI op to D q a i ∧ (∀ j, j < a → D (q j) ≤ D (q i) + 1) ∧ i < a ∧ ∀ z, z < y → bes (q i) z < 64 → op (bes (q i) z) = true → D (bes (q i) z) ≤ D (q i) + 1
theorem BI.le {op : Nat → Bool} {to : Nat} {D q : Nat → Nat} {a i : Nat} (h : BI op to D q a i) : a ≤ 64 := by
  rw [h.2.1]; exact sCt_le _ 64
theorem BI.end {op : Nat → Bool} {to : Nat} {D q : Nat → Nat} {a i : Nat} (h : BI op to D q a i) (hi : a ≤ i) : Gd op to D := by
  obtain ⟨h1, h2, h3, h4, h5, h6⟩ := h
  refine ⟨h1, fun c hc => ⟨(h4 c hc).1, fun z => ⟨((h4 c hc).2 z).1, ((h4 c hc).2 z).2.2⟩⟩, fun c e hc he hn ho hd => ?_⟩
  obtain ⟨j, j1, j2⟩ := ((h4 e he).2 hd).2.1
  have := h6 j (by omega) c hc (by rw [j2, sFar_comm]; exact hn) ho
  rw [j2] at this
  exact this
theorem BJ.skip {op : Nat → Bool} {to : Nat} {D q : Nat → Nat} {a i y : Nat} (h : BJ op to D q a i y) (hs : bes (q i) y < 64 → op (bes (q i) y) = true → D (bes (q i) y) < 1000000) : BJ op to D q a i (y + 1) := by
  obtain ⟨h1, h2, h3, h4⟩ := h
  refine ⟨h1, h2, h3, fun z hz hb ho => ?_⟩
  by_cases e : z = y
  · subst e
    obtain ⟨j, j1, j2⟩ := ((h1.2.2.2.1 _ hb).2 (hs hb ho)).2.1
    rw [← j2]
    exact h2 j j1
  · exact h4 z (by omega) hb ho
theorem BJ.new {op : Nat → Bool} {to : Nat} {D q : Nat → Nat} {a i y : Nat} (h : BJ op to D q a i y) (hy : y < 4) (hb : bes (q i) y < 64) (ho : op (bes (q i) y) = true) (hd : ¬ D (bes (q i) y) < 1000000) : BJ op to (uN D (bes (q i) y) (D (q i) + 1)) (uN q a (bes (q i) y)) (a + 1) i (y + 1) ∧ a < 64 := by
  obtain ⟨hI, h7, hia, h8⟩ := h
  have ha64 := hI.le
  obtain ⟨h1, h2, h3, h4, h5, h6⟩ := hI
  have hqi := h3 i hia
  have hnx := bes_nb (q i) hqi.1 y hy hb
  generalize hxe : bes (q i) y = x at *
  have hx := (h4 x hb).1
  have hax : a < 64 := by
    rw [h2]
    exact sCt_full (k := x) (decide_eq_false hd) hb
  have hqx : ∀ j, j < a → q j ≠ x := fun j hj e => by have := (h3 j hj).2; rw [e] at this; omega
  have eD_ : ∀ j, j < a → uN D x (D (q i) + 1) (q j) = D (q j) := fun j hj => uN_n (hqx j hj)
  have eq_ : ∀ j, j < a → uN q a x j = q j := fun j hj => uN_n (by omega)
  have eqa : uN q a x a = x := uN_s
  have eDx : uN D x (D (q i) + 1) x = D (q i) + 1 := uN_s
  have edc : ∀ c, c ≠ x → uN D x (D (q i) + 1) c = D c := fun c hc => uN_n hc
  refine ⟨⟨⟨?_, ?_, ?_, ?_, ?_, ?_⟩, ?_, by omega, ?_⟩, hax⟩
  · intro hto
    have h0 := h1 hto
    rw [edc to (fun z => by rw [z] at h0; omega)]
    exact h0
  · rw [h2]
    refine (sCt_flip (k := x) (decide_eq_false hd) ?_ (fun j hj => ?_) hb).symm
    · rw [eDx]; exact decide_eq_true (by omega)
    · rw [edc j hj]
  · intro j hj
    by_cases e : j = a
    · subst e
      rw [eqa, eDx]
      exact ⟨hb, by omega⟩
    · rw [eq_ j (by omega), eD_ j (by omega)]
      exact h3 j (by omega)
  · intro c hc
    by_cases e : c = x
    · subst e
      rw [eDx]
      refine ⟨by omega, fun _ => ⟨ho, ⟨a, by omega, eqa⟩, Or.inr ⟨q i, hqi.1, ?_, ?_⟩⟩⟩
      · rw [sFar_comm]; exact hnx
      · rw [eD_ i hia]
    · rw [edc c e]
      refine ⟨(h4 c hc).1, fun hlt => ?_⟩
      obtain ⟨p1, ⟨j, j1, j2⟩, p3⟩ := (h4 c hc).2 hlt
      refine ⟨p1, ⟨j, by omega, by rw [eq_ j j1]; exact j2⟩, ?_⟩
      rcases p3 with p3 | ⟨e2, g1, g2, g3⟩
      · exact Or.inl p3
      · refine Or.inr ⟨e2, g1, g2, ?_⟩
        rw [edc e2 (fun z => by rw [z] at g3; omega)]
        exact g3
  · intro j k hjk hk
    by_cases e : k = a
    · subst e
      rw [eqa, eDx, eq_ j (by omega), eD_ j (by omega)]
      exact h7 j (by omega)
    · rw [eq_ j (by omega), eD_ j (by omega), eq_ k (by omega), eD_ k (by omega)]
      exact h5 j k hjk (by omega)
  · intro j hj c hc hn hoc
    rw [eq_ j (by omega)] at hn
    rw [eq_ j (by omega), eD_ j (by omega)]
    have h9 := h6 j hj c hc hn hoc
    have h10 := (h3 j (by omega)).2
    rw [edc c (fun z => by rw [z] at h9; omega)]
    exact h9
  · intro j hj
    rw [eq_ i hia, eD_ i hia]
    by_cases e : j = a
    · subst e
      rw [eqa, eDx]
      exact Nat.le_refl _
    · rw [eq_ j (by omega), eD_ j (by omega)]
      exact h7 j (by omega)
  · intro z hz hbz hoz
    rw [eq_ i hia] at hbz hoz ⊢
    rw [eD_ i hia]
    by_cases e : bes (q i) z = x
    · rw [e, eDx]
      exact Nat.le_refl _
    · rw [edc _ e]
      by_cases e2 : z = y
      · subst e2
        exact absurd hxe e
      · exact h8 z (by omega) hbz hoz
theorem BJ.done {op : Nat → Bool} {to : Nat} {D q : Nat → Nat} {a i : Nat} (h : BJ op to D q a i 4) : BI op to D q a (i + 1) ∧ (i + 1 < a → ∀ j, j < a → D (q j) ≤ D (q (i + 1)) + 1) := by
  obtain ⟨⟨h1, h2, h3, h4, h5, h6⟩, h7, hia, h8⟩ := h
  refine ⟨⟨h1, h2, h3, h4, h5, fun j hj c hc hn ho => ?_⟩, fun hlt j hj => ?_⟩
  · by_cases e : j = i
    · subst e
      obtain ⟨y, y1, y2⟩ := nb_bes (h3 j hia).1 hc hn
      subst y2
      exact h8 y y1 hc ho
    · exact h6 j (by omega) c hc hn ho
  · have a1 := h7 j hj
    have a2 := h5 i (i + 1) (by omega) hlt
    omega
/-! the reference's: shorter and shorter -/
def MR (op : Nat → Bool) (to : Nat) (D : Nat → Nat) : Prop := (op to = true → D to = 0) ∧ ∀ c, c < 64 → D c ≤ 1000000 ∧ (D c < 1000000 → op c = true ∧ (c = to ∧ D c = 0 ∨ ∃ e, e < 64 ∧ sFar c e = 1 ∧ D e + 1 ≤ D c))
theorem MR.up {op : Nat → Bool} {to : Nat} {D : Nat → Nat} (h : MR op to D) {c e : Nat} (hc : c < 64) (he : e < 64) (hn : sFar c e = 1) (ho : op c = true) (hd : D e + 1 < D c) : MR op to (uN D c (D e + 1)) := by
  have hce : e ≠ c := fun z => by rw [z, sFar_self] at hn; omega
  refine ⟨fun hto => ?_, fun x hx => ?_⟩
  · have h0 := h.1 hto
    rw [uN_n (fun z => by rw [z] at h0; omega)]
    exact h0
  · by_cases ex : x = c
    · subst ex
      rw [uN_s]
      have := (h.2 x hc).1
      exact ⟨by omega, fun _ => ⟨ho, Or.inr ⟨e, he, hn, by rw [uN_n hce]; exact Nat.le_refl _⟩⟩⟩
    · rw [uN_n ex]
      refine ⟨(h.2 x hx).1, fun hlt => ?_⟩
      obtain ⟨p1, p2⟩ := (h.2 x hx).2 hlt
      refine ⟨p1, ?_⟩
      rcases p2 with p2 | ⟨e2, g1, g2, g3⟩
      · exact Or.inl p2
      · refine Or.inr ⟨e2, g1, g2, ?_⟩
        by_cases e3 : e2 = c
        · rw [e3, uN_s]; rw [e3] at g3; omega
        · rw [uN_n e3]; exact g3
theorem MR.gd {op : Nat → Bool} {to : Nat} {D : Nat → Nat} (h : MR op to D) (hr : ∀ c, c < 64 → op c = true → ∀ e, e < 64 → sFar c e = 1 → D c ≤ D e + 1) : Gd op to D := by
  refine ⟨h.1, fun c hc => ⟨(h.2 c hc).1, fun hlt => ?_⟩, fun c e hc he hn ho _ => hr c hc ho e he hn⟩
  obtain ⟨p1, p2⟩ := (h.2 c hc).2 hlt
  refine ⟨p1, ?_⟩
  rcases p2 with p2 | ⟨e, g1, g2, g3⟩
  · exact Or.inl p2
  · refine Or.inr ⟨e, g1, g2, ?_⟩
    have := hr c hc p1 e g1 g2
    omega
theorem wSum_up {W : Nat → Nat} {k v : Nat} (hv : v < W k) : ∀ {n : Nat}, k < n → wSum (uN W k v) n < wSum W n := by
  intro n
  induction n with
  | zero => intro h; omega
  | succ n ih =>
    intro h
    rw [wSum, wSum]
    by_cases e : k = n
    · subst e
      rw [uN_s, wSum_ext (W := uN W k v) (U := W) (fun j hj => uN_n (by omega))]
      omega
    · have := ih (by omega)
      rw [uN_n (fun z => e z.symm)]
      omega
theorem wSum_bd {W : Nat → Nat} {B : Nat} : ∀ {n : Nat}, (∀ k, k < n → W k ≤ B) → wSum W n ≤ n * B := by
  intro n
  induction n with
  | zero => intro _; exact Nat.zero_le _
  | succ n ih =>
    intro h
    have h1 := ih (fun k hk => h k (by omega))
    have h2 := h n (by omega)
    rw [wSum, Nat.add_mul, Nat.one_mul]
    omega

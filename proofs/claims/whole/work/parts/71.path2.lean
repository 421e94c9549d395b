/-! a path: what holds of what was read -/
def QI (Q : aQ) : Prop := (PI Q.1 ∧ ∀ i, i < pN Q.1 → okN (Q.2.1 i) ∧ ∀ j, j < i → Q.2.1 j ≠ Q.2.1 i) ∧ (Q.2.2.1 1 = false → pW Q.1 = 0) ∧ (Q.2.2.1 4 = false → pDr Q.1 = none) ∧ (Q.2.2.1 5 = false → pTk Q.1 = none) ∧ ∀ k, k < 8 → Q.2.2.2 k = false → pT Q.1 4 k = 0
/-- as QI, while what stands behind the word w is being read -/
def QJ (w : Nat) (Q : aQ) : Prop := ((PI Q.1 ∧ (w = 8 → pN Q.1 < 6) ∧ ∀ i, i < pN Q.1 → okN (Q.2.1 i) ∧ ∀ j, j < i → Q.2.1 j ≠ Q.2.1 i) ∧ (Q.2.2.1 1 = false ∨ w = 3 → pW Q.1 = 0) ∧ (Q.2.2.1 4 = false ∨ w = 6 → pDr Q.1 = none) ∧ (Q.2.2.1 5 = false ∨ w = 7 → pTk Q.1 = none) ∧ ∀ k, k < 8 → Q.2.2.2 k = false → pT Q.1 4 k = 0) ∧ (w = 3 → Q.2.2.1 1 = true) ∧ (w = 6 → Q.2.2.1 4 = true) ∧ (w = 7 → Q.2.2.1 5 = true)
section QS
variable {tp : List Nat} {N n : Nat} {Q : aQ}
theorem QJ.i {w : Nat} (h : QJ w Q) : QI Q := ⟨⟨h.1.1.1, h.1.1.2.2⟩, fun e => h.1.2.1 (Or.inl e), fun e => h.1.2.2.1 (Or.inl e), fun e => h.1.2.2.2.1 (Or.inl e), h.1.2.2.2.2⟩
theorem xNum_i {a b : Nat} (hN : nT tp N) (hn : n ≤ N) : eE (xNum tp n a b) (fun k m => (1 ≤ k ∧ k ≤ 5) ∧ m ≤ N) (fun v m => (m = n + 1 ∧ m ≤ N) ∧ a ≤ v ∧ v ≤ b) := by
  unfold xNum
  refine eE_i (fun h => ?_) (fun h => ⟨nW_k h, hn⟩)
  obtain ⟨h1, h2, h3⟩ := nW_0 h
  exact ⟨⟨rfl, qN.s hN hn h1⟩, h2, h3⟩
theorem xWrd_i {q : Nat} (hN : nT tp N) (hn : n ≤ N) : eE (xWrd tp n q) (fun k m => (1 ≤ k ∧ k ≤ 5) ∧ m ≤ N) (fun _ m => m = n + 1 ∧ m ≤ N) := by
  unfold xWrd
  exact eE_i (fun h => ⟨rfl, qW.s hN hn h⟩) (fun h => ⟨⟨by simp, by simp⟩, hn⟩)
theorem xSem_i (hN : nT tp N) (hn : n ≤ N) : eE (xSem tp n) (fun k m => (1 ≤ k ∧ k ≤ 5) ∧ m ≤ N) (fun _ m => m = n + 1 ∧ m ≤ N) := by
  unfold xSem
  exact eE_i (fun h => ⟨rfl, qS.s hN hn h⟩) (fun h => ⟨⟨by simp, by simp⟩, hn⟩)
theorem wO_s (hN : nT tp N) (hn : n ≤ N) (h : 1 ≤ wO tp n) : n + 1 ≤ N := by
  refine hN.s hn (fun e => ?_)
  unfold wO at h
  rw [e] at h
  simp at h
theorem xKnd_i (hN : nT tp N) (hn : n ≤ N) : eE (xKnd tp n) (fun k m => (1 ≤ k ∧ k ≤ 5) ∧ m ≤ N) (fun v m => (m = n + 1 ∧ m ≤ N) ∧ v ≤ 3) := by
  unfold xKnd
  exact eE_i (fun h => ⟨⟨rfl, wO_s hN hn (by omega)⟩, by show wO tp n - 20 ≤ 3; omega⟩) (fun h => ⟨⟨by simp, by simp⟩, hn⟩)
theorem nmO_0 {nm : Nat → List Nat} {l : List Nat} : ∀ (k j : Nat), nmO nm l k j = none → ∀ a, j ≤ a → a < j + k → nm a ≠ l
  | 0, j, _, a, h1, h2 => by omega
  | k + 1, j, h, a, h1, h2 => by
    intro e
    obtain ⟨i, hi1, hi2, hi3⟩ : ∃ i, j ≤ i ∧ i ≤ a ∧ nm i = l ∧ ∀ b, j ≤ b → b < i → nm b ≠ l := by
      have : ∀ d a, a - j = d → j ≤ a → nm a = l → ∃ i, j ≤ i ∧ i ≤ a ∧ nm i = l ∧ ∀ b, j ≤ b → b < i → nm b ≠ l := by
        intro d
        induction d using Nat.strongRecOn with
        | _ d ih =>
          intro a hd ha e
          by_cases c : ∃ b, j ≤ b ∧ b < a ∧ nm b = l
          · obtain ⟨b, b1, b2, b3⟩ := c
            obtain ⟨i, i1, i2, i3⟩ := ih (b - j) (by omega) b rfl b1 b3
            exact ⟨i, i1, by omega, i3⟩
          · exact ⟨a, ha, Nat.le_refl _, e, fun b b1 b2 e => c ⟨b, b1, b2, e⟩⟩
      exact this _ a rfl h1 e
    rw [nmO_s (k + 1) j i hi1 (by omega) hi3.1 hi3.2] at h
    exact absurd h (by simp)
theorem xNam_i (hN : nT tp N) (hn : n ≤ N) : eE (xNam tp Q n) (fun k m => (1 ≤ k ∧ k ≤ 5) ∧ m ≤ N) (fun l m => (m = n + 1 ∧ m ≤ N) ∧ okN l ∧ ∀ j, j < pN Q.1 → Q.2.1 j ≠ l) := by
  unfold xNam
  refine eE_i (fun h => ?_) (fun h => ⟨⟨by simp, by simp⟩, hn⟩)
  refine eE_i (fun h2 => ?_) (fun h => ⟨⟨by simp, by simp⟩, hn⟩)
  have h1 : (tk tp n).1 = 1 := by unfold qA at h; simp at h; exact h.1
  exact ⟨⟨rfl, qA.s hN hn h⟩, tk_1 h1, fun j hj => nmO_0 _ 0 h2 j (by omega) (by omega)⟩
theorem tS_ne {T : Nat → Nat → Nat} {a i v x y : Nat} (h : ¬ (x = a ∧ y = i)) : tS T a i v x y = T x y := if_neg h
theorem tS_eq {T : Nat → Nat → Nat} {a i v : Nat} : tS T a i v a i = v := if_pos ⟨rfl, rfl⟩
theorem tS_le {T : Nat → Nat → Nat} {a i v x y b : Nat} (h : T x y ≤ b) (hv : x = a → y = i → v ≤ b) : tS T a i v x y ≤ b := by
  unfold tS
  split
  · rename_i h; exact hv h.1 h.2
  · exact h
theorem xWn_i (hN : nT tp N) : ∀ (φ k : Nat) (T : Nat → Nat → Nat) (n : Nat), n ≤ N → k ≤ 12 → 13 ≤ φ + k → (∀ i, i < k → T 5 i ≤ 2) → eE (xWn tp φ k T n) (fun k m => (1 ≤ k ∧ k ≤ 5) ∧ m ≤ N) (fun x m => (n ≤ m ∧ m ≤ N) ∧ x.1 ≤ 12 ∧ k ≤ x.1 ∧ (∀ i, i < x.1 → x.2 5 i ≤ 2) ∧ ∀ a i, a ≠ 5 → x.2 a i = T a i)
  | 0, k, T, n, hn, hk, hf, _ => by omega
  | φ + 1, k, T, n, hn, hk, hf, hT => by
    unfold xWn
    refine eE_i (fun h => ?_) (fun h => ⟨⟨Nat.le_refl _, hn⟩, hk, Nat.le_refl _, hT, fun _ _ _ => rfl⟩)
    refine eE_b (xNum_i hN hn) (fun _ _ h => h) (fun v m _ ⟨⟨h1, h2⟩, h3, h4⟩ => ?_)
    refine eE_i (fun h => ⟨⟨by simp, by simp⟩, hn⟩) (fun h => ?_)
    refine eE_m (xWn_i hN φ (k + 1) (tS T 5 k v) m h2 (by omega) (by omega) (fun i hi => ?_)) (fun _ _ h => h) (fun x m2 hx => ⟨⟨by omega, hx.1.2⟩, hx.2.1, by omega, hx.2.2.2.1, fun a i ha => ?_⟩)
    · by_cases e : i = k
      · rw [e, tS_eq]; exact h4
      · rw [tS_ne (by omega)]; exact hT i (by omega)
    · rw [hx.2.2.2.2 a i ha, tS_ne (by omega)]
theorem xWn_1 : ∀ (φ k : Nat) (T : Nat → Nat → Nat) (n : Nat), eE (xWn tp (φ + 1) k T n) (fun _ _ => True) (fun x _ => 1 ≤ x.1) := by
  have h0 : ∀ (φ k : Nat) (T : Nat → Nat → Nat) (n : Nat), 1 ≤ k → eE (xWn tp φ k T n) (fun _ _ => True) (fun x _ => 1 ≤ x.1) := by
    intro φ
    induction φ with
    | zero => intro k T n _; exact True.intro
    | succ φ ih =>
      intro k T n hk
      unfold xWn
      refine eE_i (fun h => ?_) (fun h => hk)
      refine eE_b (E := fun _ _ => True) (K := fun _ _ => True) (by rcases xNum tp n 0 2 with e | x <;> exact True.intro) (fun _ _ h => h) (fun v m _ _ => ?_)
      exact eE_i (fun h => True.intro) (fun h => ih _ _ _ (by omega))
  intro φ k T n
  unfold xWn
  refine eE_i (fun h => ?_) (fun h => ?_)
  · refine eE_b (E := fun _ _ => True) (K := fun _ _ => True) (by rcases xNum tp n 0 2 with e | x <;> exact True.intro) (fun _ _ h => h) (fun v m _ _ => ?_)
    exact eE_i (fun h => True.intro) (fun h => h0 _ _ _ _ (by omega))
  · show 1 ≤ k
    omega
theorem xLaw_i (hN : nT tp N) (hn : n ≤ N) : eE (xLaw tp n) (fun k m => (1 ≤ k ∧ k ≤ 5) ∧ m ≤ N) (fun c m => (n + c.length ≤ m ∧ m ≤ N) ∧ LWF (some c)) := by
  have h1 := pL_e hN 9000 0 n 0 (Or.inl (by omega)) hn (by have : lrk 0 = 5 := rfl; omega)
  have h2 := pL_len hN 9000 0 n 0 (Or.inl (by omega)) hn
  have h3 := pL_cok (tp := tp) 9000 0 n 0 (Or.inl (by omega))
  have key : pE (pL tp 9000 0 n 0) (fun k m => (1 ≤ k ∧ k ≤ 5) ∧ m ≤ N) (fun c m => (n + c.length ≤ m ∧ m ≤ N) ∧ LWF (some c)) := by
    refine pE_m (pE_2 h1 (pE_2 h2 h3)) (fun k m h => ⟨h.1, h.2.1.2⟩) (fun c m h => ?_)
    obtain ⟨_, ⟨b1, b2, b3⟩, b4⟩ := h
    refine ⟨⟨b1, b2⟩, fun cs e => ?_⟩
    cases e
    refine ⟨?_, by have := hN.1; omega, by have := b3 (by omega); omega⟩
    have hs : stk 0 0 ≤ 32 := by decide
    have := b4 0 [] (by rw [if_pos (by omega)]; omega) (fun h => by omega) (by show 1 ≤ _; decide)
    rw [List.append_nil] at this
    exact this
  unfold xLaw
  rcases hr : pL tp 9000 0 n 0 with e | x
  · rw [hr] at key; exact key
  · rw [hr] at key; exact key
theorem QI.y {v : Nat} (h : QI Q) (h1 : 2 ≤ v) (h2 : v ≤ 8) : QI (yQ Q v) := ⟨⟨⟨⟨h1, h2, h.1.1.1.2.2⟩, h.1.1.2⟩, h.1.2⟩, h.2⟩
theorem QI.c {v : Nat} (h : QI Q) (h2 : v ≤ 99) : QI (cQ Q v) := ⟨⟨⟨⟨h.1.1.1.1, h.1.1.1.2.1, h.1.1.1.2.2.1, h.1.1.1.2.2.2.1, h2, h.1.1.1.2.2.2.2.2⟩, h.1.1.2⟩, h.1.2⟩, h.2⟩
theorem QI.f {v : Nat} (h : QI Q) (h2 : v ≤ 9) : QI (fQ Q v) := ⟨⟨⟨⟨h.1.1.1.1, h.1.1.1.2.1, h.1.1.1.2.2.1, h.1.1.1.2.2.2.1, h.1.1.1.2.2.2.2.1, h2⟩, h.1.1.2⟩, h.1.2⟩, h.2⟩
theorem QI.bin {y v : Nat} (h : QI Q) (hv : v ≤ 30) : QI (tQ Q 3 y v) := by
  obtain ⟨⟨⟨a1, a2, a3, a4, a5⟩, a6⟩, b1, b2, b3, b4⟩ := h
  have s : ∀ {x k b : Nat}, pT Q.1 x k ≤ b → (x = 3 → k = y → v ≤ b) → tS (pT Q.1) 3 y v x k ≤ b := fun h h2 => tS_le h h2
  refine ⟨⟨⟨a1, fun i hi => ⟨s (a2 i hi).1 (by omega), s (a2 i hi).2.1 (by omega), s (a2 i hi).2.2 (by omega)⟩, fun k hk => ⟨s (a3 k hk).1 (fun _ _ => hv), s (a3 k hk).2 (by omega)⟩, fun k hk => s (a4 k hk) (by omega), a5⟩, a6⟩, b1, b2, b3, fun k hk hh => ?_⟩
  show tS (pT Q.1) 3 y v 4 k = 0
  rw [tS_ne (by omega)]; exact b4 k hk hh
theorem QI.hea {y v : Nat} (h : QI Q) (hv : v ≤ 99) : QI (hQ Q y v) := by
  obtain ⟨⟨⟨a1, a2, a3, a4, a5⟩, a6⟩, b1, b2, b3, b4⟩ := h
  have s : ∀ {x k b : Nat}, pT Q.1 x k ≤ b → (x = 4 → k = y → v ≤ b) → tS (pT Q.1) 4 y v x k ≤ b := fun h h2 => tS_le h h2
  refine ⟨⟨⟨a1, fun i hi => ⟨s (a2 i hi).1 (by omega), s (a2 i hi).2.1 (by omega), s (a2 i hi).2.2 (by omega)⟩, fun k hk => ⟨s (a3 k hk).1 (by omega), s (a3 k hk).2 (fun _ _ => hv)⟩, fun k hk => s (a4 k hk) (by omega), a5⟩, a6⟩, b1, b2, b3, fun k hk hh => ?_⟩
  have hh' : up1 Q.2.2.2 y true k = false := hh
  rw [up1_at] at hh'
  show tS (pT Q.1) 4 y v 4 k = 0
  by_cases e : k = y
  · rw [if_pos e] at hh'; exact absurd hh' (by simp)
  · rw [if_neg e] at hh'; rw [tS_ne (by omega)]; exact b4 k hk hh'
theorem nQ_T {l : List Nat} {k c b x y : Nat} (h : 3 ≤ x) : pT (nQ Q l k c b).1 x y = pT Q.1 x y := by
  show tS (tS (tS (pT Q.1) 0 (pN Q.1) k) 1 (pN Q.1) c) 2 (pN Q.1) b x y = pT Q.1 x y
  rw [tS_ne (by omega), tS_ne (by omega), tS_ne (by omega)]
theorem QI.per {l : List Nat} {k c b : Nat} (h : QI Q) (h6 : pN Q.1 < 6) (hl : okN l) (hd : ∀ j, j < pN Q.1 → Q.2.1 j ≠ l) (hk : k ≤ 3) (hc : c ≤ 9) (hb : b ≤ 9) : QI (nQ Q l k c b) := by
  obtain ⟨⟨⟨a1, a2, a3, a4, a5⟩, a6⟩, b1, b2, b3, b4⟩ := h
  refine ⟨⟨⟨⟨a1.1, a1.2.1, by show pN Q.1 + 1 ≤ 6; omega, a1.2.2.2⟩, fun i hi => ?_, fun k hk => ⟨?_, ?_⟩, fun k hk => ?_, a5⟩, fun i hi => ?_⟩, b1, b2, b3, fun k hk hh => ?_⟩
  · have hi' : i < pN Q.1 + 1 := hi
    show tS (tS (tS (pT Q.1) 0 (pN Q.1) k) 1 (pN Q.1) c) 2 (pN Q.1) b 0 i ≤ 3 ∧ tS (tS (tS (pT Q.1) 0 (pN Q.1) k) 1 (pN Q.1) c) 2 (pN Q.1) b 1 i ≤ 9 ∧ tS (tS (tS (pT Q.1) 0 (pN Q.1) k) 1 (pN Q.1) c) 2 (pN Q.1) b 2 i ≤ 9
    rw [tS_ne (by omega), tS_ne (by omega), tS_ne (a := 2) (x := 1) (by omega)]
    by_cases e : i = pN Q.1
    · rw [e, tS_eq, tS_eq, tS_eq]; exact ⟨hk, hc, hb⟩
    · rw [tS_ne (by omega), tS_ne (by omega), tS_ne (by omega), tS_ne (by omega), tS_ne (by omega), tS_ne (by omega)]; exact a2 i (by omega)
  · rw [nQ_T (by omega)]; exact (a3 _ hk).1
  · rw [nQ_T (by omega)]; exact (a3 _ hk).2
  · rw [nQ_T (by omega)]; exact a4 _ hk
  · have hi' : i < pN Q.1 + 1 := hi
    show okN (up1 Q.2.1 (pN Q.1) l i) ∧ ∀ j, j < i → up1 Q.2.1 (pN Q.1) l j ≠ up1 Q.2.1 (pN Q.1) l i
    rw [up1_at]
    by_cases e : i = pN Q.1
    · rw [if_pos e]
      refine ⟨hl, fun j hj => ?_⟩
      rw [up1_at, if_neg (by omega)]; exact hd j (by omega)
    · rw [if_neg e]
      refine ⟨(a6 i (by omega)).1, fun j hj => ?_⟩
      rw [up1_at, if_neg (by omega)]; exact (a6 i (by omega)).2 j hj
  · rw [nQ_T (by omega)]; exact b4 _ hk hh
theorem xBe_i {w : Nat} (hN : nT tp N) (hn : n ≤ N) (hw : (2 ≤ w ∧ w ≤ 7) ∨ w = 8 ∨ w = 11 ∨ w = 13) (h : QJ w Q) : eE (xBe tp Q w n) (fun k m => (1 ≤ k ∧ k ≤ 5) ∧ m ≤ N) (fun Q2 m => (n ≤ m ∧ m ≤ N) ∧ QI Q2) := by
  have hI := h.i
  unfold xBe
  refine eE_i (fun c => ?_) (fun c2 => ?_)
  · exact eE_b (xNum_i hN hn) (fun _ _ h => h) (fun v m _ ⟨⟨h1, h2⟩, h3, h4⟩ => ⟨⟨by omega, h2⟩, hI.y h3 h4⟩)
  refine eE_i (fun c => ?_) (fun c8 => ?_)
  · unfold xPer
    refine eE_b (xNam_i hN hn) (fun _ _ h => h) (fun l m _ ⟨⟨h1, h2⟩, h3, h4⟩ => ?_)
    refine eE_b (xKnd_i hN h2) (fun _ _ h => h) (fun k m1 _ ⟨⟨h5, h6⟩, h7⟩ => ?_)
    refine eE_b (xWrd_i hN h6) (fun _ _ h => h) (fun _ m2 _ ⟨h8, h9⟩ => ?_)
    refine eE_b (xNum_i hN h9) (fun _ _ h => h) (fun c' m3 _ ⟨⟨h10, h11⟩, h12, h13⟩ => ?_)
    refine eE_b (xWrd_i hN h11) (fun _ _ h => h) (fun _ m4 _ ⟨h14, h15⟩ => ?_)
    refine eE_b (xNum_i hN h15) (fun _ _ h => h) (fun b m5 _ ⟨⟨h16, h17⟩, h18, h19⟩ => ?_)
    exact ⟨⟨by omega, h17⟩, hI.per (h.1.1.2.1 c) h3 h4 h7 h13 h19⟩
  refine eE_i (fun c => ?_) (fun c11 => ?_)
  · unfold xBin
    refine eE_b (xNum_i hN hn) (fun _ _ h => h) (fun y m _ ⟨⟨h1, h2⟩, h3, h4⟩ => ?_)
    refine eE_i (fun c => ⟨⟨by simp, by simp⟩, hn⟩) (fun _ => ?_)
    refine eE_b (xWrd_i hN h2) (fun _ _ h => h) (fun _ m2 _ ⟨h8, h9⟩ => ?_)
    exact eE_b (xNum_i hN h9) (fun _ _ h => h) (fun v m3 _ ⟨⟨h10, h11⟩, h12, h13⟩ => ⟨⟨by omega, h11⟩, hI.bin h13⟩)
  refine eE_i (fun c => ?_) (fun c13 => ?_)
  · unfold xHea
    refine eE_b (xNum_i hN hn) (fun _ _ h => h) (fun y m _ ⟨⟨h1, h2⟩, h3, h4⟩ => ?_)
    refine eE_i (fun c => ⟨⟨by simp, by simp⟩, hn⟩) (fun _ => ?_)
    exact eE_b (xNum_i hN h2) (fun _ _ h => h) (fun v m3 _ ⟨⟨h10, h11⟩, h12, h13⟩ => ⟨⟨by omega, h11⟩, hI.hea h13⟩)
  refine eE_i (fun c => ?_) (fun c3 => ?_)
  · refine eE_b (xWn_i hN 13 0 (pT Q.1) n hn (by omega) (by omega) (fun i hi => by omega)) (fun _ _ h => h) (fun x m _ ⟨h1, h2, h3, h4, h5⟩ => ⟨h1, ?_⟩)
    obtain ⟨⟨⟨a1, a2, a3, a4, a5⟩, a6⟩, b1, b2, b3, b4⟩ := hI
    refine ⟨⟨⟨⟨a1.1, a1.2.1, a1.2.2.1, h2, a1.2.2.2.2⟩, fun i hi => ?_, fun k hk => ?_, h4, a5⟩, a6⟩, fun e => ?_, b2, b3, fun k hk hh => ?_⟩
    · show x.2 0 i ≤ 3 ∧ x.2 1 i ≤ 9 ∧ x.2 2 i ≤ 9
      rw [h5 _ _ (by omega), h5 _ _ (by omega), h5 _ _ (by omega)]; exact a2 i hi
    · show x.2 3 k ≤ 30 ∧ x.2 4 k ≤ 99
      rw [h5 _ _ (by omega), h5 _ _ (by omega)]; exact a3 k hk
    · have := h.2.1 c
      have e' : Q.2.2.1 1 = false := e
      rw [this] at e'; exact absurd e' (by simp)
    · show x.2 4 k = 0
      rw [h5 _ _ (by omega)]; exact b4 k hk hh
  refine eE_i (fun c => ?_) (fun c4 => ?_)
  · exact eE_b (xNum_i hN hn) (fun _ _ h => h) (fun v m _ ⟨⟨h1, h2⟩, h3, h4⟩ => ⟨⟨by omega, h2⟩, hI.c h4⟩)
  refine eE_i (fun c => ?_) (fun c5 => ?_)
  · exact eE_b (xNum_i hN hn) (fun _ _ h => h) (fun v m _ ⟨⟨h1, h2⟩, h3, h4⟩ => ⟨⟨by omega, h2⟩, hI.f h4⟩)
  obtain ⟨⟨⟨a1, a2, a3, a4, a5, a7⟩, a6⟩, b1, b2, b3, b4⟩ := hI
  refine eE_i (fun c => ?_) (fun c6 => ?_)
  · refine eE_b (xLaw_i hN hn) (fun _ _ h => h) (fun cs m _ ⟨h1, h2⟩ => ⟨⟨by omega, h1.2⟩, ⟨⟨a1, a2, a3, a4, h2, a7⟩, a6⟩, b1, fun e => ?_, b3, b4⟩)
    have := h.2.2.1 c
    have e' : Q.2.2.1 4 = false := e
    rw [this] at e'; exact absurd e' (by simp)
  · refine eE_b (xLaw_i hN hn) (fun _ _ h => h) (fun cs m _ ⟨h1, h2⟩ => ⟨⟨by omega, h1.2⟩, ⟨⟨a1, a2, a3, a4, a5, h2⟩, a6⟩, b1, b2, fun e => ?_, b4⟩)
    have := h.2.2.2 (by omega)
    have e' : Q.2.2.1 5 = false := e
    rw [this] at e'; exact absurd e' (by simp)
theorem xHd_i (hN : nT tp N) (hn : n ≤ N) (h : QI Q) : eE (xHd tp Q n) (fun k m => (1 ≤ k ∧ k ≤ 5) ∧ m ≤ N) (fun Q2 m => (m = n + 1 ∧ m ≤ N) ∧ QJ (wO tp n) Q2 ∧ ((2 ≤ wO tp n ∧ wO tp n ≤ 7) ∨ wO tp n = 8 ∨ wO tp n = 11 ∨ wO tp n = 13)) := by
  obtain ⟨⟨a, a6⟩, b1, b2, b3, b4⟩ := h
  unfold xHd
  refine eE_i (fun c => ?_) (fun c => ?_)
  · refine eE_i (fun c2 => ⟨⟨by simp, by simp⟩, hn⟩) (fun c2 => ?_)
    have c3 : Q.2.2.1 (wO tp n - 2) = false := by simpa using c2
    refine ⟨⟨rfl, wO_s hN hn (by omega)⟩, ⟨⟨⟨a, fun e => by omega, a6⟩, fun e => ?_, fun e => ?_, fun e => ?_, b4⟩, fun e => ?_, fun e => ?_, fun e => ?_⟩, Or.inl c⟩
    · refine b1 ?_
      rcases e with e | e
      · have e' : up1 Q.2.2.1 (wO tp n - 2) true 1 = false := e
        rw [up1_at] at e'
        by_cases d : 1 = wO tp n - 2
        · rw [if_pos d] at e'; exact absurd e' (by simp)
        · rw [if_neg d] at e'; exact e'
      · rw [e] at c3; exact c3
    · refine b2 ?_
      rcases e with e | e
      · have e' : up1 Q.2.2.1 (wO tp n - 2) true 4 = false := e
        rw [up1_at] at e'
        by_cases d : 4 = wO tp n - 2
        · rw [if_pos d] at e'; exact absurd e' (by simp)
        · rw [if_neg d] at e'; exact e'
      · rw [e] at c3; exact c3
    · refine b3 ?_
      rcases e with e | e
      · have e' : up1 Q.2.2.1 (wO tp n - 2) true 5 = false := e
        rw [up1_at] at e'
        by_cases d : 5 = wO tp n - 2
        · rw [if_pos d] at e'; exact absurd e' (by simp)
        · rw [if_neg d] at e'; exact e'
      · rw [e] at c3; exact c3
    · show up1 Q.2.2.1 (wO tp n - 2) true 1 = true
      rw [e]; rfl
    · show up1 Q.2.2.1 (wO tp n - 2) true 4 = true
      rw [e]; rfl
    · show up1 Q.2.2.1 (wO tp n - 2) true 5 = true
      rw [e]; rfl
  have mk : ∀ w, w = 8 ∨ w = 11 ∨ w = 13 → (w = 8 → pN Q.1 < 6) → QJ w Q := fun w hw h6 => ⟨⟨⟨a, h6, a6⟩, fun e => b1 (e.resolve_right (by omega)), fun e => b2 (e.resolve_right (by omega)), fun e => b3 (e.resolve_right (by omega)), b4⟩, by omega, by omega, by omega⟩
  refine eE_i (fun c => ?_) (fun c => ?_)
  · exact eE_i (fun c2 => ⟨⟨by simp, by simp⟩, hn⟩) (fun c2 => ⟨⟨rfl, wO_s hN hn (by omega)⟩, mk _ (Or.inl c) (fun _ => by omega), Or.inr (Or.inl c)⟩)
  · exact eE_i (fun c2 => ⟨⟨rfl, wO_s hN hn (by omega)⟩, mk _ (Or.inr c2) (fun _ => by omega), Or.inr (Or.inr c2)⟩) (fun c2 => ⟨⟨by simp, by simp⟩, hn⟩)
theorem xLn_i (hN : nT tp N) (hn : n ≤ N) (h : QI Q) : eE (xLn tp Q n) (fun k m => (1 ≤ k ∧ k ≤ 5) ∧ m ≤ N) (fun Q2 m => (n + 2 ≤ m ∧ m ≤ N) ∧ QI Q2) := by
  unfold xLn
  refine eE_b (xHd_i hN hn h) (fun _ _ h => h) (fun Q1 m _ ⟨⟨h1, h2⟩, h3, h4⟩ => ?_)
  refine eE_b (xBe_i hN h2 h4 h3) (fun _ _ h => h) (fun Q2 m2 _ ⟨⟨h5, h6⟩, h7⟩ => ?_)
  exact eE_b (xSem_i hN h6) (fun _ _ h => h) (fun _ m3 _ ⟨h8, h9⟩ => ⟨⟨by omega, h9⟩, h7⟩)
theorem xAl_i (hN : nT tp N) : ∀ (φ : Nat) (Q : aQ) (n : Nat), n ≤ N → 1001 - n ≤ φ → QI Q → eE (xAl tp φ Q n) (fun k m => (1 ≤ k ∧ k ≤ 5) ∧ m ≤ N) (fun Q2 m => m ≤ N ∧ QI Q2)
  | 0, Q, n, hn, hf, _ => by have := hN.1; omega
  | φ + 1, Q, n, hn, hf, h => by
    unfold xAl
    refine eE_i (fun c => ⟨hn, h⟩) (fun c => ?_)
    exact eE_b (xLn_i hN hn h) (fun _ _ h => h) (fun Q2 m _ ⟨⟨h1, h2⟩, h3⟩ => xAl_i hN φ Q2 m h2 (by omega) h3)
end QS

/-! the pure part: what an F gives, as a judgement -/
def zO (r : aR) (Q : Option Value → aS → Prop) : Prop := ∃ v S, r = some (v, S) ∧ Q v S
abbrev zI (r : aR) (P : Int32 → aS → Prop) : Prop := zO r (fun v S => ∃ x, v = some (.int x) ∧ P x S)
abbrev zU (r : aR) (P : aS → Prop) : Prop := zO r (fun v S => v = none ∧ P S)
section ZO
variable {r : aR} {Q Q2 : Option Value → aS → Prop} {S : aS}
theorem o_m (h : zO r Q) (hh : ∀ v S, Q v S → Q2 v S) : zO r Q2 := by
  obtain ⟨v, S, e, q⟩ := h
  exact ⟨v, S, e, hh v S q⟩
theorem i_m {P P2 : Int32 → aS → Prop} (h : zI r P) (hh : ∀ x S, P x S → P2 x S) : zI r P2 := o_m h (fun _ S ⟨x, e, p⟩ => ⟨x, e, hh x S p⟩)
theorem u_m {P P2 : aS → Prop} (h : zU r P) (hh : ∀ S, P S → P2 S) : zU r P2 := o_m h (fun _ S ⟨e, p⟩ => ⟨e, hh S p⟩)
theorem o_I {k : Int32 → aS → aR} {P : Int32 → aS → Prop} (h : zI r P) (hk : ∀ x S, P x S → zO (k x S) Q) : zO (bI r k) Q := by
  obtain ⟨v, S, e, x, rfl, p⟩ := h
  rw [e]
  exact hk x S p
theorem o_V {k : aS → aR} {P : aS → Prop} (h : zU r P) (hk : ∀ S, P S → zO (k S) Q) : zO (bV r k) Q := by
  obtain ⟨v, S, e, rfl, p⟩ := h
  rw [e]
  exact hk S p
theorem o_X {i : Int32} {N n : Nat} {k : Nat → aR} (hi : i = nI n) (hn : n < N) (hk : zO (k n) Q) (hN : N < 2 ^ 31 := by omega) : zO (bX i N k) Q := by
  subst hi
  unfold bX
  rw [if_neg (nI_in hn hN), nI_clamp (by omega)]
  exact hk
theorem o_s {p j : Nat} {v : Int32} {k : aS → aR} (hk : ∀ S1, S1 = sI S p j v → zO (k S1) Q) : zO (fS (sI S p j v) k) Q := hk _ rfl
theorem o_sJ {p j : Nat} {v : Int64} {k : aS → aR} (hk : ∀ S1, S1 = sJ S p j v → zO (k S1) Q) : zO (fS (sJ S p j v) k) Q := hk _ rfl
theorem o_sR {p j : Nat} {v : Nat} {k : aS → aR} (hk : ∀ S1, S1 = sR S p j v → zO (k S1) Q) : zO (fS (sR S p j v) k) Q := hk _ rfl
theorem o_if {c : Prop} {_ : Decidable c} {a b : aR} (h1 : c → zO a Q) (h2 : ¬ c → zO b Q) : zO (if c then a else b) Q := by
  by_cases h : c
  · rw [if_pos h]; exact h1 h
  · rw [if_neg h]; exact h2 h
theorem o_t {c : Prop} {_ : Decidable c} {a b : aR} (h : c) (h1 : zO a Q) : zO (if c then a else b) Q := by rw [if_pos h]; exact h1
theorem o_f {c : Prop} {_ : Decidable c} {a b : aR} (h : ¬ c) (h1 : zO b Q) : zO (if c then a else b) Q := by rw [if_neg h]; exact h1
theorem o_lI {v : Int32} {k : Int32 → aR} (h : zO (k v) Q) : zO (lI v k) Q := h
theorem o_lJ {v : Int64} {k : Int64 → aR} (h : zO (k v) Q) : zO (lJ v k) Q := h
theorem o_r {v : Option Value} (h : Q v S) : zO (some (v, S)) Q := ⟨v, S, rfl, h⟩
theorem i_r {v : Int32} {P : Int32 → aS → Prop} (h : P v S) : zI (some (some (.int v), S)) P := ⟨_, S, rfl, v, rfl, h⟩
theorem u_r {P : aS → Prop} (h : P S) : zU (some (none, S)) P := ⟨_, S, rfl, rfl, h⟩
theorem o_Z {y : Int32} {k : aR} (h : y = 0 ∨ y = 1) (hk : zO k Q) : zO (bZ y k) Q := by unfold bZ; rw [if_pos h]; exact hk
theorem o_N {y : Int32} {k : aR} (h : y ≠ 0) (hk : zO k Q) : zO (bN y k) Q := by unfold bN; rw [if_neg h]; exact hk
theorem o_NL {y : Int64} {k : aR} (h : y ≠ 0) (hk : zO k Q) : zO (bNL y k) Q := by unfold bNL; rw [if_neg h]; exact hk
theorem o_e {r2 : aR} (e : r = r2) (h : zO r2 Q) : zO r Q := by rw [e]; exact h
theorem i_v {x : Int32} (h : zI r (fun y S2 => y = x ∧ S2 = S)) : r = some (some (.int x), S) := by
  obtain ⟨v, S, e, y, rfl, rfl, rfl⟩ := h
  exact e
/-- a loop that counts up from k to y -/
theorem o_loop {F : Nat → List Value → aS → aR} {c B y : Nat} {Q : Option Value → aS → Prop} (I : Nat → List Value → aS → Prop)
    (step : ∀ k vs S g, k < y → I k vs S → B + c ≤ g → (∀ g' vs' S', g ≤ g' + c → I (k + 1) vs' S' → zO (F g' vs' S') Q) → zO (F g vs S) Q)
    (last : ∀ vs S g, I y vs S → B + c ≤ g → zO (F g vs S) Q) : ∀ k vs S g, k ≤ y → I k vs S → B + c * (y + 1 - k) ≤ g → zO (F g vs S) Q := by
  intro k vs S g hk
  obtain ⟨j, rfl⟩ : ∃ j, y = k + j := ⟨y - k, by omega⟩
  clear hk
  rw [show k + j + 1 - k = j + 1 by omega]
  induction j generalizing k vs S g with
  | zero => intro h hg; exact last vs S g h (by simpa using hg)
  | succ j ih =>
    intro h hg
    rw [Nat.mul_succ] at hg
    refine step k vs S g (by omega) h (by have := Nat.zero_le (c * (j + 1)); omega) (fun g' vs' S' hg' h' => ?_)
    refine ih (k + 1) vs' S' g' (by rw [show k + 1 + j = k + (j + 1) by omega]; exact step) (by rw [show k + 1 + j = k + (j + 1) by omega]; exact last) h' (by omega)
end ZO
/-- a loop that counts down to nothing -/
theorem o_loopD {F : Nat → List Value → aS → aR} {c B : Nat} {Q : Option Value → aS → Prop} (I : Nat → List Value → aS → Prop)
    (step : ∀ k vs S g, I (k + 1) vs S → B + c ≤ g → (∀ g' vs' S', g ≤ g' + c → I k vs' S' → zO (F g' vs' S') Q) → zO (F g vs S) Q)
    (last : ∀ vs S g, I 0 vs S → B + c ≤ g → zO (F g vs S) Q) : ∀ k vs S g, I k vs S → B + c * (k + 1) ≤ g → zO (F g vs S) Q := by
  intro k
  induction k with
  | zero => intro vs S g h hg; exact last vs S g h (by simpa using hg)
  | succ k ih =>
    intro vs S g h hg
    rw [Nat.mul_succ] at hg
    exact step k vs S g h (by have := Nat.zero_le (c * (k + 1)); omega) (fun g' vs' S' hg' h' => ih vs' S' g' h' (by omega))
theorem g1 {n f : Nat} (h : n + 1 ≤ f) : ∃ g, f = g + 1 ∧ n ≤ g := ⟨f - 1, by omega, by omega⟩
theorem nI_lit (n : Nat) : (OfNat.ofNat n : Int32) = nI n := rfl
theorem nI_min {a b : Nat} (ha : a < 2 ^ 31) (hb : b < 2 ^ 31) : (if nI a < nI b then nI a else nI b) = nI (min a b) := by
  by_cases h : a < b
  · rw [if_pos (nI_lt h hb), Nat.min_eq_left (by omega)]
  · rw [if_neg (nI_nlt (by omega) ha), Nat.min_eq_right (by omega)]
theorem nI_minle {a b : Nat} (ha : a < 2 ^ 31) (hb : b < 2 ^ 31) : (if nI a ≤ nI b then nI a else nI b) = nI (min a b) := by
  by_cases h : a ≤ b
  · rw [if_pos (nI_le h hb), Nat.min_eq_left h]
  · rw [if_neg (nI_ge (by omega) ha), Nat.min_eq_right (by omega)]
theorem up1_self {α : Type} (f : Nat → α) (k : Nat) : up1 f k (f k) = f := by
  funext j
  unfold up1
  by_cases h : j = k
  · rw [if_pos h, h]
  · rw [if_neg h]
/-- what changed lies within D -/
def Fr (D : Nat → Nat → Prop) (S S2 : aS) : Prop := S2.2 = S.2 ∧ ∀ q k, ¬ D q k → gI S2 q k = gI S q k
theorem Fr.refl {D : Nat → Nat → Prop} (S : aS) : Fr D S S := ⟨rfl, fun _ _ _ => rfl⟩
theorem Fr.tr {D : Nat → Nat → Prop} {S S2 S3 : aS} (h : Fr D S S2) (h2 : Fr D S2 S3) : Fr D S S3 := ⟨h2.1.trans h.1, fun q k n => (h2.2 q k n).trans (h.2 q k n)⟩
theorem Fr.mono {D E : Nat → Nat → Prop} {S S2 : aS} (h : Fr D S S2) (hh : ∀ q k, D q k → E q k) : Fr E S S2 := ⟨h.1, fun q k n => h.2 q k (fun d => n (hh q k d))⟩
theorem Fr.sI {D : Nat → Nat → Prop} {S S2 S3 : aS} {p j : Nat} {v : Int32} (h : Fr D S S2) (e : S3 = sI S2 p j v) (hd : D p j) : Fr D S S3 := by
  subst e
  refine ⟨h.1, fun q k n => ?_⟩
  rw [gI_sI, if_neg (fun ⟨a, b⟩ => n (by rw [a, b]; exact hd))]
  exact h.2 q k n
theorem Fr.R {D : Nat → Nat → Prop} {S S2 : aS} (h : Fr D S S2) (p k : Nat) : gR S2 p k = gR S p k := by unfold gR; rw [h.1]
theorem Fr.J {D : Nat → Nat → Prop} {S S2 : aS} (h : Fr D S S2) (p k : Nat) : gJ S2 p k = gJ S p k := by unfold gJ; rw [h.1]

/-! plans and laws of the class -/
abbrev aP : Type := (Nat × Nat × Nat) × (Nat → Nat → Nat) × (Nat × Nat) × (Option (List Int32) × Option (List Int32))
abbrev pY (P : aP) : Nat := P.1.1
abbrev pN (P : aP) : Nat := P.1.2.1
abbrev pW (P : aP) : Nat := P.1.2.2
abbrev pT (P : aP) : Nat → Nat → Nat := P.2.1
abbrev pPe (P : aP) : Nat := P.2.2.1.1
abbrev pDe (P : aP) : Nat := P.2.2.1.2
abbrev pDr (P : aP) : Option (List Int32) := P.2.2.2.1
abbrev pTk (P : aP) : Option (List Int32) := P.2.2.2.2
def jn (s a b : Int32) : Int32 := if s = (-11) then a - b else if s = (-10) then a + b else if s = (-9) then (if a = b then (1 : Int32) else (0 : Int32)) else if s = (-8) then (if b ≤ a then (0 : Int32) else (1 : Int32)) else if s = (-7) then (if a = (0 : Int32) then if b = (0 : Int32) then (0 : Int32) else (1 : Int32) else (1 : Int32)) else if s = (-6) then (if a = (0 : Int32) then (0 : Int32) else if b = (0 : Int32) then (0 : Int32) else (1 : Int32)) else a * b
/-- a code that never wants a value that isn't there, nor more than 32 -/
def cok : List Int32 → Nat → Prop
  | [], d => 1 ≤ d
  | s :: cs, d => if s ≤ (-5 : Int32) then (if s = (-5 : Int32) then 1 ≤ d ∧ cok cs d else 2 ≤ d ∧ cok cs (d - 1)) else d < 32 ∧ cok cs (d + 1)
def r1 (fc : Nat → Int32) (x : Nat × (Nat → Int32)) (s : Int32) : Nat × (Nat → Int32) :=
  if s ≤ (-5 : Int32) then (if s = (-5 : Int32) then (x.1, up1 x.2 (x.1 - 1) (if x.2 (x.1 - 1) = (0 : Int32) then (1 : Int32) else (0 : Int32))) else (x.1 - 1, up1 x.2 (x.1 - 2) (jn s (x.2 (x.1 - 2)) (x.2 (x.1 - 1))))) else (x.1 + 1, up1 x.2 x.1 (if s < (0 : Int32) then fc ((-1 : Int32) - s).toNatClampNeg else s))
def rn (fc : Nat → Int32) (cs : List Int32) (x : Nat × (Nat → Int32)) : Nat × (Nat → Int32) := cs.foldl (r1 fc) x
def fc4 (a b c d : Int32) : Nat → Int32 := fun i => if i = 0 then a else if i = 1 then b else if i = 2 then c else d
def evl (cs : List Int32) (a b c d : Int32) : Int32 := (rn (fc4 a b c d) cs (0, fun _ => 0)).2 0
def CL (S : aS) (l : Nat) (o : Option (List Int32)) : Prop := (gR S l 0 = l + 1 ∧ gR S l 2 = l + 2 ∧ gR S l 3 = l + 3) ∧ gI S l 1 = nI (o.getD []).length ∧ ∀ k, k < (o.getD []).length → gI S (l + 1) k = (o.getD []).getD k 0
def LWF (o : Option (List Int32)) : Prop := ∀ cs, o = some cs → cok cs 0 ∧ cs.length ≤ 1000 ∧ 0 < cs.length
theorem step_neg {s : Int32} (h1 : ¬ s ≤ (-5 : Int32)) (h2 : s < 0) : ∃ j, j < 4 ∧ (-1 : Int32) - s = nI j := by
  have a1 : ¬ s.toInt ≤ -5 := fun c => h1 (Int32.le_iff_toInt_le.mpr (by simpa using c))
  have a2 : s.toInt < 0 := by have := Int32.lt_iff_toInt_lt.mp h2; simpa using this
  have hs : s = Int32.ofInt s.toInt := (Int32.ofInt_toInt s).symm
  have hc : s.toInt = -1 ∨ s.toInt = -2 ∨ s.toInt = -3 ∨ s.toInt = -4 := by omega
  rcases hc with h | h | h | h <;> rw [h] at hs
  · exact ⟨0, by omega, by rw [hs]; decide⟩
  · exact ⟨1, by omega, by rw [hs]; decide⟩
  · exact ⟨2, by omega, by rw [hs]; decide⟩
  · exact ⟨3, by omega, by rw [hs]; decide⟩
abbrev dV (l : Nat) : Nat → Nat → Prop := fun q _ => q = l + 2 ∨ q = l + 3
theorem fc_at {a b c d : Int32} {S : aS} {l j : Nat} (h0 : gI S (l + 3) 0 = a) (h1 : gI S (l + 3) 1 = b) (h2 : gI S (l + 3) 2 = c) (h3 : gI S (l + 3) 3 = d) (hj : j < 4) : gI S (l + 3) j = fc4 a b c d j := by
  match j, hj with
  | 0, _ => exact h0
  | 1, _ => exact h1
  | 2, _ => exact h2
  | 3, _ => exact h3
theorem T_X5_joined {s a b : Int32} {S : aS} {f : Nat} (hg : 1 ≤ f) : zI (F_X5_joined f 0 [.int s, .int a, .int b] S) (fun x S2 => x = jn s a b ∧ S2 = S) := by
  obtain ⟨g, ge, hG⟩ := g1 hg; subst ge; clear hg; have hg := hG; clear hG
  rw [E_X5_joined_0]; unfold F_X5_joined_0
  unfold jn
  repeat (first | exact i_r ⟨rfl, rfl⟩ | refine o_if (fun c => ?_) (fun c => ?_) <;> simp only [c, ite_true, ite_false, if_true, if_false, reduceIte])

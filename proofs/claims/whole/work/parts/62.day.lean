/-! a day, read from tokens: the spec -/
abbrev dR : Type := Except (Nat × Nat) ((Nat × Nat × Nat) × Nat)
/-- the act of a word, if it is one -/
def qAct (tp : List Nat) (n : Nat) : Bool := (tk tp n).1 == 1 && (decide (14 ≤ wdO (tk tp n).2.1) && decide (wdO (tk tp n).2.1 ≤ 19))
def actN (tp : List Nat) (n : Nat) : Nat := wdO (tk tp n).2.1 - 14
/-- what stands behind the act a, from token n on -/
def dBe (tp : List Nat) (nm : Nat → List Nat) (pn a n : Nat) : dR :=
  if a = 5 then .ok ((5, 0, 0), n)
  else if a = 0 then (if qA tp n = true then (match nmO nm (tk tp n).2.1 pn 0 with
    | none => .error (2, n)
    | some i => .ok ((0, i, 0), n + 1)) else .error (1, n))
  else if nW tp n 0 7 = 0 then (if a = 2 then (if nW tp (n + 1) 1 30 = 0 then .ok ((2, (tk tp n).2.2, (tk tp (n + 1)).2.2), n + 2) else .error (nW tp (n + 1) 1 30, n + 1)) else .ok ((a, (tk tp n).2.2, 0), n + 1))
  else .error (nW tp n 0 7, n)
/-- a line, the k-th -/
def dLn (tp : List Nat) (nm : Nat → List Nat) (pn k n : Nat) : dR :=
  if qAct tp n = true then (if 40 ≤ k then .error (5, n) else match dBe tp nm pn (actN tp n) (n + 1) with
    | .error e => .error e
    | .ok x => if qS tp x.2 59 = true then .ok (x.1, x.2 + 1) else .error (1, x.2))
  else .error (1, n)
def dAl (tp : List Nat) (nm : Nat → List Nat) (pn : Nat) : Nat → Nat → Nat → Except (Nat × Nat) (List (Nat × Nat × Nat))
  | 0, _, n => .error (0, n)
  | φ + 1, k, n => if (tk tp n).1 = 0 then .ok [] else match dLn tp nm pn k n with
    | .error e => .error e
    | .ok x => match dAl tp nm pn φ (k + 1) x.2 with
      | .error e => .error e
      | .ok l => .ok (x.1 :: l)
section DY
variable {tp : List Nat} {nm : Nat → List Nat} {pn n k a N : Nat}
theorem nW_0 {b : Nat} (h : nW tp n a b = 0) : qN tp n = true ∧ a ≤ (tk tp n).2.2 ∧ (tk tp n).2.2 ≤ b := by
  unfold nW at h
  by_cases c : qN tp n = true
  · rw [if_pos c] at h
    by_cases d : a ≤ (tk tp n).2.2 ∧ (tk tp n).2.2 ≤ b
    · exact ⟨c, d⟩
    · rw [if_neg d] at h; omega
  · rw [if_neg c] at h; omega
theorem nW_k {b : Nat} (h : ¬ nW tp n a b = 0) : 1 ≤ nW tp n a b ∧ nW tp n a b ≤ 5 := by
  unfold nW at h ⊢
  repeat' split
  all_goals simp_all
theorem qAct.s (hN : nT tp N) (hn : n ≤ N) (h : qAct tp n = true) : n + 1 ≤ N := hN.s hn (by unfold qAct at h; simp at h; omega)
theorem qA.s (hN : nT tp N) (hn : n ≤ N) (h : qA tp n = true) : n + 1 ≤ N := hN.s hn (by unfold qA at h; simp at h; omega)
/-- where the reading of a line ends, and that the line is sound -/
theorem dBe_ok {x : Nat × Nat × Nat} {m : Nat} (hN : nT tp N) (hn : n ≤ N) (ha : a ≤ 5) (hp : pn ≤ 6) (h : dBe tp nm pn a n = .ok (x, m)) : (n ≤ m ∧ m ≤ N) ∧ x.1 = a ∧ (a = 0 → x.2.1 < pn) ∧ x.2.1 < 8 ∧ x.2.2 ≤ 30 ∧ (a = 2 → 1 ≤ x.2.2) := by
  unfold dBe at h
  by_cases c5 : a = 5
  · rw [if_pos c5] at h
    have := Except.ok.inj h
    obtain ⟨rfl, rfl⟩ := Prod.mk.inj this
    exact ⟨⟨Nat.le_refl _, hn⟩, c5.symm, fun h => by omega, by simp, by simp, fun h => by omega⟩
  rw [if_neg c5] at h
  by_cases c0 : a = 0
  · rw [if_pos c0] at h
    by_cases q : qA tp n = true
    · rw [if_pos q] at h
      have hs := qA.s hN hn q
      rcases e : nmO nm (tk tp n).2.1 pn 0 with _ | i
      · rw [e] at h; exact absurd h (by simp)
      · rw [e] at h
        have := Except.ok.inj h
        obtain ⟨rfl, rfl⟩ := Prod.mk.inj this
        have hb := nmO_b pn 0 i e
        exact ⟨⟨by omega, hs⟩, c0.symm, fun _ => by show i < pn; omega, by show i < 8; omega, by simp, fun h => by omega⟩
    · rw [if_neg q] at h; exact absurd h (by simp)
  rw [if_neg c0] at h
  by_cases q : nW tp n 0 7 = 0
  · rw [if_pos q] at h
    obtain ⟨q1, q2, q3⟩ := nW_0 q
    have hs := qN.s hN hn q1
    by_cases c2 : a = 2
    · rw [if_pos c2] at h
      by_cases r : nW tp (n + 1) 1 30 = 0
      · rw [if_pos r] at h
        obtain ⟨r1, r2, r3⟩ := nW_0 r
        have hs2 := qN.s hN hs r1
        have := Except.ok.inj h
        obtain ⟨rfl, rfl⟩ := Prod.mk.inj this
        exact ⟨⟨by omega, hs2⟩, c2.symm, fun h => by omega, by show (tk tp n).2.2 < 8; omega, r3, fun _ => r2⟩
      · rw [if_neg r] at h; exact absurd h (by simp)
    · rw [if_neg c2] at h
      have := Except.ok.inj h
      obtain ⟨rfl, rfl⟩ := Prod.mk.inj this
      exact ⟨⟨by omega, hs⟩, rfl, fun h => by omega, by show (tk tp n).2.2 < 8; omega, by simp, fun h => absurd h c2⟩
  · rw [if_neg q] at h; exact absurd h (by simp)
end DY

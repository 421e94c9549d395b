/-! the signs of a tape, cut into tokens; the class's tape -/
def cAt (tp : List Nat) (i : Nat) : Nat := tp.getD i 0
def isL (c : Nat) : Bool := decide (97 ≤ c ∧ c ≤ 122)
def isG (c : Nat) : Bool := decide (48 ≤ c ∧ c ≤ 57)
def isB (c : Nat) : Bool := decide (c = 10 ∨ c = 32)
def skp (p : Nat → Bool) (tp : List Nat) : Nat → Nat → Nat
  | 0, i => i
  | k + 1, i => if p (cAt tp i) = true then skp p tp k (i + 1) else i
/-- the first place from i on, before the end, where p does not hold -/
def en (p : Nat → Bool) (tp : List Nat) (i : Nat) : Nat := skp p tp (tp.length - i) i
section EN
variable {p : Nat → Bool} {tp : List Nat} {i : Nat}
theorem en_e (h : tp.length ≤ i) : en p tp i = i := by
  unfold en
  rw [show tp.length - i = 0 by omega]
  rfl
theorem en_t (h : i < tp.length) (hp : p (cAt tp i) = true) : en p tp i = en p tp (i + 1) := by
  unfold en
  rw [show tp.length - i = (tp.length - (i + 1)) + 1 by omega]
  show (if p (cAt tp i) = true then _ else _) = _
  rw [if_pos hp]
theorem en_f (h : i < tp.length) (hp : ¬ p (cAt tp i) = true) : en p tp i = i := by
  unfold en
  rw [show tp.length - i = (tp.length - (i + 1)) + 1 by omega]
  show (if p (cAt tp i) = true then _ else _) = _
  rw [if_neg hp]
theorem skp_b : ∀ (k i : Nat), i ≤ skp p tp k i ∧ skp p tp k i ≤ i + k
  | 0, i => ⟨Nat.le_refl _, Nat.le_refl _⟩
  | k + 1, i => by
    unfold skp
    split
    · have := skp_b k (i + 1); omega
    · omega
theorem en_b (h : i ≤ tp.length) : i ≤ en p tp i ∧ en p tp i ≤ tp.length := by
  have := skp_b (p := p) (tp := tp) (tp.length - i) i
  unfold en; omega
end EN
/-- the letters from i up to e, as ranks; the digits -/
def sl (tp : List Nat) (i n : Nat) : List Nat := (List.range n).map (fun k => cAt tp (i + k) - 96)
def dg (tp : List Nat) (i n : Nat) : List Nat := (List.range n).map (fun k => cAt tp (i + k) - 48)
def k10 (l : List Nat) : Nat := l.foldl (fun a c => a * 10 + c) 0
theorem sl_s (tp : List Nat) (i n : Nat) : sl tp i (n + 1) = sl tp i n ++ [cAt tp (i + n) - 96] := by
  unfold sl
  rw [List.range_succ, List.map_append]; rfl
theorem dg_s (tp : List Nat) (i n : Nat) : dg tp i (n + 1) = dg tp i n ++ [cAt tp (i + n) - 48] := by
  unfold dg
  rw [List.range_succ, List.map_append]; rfl
theorem k32_s (l : List Nat) (c : Nat) : k32 (l ++ [c]) = k32 l * 32 + c := by unfold k32; rw [List.foldl_append]; rfl
theorem k37_s (l : List Nat) (c : Nat) : k37 (l ++ [c]) = 37 * k37 l + c := by unfold k37; rw [List.foldl_append]; rfl
theorem k10_s (l : List Nat) (c : Nat) : k10 (l ++ [c]) = k10 l * 10 + c := by unfold k10; rw [List.foldl_append]; rfl
/-- a token: its sort (0 the end, 1 a word, 2 a number, 3 a sign, 4 none of these), its letters, its number or sign -/
abbrev Tk : Type := Nat × List Nat × Nat
def isS (c : Nat) : Bool := [40, 41, 59, 61, 60, 43, 45, 42].contains c
/-- the end of the token that begins at i, and the token -/
def tE (tp : List Nat) (i : Nat) : Nat := if tp.length ≤ i then i else if isL (cAt tp i) = true then en isL tp i else if isG (cAt tp i) = true then en isG tp i else i + 1
def tK (tp : List Nat) (i : Nat) : Tk :=
  if tp.length ≤ i then (0, [], 0) else if isL (cAt tp i) = true then (if tE tp i - i ≤ 8 then (1, sl tp i (tE tp i - i), 0) else (4, [], 0))
  else if isG (cAt tp i) = true then (if tE tp i - i ≤ 4 then (2, [], k10 (dg tp i (tE tp i - i))) else (4, [], 0))
  else if isS (cAt tp i) = true then (3, [], cAt tp i) else (4, [], 0)
/-- where the n-th token begins -/
def tP (tp : List Nat) : Nat → Nat
  | 0 => en isB tp 0
  | n + 1 => en isB tp (tE tp (tP tp n))
abbrev tk (tp : List Nat) (n : Nat) : Tk := tK tp (tP tp n)
theorem tE_b {tp : List Nat} {i : Nat} (h : i ≤ tp.length) : i ≤ tE tp i ∧ tE tp i ≤ tp.length ∧ (i < tp.length → i < tE tp i) := by
  unfold tE
  by_cases c : tp.length ≤ i
  · rw [if_pos c]; omega
  rw [if_neg c]
  by_cases c1 : isL (cAt tp i) = true
  · rw [if_pos c1, en_t (by omega) c1]
    have := en_b (p := isL) (tp := tp) (i := i + 1) (by omega); omega
  rw [if_neg c1]
  by_cases c2 : isG (cAt tp i) = true
  · rw [if_pos c2, en_t (by omega) c2]
    have := en_b (p := isG) (tp := tp) (i := i + 1) (by omega); omega
  rw [if_neg c2]; omega
theorem tP_b {tp : List Nat} : ∀ n, tP tp n ≤ tp.length
  | 0 => (en_b (Nat.zero_le _)).2
  | n + 1 => (en_b (tE_b (tP_b n)).2.1).2
theorem tP_s {tp : List Nat} {n : Nat} (h : tP tp n < tp.length) : tP tp n < tP tp (n + 1) := by
  have h1 := (tE_b (tP_b (tp := tp) n))
  have h2 := (en_b (p := isB) h1.2.1).1
  show _ < en isB tp _
  have := h1.2.2 h
  omega
theorem tP_n {tp : List Nat} : ∀ n, tP tp n < tp.length → n ≤ tP tp n
  | 0, _ => Nat.zero_le _
  | n + 1, h => by
    by_cases c : tP tp n < tp.length
    · have h1 := tP_n n c
      have := tP_s c; omega
    · exfalso
      have hb := tP_b (tp := tp) n
      have e : tP tp n = tp.length := by omega
      have e2 : tE tp tp.length = tp.length := by unfold tE; rw [if_pos (Nat.le_refl _)]
      have h' : en isB tp (tE tp (tP tp n)) < tp.length := h
      rw [e, e2, en_e (Nat.le_refl _)] at h'
      omega
/-- the words: the class's ordinals -/
def kw : List (List Nat) := [[25, 1, 18, 4, 19], [23, 9, 14, 4, 19], [16, 5, 14, 3, 5], [4, 5, 16, 15, 19, 9, 20], [4, 18, 15, 16, 19], [20, 1, 11, 5, 19], [16, 5, 18, 19, 15, 14], [3, 1, 18, 18, 9, 5, 19], [2, 18, 9, 14, 7, 19], [2, 9, 14], [8, 15, 12, 4, 19], [12, 9, 5, 19], [23, 1, 12, 11], [5, 13, 16, 20, 25], [16, 21, 20], [15, 6, 6], [19, 23, 5, 5, 16], [8, 15, 21, 18], [16, 12, 1, 9, 14], [20, 9, 4, 25], [4, 15, 7], [3, 8, 9, 12, 4], [14, 15, 20], [1, 14, 4], [15, 18], [8, 5, 1, 16], [14, 5, 1, 18], [8, 1, 19], [6, 1, 18]]
def kwd (q : Nat) : List Nat := kw.getD (q - 2) []
def wdq (l : List Nat) : Nat → Nat → Nat
  | 0, _ => 1
  | k + 1, q => if kwd q = l then q else wdq l k (q + 1)
def wdO (l : List Nat) : Nat := wdq l 29 2
theorem zkey_k {q : Nat} (h : q < 29) : zkey (q + 2) = lN (k32 (kwd (q + 2))) ∧ okN (kwd (q + 2)) := by
  have h1 := co_dec (N := 29) (P := fun q => zkey (q + 2) = lN (k32 (kwd (q + 2))) ∧ (1 ≤ (kwd (q + 2)).length ∧ (kwd (q + 2)).length ≤ 8 ∧ (kwd (q + 2)).all (fun c => decide (1 ≤ c ∧ c ≤ 26)) = true)) (by decide +kernel) h
  exact ⟨h1.1, h1.2.1, h1.2.2.1, fun c hc => of_decide_eq_true (List.all_eq_true.mp h1.2.2.2 c hc)⟩
theorem wdq_r {l : List Nat} : ∀ k q, q + k ≤ 31 → 2 ≤ q → (wdq l k q = 1 ∨ (q ≤ wdq l k q ∧ wdq l k q < q + k ∧ kwd (wdq l k q) = l))
  | 0, q, _, _ => Or.inl rfl
  | k + 1, q, h, h2 => by
    unfold wdq
    by_cases c : kwd q = l
    · rw [if_pos c]; exact Or.inr ⟨Nat.le_refl _, by omega, c⟩
    · rw [if_neg c]
      rcases wdq_r k (q + 1) (by omega) (by omega) with h3 | h3
      · exact Or.inl h3
      · exact Or.inr ⟨by omega, by omega, h3.2.2⟩
theorem wdO_b (l : List Nat) : 1 ≤ wdO l ∧ wdO l < 31 := by
  rcases wdq_r (l := l) 29 2 (by omega) (by omega) with h | h <;> unfold wdO <;> omega
theorem wdO_k {q : Nat} (h : q < 29) : wdO (kwd (q + 2)) = q + 2 := co_dec (N := 29) (P := fun q => wdO (kwd (q + 2)) = q + 2) (by decide +kernel) h
theorem wdO_iff {l : List Nat} {q : Nat} (h : 2 ≤ q) (h2 : q < 31) : wdO l = q ↔ l = kwd q := by
  constructor
  · intro e
    rcases wdq_r (l := l) 29 2 (by omega) (by omega) with h3 | h3
    · have : wdO l = 1 := h3; omega
    · have h4 : kwd (wdO l) = l := h3.2.2
      rw [e] at h4; exact h4.symm
  · intro e
    have := wdO_k (q := q - 2) (by omega)
    rw [show q - 2 + 2 = q by omega] at this
    rw [e]; exact this
/-- lists of letters by their keys -/
theorem k_b {b : Nat} (hb : 27 ≤ b) (k : List Nat → Nat) (k0 : k [] = 0) (ks : ∀ l c, k (l ++ [c]) = k l * b + c) : ∀ (n : Nat) (l : List Nat), l.length = n → (∀ c, c ∈ l → 1 ≤ c ∧ c ≤ 26) → k l < b ^ n ∧ ∀ m : List Nat, (∀ c, c ∈ m → 1 ≤ c ∧ c ≤ 26) → k m = k l → m = l := by
  intro n
  induction n with
  | zero =>
    intro l hl _
    have e : l = [] := List.length_eq_zero_iff.mp hl
    subst e
    rw [k0]
    refine ⟨by rw [Nat.pow_zero]; omega, fun m hm e => ?_⟩
    rcases List.eq_nil_or_concat m with h | ⟨m1, c, h⟩
    · exact h
    · exfalso
      rw [List.concat_eq_append] at h
      subst h
      rw [ks] at e
      have := hm c (by simp)
      omega
  | succ n ih =>
    intro l hl hc
    rcases List.eq_nil_or_concat l with h | ⟨l1, c, h⟩
    · subst h; exact absurd hl (by simp)
    · rw [List.concat_eq_append] at h
      subst h
      have hl1 : l1.length = n := by rw [List.length_append, List.length_singleton] at hl; omega
      obtain ⟨i1, i2⟩ := ih l1 hl1 (fun x hx => hc x (List.mem_append_left _ hx))
      have hcc := hc c (by simp)
      rw [ks]
      refine ⟨?_, fun m hm e => ?_⟩
      · rw [Nat.pow_succ]
        calc k l1 * b + c < k l1 * b + b := by omega
          _ = (k l1 + 1) * b := by rw [Nat.add_mul, Nat.one_mul]
          _ ≤ b ^ n * b := Nat.mul_le_mul_right b i1
      · rcases List.eq_nil_or_concat m with h | ⟨m1, d, h⟩
        · subst h; rw [k0] at e; omega
        · rw [List.concat_eq_append] at h
          subst h
          have hd := hm d (by simp)
          rw [ks] at e
          have e1 : (k m1 * b + d) % b = d := by rw [Nat.mul_comm, Nat.mul_add_mod]; exact Nat.mod_eq_of_lt (by omega)
          have e2 : (k l1 * b + c) % b = c := by rw [Nat.mul_comm, Nat.mul_add_mod]; exact Nat.mod_eq_of_lt (by omega)
          have e3 : d = c := by rw [← e1, ← e2, e]
          have e4 : k m1 = k l1 := by
            have : k m1 * b = k l1 * b := by omega
            exact Nat.eq_of_mul_eq_mul_right (by omega) this
          rw [i2 m1 (fun x hx => hm x (List.mem_append_left _ hx)) e4, e3]
theorem k32_i {l m : List Nat} (hl : okN l) (hm : okN m) : lN (k32 m) = lN (k32 l) ↔ m = l := by
  have b1 := (k_b (b := 32) (by omega) k32 rfl k32_s l.length l rfl hl.2.2)
  have b2 := (k_b (b := 32) (by omega) k32 rfl k32_s m.length m rfl hm.2.2)
  have p1 : 32 ^ l.length ≤ 32 ^ 8 := Nat.pow_le_pow_right (by omega) hl.2.1
  have p2 : 32 ^ m.length ≤ 32 ^ 8 := Nat.pow_le_pow_right (by omega) hm.2.1
  rw [pk_lEQ (Nat.lt_of_lt_of_le b2.1 (Nat.le_trans p2 (by decide))) (Nat.lt_of_lt_of_le b1.1 (Nat.le_trans p1 (by decide)))]
  exact ⟨fun e => b1.2 m hm.2.2 e, fun e => by rw [e]⟩
theorem k37_i {l m : List Nat} (hl : okN l) (hm : okN m) : lN (k37 m) = lN (k37 l) ↔ m = l := by
  have ks : ∀ l c, k37 (l ++ [c]) = k37 l * 37 + c := fun l c => by rw [k37_s, Nat.mul_comm]
  have b1 := (k_b (b := 37) (by omega) k37 rfl ks l.length l rfl hl.2.2)
  have b2 := (k_b (b := 37) (by omega) k37 rfl ks m.length m rfl hm.2.2)
  have p1 : 37 ^ l.length ≤ 37 ^ 8 := Nat.pow_le_pow_right (by omega) hl.2.1
  have p2 : 37 ^ m.length ≤ 37 ^ 8 := Nat.pow_le_pow_right (by omega) hm.2.1
  rw [pk_lEQ (Nat.lt_of_lt_of_le b2.1 (Nat.le_trans p2 (by decide))) (Nat.lt_of_lt_of_le b1.1 (Nat.le_trans p1 (by decide)))]
  exact ⟨fun e => b1.2 m hm.2.2 e, fun e => by rw [e]⟩

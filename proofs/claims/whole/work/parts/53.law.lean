/-! an E, read from tokens -/
def qW (tp : List Nat) (n q : Nat) : Bool := (tk tp n).1 == 1 && (tk tp n).2.1 == kwd q
def qS (tp : List Nat) (n c : Nat) : Bool := (tk tp n).1 == 3 && (tk tp n).2.2 == c
def qN (tp : List Nat) (n : Nat) : Bool := (tk tp n).1 == 2
def qF (tp : List Nat) (n : Nat) : Bool := qW tp n 27 || qW tp n 28 || qW tp n 29 || qW tp n 30
abbrev pR : Type := Except (Nat × Nat) (List Int32 × Nat)
def pb (r : pR) (k : List Int32 × Nat → pR) : pR := match r with
  | .error e => .error e
  | .ok x => k x
def pL (tp : List Nat) : Nat → Nat → Nat → Nat → pR
  | 0, _, n, _ => .error (0, n)
  | φ + 1, 0, n, w => pb (pL tp φ 1 n w) fun x => pb (pL tp φ 5 x.2 w) fun y => .ok (x.1 ++ y.1, y.2)
  | φ + 1, 1, n, w => pb (pL tp φ 2 n w) fun x => if qS tp x.2 60 = true ∨ qS tp x.2 61 = true then pb (pL tp φ 2 (x.2 + 1) w) fun y => .ok (x.1 ++ (y.1 ++ [if qS tp x.2 60 = true then -8 else -9]), y.2) else .ok x
  | φ + 1, 2, n, w => pb (pL tp φ 3 n w) fun x => pb (pL tp φ 9 x.2 w) fun y => .ok (x.1 ++ y.1, y.2)
  | φ + 1, 3, n, w => pb (pL tp φ 4 n w) fun x => pb (pL tp φ 12 x.2 w) fun y => .ok (x.1 ++ y.1, y.2)
  | φ + 1, 4, n, w => if qN tp n = true ∨ qF tp n = true ∨ qW tp n 24 = true ∨ qS tp n 40 = true then
      (if 5 ≤ w then .error (5, n) else if qN tp n = true then .ok ([nI (tk tp n).2.2], n + 1) else if qF tp n = true then .ok ([zval (wdO (tk tp n).2.1)], n + 1)
       else if qS tp n 40 = true then pb (pL tp φ 0 (n + 1) (w + 1)) fun x => if qS tp x.2 41 = true then .ok (x.1, x.2 + 1) else .error (1, x.2)
       else pb (pL tp φ 4 (n + 1) (w + 1)) fun x => .ok (x.1 ++ [-5], x.2)) else .error (1, n)
  | φ + 1, 5, n, w => if qW tp n 25 = true ∨ qW tp n 26 = true then pb (pL tp φ 1 (n + 1) w) fun x => pb (pL tp φ 5 x.2 w) fun y => .ok (x.1 ++ ((if qW tp n 25 = true then -6 else -7) :: y.1), y.2) else .ok ([], n)
  | φ + 1, 9, n, w => if qS tp n 43 = true ∨ qS tp n 45 = true then pb (pL tp φ 3 (n + 1) w) fun x => pb (pL tp φ 9 x.2 w) fun y => .ok (x.1 ++ ((if qS tp n 43 = true then -10 else -11) :: y.1), y.2) else .ok ([], n)
  | φ + 1, _, n, w => if qS tp n 42 = true then pb (pL tp φ 4 (n + 1) w) fun x => pb (pL tp φ 12 x.2 w) fun y => .ok (x.1 ++ (-12 :: y.1), y.2) else .ok ([], n)
section PE
variable {tp : List Nat} {φ n w : Nat}
theorem pL_0 : pL tp (φ + 1) 0 n w = (pb (pL tp φ 1 n w) fun x => pb (pL tp φ 5 x.2 w) fun y => .ok (x.1 ++ y.1, y.2)) := rfl
theorem pL_1 : pL tp (φ + 1) 1 n w = (pb (pL tp φ 2 n w) fun x => if qS tp x.2 60 = true ∨ qS tp x.2 61 = true then pb (pL tp φ 2 (x.2 + 1) w) fun y => .ok (x.1 ++ (y.1 ++ [if qS tp x.2 60 = true then -8 else -9]), y.2) else .ok x) := rfl
theorem pL_2 : pL tp (φ + 1) 2 n w = (pb (pL tp φ 3 n w) fun x => pb (pL tp φ 9 x.2 w) fun y => .ok (x.1 ++ y.1, y.2)) := rfl
theorem pL_3 : pL tp (φ + 1) 3 n w = (pb (pL tp φ 4 n w) fun x => pb (pL tp φ 12 x.2 w) fun y => .ok (x.1 ++ y.1, y.2)) := rfl
theorem pL_4 : pL tp (φ + 1) 4 n w = (if qN tp n = true ∨ qF tp n = true ∨ qW tp n 24 = true ∨ qS tp n 40 = true then
      (if 5 ≤ w then .error (5, n) else if qN tp n = true then .ok ([nI (tk tp n).2.2], n + 1) else if qF tp n = true then .ok ([zval (wdO (tk tp n).2.1)], n + 1)
       else if qS tp n 40 = true then pb (pL tp φ 0 (n + 1) (w + 1)) fun x => if qS tp x.2 41 = true then .ok (x.1, x.2 + 1) else .error (1, x.2)
       else pb (pL tp φ 4 (n + 1) (w + 1)) fun x => .ok (x.1 ++ [-5], x.2)) else .error (1, n)) := rfl
theorem pL_5 : pL tp (φ + 1) 5 n w = (if qW tp n 25 = true ∨ qW tp n 26 = true then pb (pL tp φ 1 (n + 1) w) fun x => pb (pL tp φ 5 x.2 w) fun y => .ok (x.1 ++ ((if qW tp n 25 = true then -6 else -7) :: y.1), y.2) else .ok ([], n)) := rfl
theorem pL_9 : pL tp (φ + 1) 9 n w = (if qS tp n 43 = true ∨ qS tp n 45 = true then pb (pL tp φ 3 (n + 1) w) fun x => pb (pL tp φ 9 x.2 w) fun y => .ok (x.1 ++ ((if qS tp n 43 = true then -10 else -11) :: y.1), y.2) else .ok ([], n)) := rfl
theorem pL_12 : pL tp (φ + 1) 12 n w = (if qS tp n 42 = true then pb (pL tp φ 4 (n + 1) w) fun x => pb (pL tp φ 12 x.2 w) fun y => .ok (x.1 ++ (-12 :: y.1), y.2) else .ok ([], n)) := rfl
end PE
def okLb (lab : Nat) : Prop := lab ≤ 5 ∨ lab = 9 ∨ lab = 12
/-- what holds of a result -/
def pE (r : pR) (E : Nat → Nat → Prop) (K : List Int32 → Nat → Prop) : Prop := match r with
  | .error e => E e.1 e.2
  | .ok x => K x.1 x.2
theorem pE_b {r : pR} {k : List Int32 × Nat → pR} {E E2 : Nat → Nat → Prop} {K K2 : List Int32 → Nat → Prop} (h : pE r E K) (h1 : ∀ a b, E a b → E2 a b) (h2 : ∀ c m, K c m → pE (k (c, m)) E2 K2) : pE (pb r k) E2 K2 := by
  rcases r with e | x
  · exact h1 _ _ h
  · exact h2 _ _ h
theorem pE_i {c : Prop} {_ : Decidable c} {a b : pR} {E : Nat → Nat → Prop} {K : List Int32 → Nat → Prop} (h1 : c → pE a E K) (h2 : ¬ c → pE b E K) : pE (if c then a else b) E K := by
  by_cases h : c
  · rw [if_pos h]; exact h1 h
  · rw [if_neg h]; exact h2 h
theorem pE_m {r : pR} {E E2 : Nat → Nat → Prop} {K K2 : List Int32 → Nat → Prop} (h : pE r E K) (h1 : ∀ a b, E a b → E2 a b) (h2 : ∀ c m, K c m → K2 c m) : pE r E2 K2 := by
  rcases r with e | x
  · exact h1 _ _ h
  · exact h2 _ _ h
theorem nT_ex (tp : List Nat) (h : tp.length ≤ 1000) : ∃ N, nT tp N := by
  obtain ⟨N, h1, h2⟩ := pk_least (fun n => ¬ tP tp n < tp.length) ⟨tp.length, fun c => by have := tP_n _ c; omega⟩
  have hb := tP_b (tp := tp) N
  refine ⟨N, ?_, by omega, fun m hm => ?_⟩
  · by_cases c : N = 0
    · omega
    · have h3 : tP tp (N - 1) < tp.length := by
        have := h2 (N - 1) (by omega)
        omega
      have := tP_n _ h3
      omega
  · have := h2 m hm; omega
theorem tk_0 {tp : List Nat} {n : Nat} : (tk tp n).1 = 0 ↔ tp.length ≤ tP tp n := by
  show (tK tp (tP tp n)).1 = 0 ↔ _
  unfold tK
  by_cases c : tp.length ≤ tP tp n
  · rw [if_pos c]; exact ⟨fun _ => c, fun _ => rfl⟩
  · rw [if_neg c]
    refine ⟨fun h => ?_, fun h => absurd h c⟩
    exfalso
    split at h <;> split at h <;> first | (split at h <;> simp at h) | simp at h
theorem nT.s {tp : List Nat} {n N : Nat} (h : nT tp N) (hn : n ≤ N) (h0 : (tk tp n).1 ≠ 0) : n + 1 ≤ N := by
  by_cases c : n = N
  · exfalso; apply h0; rw [tk_0, c, h.2.1]; omega
  · omega
section PL
variable {tp : List Nat} {N : Nat}
theorem qW.s {n q : Nat} (hN : nT tp N) (hn : n ≤ N) (h : qW tp n q = true) : n + 1 ≤ N := hN.s hn (by unfold qW at h; simp at h; omega)
theorem qS.s {n q : Nat} (hN : nT tp N) (hn : n ≤ N) (h : qS tp n q = true) : n + 1 ≤ N := hN.s hn (by unfold qS at h; simp at h; omega)
theorem qN.s {n : Nat} (hN : nT tp N) (hn : n ≤ N) (h : qN tp n = true) : n + 1 ≤ N := hN.s hn (by unfold qN at h; simp at h; omega)
theorem qF.s {n : Nat} (hN : nT tp N) (hn : n ≤ N) (h : qF tp n = true) : n + 1 ≤ N := by
  unfold qF at h
  simp only [Bool.or_eq_true] at h
  rcases h with ((h | h) | h) | h <;> exact qW.s hN hn h
theorem pL_len (hN : nT tp N) : ∀ (φ lab n w : Nat), okLb lab → n ≤ N → pE (pL tp φ lab n w) (fun _ m => n ≤ m ∧ m ≤ N) (fun c m => n + c.length ≤ m ∧ m ≤ N ∧ (lab ≤ 4 → 1 ≤ c.length)) := by
  intro φ
  induction φ with
  | zero => intro lab n w _ hn; exact ⟨Nat.le_refl _, hn⟩
  | succ φ ih =>
    have two : ∀ (a b n w lab : Nat), a ≤ 4 → okLb b → n ≤ N → pE (pb (pL tp φ a n w) fun x => pb (pL tp φ b x.2 w) fun y => .ok (x.1 ++ y.1, y.2)) (fun _ m => n ≤ m ∧ m ≤ N) (fun c m => n + c.length ≤ m ∧ m ≤ N ∧ (lab ≤ 4 → 1 ≤ c.length)) := by
      intro a b n w lab ha hb hn
      refine pE_b (ih a n w (Or.inl (by omega)) hn) (fun _ _ h => h) (fun c m ⟨h1, h2, h3⟩ => ?_)
      refine pE_b (ih b m w hb h2) (fun _ _ h => by omega) (fun c2 m2 ⟨h4, h5, h6⟩ => ?_)
      have := h3 ha
      show _ + (c ++ c2).length ≤ m2 ∧ m2 ≤ N ∧ (_ → 1 ≤ (c ++ c2).length)
      rw [List.length_append]; omega
    have lp : ∀ (a b n w lab : Nat) (s : Int32), a ≤ 4 → okLb b → n + 1 ≤ N → pE (pb (pL tp φ a (n + 1) w) fun x => pb (pL tp φ b x.2 w) fun y => .ok (x.1 ++ (s :: y.1), y.2)) (fun _ m => n ≤ m ∧ m ≤ N) (fun c m => n + c.length ≤ m ∧ m ≤ N ∧ (lab ≤ 4 → 1 ≤ c.length)) := by
      intro a b n w lab s ha hb hn
      refine pE_b (ih a (n + 1) w (Or.inl (by omega)) hn) (fun _ _ h => by omega) (fun c m ⟨h1, h2, h3⟩ => ?_)
      refine pE_b (ih b m w hb h2) (fun _ _ h => by omega) (fun c2 m2 ⟨h4, h5, h6⟩ => ?_)
      show _ + (c ++ s :: c2).length ≤ m2 ∧ m2 ≤ N ∧ (_ → 1 ≤ (c ++ s :: c2).length)
      rw [List.length_append, List.length_cons]; omega
    have nil : ∀ (n lab : Nat), 5 ≤ lab → n ≤ N → pE (.ok ([], n)) (fun _ m => n ≤ m ∧ m ≤ N) (fun c m => n + c.length ≤ m ∧ m ≤ N ∧ (lab ≤ 4 → 1 ≤ c.length)) := fun n lab hl hn => ⟨Nat.le_refl _, hn, fun h => by omega⟩
    intro lab n w hlb hn
    have o : ∀ a, a ≤ 4 → okLb a := fun a h => Or.inl (by omega)
    rcases (show lab = 0 ∨ lab = 1 ∨ lab = 2 ∨ lab = 3 ∨ lab = 4 ∨ lab = 5 ∨ lab = 9 ∨ lab = 12 by unfold okLb at hlb; omega) with rfl | rfl | rfl | rfl | rfl | rfl | rfl | rfl
    · rw [pL_0]
      exact two 1 5 n w _ (by omega) (Or.inl (by omega)) hn
    · rw [pL_1]
      refine pE_b (ih 2 n w (o _ (by omega)) hn) (fun _ _ h => h) (fun c m ⟨h1, h2, h3⟩ => ?_)
      refine pE_i (fun h => ?_) (fun _ => ⟨h1, h2, fun _ => h3 (by omega)⟩)
      have hm : m + 1 ≤ N := by
        rcases h with h | h <;> exact qS.s hN h2 h
      refine pE_b (ih 2 (m + 1) w (o _ (by omega)) hm) (fun _ _ h => by omega) (fun c2 m2 ⟨h4, h5, h6⟩ => ?_)
      show _ + (c ++ (c2 ++ [_])).length ≤ m2 ∧ m2 ≤ N ∧ (_ → 1 ≤ (c ++ (c2 ++ [_])).length)
      rw [List.length_append, List.length_append, List.length_singleton]; omega
    · rw [pL_2]
      exact two 3 9 n w _ (by omega) (Or.inr (Or.inl rfl)) hn
    · rw [pL_3]
      exact two 4 12 n w _ (by omega) (Or.inr (Or.inr rfl)) hn
    · rw [pL_4]
      refine pE_i (fun h0 => ?_) (fun _ => ⟨Nat.le_refl _, hn⟩)
      have hs : n + 1 ≤ N := by
        rcases h0 with h | h | h | h
        · exact qN.s hN hn h
        · exact qF.s hN hn h
        · exact qW.s hN hn h
        · exact qS.s hN hn h
      refine pE_i (fun _ => ⟨Nat.le_refl _, hn⟩) (fun _ => ?_)
      refine pE_i (fun _ => ⟨Nat.le_refl _, hs, fun _ => Nat.le_refl _⟩) (fun _ => ?_)
      refine pE_i (fun _ => ⟨Nat.le_refl _, hs, fun _ => Nat.le_refl _⟩) (fun _ => ?_)
      refine pE_i (fun _ => ?_) (fun _ => ?_)
      · refine pE_b (ih 0 (n + 1) (w + 1) (o _ (by omega)) hs) (fun _ _ h => by omega) (fun c m ⟨h1, h2, h3⟩ => ?_)
        refine pE_i (fun h => ?_) (fun h => ?_)
        · have := qS.s hN h2 h
          exact ⟨by show n + c.length ≤ m + 1; omega, this, fun _ => h3 (by omega)⟩
        · exact ⟨by show n ≤ m; omega, h2⟩
      · refine pE_b (ih 4 (n + 1) (w + 1) (o _ (by omega)) hs) (fun _ _ h => by omega) (fun c m ⟨h1, h2, h3⟩ => ?_)
        show _ + (c ++ [_]).length ≤ m ∧ m ≤ N ∧ (_ → 1 ≤ (c ++ [_]).length)
        rw [List.length_append, List.length_singleton]; omega
    · rw [pL_5]
      refine pE_i (fun h => lp 1 5 n w _ _ (by omega) (Or.inl (by omega)) ?_) (fun _ => nil _ _ (by omega) hn)
      rcases h with h | h <;> exact qW.s hN hn h
    · rw [pL_9]
      refine pE_i (fun h => lp 3 9 n w _ _ (by omega) (Or.inr (Or.inl rfl)) ?_) (fun _ => nil _ _ (by omega) hn)
      rcases h with h | h <;> exact qS.s hN hn h
    · rw [pL_12]
      exact pE_i (fun h => lp 4 12 n w _ _ (by omega) (Or.inr (Or.inr rfl)) (qS.s hN hn h)) (fun _ => nil _ _ (by omega) hn)
/-- the row of values under the steps -/
def stk (lab w : Nat) : Nat := 4 * (5 - w) + 1 + (if lab ≤ 4 then 4 - lab else if lab = 5 then 4 else if lab = 9 then 2 else 1)
theorem cok_op {s : Int32} {cs : List Int32} {d : Nat} (h1 : s ≤ (-5 : Int32)) (h2 : s ≠ (-5 : Int32)) (hd : 2 ≤ d) (h : cok cs (d - 1)) : cok (s :: cs) d := by
  show (if s ≤ (-5 : Int32) then (if s = (-5 : Int32) then 1 ≤ d ∧ cok cs d else 2 ≤ d ∧ cok cs (d - 1)) else d < 32 ∧ cok cs (d + 1))
  rw [if_pos h1, if_neg h2]
  exact ⟨hd, h⟩
theorem cok_not {cs : List Int32} {d : Nat} (hd : 1 ≤ d) (h : cok cs d) : cok ((-5) :: cs) d := by
  show (if (-5 : Int32) ≤ (-5 : Int32) then (if (-5 : Int32) = (-5 : Int32) then 1 ≤ d ∧ cok cs d else 2 ≤ d ∧ cok cs (d - 1)) else d < 32 ∧ cok cs (d + 1))
  rw [if_pos (by decide), if_pos rfl]
  exact ⟨hd, h⟩
theorem cok_leaf {s : Int32} {cs : List Int32} {d : Nat} (h1 : ¬ s ≤ (-5 : Int32)) (hd : d < 32) (h : cok cs (d + 1)) : cok (s :: cs) d := by
  show (if s ≤ (-5 : Int32) then (if s = (-5 : Int32) then 1 ≤ d ∧ cok cs d else 2 ≤ d ∧ cok cs (d - 1)) else d < 32 ∧ cok cs (d + 1))
  rw [if_neg h1]
  exact ⟨hd, h⟩
theorem k10_dg {tp : List Nat} {i : Nat} : ∀ n, n ≤ 4 → (∀ k, k < n → isG (cAt tp (i + k)) = true) → k10 (dg tp i n) < 10 ^ n
  | 0, _, _ => by show (0 : Nat) < 1; omega
  | n + 1, h, hk => by
    rw [dg_s, k10_s]
    have h1 := k10_dg n (by omega) (fun k hk2 => hk k (by omega))
    have h2 := of_decide_eq_true (hk n (by omega))
    rw [Nat.pow_succ]
    omega
theorem tk_n {n : Nat} (h : (tk tp n).1 = 2) : (tk tp n).2.2 < 10000 := by
  revert h
  show (tK tp (tP tp n)).1 = 2 → (tK tp (tP tp n)).2.2 < 10000
  generalize tP tp n = i
  unfold tK
  by_cases c0 : tp.length ≤ i
  · rw [if_pos c0]; intro h; exact absurd h (by simp)
  rw [if_neg c0]
  by_cases cL : isL (cAt tp i) = true
  · rw [if_pos cL]
    split
    · intro h; exact absurd h (by simp)
    · intro h; exact absurd h (by simp)
  rw [if_neg cL]
  by_cases cG : isG (cAt tp i) = true
  · rw [if_pos cG]
    have eE : tE tp i = en isG tp i := by unfold tE; rw [if_neg c0, if_neg cL, if_pos cG]
    rw [eE]
    by_cases c8 : en isG tp i - i ≤ 4
    · rw [if_pos c8]
      intro _
      have h1 := k10_dg (tp := tp) (i := i) _ c8 (fun k hk => en_in _ i (i + k) rfl (by omega) (by omega))
      exact Nat.lt_of_lt_of_le h1 (Nat.pow_le_pow_right (n := 10) (by omega) c8)
    · rw [if_neg c8]; intro h; exact absurd h (by simp)
  rw [if_neg cG]
  split
  · intro h; exact absurd h (by simp)
  · intro h; exact absurd h (by simp)
theorem zval_f {l : List Nat} (h : l = kwd 27 ∨ l = kwd 28 ∨ l = kwd 29 ∨ l = kwd 30) : ¬ zval (wdO l) ≤ (-5 : Int32) := by
  rcases h with h | h | h | h <;> subst h <;> decide +kernel
theorem qF_l {n : Nat} (h : qF tp n = true) : (tk tp n).1 = 1 ∧ ((tk tp n).2.1 = kwd 27 ∨ (tk tp n).2.1 = kwd 28 ∨ (tk tp n).2.1 = kwd 29 ∨ (tk tp n).2.1 = kwd 30) := by
  unfold qF qW at h
  simp only [Bool.or_eq_true, Bool.and_eq_true, beq_iff_eq] at h
  rcases h with ((h | h) | h) | h
  · exact ⟨h.1, Or.inl h.2⟩
  · exact ⟨h.1, Or.inr (Or.inl h.2)⟩
  · exact ⟨h.1, Or.inr (Or.inr (Or.inl h.2))⟩
  · exact ⟨h.1, Or.inr (Or.inr (Or.inr h.2))⟩
theorem pL_cok : ∀ (φ lab n w : Nat), okLb lab → pE (pL tp φ lab n w) (fun _ _ => True) (fun c _ => ∀ d rest, (if lab ≤ 4 then d else d - 1) + stk lab w ≤ 32 → (5 ≤ lab → 1 ≤ d) → cok rest (if lab ≤ 4 then d + 1 else d) → cok (c ++ rest) d) := by
  intro φ
  induction φ with
  | zero => intro lab n w _; exact True.intro
  | succ φ ih =>
    intro lab n w hlb
    have o : ∀ a, a ≤ 4 → okLb a := fun a h => Or.inl (by omega)
    have T : ∀ (a b : Nat), True → True := fun _ _ h => h
    rcases (show lab = 0 ∨ lab = 1 ∨ lab = 2 ∨ lab = 3 ∨ lab = 4 ∨ lab = 5 ∨ lab = 9 ∨ lab = 12 by unfold okLb at hlb; omega) with rfl | rfl | rfl | rfl | rfl | rfl | rfl | rfl
    · rw [pL_0]
      refine pE_b (ih 1 n w (o _ (by omega))) T (fun c m h1 => pE_b (ih 5 m w (Or.inl (by omega))) T (fun c2 m2 h2 => ?_))
      intro d rest hd _ hr
      rw [List.append_assoc]
      refine h1 d _ (by simp [stk] at hd ⊢; omega) (fun h => absurd h (by omega)) ?_
      exact h2 (d + 1) _ (by simp [stk] at hd ⊢; omega) (fun _ => by omega) hr
    · rw [pL_1]
      refine pE_b (ih 2 n w (o _ (by omega))) T (fun c m h1 => pE_i (fun hc => pE_b (ih 2 (m + 1) w (o _ (by omega))) T (fun c2 m2 h2 => ?_)) (fun _ => ?_))
      · intro d rest hd _ hr
        rw [List.append_assoc, List.append_assoc]
        refine h1 d _ (by simp [stk] at hd ⊢; omega) (fun h => absurd h (by omega)) ?_
        refine h2 (d + 1) _ (by simp [stk] at hd ⊢; omega) (fun h => absurd h (by omega)) ?_
        exact cok_op (by split <;> decide) (by split <;> decide) (by show 2 ≤ d + 1 + 1; omega) hr
      · intro d rest hd _ hr
        exact h1 d _ (by simp [stk] at hd ⊢; omega) (fun h => absurd h (by omega)) hr
    · rw [pL_2]
      refine pE_b (ih 3 n w (o _ (by omega))) T (fun c m h1 => pE_b (ih 9 m w (Or.inr (Or.inl rfl))) T (fun c2 m2 h2 => ?_))
      intro d rest hd _ hr
      rw [List.append_assoc]
      refine h1 d _ (by simp [stk] at hd ⊢; omega) (fun h => absurd h (by omega)) ?_
      exact h2 (d + 1) _ (by simp [stk] at hd ⊢; omega) (fun _ => by omega) hr
    · rw [pL_3]
      refine pE_b (ih 4 n w (o _ (by omega))) T (fun c m h1 => pE_b (ih 12 m w (Or.inr (Or.inr rfl))) T (fun c2 m2 h2 => ?_))
      intro d rest hd _ hr
      rw [List.append_assoc]
      refine h1 d _ (by simp [stk] at hd ⊢; omega) (fun h => absurd h (by omega)) ?_
      exact h2 (d + 1) _ (by simp [stk] at hd ⊢; omega) (fun _ => by omega) hr
    · rw [pL_4]
      refine pE_i (fun h0 => ?_) (fun _ => True.intro)
      refine pE_i (fun _ => True.intro) (fun hw => ?_)
      refine pE_i (fun hq => ?_) (fun _ => ?_)
      · intro d rest hd _ hr
        have hn : (tk tp n).1 = 2 := by unfold qN at hq; simpa using hq
        have hb := tk_n hn
        refine cok_leaf (fun h => ?_) (by simp [stk] at hd; omega) hr
        have h5 := Int32.le_iff_toInt_le.mp h
        rw [nI_toInt (by omega)] at h5
        have : (-5 : Int32).toInt = -5 := by decide
        omega
      refine pE_i (fun hq => ?_) (fun _ => ?_)
      · intro d rest hd _ hr
        exact cok_leaf (zval_f (qF_l hq).2) (by simp [stk] at hd; omega) hr
      refine pE_i (fun hq => ?_) (fun _ => ?_)
      · refine pE_b (ih 0 (n + 1) (w + 1) (o _ (by omega))) T (fun c m h1 => pE_i (fun _ => ?_) (fun _ => True.intro))
        intro d rest hd _ hr
        exact h1 d rest (by simp [stk] at hd ⊢; omega) (fun h => absurd h (by omega)) hr
      · refine pE_b (ih 4 (n + 1) (w + 1) (o _ (by omega))) T (fun c m h1 => ?_)
        intro d rest hd _ hr
        rw [List.append_assoc]
        refine h1 d _ (by simp [stk] at hd ⊢; omega) (fun h => absurd h (by omega)) ?_
        exact cok_not (by show 1 ≤ d + 1; omega) hr
    · rw [pL_5]
      refine pE_i (fun hc => pE_b (ih 1 (n + 1) w (o _ (by omega))) T (fun c m h1 => pE_b (ih 5 m w (Or.inl (by omega))) T (fun c2 m2 h2 => ?_))) (fun _ => ?_)
      · intro d rest hd h1d hr
        have := h1d (by omega)
        rw [List.append_assoc]
        refine h1 d _ (by simp [stk] at hd ⊢; omega) (fun h => absurd h (by omega)) ?_
        exact cok_op (by split <;> decide) (by split <;> decide) (by show 2 ≤ d + 1; omega) (h2 d _ hd h1d hr)
      · intro d rest hd h1d hr
        exact hr
    · rw [pL_9]
      refine pE_i (fun hc => pE_b (ih 3 (n + 1) w (o _ (by omega))) T (fun c m h1 => pE_b (ih 9 m w (Or.inr (Or.inl rfl))) T (fun c2 m2 h2 => ?_))) (fun _ => ?_)
      · intro d rest hd h1d hr
        have := h1d (by omega)
        rw [List.append_assoc]
        refine h1 d _ (by simp [stk] at hd ⊢; omega) (fun h => absurd h (by omega)) ?_
        exact cok_op (by split <;> decide) (by split <;> decide) (by show 2 ≤ d + 1; omega) (h2 d _ hd h1d hr)
      · intro d rest hd h1d hr
        exact hr
    · rw [pL_12]
      refine pE_i (fun hc => pE_b (ih 4 (n + 1) w (o _ (by omega))) T (fun c m h1 => pE_b (ih 12 m w (Or.inr (Or.inr rfl))) T (fun c2 m2 h2 => ?_))) (fun _ => ?_)
      · intro d rest hd h1d hr
        have := h1d (by omega)
        rw [List.append_assoc]
        refine h1 d _ (by simp [stk] at hd ⊢; omega) (fun h => absurd h (by omega)) ?_
        exact cok_op (by decide) (by decide) (by show 2 ≤ d + 1; omega) (h2 d _ hd h1d hr)
      · intro d rest hd h1d hr
        exact hr
end PL

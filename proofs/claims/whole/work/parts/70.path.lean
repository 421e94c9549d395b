/-! a path, read from tokens: the spec -/
theorem pE_2 {r : pR} {E E2 : Nat → Nat → Prop} {K K2 : List Int32 → Nat → Prop} (h : pE r E K) (h2 : pE r E2 K2) : pE r (fun a b => E a b ∧ E2 a b) (fun a b => K a b ∧ K2 a b) := by
  rcases r with e | x
  · exact ⟨h, h2⟩
  · exact ⟨h, h2⟩
theorem pL_e {tp : List Nat} {N : Nat} (hN : nT tp N) : ∀ (φ lab n w : Nat), okLb lab → n ≤ N → 8 * (1001 - n) + lrk lab + 1 ≤ φ → pE (pL tp φ lab n w) (fun k _ => 1 ≤ k ∧ k ≤ 5) (fun _ _ => True) := by
  have hN1 := hN.1
  intro φ
  induction φ with
  | zero => intro lab n w _ hn h; omega
  | succ φ ih =>
    have at' : ∀ (a n w : Nat), okLb a → n ≤ N → 8 * (1001 - n) + lrk a + 1 ≤ φ → pE (pL tp φ a n w) (fun k _ => 1 ≤ k ∧ k ≤ 5) (fun c m => n ≤ m ∧ m ≤ N ∧ (a ≤ 4 → n < m)) := fun a n w ha hn hf =>
      pE_m (pE_2 (ih a n w ha hn hf) (pL_len hN φ a n w ha hn)) (fun _ _ h => h.1) (fun c m h => by obtain ⟨_, h1, h2, h3⟩ := h; exact ⟨by omega, h2, fun h => by have := h3 h; omega⟩)
    have lr5 : lrk 5 = 0 := rfl
    have lr9 : lrk 9 = 0 := rfl
    have lr12 : lrk 12 = 0 := rfl
    have lr0 : lrk 0 = 5 := rfl
    have lr1 : lrk 1 = 4 := rfl
    have lr2 : lrk 2 = 3 := rfl
    have lr3 : lrk 3 = 2 := rfl
    have lr4 : lrk 4 = 1 := rfl
    have two : ∀ (a b n w : Nat), a ≤ 4 → okLb b → lrk b = 0 → n ≤ N → 8 * (1001 - n) + lrk a + 1 ≤ φ → pE (pb (pL tp φ a n w) fun x => pb (pL tp φ b x.2 w) fun y => .ok (x.1 ++ y.1, y.2)) (fun k _ => 1 ≤ k ∧ k ≤ 5) (fun _ _ => True) := by
      intro a b n w ha hb hb0 hn hf
      refine pE_b (at' a n w (Or.inl (by omega)) hn hf) (fun _ _ h => h) (fun c m ⟨h1, h2, h3⟩ => ?_)
      have := h3 ha
      refine pE_b (at' b m w hb h2 (by omega)) (fun _ _ h => h) (fun c2 m2 _ => True.intro)
    have lp : ∀ (a b n w : Nat) (s : Int32), a ≤ 4 → okLb b → lrk b = 0 → lrk a ≤ 5 → n + 1 ≤ N → 8 * (1001 - n) ≤ φ → pE (pb (pL tp φ a (n + 1) w) fun x => pb (pL tp φ b x.2 w) fun y => .ok (x.1 ++ (s :: y.1), y.2)) (fun k _ => 1 ≤ k ∧ k ≤ 5) (fun _ _ => True) := by
      intro a b n w s ha hb hb0 ha5 hn hf
      refine pE_b (at' a (n + 1) w (Or.inl (by omega)) hn (by omega)) (fun _ _ h => h) (fun c m ⟨h1, h2, h3⟩ => ?_)
      have := h3 ha
      refine pE_b (at' b m w hb h2 (by omega)) (fun _ _ h => h) (fun c2 m2 _ => True.intro)
    intro lab n w hlb hn hf
    have o : ∀ a, a ≤ 4 → okLb a := fun a h => Or.inl (by omega)
    rcases (show lab = 0 ∨ lab = 1 ∨ lab = 2 ∨ lab = 3 ∨ lab = 4 ∨ lab = 5 ∨ lab = 9 ∨ lab = 12 by unfold okLb at hlb; omega) with rfl | rfl | rfl | rfl | rfl | rfl | rfl | rfl
    · rw [pL_0]
      exact two 1 5 n w (by omega) (Or.inl (by omega)) rfl hn (by omega)
    · rw [pL_1]
      refine pE_b (at' 2 n w (o _ (by omega)) hn (by omega)) (fun _ _ h => h) (fun c m ⟨h1, h2, h3⟩ => ?_)
      refine pE_i (fun h => ?_) (fun _ => True.intro)
      have hm : m + 1 ≤ N := by
        rcases h with h | h <;> exact qS.s hN h2 h
      have := h3 (by omega)
      exact pE_b (at' 2 (m + 1) w (o _ (by omega)) hm (by omega)) (fun _ _ h => h) (fun c2 m2 _ => True.intro)
    · rw [pL_2]
      exact two 3 9 n w (by omega) (Or.inr (Or.inl rfl)) rfl hn (by omega)
    · rw [pL_3]
      exact two 4 12 n w (by omega) (Or.inr (Or.inr rfl)) rfl hn (by omega)
    · rw [pL_4]
      refine pE_i (fun h0 => ?_) (fun _ => ⟨by omega, by omega⟩)
      have hs : n + 1 ≤ N := by
        rcases h0 with h | h | h | h
        · exact qN.s hN hn h
        · exact qF.s hN hn h
        · exact qW.s hN hn h
        · exact qS.s hN hn h
      refine pE_i (fun _ => ⟨by omega, by omega⟩) (fun _ => ?_)
      refine pE_i (fun _ => True.intro) (fun _ => ?_)
      refine pE_i (fun _ => True.intro) (fun _ => ?_)
      refine pE_i (fun _ => ?_) (fun _ => ?_)
      · refine pE_b (at' 0 (n + 1) (w + 1) (o _ (by omega)) hs (by omega)) (fun _ _ h => h) (fun c m _ => ?_)
        exact pE_i (fun _ => True.intro) (fun _ => ⟨by omega, by omega⟩)
      · exact pE_b (at' 4 (n + 1) (w + 1) (o _ (by omega)) hs (by omega)) (fun _ _ h => h) (fun c m _ => True.intro)
    · rw [pL_5]
      refine pE_i (fun h => ?_) (fun _ => True.intro)
      exact lp 1 5 n w _ (by omega) (Or.inl (by omega)) rfl (by omega) (by rcases h with h | h <;> exact qW.s hN hn h) (by omega)
    · rw [pL_9]
      refine pE_i (fun h => ?_) (fun _ => True.intro)
      exact lp 3 9 n w _ (by omega) (Or.inr (Or.inl rfl)) rfl (by omega) (by rcases h with h | h <;> exact qS.s hN hn h) (by omega)
    · rw [pL_12]
      refine pE_i (fun h => ?_) (fun _ => True.intro)
      exact lp 4 12 n w _ (by omega) (Or.inr (Or.inr rfl)) rfl (by omega) (qS.s hN hn h) (by omega)
/-- plan, names, what was told once, heaps told -/
abbrev aQ : Type := aP × (Nat → List Nat) × (Nat → Bool) × (Nat → Bool)
abbrev eR (α : Type) : Type := Except (Nat × Nat) (α × Nat)
def eb {α β : Type} (r : eR α) (k : α → Nat → eR β) : eR β := match r with
  | .error e => .error e
  | .ok x => k x.1 x.2
def eE {α : Type} (r : eR α) (E : Nat → Nat → Prop) (K : α → Nat → Prop) : Prop := match r with
  | .error e => E e.1 e.2
  | .ok x => K x.1 x.2
section EE
variable {α β : Type} {r : eR α} {E E2 : Nat → Nat → Prop} {K : α → Nat → Prop}
theorem eE_b {k : α → Nat → eR β} {K2 : β → Nat → Prop} (h : eE r E K) (h1 : ∀ a b, E a b → E2 a b) (h2 : ∀ c m, r = .ok (c, m) → K c m → eE (k c m) E2 K2) : eE (eb r k) E2 K2 := by
  rcases r with e | ⟨c, m⟩
  · exact h1 _ _ h
  · exact h2 _ _ rfl h
theorem eE_i {c : Prop} {_ : Decidable c} {a b : eR α} (h1 : c → eE a E K) (h2 : ¬ c → eE b E K) : eE (if c then a else b) E K := by
  by_cases h : c
  · rw [if_pos h]; exact h1 h
  · rw [if_neg h]; exact h2 h
theorem eE_m {E2 : Nat → Nat → Prop} {K2 : α → Nat → Prop} (h : eE r E K) (h1 : ∀ a b, E a b → E2 a b) (h2 : ∀ c m, K c m → K2 c m) : eE r E2 K2 := by
  rcases r with e | x
  · exact h1 _ _ h
  · exact h2 _ _ h
end EE
def tS (T : Nat → Nat → Nat) (a i v : Nat) : Nat → Nat → Nat := fun x y => if x = a ∧ y = i then v else T x y
def yQ (Q : aQ) (v : Nat) : aQ := (((v, pN Q.1, pW Q.1), Q.1.2), Q.2)
def cQ (Q : aQ) (v : Nat) : aQ := ((Q.1.1, pT Q.1, (v, pDe Q.1), Q.1.2.2.2), Q.2)
def fQ (Q : aQ) (v : Nat) : aQ := ((Q.1.1, pT Q.1, (pPe Q.1, v), Q.1.2.2.2), Q.2)
def lD (Q : aQ) (cs : List Int32) : aQ := ((Q.1.1, pT Q.1, Q.1.2.2.1, (some cs, pTk Q.1)), Q.2)
def lT (Q : aQ) (cs : List Int32) : aQ := ((Q.1.1, pT Q.1, Q.1.2.2.1, (pDr Q.1, some cs)), Q.2)
def wQ (Q : aQ) (k : Nat) (T : Nat → Nat → Nat) : aQ := (((pY Q.1, pN Q.1, k), T, Q.1.2.2), Q.2)
def tQ (Q : aQ) (a i v : Nat) : aQ := ((Q.1.1, tS (pT Q.1) a i v, Q.1.2.2), Q.2)
def oQ (Q : aQ) (k : Nat) : aQ := (Q.1, Q.2.1, up1 Q.2.2.1 k true, Q.2.2.2)
def hQ (Q : aQ) (i v : Nat) : aQ := ((Q.1.1, tS (pT Q.1) 4 i v, Q.1.2.2), Q.2.1, Q.2.2.1, up1 Q.2.2.2 i true)
def nQ (Q : aQ) (l : List Nat) (k c b : Nat) : aQ := (((pY Q.1, pN Q.1 + 1, pW Q.1), tS (tS (tS (pT Q.1) 0 (pN Q.1) k) 1 (pN Q.1) c) 2 (pN Q.1) b, Q.1.2.2), up1 Q.2.1 (pN Q.1) l, Q.2.2)
def wO (tp : List Nat) (n : Nat) : Nat := if (tk tp n).1 = 1 then wdO (tk tp n).2.1 else 0
def xNum (tp : List Nat) (n a b : Nat) : eR Nat := if nW tp n a b = 0 then .ok ((tk tp n).2.2, n + 1) else .error (nW tp n a b, n)
def xWrd (tp : List Nat) (n q : Nat) : eR Unit := if qW tp n q = true then .ok ((), n + 1) else .error (1, n)
def xKnd (tp : List Nat) (n : Nat) : eR Nat := if 20 ≤ wO tp n ∧ wO tp n ≤ 23 then .ok (wO tp n - 20, n + 1) else .error (1, n)
def xNam (tp : List Nat) (Q : aQ) (n : Nat) : eR (List Nat) := if qA tp n = true then (if nmO Q.2.1 (tk tp n).2.1 (pN Q.1) 0 = none then .ok ((tk tp n).2.1, n + 1) else .error (3, n)) else .error (1, n)
def xPer (tp : List Nat) (Q : aQ) (n : Nat) : eR aQ := eb (xNam tp Q n) fun l m => eb (xKnd tp m) fun k m => eb (xWrd tp m 9) fun _ m => eb (xNum tp m 0 9) fun c m => eb (xWrd tp m 10) fun _ m => eb (xNum tp m 0 9) fun b m => .ok (nQ Q l k c b, m)
def xBin (tp : List Nat) (Q : aQ) (n : Nat) : eR aQ := eb (xNum tp n 0 7) fun y m => if 0 < pT Q.1 3 y then .error (3, n) else eb (xWrd tp m 12) fun _ m => eb (xNum tp m 1 30) fun v m => .ok (tQ Q 3 y v, m)
def xHea (tp : List Nat) (Q : aQ) (n : Nat) : eR aQ := eb (xNum tp n 0 7) fun y m => if Q.2.2.2 y = true then .error (3, n) else eb (xNum tp m 0 99) fun v m => .ok (hQ Q y v, m)
def xWn (tp : List Nat) : Nat → Nat → (Nat → Nat → Nat) → Nat → eR (Nat × (Nat → Nat → Nat))
  | 0, _, _, n => .error (0, n)
  | φ + 1, k, T, n => if k = 0 ∨ qN tp n = true then eb (xNum tp n 0 2) fun v m => if 12 ≤ k then .error (5, n) else xWn tp φ (k + 1) (tS T 5 k v) m else .ok ((k, T), n)
def xLaw (tp : List Nat) (n : Nat) : eR (List Int32) := pL tp 9000 0 n 0
def xBe (tp : List Nat) (Q : aQ) (w n : Nat) : eR aQ :=
  if w = 2 then eb (xNum tp n 2 8) fun v m => .ok (yQ Q v, m)
  else if w = 8 then xPer tp Q n
  else if w = 11 then xBin tp Q n
  else if w = 13 then xHea tp Q n
  else if w = 3 then eb (xWn tp 13 0 (pT Q.1) n) fun x m => .ok (wQ Q x.1 x.2, m)
  else if w = 4 then eb (xNum tp n 0 99) fun v m => .ok (cQ Q v, m)
  else if w = 5 then eb (xNum tp n 0 9) fun v m => .ok (fQ Q v, m)
  else if w = 6 then eb (xLaw tp n) fun c m => .ok (lD Q c, m)
  else eb (xLaw tp n) fun c m => .ok (lT Q c, m)
def xSem (tp : List Nat) (n : Nat) : eR Unit := if qS tp n 59 = true then .ok ((), n + 1) else .error (1, n)
/-- the word that begins a line, and what it asks -/
def xHd (tp : List Nat) (Q : aQ) (n : Nat) : eR aQ :=
  if 2 ≤ wO tp n ∧ wO tp n ≤ 7 then (if Q.2.2.1 (wO tp n - 2) = true then .error (3, n) else .ok (oQ Q (wO tp n - 2), n + 1))
  else if wO tp n = 8 then (if 6 ≤ pN Q.1 then .error (5, n) else .ok (Q, n + 1))
  else if wO tp n = 11 ∨ wO tp n = 13 then .ok (Q, n + 1) else .error (1, n)
def xLn (tp : List Nat) (Q : aQ) (n : Nat) : eR aQ := eb (xHd tp Q n) fun Q1 m => eb (xBe tp Q1 (wO tp n) m) fun Q2 m => eb (xSem tp m) fun _ m => .ok (Q2, m)
def xAl (tp : List Nat) : Nat → aQ → Nat → eR aQ
  | 0, _, n => .error (0, n)
  | φ + 1, Q, n => if (tk tp n).1 = 0 then .ok (Q, n) else eb (xLn tp Q n) fun Q m => xAl tp φ Q m

/-! the state of both, and what holds of it -/
def Fg (D : Nat → Nat → Prop) (R : Nat → Prop) (S T : aS) : Prop := (∀ q k, ¬ D q k → gI T q k = gI S q k ∧ gJ T q k = gJ S q k) ∧ (∀ q k, ¬ R q → gR T q k = gR S q k)
theorem Fr.g {D : Nat → Nat → Prop} {S T : aS} (h : Fr D S T) : Fg D (fun _ => False) S T := ⟨fun q k n => ⟨h.2 q k n, h.J q k⟩, fun q k _ => h.R q k⟩
theorem Fg.mono {D E : Nat → Nat → Prop} {R R2 : Nat → Prop} {S T : aS} (h : Fg D R S T) (h1 : ∀ q k, D q k → E q k) (h2 : ∀ q, R q → R2 q) : Fg E R2 S T := ⟨fun q k n => h.1 q k (fun d => n (h1 q k d)), fun q k n => h.2 q k (fun d => n (h2 q d))⟩
theorem Fg.tr {D : Nat → Nat → Prop} {R : Nat → Prop} {S T U : aS} (h : Fg D R S T) (h2 : Fg D R T U) : Fg D R S U := ⟨fun q k n => ⟨(h2.1 q k n).1.trans (h.1 q k n).1, (h2.1 q k n).2.trans (h.1 q k n).2⟩, fun q k n => (h2.2 q k n).trans (h.2 q k n)⟩
theorem Fg.refl {D : Nat → Nat → Prop} {R : Nat → Prop} (S : aS) : Fg D R S S := ⟨fun _ _ _ => ⟨rfl, rfl⟩, fun _ _ _ => rfl⟩
theorem Fg.I {D : Nat → Nat → Prop} {R : Nat → Prop} {S T : aS} (h : Fg D R S T) {q k : Nat} (n : ¬ D q k) : gI T q k = gI S q k := (h.1 q k n).1
theorem Fg.sI {D : Nat → Nat → Prop} {R : Nat → Prop} {S T U : aS} {p j : Nat} {v : Int32} (h : Fg D R S T) (e : U = sI T p j v) (hd : D p j) : Fg D R S U := by
  subst e
  refine ⟨fun q k n => ?_, fun q k n => h.2 q k n⟩
  rw [gI_sI, if_neg (fun ⟨a, b⟩ => n (by rw [a, b]; exact hd))]
  exact h.1 q k n
theorem Fg.sJ {D : Nat → Nat → Prop} {R : Nat → Prop} {S T U : aS} {p j : Nat} {v : Int64} (h : Fg D R S T) (e : U = sJ T p j v) (hd : D p j) : Fg D R S U := by
  subst e
  refine ⟨fun q k n => ?_, fun q k n => h.2 q k n⟩
  rw [gJ_sJ, if_neg (fun ⟨a, b⟩ => n (by rw [a, b]; exact hd))]
  exact h.1 q k n
theorem Fg.sR {D : Nat → Nat → Prop} {R : Nat → Prop} {S T U : aS} {p j v : Nat} (h : Fg D R S T) (e : U = sR T p j v) (hd : R p) : Fg D R S U := by
  subst e
  refine ⟨fun q k n => h.1 q k n, fun q k n => ?_⟩
  rw [gR_sR, if_neg (fun ⟨a, b⟩ => n (by rw [a]; exact hd))]
  exact h.2 q k n
section FGS
variable {S T : aS} {p q b y d : Nat} {P : aP} {L : Lk} {D : Nat → Nat → Prop} {R : Nat → Prop}
theorem LR.fg (h : LR S p) (hf : Fg D R S T) (hR : ¬ R p) : LR T p := by
  unfold LR
  rw [hf.2 _ _ hR, hf.2 _ _ hR, hf.2 _ _ hR]
  exact h
theorem LA.fg (h : LA S p y d L) (hf : Fg D R S T) (hD : ∀ x k, p ≤ x → x ≤ p + 3 → ¬ D x k) (hR : ¬ R p) : LA T p y d L := by
  obtain ⟨r, hy, hd, hc, hl, hh, hi⟩ := h
  refine ⟨r.fg hf hR, ?_, ?_, fun j hj => ?_, fun j hj => ?_, fun j hj => ?_, fun j hj => ?_⟩ <;> rw [hf.I (hD _ _ (by omega) (by omega))]
  · exact hy
  · exact hd
  · exact hc j hj
  · exact hl j hj
  · exact hh j hj
  · exact hi j hj
theorem CL.fg {o : Option (List Int32)} (h : CL S p o) (hf : Fg D R S T) (hD : ∀ k, ¬ D p k ∧ ¬ D (p + 1) k) (hR : ¬ R p) : CL T p o := by
  obtain ⟨hr, hn, hs⟩ := h
  refine ⟨by rw [hf.2 _ _ hR, hf.2 _ _ hR, hf.2 _ _ hR]; exact hr, by rw [hf.I (hD _).1]; exact hn, fun k hk => by rw [hf.I (hD _).2]; exact hs k hk⟩
theorem CP.fg (h : CP S q P) (hf : Fg D R S T) (hD : ∀ x k, q ≤ x → x ≤ q + 13 → x ≠ q + 10 → x ≠ q + 11 → ¬ D x k) (hR : ∀ x, q ≤ x → x ≤ q + 13 → ¬ R x) : CP T q P := by
  obtain ⟨hr, hi, hp, hy, hw, hd, ht⟩ := h
  have e : ∀ x k, q ≤ x → x ≤ q + 7 → gI T x k = gI S x k := fun x k h1 h2 => hf.I (hD x k h1 (by omega) (by omega) (by omega))
  refine ⟨by simp only [hf.2 _ _ (hR q (by omega) (by omega))]; exact hr, ?_, fun i hi => ?_, fun k hk => ?_, fun k hk => ?_, hd.fg hf (fun k => ⟨hD _ _ (by omega) (by omega) (by omega) (by omega), hD _ _ (by omega) (by omega) (by omega) (by omega)⟩) (hR _ (by omega) (by omega)), ht.fg hf (fun k => ⟨hD _ _ (by omega) (by omega) (by omega) (by omega), hD _ _ (by omega) (by omega) (by omega) (by omega)⟩) (hR _ (by omega) (by omega))⟩
  · rw [e _ _ (by omega) (by omega), e _ _ (by omega) (by omega), e _ _ (by omega) (by omega), e _ _ (by omega) (by omega), e _ _ (by omega) (by omega)]
    exact hi
  · rw [e _ _ (by omega) (by omega), e _ _ (by omega) (by omega), e _ _ (by omega) (by omega)]
    exact hp i hi
  · rw [e _ _ (by omega) (by omega), e _ _ (by omega) (by omega)]
    exact hy k hk
  · rw [e _ _ (by omega) (by omega)]
    exact hw k hk
theorem MR.fg (h : MR S) (hf : Fg D R S T) (hR : ¬ R 186) : MR T := fun k => by rw [hf.2 _ _ hR]; exact h k
theorem MLs.fg {j : Nat} {cs : List Int32} (h : MLs S j cs) (hf : Fg D R S T) (hD : ∀ q k, 193 ≤ q → q ≤ 194 → ¬ D q k) : MLs T j cs := by
  refine ⟨h.1, by rw [hf.I (hD _ _ (by omega) (by omega))]; exact h.2.1, fun k hk => ?_⟩
  rw [hf.I (hD _ _ (by omega) (by omega)), hf.I (hD _ _ (by omega) (by omega))]
  exact h.2.2 k hk
theorem ML.fg {x : Int32} {o : Option (List Int32)} (h : ML S x o) (hf : Fg D R S T) (hD : ∀ q k, 193 ≤ q → q ≤ 194 → ¬ D q k) : ML T x o := by
  rcases h with h | ⟨cs, j, e, e2, h⟩
  · exact Or.inl h
  · exact Or.inr ⟨cs, j, e, e2, h.fg hf hD⟩
theorem MM.fg (h : MM S P) (hf : Fg D R S T) (hD : ∀ q k, 192 ≤ q → q ≤ 194 → ¬ D q k) (hR : ¬ R 186) : MM T P := by
  obtain ⟨hr, h1, h2, h3, h4, h5, h6⟩ := h
  have e : ∀ k, gI T 192 k = gI S 192 k := fun k => hf.I (hD _ _ (by omega) (by omega))
  refine ⟨hr.fg hf hR, ?_, ?_, ?_, ?_, ?_, ?_⟩
  · simp only [e]; exact h1
  · simp only [e]; exact h2
  · simp only [e]; exact h3
  · simp only [e]; exact h4
  · rw [e]; exact h5.fg hf (fun q k a b => hD q k (by omega) b)
  · rw [e]; exact h6.fg hf (fun q k a b => hD q k (by omega) b)
theorem MA.fg (h : MA S b L) (hf : Fg D R S T) (hD : ∀ k, b ≤ k → k < b + 28 → ¬ D 200 k) : MA T b L := fun k hk => by
  rw [hf.I (hD _ (by omega) (by omega))]
  exact h k hk
end FGS
abbrev aF : Type := Nat → Int32
/-- (tape, names), (plan, lake, found), (undo, marks), day -/
abbrev aA : Type := (List Nat × (Nat → List Nat)) × (aP × Lk × aF) × (List Lk × (Nat → Option (Lk × aF))) × List (Nat × Nat × Nat)
abbrev tpA (A : aA) : List Nat := A.1.1
abbrev nmA (A : aA) : Nat → List Nat := A.1.2
abbrev plA (A : aA) : aP := A.2.1.1
abbrev lkA (A : aA) : Lk := A.2.1.2.1
abbrev fdA (A : aA) : aF := A.2.1.2.2
abbrev hiA (A : aA) : List Lk := A.2.2.1.1
abbrev mkA (A : aA) : Nat → Option (Lk × aF) := A.2.2.1.2
abbrev dyA (A : aA) : List (Nat × Nat × Nat) := A.2.2.2
def L0 : Lk := fun _ => 0
def k32 (l : List Nat) : Nat := l.foldl (fun a c => a * 32 + c) 0
def k37 (l : List Nat) : Nat := l.foldl (fun a c => 37 * a + c) 0
def okN (l : List Nat) : Prop := 1 ≤ l.length ∧ l.length ≤ 8 ∧ ∀ c, c ∈ l → 1 ≤ c ∧ c ≤ 26
def okD (P : aP) (x : Nat × Nat × Nat) : Prop := x.1 ≤ 5 ∧ (x.1 = 0 → x.2.1 < pN P) ∧ x.2.1 < 8 ∧ x.2.2 ≤ 30 ∧ (x.1 = 2 → 1 ≤ x.2.2)
def okF (P : aP) (fd : aF) : Prop := ∀ k, pY P ≤ k → fd k = -1000
/-- what holds of a state behind n calls -/
def AI (n : Nat) (A : aA) : Prop := ((tpA A).length ≤ 1000 ∧ (∀ c, c ∈ tpA A → c = 10 ∨ (32 ≤ c ∧ c ≤ 126)) ∧ ∀ i, i < pN (plA A) → okN (nmA A i) ∧ ∀ j, j < i → nmA A j ≠ nmA A i) ∧ (PI (plA A) ∧ LI n (lkA A) ∧ okF (plA A) (fdA A)) ∧ ((hiA A).length ≤ 16 ∧ (∀ L, L ∈ hiA A → LI n L) ∧ ∀ m x, mkA A m = some x → LI n x.1 ∧ okF (plA A) x.2) ∧ (dyA A).length ≤ 40 ∧ ∀ x, x ∈ dyA A → okD (plA A) x
theorem LI.up {n m : Nat} {L : Lk} (h : LI n L) (hm : n ≤ m) : LI m L := ⟨Nat.le_trans h.1 hm, h.2⟩
theorem AI.up {n m : Nat} {A : aA} (h : AI n A) (hm : n ≤ m) : AI m A := ⟨h.1, ⟨h.2.1.1, h.2.1.2.1.up hm, h.2.1.2.2⟩, ⟨h.2.2.1.1, fun L hL => (h.2.2.1.2.1 L hL).up hm, fun m x hx => ⟨(h.2.2.1.2.2 m x hx).1.up hm, (h.2.2.1.2.2 m x hx).2⟩⟩, h.2.2.2⟩
/-- the class -/
def CFd (S : aS) (p : Nat) (fd : aF) : Prop := gI S p 1 = nI (bs (fun k => fd k != -1000) 8) ∧ ∀ k, k < 8 → fd k ≠ -1000 → gI S (p + 1) k = fd k
def CHi (S : aS) (P : aP) (hi : List Lk) : Prop := ∃ nx, nx < 16 ∧ gI S 49 1 = nI nx ∧ gI S 49 2 = nI hi.length ∧ ∀ i, i < hi.length → LA S (51 + 4 * ((nx + 15 - i) % 16)) (pY P) (pDe P) (hi.getD i L0)
def CMk (S : aS) (P : aP) (mk : Nat → Option (Lk × aF)) : Prop := gI S 0 10 = nI (bs (fun k => (mk k).isSome) 4) ∧ ∀ m, m < 4 → ∀ x, mk m = some x → LA S (162 + 6 * m) (pY P) (pDe P) x.1 ∧ CFd S (166 + 6 * m) x.2
def CDl (S : aS) (t : Nat) (dy : List (Nat × Nat × Nat)) : Prop := gI S t 3 = nI dy.length ∧ ∀ i, i < dy.length → gI S (t + 1) i = nI (dy.getD i (0, 0, 0)).1 ∧ ((dy.getD i (0, 0, 0)).1 ≠ 5 → gI S (t + 2) i = nI (dy.getD i (0, 0, 0)).2.1) ∧ gI S (t + 3) i = nI (dy.getD i (0, 0, 0)).2.2
def CDy (S : aS) (dy : List (Nat × Nat × Nat)) : Prop := ∃ t, (t = 35 ∨ t = 39) ∧ gR S 0 3 = t ∧ gR S 0 4 = 74 - t ∧ CDl S t dy
def CTp (S : aS) (tp : List Nat) : Prop := gI S 1 1 = nI tp.length ∧ ∀ k, k < tp.length → gI S 2 k = nI (tp.getD k 0)
def CI (S : aS) (A : aA) : Prop := ∃ q, (CX S q (plA A) ∧ gR S 0 2 = 22 - q ∧ LA S 43 (pY (plA A)) (pDe (plA A)) (lkA A) ∧ CFd S 47 (fdA A)) ∧ (CHi S (plA A) (hiA A) ∧ CMk S (plA A) (mkA A)) ∧ CDy S (dyA A) ∧ CTp S (tpA A) ∧ ∀ i, i < pN (plA A) → gJ S (q + 1) i = lN (k32 (nmA A i))
/-- the reference -/
def MFd (S : aS) (b : Nat) (fd : aF) : Prop := ∀ k, k < 8 → gI S 200 (b + 28 + k) = fd k
def MHi (S : aS) (hi : List Lk) : Prop := gI S 186 23 = nI hi.length ∧ ∀ i, i < hi.length → MA S (36 * (5 + (hi.length - 1 - i))) (hi.getD i L0)
def MMk (S : aS) (mk : Nat → Option (Lk × aF)) : Prop := ∀ m, m < 4 → gI S 201 m = (if (mk m).isSome then 1 else 0) ∧ ∀ x, mk m = some x → MA S (36 * (1 + m)) x.1 ∧ MFd S (36 * (1 + m)) x.2
def MDy (S : aS) (dy : List (Nat × Nat × Nat)) : Prop := gI S 197 0 = nI dy.length ∧ ∀ i, i < dy.length → gI S 197 (1 + 3 * i) = nI (dy.getD i (0, 0, 0)).1 ∧ ((dy.getD i (0, 0, 0)).1 ≠ 5 → gI S 197 (2 + 3 * i) = nI (dy.getD i (0, 0, 0)).2.1) ∧ gI S 197 (3 + 3 * i) = nI (dy.getD i (0, 0, 0)).2.2
def MTp (S : aS) (tp : List Nat) : Prop := gI S 186 2 = nI tp.length ∧ ∀ k, k < tp.length → gI S 187 k = nI (tp.getD k 0)
def MI (S : aS) (A : aA) : Prop := (MM S (plA A) ∧ MA S 0 (lkA A) ∧ MFd S 0 (fdA A) ∧ gI S 186 25 = -1) ∧ (MHi S (hiA A) ∧ MMk S (mkA A)) ∧ MDy S (dyA A) ∧ MTp S (tpA A) ∧ (gI S 186 16 = nI (pN (plA A)) ∧ ∀ i, i < pN (plA A) → gJ S 195 i = lN (k37 (nmA A i))) ∧ ∀ k, k < 29 → gJ S 191 k = J0 191 k
abbrev dJ : Nat → Nat → Prop := fun x k => x = 13 ∨ x = 14 ∨ x = 17 ∨ x = 18 ∨ x = 29 ∨ x = 30 ∨ x = 33 ∨ x = 34 ∨ (117 ≤ x ∧ x ≤ 161)
abbrev mJ : Nat → Nat → Prop := fun x k => (x = 186 ∧ (k = 0 ∨ (26 ≤ k ∧ k ≤ 28) ∨ k = 33 ∨ k = 35)) ∨ x = 198 ∨ x = 199 ∨ (x = 200 ∧ 756 ≤ k) ∨ (202 ≤ x ∧ x ≤ 206)
section INV
variable {S T : aS} {A : aA} {D : Nat → Nat → Prop} {R : Nat → Prop} {p : Nat} {P : aP}
theorem CFd.fg {fd : aF} (h : CFd S p fd) (hf : Fg D R S T) (hD : ∀ k, ¬ D p k ∧ ¬ D (p + 1) k) : CFd T p fd := ⟨by rw [hf.I (hD _).1]; exact h.1, fun k hk hn => by rw [hf.I (hD _).2]; exact h.2 k hk hn⟩
theorem CHi.fg {hi : List Lk} (h : CHi S P hi) (hf : Fg D R S T) (hD : ∀ x k, 49 ≤ x → x ≤ 114 → ¬ D x k) (hR : ∀ x, 49 ≤ x → x ≤ 114 → ¬ R x) : CHi T P hi := by
  obtain ⟨nx, h0, h1, h2, h3⟩ := h
  refine ⟨nx, h0, by rw [hf.I (hD _ _ (by omega) (by omega))]; exact h1, by rw [hf.I (hD _ _ (by omega) (by omega))]; exact h2, fun i hi => (h3 i hi).fg hf (fun x k a b => hD x k (by omega) ?_) (hR _ (by omega) ?_)⟩
  · have := Nat.mod_lt (nx + 15 - i) (show 0 < 16 by omega); omega
  · have := Nat.mod_lt (nx + 15 - i) (show 0 < 16 by omega); omega
theorem CMk.fg {mk : Nat → Option (Lk × aF)} (h : CMk S P mk) (hf : Fg D R S T) (h0 : ¬ D 0 10) (hD : ∀ x k, 162 ≤ x → x ≤ 185 → ¬ D x k) (hR : ∀ x, 162 ≤ x → x ≤ 185 → ¬ R x) : CMk T P mk := by
  refine ⟨by rw [hf.I h0]; exact h.1, fun m hm x hx => ⟨(h.2 m hm x hx).1.fg hf (fun x k a b => hD x k (by omega) (by omega)) (hR _ (by omega) (by omega)), (h.2 m hm x hx).2.fg hf (fun k => ⟨hD _ _ (by omega) (by omega), hD _ _ (by omega) (by omega)⟩)⟩⟩
theorem CDl.fg {t : Nat} {dy : List (Nat × Nat × Nat)} (h : CDl S t dy) (hf : Fg D R S T) (hD : ∀ x k, t ≤ x → x ≤ t + 3 → ¬ D x k) : CDl T t dy := by
  refine ⟨by rw [hf.I (hD _ _ (by omega) (by omega))]; exact h.1, fun i hi => ?_⟩
  rw [hf.I (hD _ _ (by omega) (by omega)), hf.I (hD _ _ (by omega) (by omega)), hf.I (hD _ _ (by omega) (by omega))]
  exact h.2 i hi
theorem CDy.fg {dy : List (Nat × Nat × Nat)} (h : CDy S dy) (hf : Fg D R S T) (hD : ∀ x k, 35 ≤ x → x ≤ 42 → ¬ D x k) (hR : ¬ R 0) : CDy T dy := by
  obtain ⟨t, h0, h1, h2, h3⟩ := h
  exact ⟨t, h0, by rw [hf.2 _ _ hR]; exact h1, by rw [hf.2 _ _ hR]; exact h2, h3.fg hf (fun x k a b => hD x k (by omega) (by omega))⟩
theorem CTp.fg {tp : List Nat} (h : CTp S tp) (hf : Fg D R S T) (hD : ¬ D 1 1 ∧ ∀ k, ¬ D 2 k) : CTp T tp := ⟨by rw [hf.I hD.1]; exact h.1, fun k hk => by rw [hf.I (hD.2 k)]; exact h.2 k hk⟩
theorem CR.fg {q : Nat} (h : CR S q) (hf : Fg D R S T) (hR : ∀ x, x < 186 → ¬ R x) : CR T q := by
  refine ⟨fun p k hp hx => by rw [hf.2 _ _ (hR _ hp)]; exact h.1 p k hp hx, ?_, ?_, ?_⟩ <;> rw [hf.2 _ _ (hR _ (by omega))]
  · exact h.2.1
  · exact h.2.2.1
  · exact h.2.2.2
theorem CX.fg {q : Nat} (h : CX S q P) (hf : Fg D R S T) (hD : ∀ x k, D x k → dN x k) (hR : ∀ x, x < 186 → ¬ R x) : CX T q P := by
  obtain ⟨h1, h2, h3, h4⟩ := h
  exact ⟨h1.fg hf hR, h2.fg hf (fun x k a b c d e => by have := hD x k e; unfold dN at this; omega) (fun x a b => hR x (by omega)), h3, h4⟩
theorem CI.fg (h : CI S A) (hf : Fg D R S T) (hD : ∀ x k, D x k → dJ x k ∨ 186 ≤ x) (hR : ∀ x, R x → 186 ≤ x) : CI T A := by
  obtain ⟨q, ⟨h1, h1b, h2, h3⟩, ⟨h4, h5⟩, h6, h7, h8⟩ := h
  have hR' : ∀ x, x < 186 → ¬ R x := fun x hx hr => by have := hR x hr; omega
  have hD' : ∀ x k, x < 186 → ¬ dJ x k → ¬ D x k := fun x k hx hn hd => by
    rcases hD x k hd with h | h
    · exact hn h
    · omega
  have hq := h1.2.2.2
  refine ⟨q, ⟨h1.fg hf (fun x k d => by have := hD x k d; unfold dJ at this; unfold dN; omega) hR', by rw [hf.2 _ _ (hR' _ (by omega))]; exact h1b, h2.fg hf (fun x k a b => hD' x k (by omega) (by unfold dJ; omega)) (hR' _ (by omega)), h3.fg hf (fun k => ⟨hD' _ _ (by omega) (by unfold dJ; omega), hD' _ _ (by omega) (by unfold dJ; omega)⟩)⟩, ⟨h4.fg hf (fun x k a b => hD' _ _ (by omega) (by unfold dJ; omega)) (fun x a b => hR' _ (by omega)), h5.fg hf (hD' _ _ (by omega) (by unfold dJ; omega)) (fun x k a b => hD' _ _ (by omega) (by unfold dJ; omega)) (fun x a b => hR' _ (by omega))⟩, h6.fg hf (fun x k a b => hD' _ _ (by omega) (by unfold dJ; omega)) (hR' _ (by omega)), h7.fg hf ⟨hD' _ _ (by omega) (by unfold dJ; omega), fun k => hD' _ _ (by omega) (by unfold dJ; omega)⟩, fun i hi => ?_⟩
  rw [(hf.1 _ _ (hD' _ _ (by omega) (by unfold dJ; omega))).2]
  exact h8 i hi
theorem MFd.fg {b : Nat} {fd : aF} (h : MFd S b fd) (hf : Fg D R S T) (hD : ∀ k, b + 28 ≤ k → k < b + 36 → ¬ D 200 k) : MFd T b fd := fun k hk => by
  rw [hf.I (hD _ (by omega) (by omega))]
  exact h k hk
theorem MHi.fg {hi : List Lk} (h : MHi S hi) (hl : hi.length ≤ 16) (hf : Fg D R S T) (h0 : ¬ D 186 23) (hD : ∀ k, 180 ≤ k → k < 756 → ¬ D 200 k) : MHi T hi := by
  refine ⟨by rw [hf.I h0]; exact h.1, fun i hi => (h.2 i hi).fg hf (fun k a b => hD k (by omega) (by omega))⟩
theorem MMk.fg {mk : Nat → Option (Lk × aF)} (h : MMk S mk) (hf : Fg D R S T) (h0 : ∀ k, ¬ D 201 k) (hD : ∀ k, 36 ≤ k → k < 180 → ¬ D 200 k) : MMk T mk := fun m hm => by
  refine ⟨by rw [hf.I (h0 _)]; exact (h m hm).1, fun x hx => ⟨((h m hm).2 x hx).1.fg hf (fun k a b => hD k (by omega) (by omega)), ((h m hm).2 x hx).2.fg hf (fun k a b => hD k (by omega) (by omega))⟩⟩
theorem MDy.fg {dy : List (Nat × Nat × Nat)} (h : MDy S dy) (hf : Fg D R S T) (hD : ∀ k, ¬ D 197 k) : MDy T dy := by
  refine ⟨by rw [hf.I (hD _)]; exact h.1, fun i hi => ?_⟩
  rw [hf.I (hD _), hf.I (hD _), hf.I (hD _)]
  exact h.2 i hi
theorem MTp.fg {tp : List Nat} (h : MTp S tp) (hf : Fg D R S T) (hD : ¬ D 186 2 ∧ ∀ k, ¬ D 187 k) : MTp T tp := ⟨by rw [hf.I hD.1]; exact h.1, fun k hk => by rw [hf.I (hD.2 k)]; exact h.2 k hk⟩
theorem MI.fg {n : Nat} (h : MI S A) (hA : AI n A) (hf : Fg D R S T) (hD : ∀ x k, D x k → mJ x k ∨ x < 186) (hR : ∀ x, R x → x < 186) : MI T A := by
  obtain ⟨⟨h1, h2, h3, h4⟩, ⟨h5, h6⟩, h7, h8, ⟨h9, h10⟩, h11⟩ := h
  have hR' : ¬ R 186 := fun hr => by have := hR _ hr; omega
  have hD' : ∀ x k, 186 ≤ x → ¬ mJ x k → ¬ D x k := fun x k hx hn hd => by
    rcases hD x k hd with h | h
    · exact hn h
    · omega
  refine ⟨⟨h1.fg hf (fun x k a b => hD' _ _ (by omega) (by unfold mJ; omega)) hR', h2.fg hf (fun k a b => hD' _ _ (by omega) (by unfold mJ; omega)), h3.fg hf (fun k a b => hD' _ _ (by omega) (by unfold mJ; omega)), by rw [hf.I (hD' _ _ (by omega) (by unfold mJ; omega))]; exact h4⟩, ⟨h5.fg hA.2.2.1.1 hf (hD' _ _ (by omega) (by unfold mJ; omega)) (fun k a b => hD' _ _ (by omega) (by unfold mJ; omega)), h6.fg hf (fun k => hD' _ _ (by omega) (by unfold mJ; omega)) (fun k a b => hD' _ _ (by omega) (by unfold mJ; omega))⟩, h7.fg hf (fun k => hD' _ _ (by omega) (by unfold mJ; omega)), h8.fg hf ⟨hD' _ _ (by omega) (by unfold mJ; omega), fun k => hD' _ _ (by omega) (by unfold mJ; omega)⟩, ⟨by rw [hf.I (hD' _ _ (by omega) (by unfold mJ; omega))]; exact h9, fun i hi => ?_⟩, fun k hk => ?_⟩
  · rw [(hf.1 _ _ (hD' _ _ (by omega) (by unfold mJ; omega))).2]
    exact h10 i hi
  · rw [(hf.1 _ _ (hD' _ _ (by omega) (by unfold mJ; omega))).2]
    exact h11 k hk
/-- a call of the class: its answer, the state behind it, nothing of the reference touched -/
abbrev UC (S : aS) (r : aR) (v : Int32) (A : aA) : Prop := zI r (fun x T => x = v ∧ CI T A ∧ Fg (fun q _ => q < 186) (fun q => q < 186) S T)
abbrev UM (S : aS) (r : aR) (v : Int32) (A : aA) : Prop := zI r (fun x T => x = v ∧ MI T A ∧ Fg (fun q _ => 186 ≤ q ∧ q < 207) (fun _ => False) S T)
theorem UC.of {r : aR} {v : Int32} (h : CI S A) (hr : zI r (fun x T => x = v ∧ Fr dJ S T)) : UC S r v A := i_m hr (fun x T ⟨e, hf⟩ => ⟨e, h.fg hf.g (fun x k d => Or.inl d) (fun x hx => hx.elim), hf.g.mono (fun q k d => by unfold dJ at d; omega) (fun q h => h.elim)⟩)
theorem UM.of {n : Nat} {r : aR} {v : Int32} (h : MI S A) (hA : AI n A) (hr : zI r (fun x T => x = v ∧ Fr mJ S T)) : UM S r v A := i_m hr (fun x T ⟨e, hf⟩ => ⟨e, h.fg hA hf.g (fun x k d => Or.inl d) (fun x hx => hx.elim), hf.g.mono (fun q k d => by unfold mJ at d; omega) (fun q h => h.elim)⟩)
end INV

/-! the class reads a path: its plan while it is being read -/
def CQs (S : aS) (p : Nat) (Q : aQ) : Prop := CP S p Q.1 ∧ (gR S p 2 = p + 1 ∧ ∀ i, i < pN Q.1 → gJ S (p + 1) i = lN (k32 (Q.2.1 i))) ∧ gI S p 14 = nI (bs Q.2.2.1 6) ∧ gI S p 15 = nI (bs Q.2.2.2 8)
abbrev dPt (p : Nat) : Nat → Nat → Prop := fun x k => (x = 1 ∧ k ≠ 1) ∨ (p ≤ x ∧ x ≤ p + 13)
def cX (tp : List Nat) (p : Nat) (S : aS) (x : Int32) (T : aS) (k m : Nat) : Prop := x = 0 ∧ gI T 1 2 = nI (k + 16 * tP tp m) ∧ CTp T tp ∧ Fx (dPt p) S T
def cY (tp : List Nat) (p : Nat) (S : aS) (x : Int32) (T : aS) (Q : aQ) (m : Nat) : Prop := x = 1 ∧ CTk T tp (tP tp m) ∧ CQs T p Q ∧ Fx (dPt p) S T
section CQ1
variable {S T S1 : aS} {p f n : Nat} {Q : aQ} {D : Nat → Nat → Prop} {tp : List Nat}
theorem CQs.g (h : CQs S p Q) (hf : Fx D S T) (hp : 3 ≤ p) (hD : ∀ x k, (x = p ∧ k ≤ 15) ∨ ((p + 1 ≤ x ∧ x ≤ p + 4) ∧ k < pN Q.1) ∨ x = p + 5 ∨ x = p + 6 ∨ (x = p + 7 ∧ k < pW Q.1) ∨ x = p + 8 ∨ x = p + 9 ∨ x = p + 12 ∨ x = p + 13 → ¬ D x k) : CQs T p Q := by
  obtain ⟨⟨hr, hi, hp', hy, hw, hd, ht⟩, ⟨hn2, hn⟩, h14, h15⟩ := h
  have e : ∀ {x k : Nat}, (x = p ∧ k ≤ 15) ∨ ((p + 1 ≤ x ∧ x ≤ p + 4) ∧ k < pN Q.1) ∨ x = p + 5 ∨ x = p + 6 ∨ (x = p + 7 ∧ k < pW Q.1) ∨ x = p + 8 ∨ x = p + 9 ∨ x = p + 12 ∨ x = p + 13 → gI T x k = gI S x k := fun h => hf.I (hD _ _ h)
  have er : ∀ {x k : Nat}, 3 ≤ x → gR T x k = gR S x k := fun h => hf.2 _ _ (by omega)
  refine ⟨⟨?_, ?_, fun i hi => ?_, fun k hk => ?_, fun k hk => ?_, ?_, ?_⟩, ⟨by rw [er hp]; exact hn2, fun i hi => ?_⟩, ?_, ?_⟩
  · simp only [er hp]; exact hr
  · rw [e (by omega), e (by omega), e (by omega), e (by omega), e (by omega)]; exact hi
  · rw [e (by omega), e (by omega), e (by omega)]; exact hp' i hi
  · rw [e (by omega), e (by omega)]; exact hy k hk
  · rw [e (by omega)]; exact hw k hk
  · exact ⟨by rw [er (by omega), er (by omega), er (by omega)]; exact hd.1, by rw [e (by omega)]; exact hd.2.1, fun k hk => by rw [e (by omega)]; exact hd.2.2 k hk⟩
  · exact ⟨by rw [er (by omega), er (by omega), er (by omega)]; exact ht.1, by rw [e (by omega)]; exact ht.2.1, fun k hk => by rw [e (by omega)]; exact ht.2.2 k hk⟩
  · rw [hf.J (hD _ _ (by omega))]; exact hn i hi
  · rw [e (by omega)]; exact h14
  · rw [e (by omega)]; exact h15
theorem CQs.t (h : CQs S p Q) (hf : Fx dT S T) (hp : 3 ≤ p) : CQs T p Q := h.g hf hp (fun x k h => by unfold dT; omega)
/-- an int of the plan's own -/
theorem CQs.o {j : Nat} {v : Int32} {Q2 : aQ} (h : CQs S p Q) (e : S1 = sI S p j v) (hp : 3 ≤ p) (h1 : pT Q2.1 = pT Q.1 ∧ Q2.1.2.2.2 = Q.1.2.2.2 ∧ Q2.2.1 = Q.2.1 ∧ pN Q2.1 = pN Q.1 ∧ pW Q2.1 = pW Q.1) (hi : ∀ k, k = 0 ∨ k = 1 ∨ k = 9 ∨ k = 10 ∨ k = 11 ∨ k = 14 ∨ k = 15 → (if k = j then v else gI S p k) = (if k = 0 then nI (pY Q2.1) else if k = 1 then nI (pN Q2.1) else if k = 9 then nI (pW Q2.1) else if k = 10 then nI (pPe Q2.1) else if k = 11 then nI (pDe Q2.1) else if k = 14 then nI (bs Q2.2.2.1 6) else nI (bs Q2.2.2.2 8))) : CQs S1 p Q2 := by
  obtain ⟨⟨hr, _, hp', hy, hw, hd, ht⟩, ⟨hn2, hn⟩, _, _⟩ := h
  obtain ⟨a1, a2, a3, a4, a5⟩ := h1
  have a6 : pDr Q2.1 = pDr Q.1 := congrArg Prod.fst a2
  have a7 : pTk Q2.1 = pTk Q.1 := congrArg Prod.snd a2
  have g : ∀ k, k = 0 ∨ k = 1 ∨ k = 9 ∨ k = 10 ∨ k = 11 ∨ k = 14 ∨ k = 15 → gI S1 p k = (if k = 0 then nI (pY Q2.1) else if k = 1 then nI (pN Q2.1) else if k = 9 then nI (pW Q2.1) else if k = 10 then nI (pPe Q2.1) else if k = 11 then nI (pDe Q2.1) else if k = 14 then nI (bs Q2.2.2.1 6) else nI (bs Q2.2.2.2 8)) := by
    intro k hk
    rw [← hi k hk, e, gI_sI]
    by_cases c : k = j
    · rw [if_pos ⟨rfl, c⟩, if_pos c]
    · rw [if_neg (fun h => c h.2), if_neg c]
  have o : ∀ {x k : Nat}, x ≠ p → gI S1 x k = gI S x k := fun h => by rw [e, gI_sI, if_neg (fun c => h c.1)]
  have r : ∀ x k, gR S1 x k = gR S x k := fun x k => by rw [e]; rfl
  have jj : ∀ x k, gJ S1 x k = gJ S x k := fun x k => by rw [e]; rfl
  refine ⟨⟨by simp only [r]; exact hr, ⟨g 0 (by omega), g 1 (by omega), g 9 (by omega), g 10 (by omega), g 11 (by omega)⟩, fun i hi => ?_, fun k hk => ?_, fun k hk => ?_, ?_, ?_⟩, ⟨by rw [r]; exact hn2, fun i hi => ?_⟩, g 14 (by omega), g 15 (by omega)⟩
  · rw [a4] at hi
    rw [o (by omega), o (by omega), o (by omega), a1]; exact hp' i hi
  · rw [o (by omega), o (by omega), a1]; exact hy k hk
  · rw [a5] at hk
    rw [o (by omega), a1]; exact hw k hk
  · rw [a6]
    exact ⟨by rw [r, r, r]; exact hd.1, by rw [o (by omega)]; exact hd.2.1, fun k hk => by rw [o (by omega)]; exact hd.2.2 k hk⟩
  · rw [a7]
    exact ⟨by rw [r, r, r]; exact ht.1, by rw [o (by omega)]; exact ht.2.1, fun k hk => by rw [o (by omega)]; exact ht.2.2 k hk⟩
  · rw [a4] at hi
    rw [jj, a3]; exact hn i hi
theorem CQs.ints (h : CQs S p Q) : gI S p 0 = nI (pY Q.1) ∧ gI S p 1 = nI (pN Q.1) ∧ gI S p 9 = nI (pW Q.1) ∧ gI S p 10 = nI (pPe Q.1) ∧ gI S p 11 = nI (pDe Q.1) ∧ gI S p 14 = nI (bs Q.2.2.1 6) ∧ gI S p 15 = nI (bs Q.2.2.2 8) := by
  obtain ⟨⟨_, ⟨i1, i2, i3, i4, i5⟩, _⟩, _, i6, i7⟩ := h
  exact ⟨i1, i2, i3, i4, i5, i6, i7⟩
theorem CQs.y {v : Nat} (h : CQs S p Q) (e : S1 = sI S p 0 (nI v)) (hp : 3 ≤ p) : CQs S1 p (yQ Q v) := by
  obtain ⟨i1, i2, i3, i4, i5, i6, i7⟩ := h.ints
  refine h.o e hp ⟨rfl, rfl, rfl, rfl, rfl⟩ (fun k hk => ?_)
  rcases hk with rfl | rfl | rfl | rfl | rfl | rfl | rfl
  · rfl
  · exact i2
  · exact i3
  · exact i4
  · exact i5
  · exact i6
  · exact i7
theorem CQs.c {v : Nat} (h : CQs S p Q) (e : S1 = sI S p 10 (nI v)) (hp : 3 ≤ p) : CQs S1 p (cQ Q v) := by
  obtain ⟨i1, i2, i3, i4, i5, i6, i7⟩ := h.ints
  refine h.o e hp ⟨rfl, rfl, rfl, rfl, rfl⟩ (fun k hk => ?_)
  rcases hk with rfl | rfl | rfl | rfl | rfl | rfl | rfl
  · exact i1
  · exact i2
  · exact i3
  · rfl
  · exact i5
  · exact i6
  · exact i7
theorem CQs.dep {v : Nat} (h : CQs S p Q) (e : S1 = sI S p 11 (nI v)) (hp : 3 ≤ p) : CQs S1 p (fQ Q v) := by
  obtain ⟨i1, i2, i3, i4, i5, i6, i7⟩ := h.ints
  refine h.o e hp ⟨rfl, rfl, rfl, rfl, rfl⟩ (fun k hk => ?_)
  rcases hk with rfl | rfl | rfl | rfl | rfl | rfl | rfl
  · exact i1
  · exact i2
  · exact i3
  · exact i4
  · rfl
  · exact i6
  · exact i7
theorem CQs.onc {v : Nat} (h : CQs S p Q) (hv : v < 6) (e : S1 = sI S p 14 (nI (bs Q.2.2.1 6) ||| nI (2 ^ v))) (hp : 3 ≤ p) : CQs S1 p (oQ Q v) := by
  obtain ⟨i1, i2, i3, i4, i5, i6, i7⟩ := h.ints
  refine h.o e hp ⟨rfl, rfl, rfl, rfl, rfl⟩ (fun k hk => ?_)
  rcases hk with rfl | rfl | rfl | rfl | rfl | rfl | rfl
  · exact i1
  · exact i2
  · exact i3
  · exact i4
  · exact i5
  · show nI (bs Q.2.2.1 6) ||| nI (2 ^ v) = nI (bs (up1 Q.2.2.1 v true) 6)
    rw [nI_or, bs_set hv]
  · exact i7
/-- one number of a line of its own -/
theorem T_one {a b j : Nat} (ho : okTp tp) (h : CTk S tp (tP tp n)) (hq : CQs S p Q) (hp : 3 ≤ p) (hp2 : p ≤ 19) (hb : b < 10000) (hab : a ≤ b) (hj : j ≠ 2 ∧ j ≤ 15) (K : aQ → Nat → aQ) (hK : ∀ v S1, S1 = sI S p j (nI v) → CQs S1 p (K Q v)) (hg : 6300 ≤ f) :
    zI (bI (F_X8_isNumberWithin f 0 [.ref 1, .int (nI a), .int (nI b)] S) fun x1 S1 => if x1 = (0 : Int32) then bZ 0 (some (some (.int 0), S1)) else fS (sI S1 p j (gI S1 1 8)) fun S3 => bV (F_X8_advance f 0 [.ref 1] S3) fun S4 => bZ 1 (some (some (.int 1), S4))) (fun x T => eE (eb (xNum tp n a b) fun v m => .ok (K Q v, m)) (cX tp p S x T) (cY tp p S x T)) := by
  refine o_I (T_num (a := a) (b := b) h hb hab (by omega)) ?_
  intro x T1 hx
  unfold stp at hx
  unfold xNum
  by_cases e : nW tp n a b = 0
  · rw [if_pos e] at hx ⊢
    obtain ⟨rfl, t1⟩ := hx
    rw [t1]
    refine o_f (by decide) ?_
    rw [h.nv (nW_0 e).1]
    refine o_s (fun S1 s1 => ?_)
    have f1 : Fx (fun x k => x = p ∧ k = j) S S1 := (Fx.refl S).sI s1 ⟨rfl, rfl⟩
    have h1 : CTk S1 tp (tP tp n) := h.x f1 ⟨fun j _ => by omega, fun j => by omega⟩ (by rw [s1]; rfl)
    refine o_V (T_next ho h1 (by omega)) ?_
    rintro U ⟨u1, u2⟩
    exact o_Z (Or.inr rfl) (i_r ⟨rfl, u1, (hK _ _ s1).t u2 hp, (f1.mono (fun q j d => by unfold dPt; omega)).tr (u2.mono (fun q j d => by unfold dT at d; unfold dPt; omega))⟩)
  · rw [if_neg e] at hx ⊢
    obtain ⟨rfl, x1, x2, x3⟩ := hx
    exact o_t rfl (o_Z (Or.inl rfl) (i_r ⟨rfl, x1, x2, x3.mono (fun q j d => by unfold dP at d; unfold dPt; omega)⟩))
theorem T_yards (ho : okTp tp) (h : CTk S tp (tP tp n)) (hq : CQs S p Q) (hp : 3 ≤ p) (hp2 : p ≤ 19) (hg : 6301 ≤ f) : zI (F_X6_readYards f 0 [.ref p, .ref 1] S) (fun x T => eE (eb (xNum tp n 2 8) fun v m => .ok (yQ Q v, m)) (cX tp p S x T) (cY tp p S x T)) := by
  replace hg : 6300 + 1 ≤ f := hg
  obtain ⟨g, ge, hG⟩ := g1 hg; subst ge; clear hg; have hg := hG; clear hG; rw [E_X6_readYards_0]; unfold F_X6_readYards_0
  exact T_one (a := 2) (b := 8) ho h hq hp hp2 (by omega) (by omega) (by omega) yQ (fun v S1 e => hq.y e hp) hg
theorem T_pence (ho : okTp tp) (h : CTk S tp (tP tp n)) (hq : CQs S p Q) (hp : 3 ≤ p) (hp2 : p ≤ 19) (hg : 6301 ≤ f) : zI (F_X6_readPence f 0 [.ref p, .ref 1] S) (fun x T => eE (eb (xNum tp n 0 99) fun v m => .ok (cQ Q v, m)) (cX tp p S x T) (cY tp p S x T)) := by
  replace hg : 6300 + 1 ≤ f := hg
  obtain ⟨g, ge, hG⟩ := g1 hg; subst ge; clear hg; have hg := hG; clear hG; rw [E_X6_readPence_0]; unfold F_X6_readPence_0
  exact T_one (a := 0) (b := 99) ho h hq hp hp2 (by omega) (by omega) (by omega) cQ (fun v S1 e => hq.c e hp) hg
theorem T_depo (ho : okTp tp) (h : CTk S tp (tP tp n)) (hq : CQs S p Q) (hp : 3 ≤ p) (hp2 : p ≤ 19) (hg : 6301 ≤ f) : zI (F_X6_readDeposit f 0 [.ref p, .ref 1] S) (fun x T => eE (eb (xNum tp n 0 9) fun v m => .ok (fQ Q v, m)) (cX tp p S x T) (cY tp p S x T)) := by
  replace hg : 6300 + 1 ≤ f := hg
  obtain ⟨g, ge, hG⟩ := g1 hg; subst ge; clear hg; have hg := hG; clear hG; rw [E_X6_readDeposit_0]; unfold F_X6_readDeposit_0
  exact T_one (a := 0) (b := 9) ho h hq hp hp2 (by omega) (by omega) (by omega) fQ (fun v S1 e => hq.dep e hp) hg
end CQ1

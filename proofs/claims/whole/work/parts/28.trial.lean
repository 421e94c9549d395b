/-! trials: the class -/
def RX (p k : Nat) : Bool := (p == 0 && (k == 1 || k == 2 || k == 3 || k == 4)) || (p == 117 && k == 3) || (p == 123 && k == 2) || (p == 1 && k == 6)
def CR (S : aS) (q : Nat) : Prop := (∀ p k, p < 186 → RX p k = false → gR S p k = R0 p k) ∧ gR S 0 1 = q ∧ gR S 117 3 = q ∧ gR S 123 2 = q
def CX (S : aS) (q : Nat) (P : aP) : Prop := CR S q ∧ CP S q P ∧ PI P ∧ (q = 3 ∨ q = 19)
theorem CR.fr {S T : aS} {q : Nat} {D : Nat → Nat → Prop} (h : CR S q) (hf : Fr D S T) : CR T q := by
  unfold CR
  simp only [hf.R]
  exact h
/-- the places of lakes -/
def lk (p : Nat) : Prop := p = 43 ∨ p = 118 ∨ (∃ i, i < 16 ∧ p = 51 + 4 * i) ∨ (∃ i, i < 7 ∧ p = 134 + 4 * i) ∨ (∃ i, i < 4 ∧ p = 162 + 6 * i)
theorem lk.b {p : Nat} (h : lk p) : 43 ≤ p ∧ (p + 4 ≤ 122 ∨ 123 ≤ p) ∧ p + 3 < 186 := by
  rcases h with h | h | ⟨i, h, e⟩ | ⟨i, h, e⟩ | ⟨i, h, e⟩ <;> omega
theorem lk.ne {p p2 : Nat} (h : lk p) (h2 : lk p2) (hn : p ≠ p2) : p + 4 ≤ p2 ∨ p2 + 4 ≤ p := by
  rcases h with h | h | ⟨i, h, e⟩ | ⟨i, h, e⟩ | ⟨i, h, e⟩ <;> rcases h2 with h2 | h2 | ⟨i2, h2, e2⟩ | ⟨i2, h2, e2⟩ | ⟨i2, h2, e2⟩ <;> omega
theorem lk.r {S : aS} {p q : Nat} (h : lk p) (hC : CR S q) : LR S p := by
  have key : ∀ p, p < 186 → RX p 1 = false → RX p 2 = false → RX p 3 = false → (R0 p 1 = p + 1 ∧ R0 p 2 = p + 2 ∧ R0 p 3 = p + 3) → LR S p := by
    intro p hp h1 h2 h3 h4
    unfold LR
    rw [hC.1 p 1 hp h1, hC.1 p 2 hp h2, hC.1 p 3 hp h3]
    exact h4
  rcases h with h | h | ⟨i, h, e⟩ | ⟨i, h, e⟩ | ⟨i, h, e⟩
  · subst h; exact key 43 (by omega) rfl rfl rfl (by decide +kernel)
  · subst h; exact key 118 (by omega) rfl rfl rfl (by decide +kernel)
  · subst e
    have hd := co_dec (N := 16) (P := fun i => RX (51 + 4 * i) 1 = false ∧ RX (51 + 4 * i) 2 = false ∧ RX (51 + 4 * i) 3 = false ∧ (R0 (51 + 4 * i) 1 = 51 + 4 * i + 1 ∧ R0 (51 + 4 * i) 2 = 51 + 4 * i + 2 ∧ R0 (51 + 4 * i) 3 = 51 + 4 * i + 3)) (by decide +kernel) h
    exact key _ (by omega) hd.1 hd.2.1 hd.2.2.1 hd.2.2.2
  · subst e
    have hd := co_dec (N := 7) (P := fun i => RX (134 + 4 * i) 1 = false ∧ RX (134 + 4 * i) 2 = false ∧ RX (134 + 4 * i) 3 = false ∧ (R0 (134 + 4 * i) 1 = 134 + 4 * i + 1 ∧ R0 (134 + 4 * i) 2 = 134 + 4 * i + 2 ∧ R0 (134 + 4 * i) 3 = 134 + 4 * i + 3)) (by decide +kernel) h
    exact key _ (by omega) hd.1 hd.2.1 hd.2.2.1 hd.2.2.2
  · subst e
    have hd := co_dec (N := 4) (P := fun i => RX (162 + 6 * i) 1 = false ∧ RX (162 + 6 * i) 2 = false ∧ RX (162 + 6 * i) 3 = false ∧ (R0 (162 + 6 * i) 1 = 162 + 6 * i + 1 ∧ R0 (162 + 6 * i) 2 = 162 + 6 * i + 2 ∧ R0 (162 + 6 * i) 3 = 162 + 6 * i + 3)) (by decide +kernel) h
    exact key _ (by omega) hd.1 hd.2.1 hd.2.2.1 hd.2.2.2
theorem lk43 : lk 43 := Or.inl rfl
theorem lk118 : lk 118 := Or.inr (Or.inl rfl)
/-- what is neither plan nor references -/
abbrev dN : Nat → Nat → Prop := fun x _ => x = 13 ∨ x = 14 ∨ x = 17 ∨ x = 18 ∨ x = 29 ∨ x = 30 ∨ x = 33 ∨ x = 34 ∨ 35 ≤ x
theorem CX.fr {S T : aS} {q : Nat} {P : aP} {D : Nat → Nat → Prop} (h : CX S q P) (hf : Fr D S T) (hD : ∀ x k, D x k → dN x k) : CX T q P := by
  obtain ⟨h1, h2, h3, h4⟩ := h
  exact ⟨h1.fr hf, h2.fr hf (fun x k a b c d e => by have := hD x k e; unfold dN at this; omega), h3, h4⟩
theorem CX.w {S T : aS} {q p : Nat} {P : aP} (h : CX S q P) (hf : Fr (dW p) S T) (hp : lk p) : CX T q P := h.fr hf (fun x k d => by have := hp.b; unfold dW at d; unfold dN; omega)
theorem CX.l {S T : aS} {q p : Nat} {P : aP} (h : CX S q P) (hf : Fr (dL p) S T) (hp : lk p) : CX T q P := h.fr hf (fun x k d => by have := hp.b; unfold dL at d; unfold dN; omega)
/-- all walk, but some -/
def aw (P : aP) (d : Nat) (ab : Nat → Bool) (L : Lk) : Nat → Lk
  | 0 => L
  | n + 1 => if ab n then aw P d ab L n else wk P n d (aw P d ab L n)
theorem aw_cg {P : aP} {d : Nat} {ab ab2 : Nat → Bool} {L : Lk} : ∀ {n : Nat}, (∀ k, k < n → ab k = ab2 k) → aw P d ab L n = aw P d ab2 L n
  | 0, _ => rfl
  | n + 1, h => by
    show (if ab n then _ else _) = (if ab2 n then _ else _)
    rw [h n (by omega), aw_cg (fun k hk => h k (by omega))]
theorem aw_LI {P : aP} {d B : Nat} {ab : Nat → Bool} {L : Lk} (hI : PI P) (h : LI B L) : ∀ {n : Nat}, n ≤ pN P → LI B (aw P d ab L n)
  | 0, _ => h
  | n + 1, hn => by
    show LI B (if ab n then _ else _)
    split
    · exact aw_LI hI h (by omega)
    · exact wk_LI hI (by omega) (aw_LI hI h (by omega))
/-- all of them -/
def awA (P : aP) (d : Nat) (L : Lk) : Lk := aw P d (fun _ => false) L (pN P)
theorem awA_LI {P : aP} {d B : Nat} {L : Lk} (hI : PI P) (h : LI B L) : LI B (awA P d L) := aw_LI hI h (Nat.le_refl _)
section TR
variable {S : aS} {p q d f i B : Nat} {P : aP} {L : Lk}
theorem CX.t0 (h : CX S q P) : gR S 117 0 = 43 := h.1.1 117 0 (by omega) rfl
theorem CX.t1 (h : CX S q P) : gR S 117 1 = 118 := h.1.1 117 1 (by omega) rfl
theorem CX.t2 (h : CX S q P) : gR S 117 2 = 122 := h.1.1 117 2 (by omega) rfl
theorem CX.t3 (h : CX S q P) : gR S 117 3 = q := h.1.2.2.1
theorem CX.lr (h : CX S q P) (hp : lk p) : LR S p := hp.r h.1
theorem CX.cp (h : CX S q P) : CP S q P := h.2.1
theorem CX.pi (h : CX S q P) : PI P := h.2.2.1
theorem T_X9_walkOf (hX : CX S q P) (hL : LA S p (pY P) d L) (hB : LI B L) (hd : d ≤ 9) (hi : i < pN P) (hp : lk p) (hg : 4001 ≤ f) : zI (F_X9_walkOf f 0 [.ref 117, .int (nI i), .ref p] S) (fun x T => x = nI (wE P i d L).2.1.1 ∧ LA T p (pY P) d (wk P i d L) ∧ WF T (wE P i d L) ∧ Fr (dW p) S T) := by
  have hb := hp.b
  obtain ⟨g, ge, hG⟩ := g1 hg; subst ge; clear hg; have hg := hG; clear hG; rw [E_X9_walkOf_0]; unfold F_X9_walkOf_0
  rw [hX.t2, hX.t3]
  refine o_V (T_X10_go hX.cp hX.2.2.2 hX.pi hL hB hd hi ⟨hb.1, hb.2.1⟩ (by omega)) ?_
  rintro T ⟨h1, h2, h3⟩
  refine i_r ⟨?_, h1, h2, h3⟩
  rw [(hX.w h3 hp).t2]
  exact h2.1
theorem T_X9_allWalkBut {v : Int32} (hX : CX S q P) (hL : LA S p (pY P) d L) (hB : LI B L) (hd : d ≤ 9) (hp : lk p) (hg : 4100 ≤ f) : zU (F_X9_allWalkBut f 0 [.ref 117, .int v, .ref p] S) (fun T => LA T p (pY P) d (aw P d (fun n => decide (nI n = v)) L (pN P)) ∧ Fr (dW p) S T) := by
  have hn := hX.pi.1.2.2.1
  have hb := hp.b
  obtain ⟨g, ge, hG⟩ := g1 hg; subst ge; clear hg; have hg := hG; clear hG; rw [E_X9_allWalkBut_0]; unfold F_X9_allWalkBut_0
  refine o_loop (F := fun f vs S => F_X9_allWalkBut f 1 vs S) (c := 2) (B := 4010) (y := (pN) P) (fun k vs T => vs = [.ref 117, .int v, .ref p, .int (nI k)] ∧ LA T p (pY P) d (aw P d (fun n => decide (nI n = v)) L k) ∧ Fr (dW p) S T) ?_ ?_ 0 _ S g (by omega) ⟨rfl, hL, Fr.refl S⟩ (by omega)
  · rintro k _ T g hk ⟨rfl, hT, hf⟩ hg rec
    have hXT := hX.w hf hp
    show zO (F_X9_allWalkBut g 1 _ _) _
    obtain ⟨g, ge, hG⟩ := g1 hg; subst ge; clear hg; have hg := hG; clear hG; rw [E_X9_allWalkBut_1]; unfold F_X9_allWalkBut_1
    rw [hXT.t2, hXT.t3, hXT.cp.2.1.2.1]
    refine o_f (nI_ge hk (by omega)) ?_
    have e : aw P d (fun n => decide (nI n = v)) L (k + 1) = if decide (nI k = v) then aw P d (fun n => decide (nI n = v)) L k else wk P k d (aw P d (fun n => decide (nI n = v)) L k) := rfl
    refine o_if (fun c => ?_) (fun c => ?_)
    · obtain ⟨g, ge, hG⟩ := g1 hg; subst ge; clear hg; have hg := hG; clear hG; rw [E_X9_allWalkBut_2]; unfold F_X9_allWalkBut_2
      rw [if_pos (decide_eq_true c)] at e
      exact rec g _ _ (by omega) ⟨by rw [nI_1], by rw [e]; exact hT, hf⟩
    · rw [if_neg (by rw [decide_eq_false c]; decide)] at e
      refine o_V (T_X10_go hXT.cp hX.2.2.2 hX.pi hT (aw_LI hX.pi hB (by omega)) hd hk ⟨hb.1, hb.2.1⟩ (by omega)) ?_
      rintro T2 ⟨h1, h2, h3⟩
      obtain ⟨g, ge, hG⟩ := g1 hg; subst ge; clear hg; have hg := hG; clear hG; rw [E_X9_allWalkBut_2]; unfold F_X9_allWalkBut_2
      exact rec g _ _ (by omega) ⟨by rw [nI_1], by rw [e]; exact h1, hf.tr h3⟩
  · rintro _ T g ⟨rfl, hT, hf⟩ hg
    have hXT := hX.w hf hp
    show zO (F_X9_allWalkBut g 1 _ _) _
    obtain ⟨g, ge, hG⟩ := g1 hg; subst ge; clear hg; have hg := hG; clear hG; rw [E_X9_allWalkBut_1]; unfold F_X9_allWalkBut_1
    rw [hXT.t3, hXT.cp.2.1.2.1]
    exact o_t (nI_le (Nat.le_refl _) (by omega)) (u_r ⟨hT, hf⟩)
theorem nI_m1 {n : Nat} (h : n < 2 ^ 31) : ¬ nI n = (-1 : Int32) := fun e => by
  have := nI_pos h
  rw [e] at this
  exact this (by decide)
theorem aw_m1 (hI : PI P) : aw P d (fun n => decide (nI n = (-1 : Int32))) L (pN P) = awA P d L := aw_cg (fun k hk => decide_eq_false (nI_m1 (by have := hI.1.2.2.1; omega)))
theorem T_X9_all (hX : CX S q P) (hL : LA S p (pY P) d L) (hB : LI B L) (hd : d ≤ 9) (hp : lk p) (hg : 4100 ≤ f) : zU (F_X9_allWalkBut f 0 [.ref 117, .int (-1), .ref p] S) (fun T => LA T p (pY P) d (awA P d L) ∧ Fr (dW p) S T) := by
  have := T_X9_allWalkBut (v := -1) hX hL hB hd hp hg
  rw [aw_m1 hX.pi] at this
  exact this
/-- the trial becomes what is now -/
theorem T_now (hX : CX S q P) (hL : LA S 43 (pY P) d L) (hp : lk p) (h43 : p ≠ 43) (hg : 11 ≤ f) : zU (F_X4_become f 0 [.ref p, .ref 43] S) (fun T => LA T p (pY P) d L ∧ LA T 43 (pY P) d L ∧ CX T q P ∧ Fr (dL p) S T) := by
  have hb := hp.ne lk43 h43
  refine u_m (T_X4_become hL (hX.lr hp) (by omega) hg) ?_
  rintro T ⟨h1, h2⟩
  exact ⟨h1, hL.fr h2 (fun x k a b c => by omega), hX.l h2 hp, h2⟩
theorem Fr.lw {T U : aS} (h : Fr (dL p) S T) (h2 : Fr (dW p) T U) : Fr (dW p) S U := (h.mono (fun x k d => by unfold dW; omega)).tr h2
theorem T_X9_liesAfterAll {v : Int32} (hX : CX S q P) (hL : LA S 43 (pY P) d L) (hB : LI B L) (hd : d ≤ 9) (hg : 4200 ≤ f) : zI (F_X9_liesAfterAll f 0 [.ref 117, .int v] S) (fun x T => x = nI (tot (pY P) (aw P d (fun n => decide (nI n = v)) L (pN P))) ∧ Fr (dW 118) S T) := by
  obtain ⟨g, ge, hG⟩ := g1 hg; subst ge; clear hg; have hg := hG; clear hG; rw [E_X9_liesAfterAll_0]; unfold F_X9_liesAfterAll_0
  rw [hX.t0, hX.t1]
  refine o_V (T_now hX hL lk118 (by omega) (by omega)) ?_
  rintro S1 ⟨h1, -, x1, f1⟩
  rw [x1.t1]
  refine o_V (T_X9_allWalkBut x1 h1 hB hd lk118 (by omega)) ?_
  rintro S2 ⟨h2, f2⟩
  rw [(x1.w f2 lk118).t1]
  refine o_I (T_X4_total h2 hX.pi.1.2.1 (by omega)) ?_
  rintro _ S2 ⟨rfl, rfl⟩
  exact i_r ⟨rfl, f1.lw f2⟩
theorem T_X9_yardsWithFullHands (hX : CX S q P) (hL : LA S 43 (pY P) d L) (hB : LI B L) (hd : d ≤ 9) (hi : i < pN P) (hg : 4200 ≤ f) : zI (F_X9_yardsWithFullHands f 0 [.ref 117, .int (nI i)] S) (fun x T => x = nI (wE P i d L).2.2.2.2 ∧ Fr (dW 118) S T) := by
  obtain ⟨g, ge, hG⟩ := g1 hg; subst ge; clear hg; have hg := hG; clear hG; rw [E_X9_yardsWithFullHands_0]; unfold F_X9_yardsWithFullHands_0
  rw [hX.t0, hX.t1]
  refine o_V (T_now hX hL lk118 (by omega) (by omega)) ?_
  rintro S1 ⟨h1, -, x1, f1⟩
  rw [x1.t1]
  refine o_I (T_X9_walkOf x1 h1 hB hd hi lk118 (by omega)) ?_
  rintro _ S2 ⟨rfl, h2, w2, f2⟩
  refine i_r ⟨?_, f1.lw f2⟩
  rw [(x1.w f2 lk118).t2]
  exact w2.2.2.2.2
theorem T_X9_changeBy {j : Nat} (hX : CX S q P) (hL : LA S 43 (pY P) d L) (hB : LI B L) (hd : d ≤ 9) (hi : i < pN P) (hj : j < 12) (hg : 4200 ≤ f) : zI (F_X9_changeBy f 0 [.ref 117, .int (nI i), .int (nI j)] S) (fun x T => x = (if j = 8 then nI (tot (pY P) (wk P i d L)) - nI (tot (pY P) L) else if j = 9 then nI (wE P i d L).2.1.1 else if j = 10 then nI (wE P i d L).2.1.2 else if j = 11 then nI (wE P i d L).2.2.1 else if j < pY P then nI (wk P i d L (4 + j)) - nI (L (4 + j)) else 0) ∧ Fr (dW 118) S T) := by
  have hy := hX.pi.1.2.1
  obtain ⟨g, ge, hG⟩ := g1 hg; subst ge; clear hg; have hg := hG; clear hG; rw [E_X9_changeBy_0]; unfold F_X9_changeBy_0
  rw [hX.t0, hX.t1]
  refine o_V (T_now hX hL lk118 (by omega) (by omega)) ?_
  rintro S1 ⟨h1, h1n, x1, f1⟩
  rw [x1.t1]
  refine o_I (T_X9_walkOf x1 h1 hB hd hi lk118 (by omega)) ?_
  rintro _ S2 ⟨rfl, h2, w2, f2⟩
  have x2 := x1.w f2 lk118
  have h2n := h1n.fr f2 (fun x k a b c => by omega)
  have ff := f1.lw f2
  rw [x2.t0, x2.t1, x2.t2]
  have e8 : nI j = (8 : Int32) ↔ j = 8 := nI_eq (b := 8) (by omega) (by omega)
  have e9 : nI j = (9 : Int32) ↔ j = 9 := nI_eq (b := 9) (by omega) (by omega)
  have e10 : nI j = (10 : Int32) ↔ j = 10 := nI_eq (b := 10) (by omega) (by omega)
  have e11 : nI j = (11 : Int32) ↔ j = 11 := nI_eq (b := 11) (by omega) (by omega)
  refine o_if (fun c => ?_) (fun c => ?_)
  · rw [if_pos (e8.mp c)]
    refine o_I (T_X4_total h2 hy (by omega)) ?_
    rintro _ S2 ⟨rfl, rfl⟩
    rw [x2.t0]
    refine o_I (T_X4_total h2n hy (by omega)) ?_
    rintro _ S2 ⟨rfl, rfl⟩
    exact i_r ⟨rfl, ff⟩
  rw [if_neg (fun h => c (e8.mpr h))]
  refine o_if (fun c => ?_) (fun c => ?_)
  · rw [if_pos (e9.mp c)]
    exact i_r ⟨w2.1, ff⟩
  rw [if_neg (fun h => c (e9.mpr h))]
  refine o_if (fun c => ?_) (fun c => ?_)
  · rw [if_pos (e10.mp c)]
    exact i_r ⟨w2.2.1, ff⟩
  rw [if_neg (fun h => c (e10.mpr h))]
  refine o_if (fun c => ?_) (fun c => ?_)
  · rw [if_pos (e11.mp c)]
    exact i_r ⟨w2.2.2.1, ff⟩
  rw [if_neg (fun h => c (e11.mpr h))]
  by_cases c : j < pY P
  · rw [if_pos c]
    refine o_I (T_X4_hasYard h2n hy c (by omega)) ?_
    rintro _ S2 ⟨rfl, rfl⟩
    refine o_f (by decide) ?_
    refine o_X rfl (show j < 8 by omega) ?_
    refine o_X rfl (show j < 8 by omega) ?_
    obtain ⟨g, ge, hG⟩ := g1 hg; subst ge; clear hg; have hg := hG; clear hG; rw [E_X9_changeBy_1]; unfold F_X9_changeBy_1
    rw [x2.t0, x2.t1, h2.r1, h2n.r1, h2.l j (by omega), h2n.l j (by omega)]
    exact i_r ⟨rfl, ff⟩
  · rw [if_neg c]
    refine o_I (T_X4_hasYard0 h2n (Or.inr (nI_le (by omega) (by omega))) (by omega)) ?_
    rintro _ S2 ⟨rfl, rfl⟩
    refine o_t rfl ?_
    obtain ⟨g, ge, hG⟩ := g1 hg; subst ge; clear hg; have hg := hG; clear hG; rw [E_X9_changeBy_1]; unfold F_X9_changeBy_1
    exact i_r ⟨rfl, ff⟩
theorem T_X9_growthOf {j hp : Nat} (hX : CX S q P) (hL : LA S 43 (pY P) d L) (hB : LI B L) (hd : d ≤ 9) (hj : j < 8) (hh : hp ≤ 99) (hg : 4200 ≤ f) : zI (F_X9_growthOf f 0 [.ref 117, .int (nI j), .int (nI hp)] S) (fun x T => x = nI (awA P d (up1 L (4 + j) hp) (4 + j)) - nI hp ∧ Fr (dW 118) S T) := by
  obtain ⟨g, ge, hG⟩ := g1 hg; subst ge; clear hg; have hg := hG; clear hG; rw [E_X9_growthOf_0]; unfold F_X9_growthOf_0
  rw [hX.t0, hX.t1]
  refine o_V (T_now hX hL lk118 (by omega) (by omega)) ?_
  rintro S1 ⟨h1, h1n, x1, f1⟩
  refine o_X rfl hj ?_
  rw [x1.t1, h1.r1]
  refine o_s (fun S2 e2 => ?_)
  have h2 := h1.sl hj e2
  have f2 := f1.sI e2 (by unfold dL; omega)
  have x2 := hX.l f2 lk118
  rw [x2.t1]
  have hB2 : LI B (up1 L (4 + j) hp) := by
    refine ⟨by rw [up1_at, if_neg (by omega)]; exact hB.1, fun k hk => ?_⟩
    have hb := hB.2 k hk
    simp only [up1_at]
    rw [if_neg (show ¬ 20 + k = 4 + j by omega), if_neg (show ¬ 12 + k = 4 + j by omega)]
    refine ⟨?_, hb.2⟩
    split
    · omega
    · exact hb.1
  refine o_V (T_X9_all x2 h2 hB2 hd lk118 (by omega)) ?_
  rintro S3 ⟨h3, f3⟩
  refine o_X rfl hj (i_r ⟨?_, f2.lw f3⟩)
  rw [(x2.w f3 lk118).t1, h3.r1, h3.l j hj]
/-- the first from k on, n of them, that has c -/
def fst (c : Nat → Bool) : Nat → Nat → Int32
  | 0, _ => -1
  | n + 1, k => if c k then nI k else fst c n (k + 1)
theorem fst_s {c : Nat → Bool} {n k : Nat} : fst c (n + 1) k = if c k then nI k else fst c n (k + 1) := rfl
theorem T_X9_leastHeap {j : Nat} (hX : CX S q P) (hL : LA S 43 (pY P) d L) (hB : LI B L) (hi : i < pN P) (hj : j < pY P) (hg : 3400 ≤ f) : zI (F_X9_leastHeapThatDraws f 0 [.ref 117, .int (nI i), .int (nI j)] S) (fun x T => x = fst (fun h => decide (0 < dv P i h (near (pY P) L j) (tv P i L))) 100 0 ∧ Fr dC S T) := by
  have hy := hX.pi.1.2.1
  have ht := tv_le (P := P) (i := i) (L := L) hX.pi hi
  have hnr := near_le (L := L) (k := j) hy
  obtain ⟨g, ge, hG⟩ := g1 hg; subst ge; clear hg; have hg := hG; clear hG; rw [E_X9_leastHeapThatDraws_0]; unfold F_X9_leastHeapThatDraws_0
  rw [hX.t0, hX.t3]
  refine o_I (T_X6_takenBy hX.cp hX.2.2.2 hX.pi hL hB hi (by omega)) ?_
  rintro _ S1 ⟨rfl, f1⟩
  have x1 := hX.fr f1 (fun x k d => by unfold dN; omega)
  have h1 := hL.fr f1 (fun x k a b c => by omega)
  rw [x1.t0]
  refine o_I (T_X4_nearOf h1 hB hy (by omega) (by omega)) ?_
  rintro _ S1 ⟨rfl, rfl⟩
  generalize near (pY P) L j = nr at hnr ⊢
  generalize tv P i L = hd at ht ⊢
  obtain ⟨V, eV⟩ : ∃ V, V = fst (fun h => decide (0 < dv P i h nr hd)) 100 0 := ⟨_, rfl⟩
  rw [← eV]
  refine o_loop (F := fun f vs S => F_X9_leastHeapThatDraws f 1 vs S) (c := 1) (B := 3040) (y := 100) (fun k vs T => vs = [.ref 117, .int (nI i), .int (nI hd), .int (nI nr), .int (nI k)] ∧ Fr dC S T ∧ V = fst (fun h => decide (0 < dv P i h nr hd)) (100 - k) k) ?_ ?_ 0 _ S1 g (by omega) ⟨rfl, f1, by rw [Nat.sub_zero]; exact eV⟩ (by omega)
  · rintro k _ T g hk ⟨rfl, hf, e⟩ hg rec
    have xT := hX.fr hf (fun x k d => by unfold dN; omega)
    show zO (F_X9_leastHeapThatDraws g 1 _ _) _
    obtain ⟨g, ge, hG⟩ := g1 hg; subst ge; clear hg; have hg := hG; clear hG; rw [E_X9_leastHeapThatDraws_1]; unfold F_X9_leastHeapThatDraws_1
    refine o_f (nI_nlt (a := 99) (by omega) (by omega)) ?_
    rw [xT.t3]
    refine o_I (T_X6_droppedBy xT.cp hX.2.2.2 hX.pi hi (by omega) (by omega) (by omega) (by omega)) ?_
    rintro _ T2 ⟨rfl, f2⟩
    have hdv := dv_le (P := P) (i := i) (heap := k) (nr := nr) (hand := hd) (by omega)
    rw [show 100 - k = 100 - (k + 1) + 1 by omega, fst_s] at e
    refine o_if (fun c => ?_) (fun c => ?_)
    · rw [show (0 : Int32) = nI 0 from rfl, nI_leI (by omega) (by omega)] at c
      rw [if_neg (by rw [decide_eq_false (by omega)]; decide)] at e
      exact rec g _ _ (by omega) ⟨by rw [nI_1], hf.tr f2, e⟩
    · rw [show (0 : Int32) = nI 0 from rfl, nI_leI (by omega) (by omega)] at c
      rw [if_pos (decide_eq_true (by omega))] at e
      exact i_r ⟨e.symm, hf.tr f2⟩
  · rintro _ T g ⟨rfl, hf, e⟩ hg
    show zO (F_X9_leastHeapThatDraws g 1 _ _) _
    obtain ⟨g, ge, hG⟩ := g1 hg; subst ge; clear hg; have hg := hG; clear hG; rw [E_X9_leastHeapThatDraws_1]; unfold F_X9_leastHeapThatDraws_1
    exact o_t (nI_lt (a := 99) (b := 100) (by omega) (by omega)) (i_r ⟨e.symm, hf⟩)
/-- hours: all walk, then the hour -/
def hA (P : aP) (d : Nat) (L : Lk) : Lk := hrL P (awA P d L)
def hoursF (P : aP) (d : Nat) (c : Lk → Bool) (c2 : Lk → Bool) : Nat → Nat → Lk → Int32
  | 0, _, _ => -1
  | n + 1, k, L => if c (awA P d L) then nI k else if c2 (hA P d L) then nI k else hoursF P d c c2 n (k + 1) (hA P d L)
theorem hoursF_s {P : aP} {d : Nat} {c c2 : Lk → Bool} {n k : Nat} {L : Lk} : hoursF P d c c2 (n + 1) k L = if c (awA P d L) then nI k else if c2 (hA P d L) then nI k else hoursF P d c c2 n (k + 1) (hA P d L) := rfl
theorem hA_LI (hI : PI P) (h : LI B L) : LI (B + 1) (hA P d L) := hrL_LI (awA_LI hI h) hI.1.2.1
theorem near0_9 {y : Nat} (hy : y ≤ 8) : near0 y L = 9 ↔ opF L y 0 = none := by
  unfold near0
  cases e : opF L y 0 with
  | none => simp [dst]
  | some z => have := opF_b e; simp [dst]; omega
theorem T_X9_hoursTillFull (hX : CX S q P) (hL : LA S 43 (pY P) d L) (hB : LI B L) (hd : d ≤ 9) (hBB : B < 2 ^ 29) (hg : 4300 ≤ f) : zI (F_X9_hoursTillFull f 0 [.ref 117] S) (fun x T => x = hoursF P d (fun L => (opF L (pY P) 0).isNone) (fun _ => false) 40 1 L ∧ Fr (dW 118) S T) := by
  have hy := hX.pi.1.2.1
  obtain ⟨V, eV⟩ : ∃ V, V = hoursF P d (fun L => (opF L (pY P) 0).isNone) (fun _ => false) 40 1 L := ⟨_, rfl⟩
  rw [← eV]
  obtain ⟨g, ge, hG⟩ := g1 hg; subst ge; clear hg; have hg := hG; clear hG; rw [E_X9_hoursTillFull_0]; unfold F_X9_hoursTillFull_0
  rw [hX.t0, hX.t1]
  refine o_V (T_now hX hL lk118 (by omega) (by omega)) ?_
  rintro S1 ⟨h1, h1n, x1, f1⟩
  have f1 : Fr (dW 118) S S1 := f1.lw (Fr.refl _)
  refine o_loop (F := fun f vs S => F_X9_hoursTillFull f 1 vs S) (c := 1) (B := 4200) (y := 41) (fun k vs T => ∃ M, vs = [.ref 117, .int (nI k)] ∧ LA T 118 (pY P) d M ∧ LI (B + k) M ∧ Fr (dW 118) S T ∧ V = hoursF P d (fun L => (opF L (pY P) 0).isNone) (fun _ => false) (41 - k) k M) ?_ ?_ 1 _ S1 g (by omega) ⟨L, rfl, h1, ⟨by have := hB.1; omega, hB.2⟩, f1, by rw [show 41 - 1 = 40 from rfl]; exact eV⟩ (by omega)
  · rintro k _ T g hk ⟨M, rfl, hT, hM, hf, e⟩ hg rec
    have xT := hX.w hf lk118
    show zO (F_X9_hoursTillFull g 1 _ _) _
    obtain ⟨g, ge, hG⟩ := g1 hg; subst ge; clear hg; have hg := hG; clear hG; rw [E_X9_hoursTillFull_1]; unfold F_X9_hoursTillFull_1
    refine o_f (nI_nlt (a := 40) (by omega) (by omega)) ?_
    rw [xT.t1]
    refine o_V (T_X9_all xT hT hM hd lk118 (by omega)) ?_
    rintro T2 ⟨h2, f2⟩
    have x2 := xT.w f2 lk118
    have hM2 := awA_LI (d := d) hX.pi hM
    rw [x2.t1]
    refine o_I (T_X4_open (k := 0) h2 hM2 hy (by omega) (by omega)) ?_
    rintro _ T2 ⟨rfl, rfl⟩
    rw [show 41 - k = 41 - (k + 1) + 1 by omega, hoursF_s] at e
    have en : dst 0 (opF (awA P d M) (pY P - 0) 0) = near0 (pY P) (awA P d M) := rfl
    have hn0 := near0_le (L := awA P d M) hy
    rw [en]
    refine o_if (fun c => ?_) (fun c => ?_)
    · have c := (nI_eq (b := 9) (by omega) (by omega)).mp c
      rw [near0_9 hy] at c
      rw [if_pos (by rw [c]; rfl)] at e
      exact i_r ⟨e.symm, hf.tr f2⟩
    · have c : ¬ near0 (pY P) (awA P d M) = 9 := fun h => c (by rw [h]; rfl)
      rw [near0_9 hy] at c
      rw [if_neg (by simp only [Option.isNone_iff_eq_none]; exact c), if_neg (by decide)] at e
      rw [x2.t1, x2.t3]
      refine o_I (T_X4_passHour h2 x2.cp hX.pi hM2 (by omega) (by omega)) ?_
      rintro _ T3 ⟨-, h3, f3⟩
      exact rec g _ _ (by omega) ⟨hA P d M, by rw [nI_1], h3, hA_LI hX.pi hM, (hf.tr f2).tr (f3.lw (Fr.refl _)), e⟩
  · rintro _ T g ⟨M, rfl, hT, hM, hf, e⟩ hg
    show zO (F_X9_hoursTillFull g 1 _ _) _
    obtain ⟨g, ge, hG⟩ := g1 hg; subst ge; clear hg; have hg := hG; clear hG; rw [E_X9_hoursTillFull_1]; unfold F_X9_hoursTillFull_1
    exact o_t (nI_lt (a := 40) (b := 41) (by omega) (by omega)) (i_r ⟨e.symm, hf⟩)
theorem T_X9_hoursTillLittered {j : Nat} (hX : CX S q P) (hL : LA S 43 (pY P) d L) (hB : LI B L) (hd : d ≤ 9) (hBB : B < 2 ^ 29) (hj : j < 8) (hg : 4300 ≤ f) : zI (F_X9_hoursTillLittered f 0 [.ref 117, .int (nI j)] S) (fun x T => x = hoursF P d (fun _ => false) (fun L => decide (0 < L (4 + j))) 40 1 L ∧ Fr (dW 118) S T) := by
  have hy := hX.pi.1.2.1
  obtain ⟨V, eV⟩ : ∃ V, V = hoursF P d (fun _ => false) (fun L => decide (0 < L (4 + j))) 40 1 L := ⟨_, rfl⟩
  rw [← eV]
  obtain ⟨g, ge, hG⟩ := g1 hg; subst ge; clear hg; have hg := hG; clear hG; rw [E_X9_hoursTillLittered_0]; unfold F_X9_hoursTillLittered_0
  rw [hX.t0, hX.t1]
  refine o_V (T_now hX hL lk118 (by omega) (by omega)) ?_
  rintro S1 ⟨h1, h1n, x1, f1⟩
  have f1 : Fr (dW 118) S S1 := f1.lw (Fr.refl _)
  refine o_loop (F := fun f vs S => F_X9_hoursTillLittered f 1 vs S) (c := 1) (B := 4200) (y := 41) (fun k vs T => ∃ M, vs = [.ref 117, .int (nI j), .int (nI k)] ∧ LA T 118 (pY P) d M ∧ LI (B + k) M ∧ Fr (dW 118) S T ∧ V = hoursF P d (fun _ => false) (fun L => decide (0 < L (4 + j))) (41 - k) k M) ?_ ?_ 1 _ S1 g (by omega) ⟨L, rfl, h1, ⟨by have := hB.1; omega, hB.2⟩, f1, by rw [show 41 - 1 = 40 from rfl]; exact eV⟩ (by omega)
  · rintro k _ T g hk ⟨M, rfl, hT, hM, hf, e⟩ hg rec
    have xT := hX.w hf lk118
    show zO (F_X9_hoursTillLittered g 1 _ _) _
    obtain ⟨g, ge, hG⟩ := g1 hg; subst ge; clear hg; have hg := hG; clear hG; rw [E_X9_hoursTillLittered_1]; unfold F_X9_hoursTillLittered_1
    refine o_f (nI_nlt (a := 40) (by omega) (by omega)) ?_
    rw [xT.t1]
    refine o_V (T_X9_all xT hT hM hd lk118 (by omega)) ?_
    rintro T2 ⟨h2, f2⟩
    have x2 := xT.w f2 lk118
    have hM2 := awA_LI (d := d) hX.pi hM
    rw [x2.t1, x2.t3]
    refine o_I (T_X4_passHour h2 x2.cp hX.pi hM2 (by omega) (by omega)) ?_
    rintro _ T3 ⟨-, h3, f3⟩
    have x3 := x2.l f3 lk118
    rw [show 41 - k = 41 - (k + 1) + 1 by omega, hoursF_s] at e
    rw [if_neg (by decide)] at e
    refine o_X rfl hj ?_
    rw [x3.t1, h3.r1, h3.l j hj]
    have hb : hrL P (awA P d M) (4 + j) ≤ 999 := ((hA_LI (d := d) hX.pi hM).2 j hj).1
    refine o_if (fun c => ?_) (fun c => ?_)
    · rw [show (0 : Int32) = nI 0 from rfl, nI_leI (by omega) (by omega)] at c
      rw [if_neg (by rw [decide_eq_false (show ¬ 0 < hA P d M (4 + j) by unfold hA; omega)]; decide)] at e
      exact rec g _ _ (by omega) ⟨hA P d M, by rw [nI_1], h3, hA_LI hX.pi hM, (hf.tr f2).tr (f3.lw (Fr.refl _)), e⟩
    · rw [show (0 : Int32) = nI 0 from rfl, nI_leI (by omega) (by omega)] at c
      rw [if_pos (decide_eq_true (show 0 < hA P d M (4 + j) by unfold hA; omega))] at e
      exact i_r ⟨e.symm, (hf.tr f2).tr (f3.lw (Fr.refl _))⟩
  · rintro _ T g ⟨M, rfl, hT, hM, hf, e⟩ hg
    show zO (F_X9_hoursTillLittered g 1 _ _) _
    obtain ⟨g, ge, hG⟩ := g1 hg; subst ge; clear hg; have hg := hG; clear hG; rw [E_X9_hoursTillLittered_1]; unfold F_X9_hoursTillLittered_1
    exact o_t (nI_lt (a := 40) (b := 41) (by omega) (by omega)) (i_r ⟨e.symm, hf⟩)
theorem T_X9_leastDeposit {m : Nat} (hX : CX S q P) (hL : LA S 43 (pY P) d L) (hB : LI B L) (hm : m ≤ 999) (hg : 4300 ≤ f) : zI (F_X9_leastDeposit f 0 [.ref 117, .int (nI m)] S) (fun x T => x = fst (fun d => decide (tot (pY P) (awA P d L) ≤ m)) 10 0 ∧ Fr (dW 118) S T) := by
  have hy := hX.pi.1.2.1
  obtain ⟨V, eV⟩ : ∃ V, V = fst (fun d => decide (tot (pY P) (awA P d L) ≤ m)) 10 0 := ⟨_, rfl⟩
  rw [← eV]
  obtain ⟨g, ge, hG⟩ := g1 hg; subst ge; clear hg; have hg := hG; clear hG; rw [E_X9_leastDeposit_0]; unfold F_X9_leastDeposit_0
  refine o_loop (F := fun f vs S => F_X9_leastDeposit f 1 vs S) (c := 1) (B := 4200) (y := 10) (fun k vs T => vs = [.ref 117, .int (nI m), .int (nI k)] ∧ Fr (dW 118) S T ∧ V = fst (fun d => decide (tot (pY P) (awA P d L) ≤ m)) (10 - k) k) ?_ ?_ 0 _ S g (by omega) ⟨rfl, Fr.refl S, by rw [Nat.sub_zero]; exact eV⟩ (by omega)
  · rintro k _ T g hk ⟨rfl, hf, e⟩ hg rec
    have xT := hX.w hf lk118
    have hLT := hL.fr hf (fun x k a b c => by omega)
    show zO (F_X9_leastDeposit g 1 _ _) _
    obtain ⟨g, ge, hG⟩ := g1 hg; subst ge; clear hg; have hg := hG; clear hG; rw [E_X9_leastDeposit_1]; unfold F_X9_leastDeposit_1
    refine o_f (nI_nlt (a := 9) (by omega) (by omega)) ?_
    rw [xT.t0, xT.t1]
    refine o_V (T_now xT hLT lk118 (by omega) (by omega)) ?_
    rintro S1 ⟨h1, h1n, x1, f1⟩
    rw [x1.t1]
    refine o_s (fun S2 e2 => ?_)
    have h2 := h1.sd e2
    have f2 := f1.sI e2 (by unfold dL; omega)
    have x2 := xT.l f2 lk118
    rw [x2.t1]
    refine o_V (T_X9_all x2 h2 hB (by omega) lk118 (by omega)) ?_
    rintro S3 ⟨h3, f3⟩
    rw [(x2.w f3 lk118).t1]
    refine o_I (T_X4_total h3 hy (by omega)) ?_
    rintro _ S3 ⟨rfl, rfl⟩
    have ht := tot_le (awA_LI (d := k) hX.pi hB) hy
    rw [show 10 - k = 10 - (k + 1) + 1 by omega, fst_s] at e
    refine o_if (fun c => ?_) (fun c => ?_)
    · rw [nI_ltI (by omega) (by omega)] at c
      rw [if_neg (by rw [decide_eq_false (by omega)]; decide)] at e
      exact rec g _ _ (by omega) ⟨by rw [nI_1], hf.tr (f2.lw f3), e⟩
    · rw [nI_ltI (by omega) (by omega)] at c
      rw [if_pos (decide_eq_true (by omega))] at e
      exact i_r ⟨e.symm, hf.tr (f2.lw f3)⟩
  · rintro _ T g ⟨rfl, hf, e⟩ hg
    show zO (F_X9_leastDeposit g 1 _ _) _
    obtain ⟨g, ge, hG⟩ := g1 hg; subst ge; clear hg; have hg := hG; clear hG; rw [E_X9_leastDeposit_1]; unfold F_X9_leastDeposit_1
    exact o_t (nI_lt (a := 9) (b := 10) (by omega) (by omega)) (i_r ⟨e.symm, hf⟩)
end TR

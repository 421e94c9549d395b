/-! judged: both sides -/
def jCan (P : aP) (M : Lk) (l : Nat × Nat × Nat) : Bool := if l.1 = 0 ∨ l.1 = 5 then true else decide (l.2.1 < pY P) && (if l.1 = 4 then true else if l.1 = 2 then decide (M (12 + l.2.1) = 0) else decide (M (12 + l.2.1) ≠ 0))
def jDo (P : aP) (M : Lk) (l : Nat × Nat × Nat) : Lk := if l.1 = 0 then wk P l.2.1 (pDe P) M else if l.1 = 1 then empB M l.2.1 (pPe P) else if l.1 = 2 then setB M l.2.1 l.2.2 else if l.1 = 3 then setB M l.2.1 0 else if l.1 = 4 then up1 M (4 + l.2.1) 0 else hrL P M
def jLit (P : aP) (M : Lk) (l : Nat × Nat × Nat) : Bool := decide (l.1 = 0) && decide (0 < (wE P l.2.1 (pDe P) M).2.2.2.1)
def js (P : aP) (k : Nat) (x : Lk × Int32 × Int32) (l : Nat × Nat × Nat) : Lk × Int32 × Int32 := if jCan P x.1 l then (jDo P x.1 l, x.2.1, if jLit P x.1 l then (if x.2.2 = -1 then nI k else x.2.2) else x.2.2) else (x.1, if x.2.1 = -1 then nI k else x.2.1, x.2.2)
def jN (P : aP) (dy : List (Nat × Nat × Nat)) : Nat → Lk × Int32 × Int32
  | 0 => (bgL P, -1, -1)
  | k + 1 => js P k (jN P dy k) (dy.getD k (0, 0, 0))
theorem jN_s (P : aP) (dy : List (Nat × Nat × Nat)) (k : Nat) : jN P dy (k + 1) = js P k (jN P dy k) (dy.getD k (0, 0, 0)) := rfl
theorem jDo_LI {P : aP} {M : Lk} {B : Nat} {l : Nat × Nat × Nat} (hI : PI P) (h : LI B M) (hl : okD P l) : LI (B + 1) (jDo P M l) := by
  have h' := h.up (m := B + 1) (by omega)
  obtain ⟨l0, l1, l2, l3, l4⟩ := hl
  unfold jDo
  split
  · rename_i e; exact wk_LI hI (l1 e) h'
  · split
    · exact empB_LI h' l2
    · split
      · exact setB_LI h' l2 l3
      · split
        · exact setB_LI h' l2 (by omega)
        · split
          · refine ⟨by rw [up1_at, if_neg (by omega)]; exact h'.1, fun x hx => ?_⟩
            have hb := h'.2 x hx
            simp only [up1_at]
            rw [if_neg (show ¬ 20 + x = 4 + l.2.1 by omega), if_neg (show ¬ 12 + x = 4 + l.2.1 by omega)]
            refine ⟨?_, hb.2⟩
            split
            · omega
            · exact hb.1
          · exact hrL_LI h hI.1.2.1
/-- -1, or a line's number -/
def jOk (x : Int32) : Prop := x = -1 ∨ ∃ j : Nat, j < 40 ∧ x = nI j
theorem jOk.lt {x : Int32} (h : jOk x) : (0 : Int32) ≤ x ↔ ¬ x = -1 := by
  rcases h with rfl | ⟨j, hj, rfl⟩
  · decide
  · exact ⟨fun _ => nI_m1 (by omega), fun _ => nI_pos' (by omega)⟩
theorem jN_i {P : aP} {dy : List (Nat × Nat × Nat)} (hI : PI P) (hl : dy.length ≤ 40) (hd : ∀ x, x ∈ dy → okD P x) : ∀ k, k ≤ dy.length → LI k (jN P dy k).1 ∧ jOk (jN P dy k).2.1 ∧ jOk (jN P dy k).2.2
  | 0, _ => ⟨bgL_LI hI, Or.inl rfl, Or.inl rfl⟩
  | k + 1, hk => by
    obtain ⟨h1, h2, h3⟩ := jN_i hI hl hd k (by omega)
    rw [jN_s]
    have hok : okD P (dy.getD k (0, 0, 0)) := hd _ (by
      rw [List.getD_eq_getElem?_getD, List.getElem?_eq_getElem (by omega)]
      exact List.getElem_mem _)
    generalize dy.getD k (0, 0, 0) = l at hok
    generalize jN P dy k = x at h1 h2 h3
    unfold js
    split
    · refine ⟨jDo_LI hI h1 hok, h2, ?_⟩
      show jOk (if _ then (if _ then _ else _) else _)
      split
      · split
        · exact Or.inr ⟨k, by omega, rfl⟩
        · exact h3
      · exact h3
    · refine ⟨h1.up (by omega), ?_, h3⟩
      show jOk (if _ then _ else _)
      split
      · exact Or.inr ⟨k, by omega, rfl⟩
      · exact h2
section PJ
variable {S T : aS} {A : aA} {q f n B : Nat} {P : aP} {L M : Lk}
theorem CX.d (h : CX S q P) {t : Nat} (ht : t = 35 ∨ t = 39) : gR S t 0 = t + 1 ∧ gR S t 1 = t + 2 ∧ gR S t 2 = t + 3 := by
  rcases ht with rfl | rfl
  · exact ⟨h.1.1 35 0 (by omega) rfl, h.1.1 35 1 (by omega) rfl, h.1.1 35 2 (by omega) rfl⟩
  · exact ⟨h.1.1 39 0 (by omega) rfl, h.1.1 39 1 (by omega) rfl, h.1.1 39 2 (by omega) rfl⟩
theorem T_X9_canBe {t k : Nat} {dy : List (Nat × Nat × Nat)} (hX : CX S q P) (ht : t = 35 ∨ t = 39) (hD : CDl S t dy) (hl : dy.length ≤ 40) (hk : k < dy.length) (hM : LA S 118 (pY P) (pDe P) M) (hB : LI B M) (hok : okD P (dy.getD k (0, 0, 0))) (hg : 20 ≤ f) : zI (F_X9_canBe f 0 [.ref 117, .ref t, .int (nI k)] S) (fun x T => x = (if jCan P M (dy.getD k (0, 0, 0)) then 1 else 0) ∧ T = S) := by
  have hy := hX.pi.1.2.1
  obtain ⟨d1, d2, d3⟩ := hD.2 k hk
  obtain ⟨r0, r1', r2'⟩ := hX.d ht
  generalize dy.getD k (0, 0, 0) = l at hok d1 d2 d3
  obtain ⟨l0, l1, l2, l3, l4⟩ := hok
  have ybin : ∀ (w : Nat), w < 8 → zI (F_X4_hasBin (f - 1) 0 [.ref 118, .int (nI w)] S) (fun x T => x = (if w < pY P ∧ M (12 + w) ≠ 0 then 1 else 0) ∧ T = S) := by
    intro w hw
    by_cases c : w < pY P
    · refine i_m (T_X4_hasBin hM hB hy c (by omega)) ?_
      rintro x U ⟨rfl, rfl⟩
      refine ⟨?_, rfl⟩
      by_cases c2 : M (12 + w) = 0
      · rw [if_pos c2, if_neg (by omega)]
      · rw [if_neg c2, if_pos ⟨c, c2⟩]
    · refine i_m (T_X4_hasBin0 hM (Or.inr (nI_le (by omega) (by omega))) (by omega)) ?_
      rintro x U ⟨rfl, rfl⟩
      exact ⟨by rw [if_neg (by omega)], rfl⟩
  have yyard : ∀ (w : Nat), w < 8 → zI (F_X4_hasYard (f - 1) 0 [.ref 118, .int (nI w)] S) (fun x T => x = (if w < pY P then 1 else 0) ∧ T = S) := by
    intro w hw
    by_cases c : w < pY P
    · refine i_m (T_X4_hasYard hM hy c (by omega)) ?_
      rintro x U ⟨rfl, rfl⟩
      exact ⟨by rw [if_pos c], rfl⟩
    · refine i_m (T_X4_hasYard0 hM (Or.inr (nI_le (by omega) (by omega))) (by omega)) ?_
      rintro x U ⟨rfl, rfl⟩
      exact ⟨by rw [if_neg c], rfl⟩
  obtain ⟨g, ge, hG⟩ := g1 hg; subst ge; clear hg; have hg := hG; clear hG; rw [E_X9_canBe_0]; unfold F_X9_canBe_0
  rw [Nat.add_sub_cancel] at ybin yyard
  refine o_X rfl (show k < 40 by omega) ?_
  refine o_X rfl (show k < 40 by omega) ?_
  rw [r0, r1', d1, hX.t1]
  rcases (show l.1 = 0 ∨ l.1 = 1 ∨ l.1 = 2 ∨ l.1 = 3 ∨ l.1 = 4 ∨ l.1 = 5 by omega) with e | e | e | e | e | e
  · rw [show jCan P M l = true by unfold jCan; rw [if_pos (Or.inl e)], e]
    exact o_f (by decide) (o_f (by decide) (o_f (by decide) (o_f (by decide) (o_Z (Or.inr rfl) (i_r ⟨rfl, rfl⟩)))))
  · rw [d2 (by omega), e]
    refine o_t rfl ?_
    refine o_I (ybin l.2.1 l2) ?_
    rintro _ S ⟨rfl, rfl⟩
    refine o_Z (by split <;> simp) (i_r ⟨?_, rfl⟩)
    rw [show jCan P M l = (decide (l.2.1 < pY P) && decide (M (12 + l.2.1) ≠ 0)) by unfold jCan; rw [if_neg (by omega), if_neg (by omega), if_neg (by omega)]]
    by_cases c : l.2.1 < pY P ∧ M (12 + l.2.1) ≠ 0
    · rw [if_pos c, decide_eq_true c.1, decide_eq_true c.2]; rfl
    · rw [if_neg c, if_neg]
      simp only [Bool.and_eq_true, decide_eq_true_eq]
      exact c
  · rw [d2 (by omega), e]
    refine o_f (by decide) (o_t rfl ?_)
    refine o_I (yyard l.2.1 l2) ?_
    rintro _ S ⟨rfl, rfl⟩
    rw [show jCan P M l = (decide (l.2.1 < pY P) && decide (M (12 + l.2.1) = 0)) by unfold jCan; rw [if_neg (by omega), if_neg (by omega), if_pos e]]
    by_cases c : l.2.1 < pY P
    · rw [if_pos c]
      refine o_f (by decide) ?_
      rw [hX.t1]
      refine o_I (ybin l.2.1 l2) ?_
      rintro _ S ⟨rfl, rfl⟩
      have e2 : (if (if l.2.1 < pY P ∧ M (12 + l.2.1) ≠ 0 then (1 : Int32) else 0) = 0 then (1 : Int32) else 0) = if (decide (l.2.1 < pY P) && decide (M (12 + l.2.1) = 0)) then 1 else 0 := by
        rw [decide_eq_true c]
        by_cases c2 : M (12 + l.2.1) = 0
        · rw [if_neg (show ¬ (l.2.1 < pY P ∧ M (12 + l.2.1) ≠ 0) by omega), decide_eq_true c2]; rfl
        · rw [if_pos (show l.2.1 < pY P ∧ M (12 + l.2.1) ≠ 0 from ⟨c, c2⟩), decide_eq_false c2]; rfl
      rw [e2]
      refine o_Z (by split <;> simp) (i_r ⟨rfl, rfl⟩)
    · rw [if_neg c]
      refine o_t rfl ?_
      obtain ⟨g, ge, hG⟩ := g1 hg; subst ge; clear hg; have hg := hG; clear hG; rw [E_X9_canBe_1]; unfold F_X9_canBe_1
      obtain ⟨g, ge, hG⟩ := g1 hg; subst ge; clear hg; have hg := hG; clear hG; rw [E_X9_canBe_2]; unfold F_X9_canBe_2
      refine o_Z (Or.inl rfl) (i_r ⟨?_, rfl⟩)
      rw [decide_eq_false c]
      rfl
  · rw [d2 (by omega), e]
    refine o_f (by decide) (o_f (by decide) (o_t rfl ?_))
    refine o_I (ybin l.2.1 l2) ?_
    rintro _ S ⟨rfl, rfl⟩
    refine o_Z (by split <;> simp) (i_r ⟨?_, rfl⟩)
    rw [show jCan P M l = (decide (l.2.1 < pY P) && decide (M (12 + l.2.1) ≠ 0)) by unfold jCan; rw [if_neg (by omega), if_neg (by omega), if_neg (by omega)]]
    by_cases c : l.2.1 < pY P ∧ M (12 + l.2.1) ≠ 0
    · rw [if_pos c, decide_eq_true c.1, decide_eq_true c.2]; rfl
    · rw [if_neg c, if_neg]
      simp only [Bool.and_eq_true, decide_eq_true_eq]
      exact c
  · rw [d2 (by omega), e]
    refine o_f (by decide) (o_f (by decide) (o_f (by decide) (o_t rfl ?_)))
    refine o_I (yyard l.2.1 l2) ?_
    rintro _ S ⟨rfl, rfl⟩
    refine o_Z (by split <;> simp) (i_r ⟨?_, rfl⟩)
    rw [show jCan P M l = decide (l.2.1 < pY P) by unfold jCan; rw [if_neg (by omega), if_pos e, Bool.and_true]]
    by_cases c : l.2.1 < pY P
    · rw [if_pos c, decide_eq_true c]; rfl
    · rw [if_neg c, decide_eq_false c]; rfl
  · rw [show jCan P M l = true by unfold jCan; rw [if_pos (Or.inr e)], e]
    exact o_f (by decide) (o_f (by decide) (o_f (by decide) (o_f (by decide) (o_Z (Or.inr rfl) (i_r ⟨rfl, rfl⟩)))))
theorem T_X9_act {t k : Nat} {dy : List (Nat × Nat × Nat)} (hX : CX S q P) (ht : t = 35 ∨ t = 39) (hD : CDl S t dy) (hl : dy.length ≤ 40) (hk : k < dy.length) (hM : LA S 118 (pY P) (pDe P) M) (hB : LI B M) (hBB : B < 2 ^ 30) (hok : okD P (dy.getD k (0, 0, 0))) (hg : 4100 ≤ f) : zU (F_X9_act f 0 [.ref 117, .ref t, .int (nI k)] S) (fun T => LA T 118 (pY P) (pDe P) (jDo P M (dy.getD k (0, 0, 0))) ∧ ((dy.getD k (0, 0, 0)).1 = 0 → gI T 122 3 = nI (wE P (dy.getD k (0, 0, 0)).2.1 (pDe P) M).2.2.2.1) ∧ Fr (dW 118) S T) := by
  have hy := hX.pi.1.2.1
  have hd9 := hX.pi.1.2.2.2.2.2
  obtain ⟨d1, d2, d3⟩ := hD.2 k hk
  obtain ⟨r0, r1', r2'⟩ := hX.d ht
  generalize dy.getD k (0, 0, 0) = l at hok d1 d2 d3
  obtain ⟨l0, l1, l2, l3, l4⟩ := hok
  obtain ⟨g, ge, hG⟩ := g1 hg; subst ge; clear hg; have hg := hG; clear hG; rw [E_X9_act_0]; unfold F_X9_act_0
  refine o_X rfl (show k < 40 by omega) ?_
  refine o_X rfl (show k < 40 by omega) ?_
  rw [r0, r1', r2', d1, hX.t1, hX.t3]
  have fin : ∀ (U : aS) (g : Nat), 1 ≤ g → (LA U 118 (pY P) (pDe P) (jDo P M l) ∧ (l.1 = 0 → gI U 122 3 = nI (wE P l.2.1 (pDe P) M).2.2.2.1) ∧ Fr (dW 118) S U) → zU (F_X9_act g 1 [] U) (fun T => LA T 118 (pY P) (pDe P) (jDo P M l) ∧ (l.1 = 0 → gI T 122 3 = nI (wE P l.2.1 (pDe P) M).2.2.2.1) ∧ Fr (dW 118) S T) := by
    intro U g hg h
    obtain ⟨g, ge, hG⟩ := g1 hg; subst ge; clear hg; have hg := hG; clear hG; rw [E_X9_act_1]; unfold F_X9_act_1
    exact u_r h
  unfold jDo at fin ⊢
  rcases (show l.1 = 0 ∨ l.1 = 1 ∨ l.1 = 2 ∨ l.1 = 3 ∨ l.1 = 4 ∨ l.1 = 5 by omega) with e | e | e | e | e | e
  · rw [d2 (by omega)]
    rw [e] at fin ⊢
    refine o_t rfl ?_
    refine o_I (T_X9_walkOf hX hM hB hd9 (l1 e) lk118 (by omega)) ?_
    rintro _ S1 ⟨rfl, h1, w1, f1⟩
    exact fin S1 g (by omega) ⟨h1, fun _ => w1.2.2.2.1, f1⟩
  · rw [d2 (by omega)]
    rw [e] at fin ⊢
    refine o_f (by decide) (o_t rfl ?_)
    rw [hX.cp.2.1.2.2.2.1]
    refine o_I (T_X4_emptyBin hM l2 (by omega)) ?_
    rintro _ S1 ⟨rfl, h1, f1⟩
    exact fin S1 g (by omega) ⟨h1, fun h => absurd h (by omega), f1.lw (Fr.refl _)⟩
  · rw [d2 (by omega)]
    rw [e] at fin ⊢
    refine o_f (by decide) (o_f (by decide) (o_t rfl ?_))
    refine o_X rfl (show k < 40 by omega) ?_
    rw [d3]
    refine o_V (T_X4_setBin hM l2 (by omega)) ?_
    rintro S1 ⟨h1, f1⟩
    exact fin S1 g (by omega) ⟨h1, fun h => absurd h (by omega), f1.lw (Fr.refl _)⟩
  · rw [d2 (by omega)]
    rw [e] at fin ⊢
    refine o_f (by decide) (o_f (by decide) (o_f (by decide) (o_t rfl ?_)))
    refine o_I (T_X4_takeBin hM l2 (by omega)) ?_
    rintro _ S1 ⟨rfl, h1, f1⟩
    exact fin S1 g (by omega) ⟨h1, fun h => absurd h (by omega), f1.lw (Fr.refl _)⟩
  · rw [d2 (by omega)]
    rw [e] at fin ⊢
    refine o_f (by decide) (o_f (by decide) (o_f (by decide) (o_f (by decide) (o_t rfl ?_))))
    refine o_I (T_X4_sweepYard hM l2 (by omega)) ?_
    rintro _ S1 ⟨rfl, h1, f1⟩
    exact fin S1 g (by omega) ⟨h1, fun h => absurd h (by omega), f1.lw (Fr.refl _)⟩
  · rw [e] at fin ⊢
    refine o_f (by decide) (o_f (by decide) (o_f (by decide) (o_f (by decide) (o_f (by decide) ?_))))
    refine o_I (T_X4_passHour hM hX.cp hX.pi hB hBB (by omega)) ?_
    rintro _ S1 ⟨rfl, h1, f1⟩
    exact fin S1 g (by omega) ⟨h1, fun h => absurd h (by omega), f1.lw (Fr.refl _)⟩
abbrev dJg : Nat → Nat → Prop := fun x k => dW 118 x k ∨ (x = 117 ∧ 5 ≤ k)
theorem T_X9_judge {t : Nat} {dy : List (Nat × Nat × Nat)} (hX : CX S q P) (ht : t = 35 ∨ t = 39) (hD : CDl S t dy) (hl : dy.length ≤ 40) (hok : ∀ x, x ∈ dy → okD P x) (hg : 4500 ≤ f) : zU (F_X9_judge f 0 [.ref 117, .ref t] S) (fun T => gI T 117 5 = (jN P dy dy.length).2.1 ∧ gI T 117 6 = (jN P dy dy.length).2.2 ∧ gI T 117 7 = nI (tot (pY P) (jN P dy dy.length).1) ∧ Fr dJg S T) := by
  have hy := hX.pi.1.2.1
  have xx : ∀ T, Fr dJg S T → CX T q P := fun T hf => hX.fr hf (fun x k d => by unfold dJg dW at d; unfold dN; omega)
  have dd : ∀ T, Fr dJg S T → CDl T t dy := fun T hf => hD.fg hf.g (fun x k a b d => by unfold dJg dW at d; omega)
  obtain ⟨g, ge, hG⟩ := g1 hg; subst ge; clear hg; have hg := hG; clear hG; rw [E_X9_judge_0]; unfold F_X9_judge_0
  refine o_s (fun S1 e1 => ?_)
  have f1 := (Fr.refl (D := dJg) S).sI e1 (Or.inr ⟨rfl, by omega⟩)
  refine o_s (fun S2 e2 => ?_)
  have f2 := f1.sI e2 (Or.inr ⟨rfl, by omega⟩)
  have x2 := xx S2 f2
  rw [x2.t1, x2.t3]
  refine o_V (T_X4_begin (x2.lr lk118) x2.cp hX.pi (by omega) hX.2.2.2 (by omega)) ?_
  rintro S3 ⟨h3, f3⟩
  have g5 : gI S3 117 5 = -1 ∧ gI S3 117 6 = -1 := by
    rw [f3.2 _ _ (by unfold dL; omega), f3.2 _ _ (by unfold dL; omega)]
    subst e2 e1
    refine ⟨?_, ?_⟩
    · rw [gI_sI, if_neg (by omega), gI_sI, if_pos ⟨rfl, rfl⟩]
    · rw [gI_sI, if_pos ⟨rfl, rfl⟩]
  have f3 : Fr dJg S S3 := f2.tr (f3.mono (fun x k d => by unfold dL at d; unfold dJg dW; omega))
  refine o_loop (F := fun f vs S => F_X9_judge f 1 vs S) (c := 2) (B := 4110) (y := dy.length) (fun k vs U => vs = [.ref 117, .ref t, .int (nI k)] ∧ LA U 118 (pY P) (pDe P) (jN P dy k).1 ∧ gI U 117 5 = (jN P dy k).2.1 ∧ gI U 117 6 = (jN P dy k).2.2 ∧ Fr dJg S U) ?_ ?_ 0 _ S3 g (by omega) ⟨rfl, h3, g5.1, g5.2, f3⟩ (by omega)
  · rintro k _ U g hk ⟨rfl, hU, hu5, hu6, hf⟩ hg rk
    obtain ⟨i1, i2, i3⟩ := jN_i hX.pi hl hok k (by omega)
    have hokk : okD P (dy.getD k (0, 0, 0)) := hok _ (by
      rw [List.getD_eq_getElem?_getD, List.getElem?_eq_getElem (by omega)]
      exact List.getElem_mem _)
    have xU := xx U hf
    have dU := dd U hf
    simp only [jN_s] at rk
    generalize jN P dy k = x at hU hu5 hu6 i1 i2 i3 rk
    show zO (F_X9_judge g 1 _ _) _
    obtain ⟨g, ge, hG⟩ := g1 hg; subst ge; clear hg; have hg := hG; clear hG; rw [E_X9_judge_1]; unfold F_X9_judge_1
    rw [dU.1]
    refine o_f (nI_ge hk (by omega)) ?_
    refine o_I (T_X9_canBe xU ht dU hl hk hU i1 hokk (by omega)) ?_
    rintro _ U ⟨rfl, rfl⟩
    by_cases c : jCan P x.1 (dy.getD k (0, 0, 0)) = true
    · rw [if_pos c]
      refine o_f (by decide) ?_
      refine o_V (T_X9_act xU ht dU hl hk hU i1 (by omega) hokk (by omega)) ?_
      rintro U1 ⟨h1, w1, g1'⟩
      have ff := hf.tr (g1'.mono (fun x k d => Or.inl d))
      have x1 := xx U1 ff
      have d1 := dd U1 ff
      have hu5' : gI U1 117 5 = x.2.1 := by rw [g1'.2 _ _ (by unfold dW; omega)]; exact hu5
      have hu6' : gI U1 117 6 = x.2.2 := by rw [g1'.2 _ _ (by unfold dW; omega)]; exact hu6
      have ejs : js P k x (dy.getD k (0, 0, 0)) = (jDo P x.1 (dy.getD k (0, 0, 0)), x.2.1, if jLit P x.1 (dy.getD k (0, 0, 0)) then (if x.2.2 = -1 then nI k else x.2.2) else x.2.2) := if_pos c
      rw [ejs] at rk
      refine o_X rfl (show k < 40 by omega) ?_
      obtain ⟨z1, z2, z3⟩ := d1.2 k hk
      rw [(x1.d ht).1, z1, x1.t2, hu6']
      have elit : (if nI (dy.getD k (0, 0, 0)).1 = (0 : Int32) then if gI U1 122 3 ≤ (0 : Int32) then (0 : Int32) else 1 else 0) = if jLit P x.1 (dy.getD k (0, 0, 0)) then 1 else 0 := by
        unfold jLit
        by_cases c0 : (dy.getD k (0, 0, 0)).1 = 0
        · have hw := wN_i (d := pDe P) hX.pi (hokk.2.1 c0) i1 (pY P) hy
          have ht2 := tv_le (P := P) (i := (dy.getD k (0, 0, 0)).2.1) (L := x.1) hX.pi (hokk.2.1 c0)
          have hw9 : (wE P (dy.getD k (0, 0, 0)).2.1 (pDe P) x.1).2.2.2.1 ≤ 9 := by unfold wE; omega
          rw [w1 c0, c0, if_pos (show nI 0 = (0 : Int32) from rfl), decide_eq_true (show (0 : Nat) = 0 from rfl), Bool.true_and]
          by_cases c1 : 0 < (wE P (dy.getD k (0, 0, 0)).2.1 (pDe P) x.1).2.2.2.1
          · rw [if_neg (nI_nle c1 (by omega)), decide_eq_true c1]; rfl
          · rw [show (wE P (dy.getD k (0, 0, 0)).2.1 (pDe P) x.1).2.2.2.1 = 0 by omega]; rfl
        · have := hokk.1
          rw [if_neg (show ¬ nI (dy.getD k (0, 0, 0)).1 = (0 : Int32) from nI_ne (b := 0) c0 (by omega) (by omega)), decide_eq_false c0]; rfl
      refine o_lI ?_
      rw [elit]
      by_cases cl : jLit P x.1 (dy.getD k (0, 0, 0)) = true
      · rw [if_pos cl] at rk ⊢
        refine o_f (by decide) ?_
        refine o_if (fun c6 => ?_) (fun c6 => ?_)
        · rw [if_pos c6] at rk
          refine o_s (fun U2 u2 => ?_)
          have g2 : Fr (fun x k => x = 117 ∧ k = 6) U1 U2 := (Fr.refl _).sI u2 ⟨rfl, rfl⟩
          obtain ⟨g, ge, hG⟩ := g1 hg; subst ge; clear hg; have hg := hG; clear hG; rw [E_X9_judge_2]; unfold F_X9_judge_2
          refine rk g _ _ (by omega) ⟨by rw [nI_1], h1.fr g2 (fun x k a b d => by omega), by rw [g2.2 _ _ (by omega)]; exact hu5', by subst u2; rw [gI_sI, if_pos ⟨rfl, rfl⟩], ff.tr (g2.mono (fun x k d => Or.inr ⟨d.1, by omega⟩))⟩
        · rw [if_neg c6] at rk
          obtain ⟨g, ge, hG⟩ := g1 hg; subst ge; clear hg; have hg := hG; clear hG; rw [E_X9_judge_2]; unfold F_X9_judge_2
          exact rk g _ _ (by omega) ⟨by rw [nI_1], h1, hu5', hu6', ff⟩
      · rw [if_neg cl] at rk ⊢
        refine o_t rfl ?_
        obtain ⟨g, ge, hG⟩ := g1 hg; subst ge; clear hg; have hg := hG; clear hG; rw [E_X9_judge_2]; unfold F_X9_judge_2
        exact rk g _ _ (by omega) ⟨by rw [nI_1], h1, hu5', hu6', ff⟩
    · rw [if_neg c]
      have ejs : js P k x (dy.getD k (0, 0, 0)) = (x.1, if x.2.1 = -1 then nI k else x.2.1, x.2.2) := if_neg c
      rw [ejs] at rk
      refine o_t rfl ?_
      rw [hu5]
      refine o_s (fun U2 u2 => ?_)
      have g2 : Fr (fun x k => x = 117 ∧ k = 5) U U2 := (Fr.refl _).sI u2 ⟨rfl, rfl⟩
      obtain ⟨g, ge, hG⟩ := g1 hg; subst ge; clear hg; have hg := hG; clear hG; rw [E_X9_judge_2]; unfold F_X9_judge_2
      exact rk g _ _ (by omega) ⟨by rw [nI_1], hU.fr g2 (fun x k a b d => by omega), by subst u2; rw [gI_sI, if_pos ⟨rfl, rfl⟩], by rw [g2.2 _ _ (by omega)]; exact hu6, hf.tr (g2.mono (fun x k d => Or.inr ⟨d.1, by omega⟩))⟩
  · rintro _ U g ⟨rfl, hU, hu5, hu6, hf⟩ hg
    have xU := xx U hf
    show zO (F_X9_judge g 1 _ _) _
    obtain ⟨g, ge, hG⟩ := g1 hg; subst ge; clear hg; have hg := hG; clear hG; rw [E_X9_judge_1]; unfold F_X9_judge_1
    rw [(dd U hf).1, xU.t1]
    refine o_t (nI_le (Nat.le_refl _) (by omega)) ?_
    refine o_I (T_X4_total hU hy (by omega)) ?_
    rintro _ U ⟨rfl, rfl⟩
    refine o_s (fun U2 u2 => ?_)
    have g2 : Fr (fun x k => x = 117 ∧ k = 7) U U2 := (Fr.refl _).sI u2 ⟨rfl, rfl⟩
    exact u_r ⟨by rw [g2.2 _ _ (by omega)]; exact hu5, by rw [g2.2 _ _ (by omega)]; exact hu6, by subst u2; rw [gI_sI, if_pos ⟨rfl, rfl⟩], hf.tr (g2.mono (fun x k d => Or.inr ⟨d.1, by omega⟩))⟩
/-- a line done by the reference -/
theorem T_X13_does {l : Nat × Nat × Nat} {w : Int32} (h : MX S P L) (hA : MA S 756 M) (hB : LI B M) (hBB : B < 2 ^ 30) (hok : okD P l) (hw : l.1 ≠ 5 → w = nI l.2.1) (hg : 4600 ≤ f) : zI (F_X13_does f 0 [.ref 186, .int (nI l.1), .int w, .int (nI l.2.2)] S) (fun x T => x = (if jCan P M l then 1 else 0) ∧ MA T 756 (if jCan P M l then jDo P M l else M) ∧ (l.1 = 0 → gI T 186 26 = nI (wE P l.2.1 (pDe P) M).2.2.2.1) ∧ Fr mJ S T) := by
  have hy := h.2.2.2.1.2.1
  obtain ⟨l0, l1, l2, l3, l4⟩ := hok
  have hI := h.2.2.2
  have r4 : ∀ (U : aS) (g : Nat) (v : Int32) (Q : aS → Prop), 1 ≤ g → (v = 0 ∨ v = 1) → Q U → zI (F_X13_does g 4 [.int v] U) (fun x T => x = v ∧ Q T) := by
    intro U g v Q hg hv hQ
    obtain ⟨g, ge, hG⟩ := g1 hg; subst ge; clear hg; have hg := hG; clear hG; rw [E_X13_does_4]; unfold F_X13_does_4
    exact o_Z hv (i_r ⟨rfl, hQ⟩)
  by_cases e0 : l.1 = 0
  · have hc : jCan P M l = true := by unfold jCan; rw [if_pos (Or.inl e0)]
    have hd : jDo P M l = wk P l.2.1 (pDe P) M := if_pos e0
    rw [hc, if_pos rfl, if_pos rfl, hd, e0, hw (by omega)]
    obtain ⟨g, ge, hG⟩ := g1 hg; subst ge; clear hg; have hg := hG; clear hG; rw [E_X13_does_0]; unfold F_X13_does_0
    refine o_t rfl ?_
    obtain ⟨g, ge, hG⟩ := g1 hg; subst ge; clear hg; have hg := hG; clear hG; rw [E_X13_does_1]; unfold F_X13_does_1
    obtain ⟨g, ge, hG⟩ := g1 hg; subst ge; clear hg; have hg := hG; clear hG; rw [E_X13_does_5]; unfold F_X13_does_5
    refine o_f (by decide) (o_t rfl ?_)
    refine o_I (T_X13_walks (b := 756) h.1 hI hA hB (by omega) (l1 e0) h.2.2.1 (by omega)) ?_
    rintro _ T ⟨rfl, a1, w1, f1⟩
    exact r4 T g 1 _ (by omega) (Or.inr rfl) ⟨a1, fun _ => w1.1, f1.mono (dX_mJ (by omega))⟩
  by_cases e5 : l.1 = 5
  · have hc : jCan P M l = true := by unfold jCan; rw [if_pos (Or.inr e5)]
    have hd : jDo P M l = hrL P M := by unfold jDo; rw [e5]; rfl
    rw [hc, if_pos rfl, if_pos rfl, hd, e5]
    obtain ⟨g, ge, hG⟩ := g1 hg; subst ge; clear hg; have hg := hG; clear hG; rw [E_X13_does_0]; unfold F_X13_does_0
    refine o_f (by decide) (o_t rfl ?_)
    obtain ⟨g, ge, hG⟩ := g1 hg; subst ge; clear hg; have hg := hG; clear hG; rw [E_X13_does_1]; unfold F_X13_does_1
    obtain ⟨g, ge, hG⟩ := g1 hg; subst ge; clear hg; have hg := hG; clear hG; rw [E_X13_does_5]; unfold F_X13_does_5
    refine o_f (by decide) (o_f (by decide) ?_)
    obtain ⟨g, ge, hG⟩ := g1 hg; subst ge; clear hg; have hg := hG; clear hG; rw [E_X13_does_3]; unfold F_X13_does_3
    refine o_f (by decide) (o_f (by decide) ?_)
    obtain ⟨g, ge, hG⟩ := g1 hg; subst ge; clear hg; have hg := hG; clear hG; rw [E_X13_does_6]; unfold F_X13_does_6
    refine o_f (by decide) (o_f (by decide) ?_)
    obtain ⟨g, ge, hG⟩ := g1 hg; subst ge; clear hg; have hg := hG; clear hG; rw [E_X13_does_7]; unfold F_X13_does_7
    refine o_f (by decide) (o_f (by decide) ?_)
    obtain ⟨g, ge, hG⟩ := g1 hg; subst ge; clear hg; have hg := hG; clear hG; rw [E_X13_does_8]; unfold F_X13_does_8
    refine o_f (by decide) (o_f (by decide) ?_)
    obtain ⟨g, ge, hG⟩ := g1 hg; subst ge; clear hg; have hg := hG; clear hG; rw [E_X13_does_9]; unfold F_X13_does_9
    refine o_f (by decide) ?_
    refine o_I (T_X13_passes (b := 756) h.1 hI hA hB hBB (by omega) (by omega)) ?_
    rintro _ T ⟨rfl, a1, f1⟩
    exact r4 T g 1 _ (by omega) (Or.inr rfl) ⟨a1, fun hh => absurd hh (by omega), f1.mono (dP_mJ (by omega))⟩
  rw [hw e5]
  have no : ∀ (U : aS) (g : Nat), 10 ≤ g → zI (F_X13_does g 3 [.ref 186, .int (nI l.1), .int (nI l.2.1), .int (nI l.2.2), .int 0] U) (fun x T => x = 0 ∧ T = U) := by
    intro U g hg
    obtain ⟨g, ge, hG⟩ := g1 hg; subst ge; clear hg; have hg := hG; clear hG; rw [E_X13_does_3]; unfold F_X13_does_3
    refine o_t rfl ?_
    obtain ⟨g, ge, hG⟩ := g1 hg; subst ge; clear hg; have hg := hG; clear hG; rw [E_X13_does_6]; unfold F_X13_does_6
    refine o_t rfl ?_
    obtain ⟨g, ge, hG⟩ := g1 hg; subst ge; clear hg; have hg := hG; clear hG; rw [E_X13_does_7]; unfold F_X13_does_7
    refine o_t rfl ?_
    obtain ⟨g, ge, hG⟩ := g1 hg; subst ge; clear hg; have hg := hG; clear hG; rw [E_X13_does_8]; unfold F_X13_does_8
    refine o_t rfl ?_
    obtain ⟨g, ge, hG⟩ := g1 hg; subst ge; clear hg; have hg := hG; clear hG; rw [E_X13_does_9]; unfold F_X13_does_9
    refine o_t rfl ?_
    exact r4 U g 0 (fun T => T = U) (by omega) (Or.inl rfl) rfl
  have can : ∀ (g : Nat), 200 ≤ g → jCan P M l = true → zI (F_X13_does g 3 [.ref 186, .int (nI l.1), .int (nI l.2.1), .int (nI l.2.2), .int 1] S) (fun x T => x = 1 ∧ MA T 756 (jDo P M l) ∧ (l.1 = 0 → gI T 186 26 = nI (wE P l.2.1 (pDe P) M).2.2.2.1) ∧ Fr mJ S T) := by
    intro g hg hc
    obtain ⟨g, ge, hG⟩ := g1 hg; subst ge; clear hg; have hg := hG; clear hG; rw [E_X13_does_3]; unfold F_X13_does_3
    refine o_f (by decide) ?_
    rcases (show l.1 = 1 ∨ l.1 = 2 ∨ l.1 = 3 ∨ l.1 = 4 by omega) with e | e | e | e
    · have hd : jDo P M l = empB M l.2.1 (pPe P) := by unfold jDo; rw [e]; rfl
      rw [hd, e]
      refine o_t rfl ?_
      refine o_I (T_X13_empties (b := 756) h.1 hA (by omega) l2 (by omega)) ?_
      rintro _ T ⟨rfl, a1, f1⟩
      exact r4 T g 1 _ (by omega) (Or.inr rfl) ⟨a1, fun hh => absurd hh (by omega), f1.mono (dX_mJ (by omega))⟩
    · have hd : jDo P M l = setB M l.2.1 l.2.2 := by unfold jDo; rw [e]; rfl
      have hz : M (12 + l.2.1) = 0 := by
        unfold jCan at hc
        rw [if_neg (by omega), if_neg (by omega), if_pos e] at hc
        simp only [Bool.and_eq_true, decide_eq_true_eq] at hc
        exact hc.2
      have hb := hB.2 l.2.1 l2
      rw [hd, e]
      refine o_f (by decide) ?_
      obtain ⟨g, ge, hG⟩ := g1 hg; subst ge; clear hg; have hg := hG; clear hG; rw [E_X13_does_6]; unfold F_X13_does_6
      refine o_f (by decide) (o_t rfl ?_)
      refine o_X (nA2' (n := 768) rfl) (by omega) ?_
      rw [h.1.1.state]
      refine o_s (fun T e1 => ?_)
      have a1 : MA T 756 (up1 M (12 + l.2.1) l.2.2) := hA.s (k := 12 + l.2.1) (v := l.2.2) (by rw [← Nat.add_assoc]; exact e1)
      have f1 := (Fr.refl (D := mJ) S).sI e1 (by unfold mJ; omega)
      refine r4 T g 1 _ (by omega) (Or.inr rfl) ⟨a1.cg (fun j hj => ?_), fun hh => absurd hh (by omega), f1⟩
      unfold setB
      simp only [up1_at]
      by_cases c : j = 20 + l.2.1
      · rw [if_pos c, if_neg (by omega), c]; omega
      · rw [if_neg c]
    · have hd : jDo P M l = setB M l.2.1 0 := by unfold jDo; rw [e]; rfl
      rw [hd, e]
      refine o_f (by decide) ?_
      obtain ⟨g, ge, hG⟩ := g1 hg; subst ge; clear hg; have hg := hG; clear hG; rw [E_X13_does_6]; unfold F_X13_does_6
      refine o_f (by decide) (o_f (by decide) ?_)
      obtain ⟨g, ge, hG⟩ := g1 hg; subst ge; clear hg; have hg := hG; clear hG; rw [E_X13_does_7]; unfold F_X13_does_7
      refine o_f (by decide) (o_t rfl ?_)
      refine o_I (T_X13_offs (b := 756) h.1.1 hA (by omega) l2 (by omega)) ?_
      rintro _ T ⟨rfl, a1, f1⟩
      exact r4 T g 1 _ (by omega) (Or.inr rfl) ⟨a1, fun hh => absurd hh (by omega), f1.mono (dX_mJ (by omega))⟩
    · have hd : jDo P M l = up1 M (4 + l.2.1) 0 := by unfold jDo; rw [e]; rfl
      rw [hd, e]
      refine o_f (by decide) ?_
      obtain ⟨g, ge, hG⟩ := g1 hg; subst ge; clear hg; have hg := hG; clear hG; rw [E_X13_does_6]; unfold F_X13_does_6
      refine o_f (by decide) (o_f (by decide) ?_)
      obtain ⟨g, ge, hG⟩ := g1 hg; subst ge; clear hg; have hg := hG; clear hG; rw [E_X13_does_7]; unfold F_X13_does_7
      refine o_f (by decide) (o_f (by decide) ?_)
      obtain ⟨g, ge, hG⟩ := g1 hg; subst ge; clear hg; have hg := hG; clear hG; rw [E_X13_does_8]; unfold F_X13_does_8
      refine o_f (by decide) (o_t rfl ?_)
      refine o_X (nA2' (n := 760) rfl) (by omega) ?_
      rw [h.1.1.state]
      refine o_s (fun T e1 => ?_)
      have a1 : MA T 756 (up1 M (4 + l.2.1) 0) := hA.s (k := 4 + l.2.1) (v := 0) (by rw [← Nat.add_assoc]; exact e1)
      have f1 := (Fr.refl (D := mJ) S).sI e1 (by unfold mJ; omega)
      exact r4 T g 1 _ (by omega) (Or.inr rfl) ⟨a1, fun hh => absurd hh (by omega), f1⟩
  have nI0 : ¬ nI l.1 = (0 : Int32) := nI_ne (b := 0) e0 (by omega) (by omega)
  have nI5 : ¬ nI l.1 = (5 : Int32) := nI_ne (b := 5) e5 (by omega) (by omega)
  obtain ⟨g, ge, hG⟩ := g1 hg; subst ge; clear hg; have hg := hG; clear hG; rw [E_X13_does_0]; unfold F_X13_does_0
  refine o_f nI0 (o_f nI5 ?_)
  by_cases c : l.2.1 < pY P
  · refine o_I (T_X13_isYard h.1 hI c (by omega)) ?_
    rintro _ S ⟨rfl, rfl⟩
    refine o_f (by decide) ?_
    by_cases e4 : l.1 = 4
    · have hc : jCan P M l = true := by
        unfold jCan
        rw [if_neg (by omega), if_pos e4, decide_eq_true c]; rfl
      rw [if_pos hc, if_pos hc]
      refine o_t (by rw [e4]; rfl) ?_
      obtain ⟨g, ge, hG⟩ := g1 hg; subst ge; clear hg; have hg := hG; clear hG; rw [E_X13_does_1]; unfold F_X13_does_1
      obtain ⟨g, ge, hG⟩ := g1 hg; subst ge; clear hg; have hg := hG; clear hG; rw [E_X13_does_5]; unfold F_X13_does_5
      refine o_f (by decide) (o_f nI0 ?_)
      exact can g (by omega) hc
    · refine o_f (nI_ne (b := 4) e4 (by omega) (by omega)) ?_
      refine o_I (T_X13_isBin (b := 756) h.1.1 hA hB (by omega) l2 (by omega)) ?_
      rintro _ S ⟨rfl, rfl⟩
      refine o_lI ?_
      have ey : (if (if M (12 + l.2.1) = 0 then (0 : Int32) else 1) = (if nI l.1 = (2 : Int32) then (0 : Int32) else 1) then (1 : Int32) else 0) = if jCan P M l then 1 else 0 := by
        unfold jCan
        rw [if_neg (show ¬ (l.1 = 0 ∨ l.1 = 5) by omega), if_neg e4, decide_eq_true c, Bool.true_and]
        by_cases e2 : l.1 = 2
        · rw [if_pos e2, e2, if_pos (show nI 2 = (2 : Int32) from rfl)]
          by_cases z : M (12 + l.2.1) = 0
          · rw [if_pos z, decide_eq_true z]; rfl
          · rw [if_neg z, decide_eq_false z]; rfl
        · rw [if_neg e2, if_neg (show ¬ nI l.1 = (2 : Int32) from nI_ne (b := 2) e2 (by omega) (by omega))]
          by_cases z : M (12 + l.2.1) = 0
          · rw [if_pos z, decide_eq_false (by omega)]; rfl
          · rw [if_neg z, decide_eq_true z]; rfl
      rw [ey]
      by_cases hc : jCan P M l = true
      · rw [if_pos hc, if_pos hc]
        refine o_f (by decide) (o_f nI0 ?_)
        exact can g (by omega) hc
      · rw [if_neg hc, if_neg hc]
        refine o_t rfl ?_
        refine i_m (no S g (by omega)) ?_
        rintro _ S ⟨rfl, rfl⟩
        exact ⟨rfl, hA, fun hh => absurd hh e0, Fr.refl _⟩
  · have hc : ¬ jCan P M l = true := by
      unfold jCan
      rw [if_neg (by omega), decide_eq_false c, Bool.false_and]
      decide
    rw [if_neg hc, if_neg hc]
    refine o_I (T_X13_isYard0 h.1 (Or.inr (nI_le (by omega) (by omega))) (by omega)) ?_
    rintro _ S ⟨rfl, rfl⟩
    refine o_t rfl ?_
    obtain ⟨g, ge, hG⟩ := g1 hg; subst ge; clear hg; have hg := hG; clear hG; rw [E_X13_does_2]; unfold F_X13_does_2
    obtain ⟨g, ge, hG⟩ := g1 hg; subst ge; clear hg; have hg := hG; clear hG; rw [E_X13_does_5]; unfold F_X13_does_5
    refine o_t rfl ?_
    refine i_m (no S g (by omega)) ?_
    rintro _ S ⟨rfl, rfl⟩
    exact ⟨rfl, hA, fun hh => absurd hh e0, Fr.refl _⟩
theorem B_judged {a : Int32} (hg : 6000 ≤ f) : Both n (fun S => F_X12_judged f 0 [.ref 0, .int a] S) (fun S => F_X13_judged f 0 [.ref 186, .int a] S) := by
  refine Both.ro (fun S T A q hC hX hL hM hA hB hd => ?_)
  obtain ⟨q2, ⟨hX2, hb0, hL2, hF⟩, ⟨hH, hMk⟩, h6, h7, h8⟩ := id hC
  obtain ⟨t, t0, t1, t2, t3⟩ := h6
  have hy := hX.pi.1.2.1
  have mx := hM.x hA
  have hl := hA.2.2.2.1
  have hok := hA.2.2.2.2
  obtain ⟨T1, e1⟩ : ∃ T1, T1 = sI T 186 0 0 := ⟨_, rfl⟩
  have f1 := (Fr.refl (D := mJ) T).sI e1 (by unfold mJ; omega)
  have m1 := mx.j f1
  rcases wI_n (a := a) (lo := 0) (hi := 2) (by omega) (by omega) with ha | ⟨j, hj0, hj, rfl, ha⟩
  · refine ⟨-2, ?_, ?_⟩
    · obtain ⟨g, ge, hG⟩ := g1 hg; subst ge; clear hg; have hg := hG; clear hG; rw [E_X12_judged_0]; unfold F_X12_judged_0
      refine o_I (T_X12_isWithin (by omega)) ?_
      rintro _ S ⟨rfl, rfl⟩
      exact o_t ha (i_r ⟨rfl, Fr.refl _⟩)
    · obtain ⟨g, ge, hG⟩ := g1 hg; subst ge; clear hg; have hg := hG; clear hG; rw [E_X13_judged_0]; unfold F_X13_judged_0
      rw [← e1]
      show zO (bI _ _) _
      refine o_I (T_X13_within (by omega)) ?_
      rintro _ T1 ⟨rfl, rfl⟩
      exact o_t ha (i_r ⟨rfl, f1⟩)
  have ha' : ¬ wI (nI j) 0 2 = 0 := fun e => by have ha : wI (nI j) 0 2 = 1 := ha; rw [ha] at e; exact absurd e (by decide)
  refine ⟨if j = 0 then (jN (plA A) (dyA A) (dyA A).length).2.1 else if j = 1 then (jN (plA A) (dyA A) (dyA A).length).2.2 else nI (tot (pY (plA A)) (jN (plA A) (dyA A) (dyA A).length).1), ?_, ?_⟩
  · obtain ⟨g, ge, hG⟩ := g1 hg; subst ge; clear hg; have hg := hG; clear hG; rw [E_X12_judged_0]; unfold F_X12_judged_0
    refine o_I (T_X12_isWithin (by omega)) ?_
    rintro _ S ⟨rfl, rfl⟩
    refine o_f ha' ?_
    rw [hX.c11, t1]
    refine o_V (T_X9_judge hX t0 t3 hl hok (by omega)) ?_
    rintro S1 ⟨z5, z6, z7, f2⟩
    have x1 := hX.fr f2 (fun x k d => by unfold dJg dW at d; unfold dN; omega)
    have ff : Fr dJ S S1 := f2.mono (fun x k d => by unfold dJg dW at d; unfold dJ; omega)
    rw [x1.c11, z5, z6, z7]
    rcases (show j = 0 ∨ j = 1 ∨ j = 2 by omega) with rfl | rfl | rfl
    · exact o_t rfl (i_r ⟨rfl, ff⟩)
    · exact o_f (by decide) (i_r ⟨rfl, ff⟩)
    · exact o_f (by decide) (i_r ⟨rfl, ff⟩)
  · obtain ⟨g, ge, hG⟩ := g1 hg; subst ge; clear hg; have hg := hG; clear hG; rw [E_X13_judged_0]; unfold F_X13_judged_0
    rw [← e1]
    show zO (bI _ _) _
    refine o_I (T_X13_within (by omega)) ?_
    rintro _ T1 ⟨rfl, rfl⟩
    refine o_f ha' ?_
    refine o_V (T_X13_starts (b := 756) m1.1 hX.pi (by omega) (by omega)) ?_
    rintro T2 ⟨a2, f2⟩
    have f2 := f1.tr (f2.mono (dX_mJ (b := 756) (by omega)))
    refine o_loop (F := fun f vs S => F_X13_judged f 1 vs S) (c := 2) (B := 4700) (y := (dyA A).length) (fun k vs U => vs = [.ref 186, .int (nI j), .int (jN (plA A) (dyA A) k).2.1, .int (jN (plA A) (dyA A) k).2.2, .int (nI k)] ∧ MA U 756 (jN (plA A) (dyA A) k).1 ∧ Fr mJ T U) ?_ ?_ 0 _ T2 g (by omega) ⟨rfl, a2, f2⟩ (by omega)
    · rintro k _ U g hk ⟨rfl, aU, hf⟩ hg rk
      have mU := mx.j hf
      have dU := hM.2.2.1.fg hf.g (fun k d => by unfold mJ at d; omega)
      obtain ⟨i1, i2, i3⟩ := jN_i hX.pi hl hok k (by omega)
      have hokk : okD (plA A) ((dyA A).getD k (0, 0, 0)) := hok _ (by
        rw [List.getD_eq_getElem?_getD, List.getElem?_eq_getElem (by omega)]
        exact List.getElem_mem _)
      obtain ⟨z1, z2, z3⟩ := dU.2 k hk
      simp only [jN_s] at rk
      generalize jN (plA A) (dyA A) k = x at aU i1 i2 i3 rk
      generalize (dyA A).getD k (0, 0, 0) = l at hokk z1 z2 z3 rk
      show zO (F_X13_judged g 1 _ _) _
      obtain ⟨g, ge, hG⟩ := g1 hg; subst ge; clear hg; have hg := hG; clear hG; rw [E_X13_judged_1]; unfold F_X13_judged_1
      refine o_X (n := 0) rfl (by omega) ?_
      rw [mU.1.1.lines, dU.1]
      refine o_f (nI_ge hk (by omega)) ?_
      have x3 : (3 : Int32) * nI k = nI (3 * k) := by rw [show (3 : Int32) = nI 3 from rfl, pk_mul]
      rw [x3]
      refine o_X (nA2' (n := 1) rfl) (by omega) ?_
      refine o_X (nA2' (n := 2) rfl) (by omega) ?_
      refine o_X (nA2' (n := 3) rfl) (by omega) ?_
      rw [z1, z3]
      refine o_I (T_X13_does mU aU i1 (by omega) hokk z2 (by omega)) ?_
      rintro _ U1 ⟨rfl, a1, w1, g1'⟩
      have ff := hf.tr g1'
      refine o_lI ?_
      refine o_lI ?_
      have l0 := hokk.1
      have ez : nI l.1 = (0 : Int32) ↔ l.1 = 0 := nI_eq (b := 0) (by omega) (by omega)
      have ew : (if nI l.1 = (0 : Int32) then if gI U1 186 26 ≤ (0 : Int32) then x.2.2 else if (0 : Int32) ≤ x.2.2 then x.2.2 else nI k else x.2.2) = if jLit (plA A) x.1 l then (if x.2.2 = -1 then nI k else x.2.2) else x.2.2 := by
        unfold jLit
        by_cases c0 : l.1 = 0
        · have hw := wN_i (d := pDe (plA A)) hX.pi (hokk.2.1 c0) i1 (pY (plA A)) hy
          have ht2 := tv_le (P := plA A) (i := l.2.1) (L := x.1) hX.pi (hokk.2.1 c0)
          have hw9 : (wE (plA A) l.2.1 (pDe (plA A)) x.1).2.2.2.1 ≤ 9 := by unfold wE; omega
          rw [if_pos (ez.mpr c0), w1 c0, decide_eq_true c0, Bool.true_and]
          by_cases c1 : 0 < (wE (plA A) l.2.1 (pDe (plA A)) x.1).2.2.2.1
          · rw [if_neg (nI_nle c1 (by omega)), decide_eq_true c1, if_pos rfl]
            by_cases c6 : x.2.2 = -1
            · rw [if_pos c6, if_neg (fun h => (i3.lt.mp h) c6)]
            · rw [if_neg c6, if_pos (i3.lt.mpr c6)]
          · rw [decide_eq_false c1, show (wE (plA A) l.2.1 (pDe (plA A)) x.1).2.2.2.1 = 0 by omega]; rfl
        · rw [if_neg (fun h => c0 (ez.mp h)), decide_eq_false c0]; rfl
      rw [ew]
      refine rk g _ _ (by omega) ⟨?_, ?_, ff⟩
      · rw [nI_1]
        unfold js
        by_cases c : jCan (plA A) x.1 l = true
        · rw [if_pos c, if_pos c, if_neg (by decide)]
        · rw [if_neg c, if_neg c, if_pos rfl]
          have hlit : jLit (plA A) x.1 l = false := by
            unfold jLit
            by_cases c0 : l.1 = 0
            · exact absurd (by unfold jCan; rw [if_pos (Or.inl c0)]) c
            · rw [decide_eq_false c0]; rfl
          rw [hlit]
          by_cases c6 : x.2.1 = -1
          · rw [if_pos c6, if_neg (fun h => (i2.lt.mp h) c6)]
            rfl
          · rw [if_neg c6, if_pos (i2.lt.mpr c6)]
            rfl
      · unfold js
        by_cases c : jCan (plA A) x.1 l = true
        · rw [if_pos c] at a1 ⊢; exact a1
        · rw [if_neg c] at a1 ⊢; exact a1
    · rintro _ U g ⟨rfl, aU, hf⟩ hg
      have mU := mx.j hf
      have dU := hM.2.2.1.fg hf.g (fun k d => by unfold mJ at d; omega)
      show zO (F_X13_judged g 1 _ _) _
      obtain ⟨g, ge, hG⟩ := g1 hg; subst ge; clear hg; have hg := hG; clear hG; rw [E_X13_judged_1]; unfold F_X13_judged_1
      refine o_X (n := 0) rfl (by omega) ?_
      rw [mU.1.1.lines, dU.1]
      refine o_t (nI_le (Nat.le_refl _) (by omega)) ?_
      rcases (show j = 0 ∨ j = 1 ∨ j = 2 by omega) with rfl | rfl | rfl
      · refine o_t rfl ?_
        obtain ⟨g, ge, hG⟩ := g1 hg; subst ge; clear hg; have hg := hG; clear hG; rw [E_X13_judged_2]; unfold F_X13_judged_2
        exact i_r ⟨rfl, hf⟩
      · refine o_f (by decide) (o_t rfl ?_)
        obtain ⟨g, ge, hG⟩ := g1 hg; subst ge; clear hg; have hg := hG; clear hG; rw [E_X13_judged_2]; unfold F_X13_judged_2
        exact i_r ⟨rfl, hf⟩
      · refine o_f (by decide) (o_f (by decide) ?_)
        refine o_I (T_X13_lyingIn (b := 756) mU.1 hX.pi aU (by omega) (by omega)) ?_
        rintro _ U ⟨rfl, rfl⟩
        obtain ⟨g, ge, hG⟩ := g1 hg; subst ge; clear hg; have hg := hG; clear hG; rw [E_X13_judged_2]; unfold F_X13_judged_2
        exact i_r ⟨rfl, hf⟩
end PJ

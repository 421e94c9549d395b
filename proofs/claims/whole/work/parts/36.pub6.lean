/-! counts, begins, rests: both sides -/
section P6
variable {S T : aS} {A : aA} {q f n : Nat} {P : aP} {L : Lk}
theorem T_X13_manyOf {g0 : Nat → Bool} {v : Int32} (h : MX S P L) (hB : LI n L) (hv : (v = 0 ∧ ∀ k, k < pY P → g0 k = (L (12 + k) != 0)) ∨ (v = 1 ∧ ∀ k, k < pY P → (gI S 200 (28 + k) = -1000 ↔ g0 k = false))) (hg : 20 ≤ f) : zI (F_X13_manyOf f 0 [.ref 186, .int v] S) (fun x T => x = nI (cnt g0 (pY P)) ∧ T = S) := by
  have hy := h.2.2.2.1.2.1
  obtain ⟨g, ge, hG⟩ := g1 hg; subst ge; clear hg; have hg := hG; clear hG; rw [E_X13_manyOf_0]; unfold F_X13_manyOf_0
  refine o_loop (F := fun f vs S => F_X13_manyOf f 1 vs S) (c := 1) (B := 3) (y := (pY) P) (fun k vs T => vs = [.ref 186, .int v, .int (nI (cnt g0 k)), .int (nI k)] ∧ T = S) ?_ ?_ 0 _ S g (by omega) ⟨rfl, rfl⟩ (by omega)
  · rintro k _ S g hk ⟨rfl, rfl⟩ hg rec
    show zO (F_X13_manyOf g 1 _ _) _
    obtain ⟨g, ge, hG⟩ := g1 hg; subst ge; clear hg; have hg := hG; clear hG; rw [E_X13_manyOf_1]; unfold F_X13_manyOf_1
    refine o_I (T_X13_yards h.1 (by omega)) ?_
    rintro _ S ⟨rfl, rfl⟩
    refine o_f (nI_ge hk (by omega)) ?_
    have ec : cnt g0 (k + 1) = cnt g0 k + (if g0 k then 1 else 0) := rfl
    rcases hv with ⟨rfl, hv⟩ | ⟨rfl, hv⟩
    · refine o_t rfl ?_
      refine o_I (T_X13_isBin (b := 0) h.1.1 h.2.1 hB (by omega) (by omega) (by omega)) ?_
      rintro _ S ⟨rfl, rfl⟩
      refine o_lI ?_
      have e : (if (if L (12 + k) = 0 then (0 : Int32) else 1) = 0 then (0 : Int32) else 1) = nI (if g0 k then 1 else 0) := by
        rw [hv k hk]
        by_cases c : L (12 + k) = 0
        · rw [if_pos c, c]; rfl
        · rw [if_neg c, if_neg (by decide), if_pos (bne_iff_ne.mpr c)]; rfl
      rw [e, nI_add]
      exact rec g _ _ (by omega) ⟨by rw [nI_1, ec], rfl⟩
    · refine o_f (by decide) ?_
      refine o_X (nA2' (n := 28) rfl) (by omega) ?_
      rw [h.1.1.state]
      refine o_lI ?_
      have e : (if gI S 200 (28 + k) = (-1000 : Int32) then (0 : Int32) else 1) = nI (if g0 k then 1 else 0) := by
        by_cases c : g0 k = false
        · rw [if_pos ((hv k hk).mpr c), c]; rfl
        · rw [if_neg (fun h => c ((hv k hk).mp h)), if_pos (by simpa using c)]; rfl
      rw [e, nI_add]
      exact rec g _ _ (by omega) ⟨by rw [nI_1, ec], rfl⟩
  · rintro _ S g ⟨rfl, rfl⟩ hg
    show zO (F_X13_manyOf g 1 _ _) _
    obtain ⟨g, ge, hG⟩ := g1 hg; subst ge; clear hg; have hg := hG; clear hG; rw [E_X13_manyOf_1]; unfold F_X13_manyOf_1
    refine o_I (T_X13_yards h.1 (by omega)) ?_
    rintro _ S ⟨rfl, rfl⟩
    exact o_t (nI_le (Nat.le_refl _) (by omega)) (i_r ⟨rfl, rfl⟩)
theorem B_count {a : Int32} (hg : 100 ≤ f) (hn : n ≤ 512) : Both n (fun S => F_X12_count f 0 [.ref 0, .int a] S) (fun S => F_X13_count f 0 [.ref 186, .int a] S) := by
  refine Both.ro (fun S T A q hC hX hL hM hA hB hd => ?_)
  obtain ⟨q2, ⟨hX2, hb0, hL2, hF⟩, ⟨hH, hMk⟩, h6, h7, h8⟩ := id hC
  have mx := hM.x hA
  have hy := hX.pi.1.2.1
  obtain ⟨T1, e1⟩ : ∃ T1, T1 = sI T 186 0 0 := ⟨_, rfl⟩
  have f1 := (Fr.refl (D := mJ) T).sI e1 (by unfold mJ; omega)
  have m1 := mx.j f1
  have hM1 := hM.fg hA f1.g (fun x k d => Or.inl d) (fun x hx => hx.elim)
  by_cases h12 : a = 0 ∨ a = 1 ∨ a = 2 ∨ a = 3 ∨ a = 4 ∨ a = 5 ∨ a = 6 ∨ a = 7 ∨ a = 8 ∨ a = 9 ∨ a = 10 ∨ a = 11 ∨ a = 12
  · obtain ⟨f', rfl, hg'⟩ := g1 (n := 99) hg
    rw [E_X12_count_0, E_X13_count_0]
    unfold F_X12_count_0 F_X13_count_0 fS
    rw [← e1, hX.c0, hX.c1, hX.c5, hX.c6, hX.c7]
    clear hg
    have hg := hg'
    rcases h12 with rfl | rfl | rfl | rfl | rfl | rfl | rfl | rfl | rfl | rfl | rfl | rfl | rfl
    · refine ⟨nI (pY (plA A)), o_t rfl (i_r ⟨hX.cp.2.1.1, Fr.refl _⟩), ?_⟩
      refine o_t rfl ?_
      refine o_I (T_X13_yards m1.1 (by omega)) ?_
      rintro _ T1 ⟨rfl, rfl⟩
      exact i_r ⟨rfl, f1⟩
    · refine ⟨nI (pN (plA A)), o_f (by decide) (o_t rfl (i_r ⟨hX.cp.2.1.2.1, Fr.refl _⟩)), ?_⟩
      refine o_f (by decide) (o_t rfl ?_)
      refine o_I (T_X13_people m1.1 (by omega)) ?_
      rintro _ T1 ⟨rfl, rfl⟩
      exact i_r ⟨rfl, f1⟩
    · refine ⟨nI (cnt (fun k => lkA A (12 + k) != 0) (pY (plA A))), ?_, ?_⟩
      · refine o_f (by decide) (o_f (by decide) (o_t rfl ?_))
        refine o_I (P := fun v U => v = nI (cnt (fun k => lkA A (12 + k) != 0) (pY (plA A))) ∧ U = S) ?_ ?_
        · obtain ⟨g, ge, hG⟩ := g1 hg; subst ge; clear hg; have hg := hG; clear hG; rw [E_X4_binCount_0]; unfold F_X4_binCount_0
          refine o_I (T_X4_binBits hL hB hy (by omega)) ?_
          rintro _ S ⟨rfl, rfl⟩
          have hlt := bs_lt (fun k => lkA A (12 + k) != 0) (pY (plA A))
          have h2 : 2 ^ pY (plA A) ≤ 2 ^ 8 := Nat.pow_le_pow_right (by omega) hy
          refine o_I (T_bitCount (by omega) (by omega)) ?_
          rintro _ S ⟨rfl, rfl⟩
          rw [pc_bs hy]
          exact i_r ⟨rfl, rfl⟩
        · rintro _ S ⟨rfl, rfl⟩
          exact i_r ⟨rfl, Fr.refl _⟩
      · refine o_f (by decide) (o_f (by decide) (o_t rfl ?_))
        refine o_I (T_X13_manyOf (g0 := fun k => lkA A (12 + k) != 0) m1 hB (Or.inl ⟨rfl, fun k _ => rfl⟩) (by omega)) ?_
        rintro _ T1 ⟨rfl, rfl⟩
        exact i_r ⟨rfl, f1⟩
    · refine ⟨nI (lkA A 0), o_f (by decide) (o_f (by decide) (o_f (by decide) (o_t rfl (i_r ⟨hL.c 0 (by omega), Fr.refl _⟩)))), ?_⟩
      refine o_f (by decide) (o_f (by decide) (o_f (by decide) (o_t rfl ?_)))
      refine o_X (n := 0) rfl (by omega) (i_r ⟨?_, f1⟩)
      rw [m1.1.1.state]
      exact m1.2.1.z (by omega)
    · have h0 := hB.1
      refine ⟨nI (wind (plA A) (lkA A 0)), ?_, ?_⟩
      · refine o_f (by decide) (o_f (by decide) (o_f (by decide) (o_f (by decide) (o_t rfl ?_))))
        rw [show gI S 43 4 = nI (lkA A 0) from hL.c 0 (by omega)]
        refine o_I (T_X6_windOf hX.cp hX.pi (by omega) (by omega)) ?_
        rintro _ S ⟨rfl, rfl⟩
        exact i_r ⟨rfl, Fr.refl _⟩
      · refine o_f (by decide) (o_f (by decide) (o_f (by decide) (o_f (by decide) (o_t rfl ?_))))
        refine o_X (n := 0) rfl (by omega) ?_
        rw [m1.1.1.state, m1.2.1.z (by omega)]
        refine o_I (T_X13_windOf m1.1 hX.pi (by omega) (by omega)) ?_
        rintro _ T1 ⟨rfl, rfl⟩
        exact i_r ⟨rfl, f1⟩
    · refine ⟨nI (lkA A 1), o_f (by decide) (o_f (by decide) (o_f (by decide) (o_f (by decide) (o_f (by decide) (o_t rfl (i_r ⟨hL.c 1 (by omega), Fr.refl _⟩)))))), ?_⟩
      refine o_f (by decide) (o_f (by decide) (o_f (by decide) (o_f (by decide) (o_f (by decide) (o_t rfl ?_)))))
      refine o_X (n := 1) rfl (by omega) (i_r ⟨?_, f1⟩)
      rw [m1.1.1.state]
      exact m1.2.1.z (by omega)
    · refine ⟨nI (lkA A 2), o_f (by decide) (o_f (by decide) (o_f (by decide) (o_f (by decide) (o_f (by decide) (o_f (by decide) (o_t rfl (i_r ⟨hL.c 2 (by omega), Fr.refl _⟩))))))), ?_⟩
      refine o_f (by decide) (o_f (by decide) (o_f (by decide) (o_f (by decide) (o_f (by decide) (o_f (by decide) (o_t rfl ?_))))))
      refine o_X (n := 2) rfl (by omega) (i_r ⟨?_, f1⟩)
      rw [m1.1.1.state]
      exact m1.2.1.z (by omega)
    · refine ⟨nI (lkA A 3), o_f (by decide) (o_f (by decide) (o_f (by decide) (o_f (by decide) (o_f (by decide) (o_f (by decide) (o_f (by decide) (o_t rfl (i_r ⟨hL.c 3 (by omega), Fr.refl _⟩)))))))), ?_⟩
      refine o_f (by decide) (o_f (by decide) (o_f (by decide) (o_f (by decide) (o_f (by decide) (o_f (by decide) (o_f (by decide) (o_t rfl ?_)))))))
      refine o_X (n := 3) rfl (by omega) (i_r ⟨?_, f1⟩)
      rw [m1.1.1.state]
      exact m1.2.1.z (by omega)
    · refine ⟨nI (pDe (plA A)), o_f (by decide) (o_f (by decide) (o_f (by decide) (o_f (by decide) (o_f (by decide) (o_f (by decide) (o_f (by decide) (o_f (by decide) (o_t rfl (i_r ⟨hX.cp.2.1.2.2.2.2, Fr.refl _⟩))))))))), ?_⟩
      refine o_f (by decide) (o_f (by decide) (o_f (by decide) (o_f (by decide) (o_f (by decide) (o_f (by decide) (o_f (by decide) (o_f (by decide) (o_t rfl ?_))))))))
      refine o_X (n := 4) rfl (by omega) (i_r ⟨?_, f1⟩)
      rw [m1.1.1.paths]
      exact m1.1.2.1.2.2.2
    · obtain ⟨t, t0, t1, t2, t3⟩ := h6
      refine ⟨nI (dyA A).length, o_f (by decide) (o_f (by decide) (o_f (by decide) (o_f (by decide) (o_f (by decide) (o_f (by decide) (o_f (by decide) (o_f (by decide) (o_f (by decide) (o_t rfl (i_r ⟨by rw [t1]; exact t3.1, Fr.refl _⟩)))))))))), ?_⟩
      refine o_f (by decide) (o_f (by decide) (o_f (by decide) (o_f (by decide) (o_f (by decide) (o_f (by decide) (o_f (by decide) (o_f (by decide) (o_f (by decide) (o_t rfl ?_)))))))))
      refine o_X (n := 0) rfl (by omega) (i_r ⟨?_, f1⟩)
      rw [m1.1.1.lines]
      exact hM1.2.2.1.1
    · refine ⟨nI (cnt (fun k => fdA A k != -1000) (pY (plA A))), ?_, ?_⟩
      · refine o_f (by decide) (o_f (by decide) (o_f (by decide) (o_f (by decide) (o_f (by decide) (o_f (by decide) (o_f (by decide) (o_f (by decide) (o_f (by decide) (o_f (by decide) (o_t rfl ?_))))))))))
        rw [hF.1]
        have hlt := bs_lt (fun k => fdA A k != -1000) 8
        refine o_I (T_bitCount (by omega) (by omega)) ?_
        rintro _ S ⟨rfl, rfl⟩
        refine i_r ⟨?_, Fr.refl _⟩
        rw [pc_bs (Nat.le_refl _), cnt_ext hy (fun k a b => ?_)]
        show (fdA A k != -1000) = false
        rw [hA.2.1.2.2 k a]
        rfl
      · refine o_f (by decide) (o_f (by decide) (o_f (by decide) (o_f (by decide) (o_f (by decide) (o_f (by decide) (o_f (by decide) (o_f (by decide) (o_f (by decide) (o_f (by decide) (o_t rfl ?_))))))))))
        refine o_I (T_X13_manyOf (g0 := fun k => fdA A k != -1000) m1 hB (Or.inr ⟨rfl, fun k hk => ?_⟩) (by omega)) ?_
        · have := hM1.1.2.2.1 k (by omega)
          rw [Nat.zero_add] at this
          rw [this]
          simp
        · rintro _ T1 ⟨rfl, rfl⟩
          exact i_r ⟨rfl, f1⟩
    · obtain ⟨nx, z0, z1, z2, z3⟩ := hH
      refine ⟨nI (hiA A).length, o_f (by decide) (o_f (by decide) (o_f (by decide) (o_f (by decide) (o_f (by decide) (o_f (by decide) (o_f (by decide) (o_f (by decide) (o_f (by decide) (o_f (by decide) (o_f (by decide) (o_t rfl (i_r ⟨z2, Fr.refl _⟩)))))))))))), ?_⟩
      refine o_f (by decide) (o_f (by decide) (o_f (by decide) (o_f (by decide) (o_f (by decide) (o_f (by decide) (o_f (by decide) (o_f (by decide) (o_f (by decide) (o_f (by decide) (o_f (by decide) (o_t rfl ?_)))))))))))
      exact i_r ⟨hM1.2.1.1.1, f1⟩
    · refine ⟨nI (tpA A).length, o_f (by decide) (o_f (by decide) (o_f (by decide) (o_f (by decide) (o_f (by decide) (o_f (by decide) (o_f (by decide) (o_f (by decide) (o_f (by decide) (o_f (by decide) (o_f (by decide) (o_f (by decide) (o_t rfl (i_r ⟨h7.1, Fr.refl _⟩))))))))))))), ?_⟩
      refine o_f (by decide) (o_f (by decide) (o_f (by decide) (o_f (by decide) (o_f (by decide) (o_f (by decide) (o_f (by decide) (o_f (by decide) (o_f (by decide) (o_f (by decide) (o_f (by decide) (o_f (by decide) (o_t rfl ?_))))))))))))
      exact i_r ⟨hM1.2.2.2.1.1, f1⟩
  · simp only [not_or] at h12
    obtain ⟨c0, c1, c2, c3, c4, c5, c6, c7, c8, c9, c10, c11, c12⟩ := h12
    refine ⟨-1, ?_, ?_⟩
    · obtain ⟨g, ge, hG⟩ := g1 hg; subst ge; clear hg; have hg := hG; clear hG; rw [E_X12_count_0]; unfold F_X12_count_0
      exact o_f c0 (o_f c1 (o_f c2 (o_f c3 (o_f c4 (o_f c5 (o_f c6 (o_f c7 (o_f c8 (o_f c9 (o_f c10 (o_f c11 (o_f c12 (i_r ⟨rfl, Fr.refl _⟩)))))))))))))
    · obtain ⟨g, ge, hG⟩ := g1 hg; subst ge; clear hg; have hg := hG; clear hG; rw [E_X13_count_0]; unfold F_X13_count_0
      unfold fS
      rw [← e1]
      exact o_f c0 (o_f c1 (o_f c2 (o_f c3 (o_f c4 (o_f c5 (o_f c6 (o_f c7 (o_f c8 (o_f c9 (o_f c10 (o_f c11 (o_f c12 (i_r ⟨rfl, f1⟩)))))))))))))
/-- the lake as the plan tells it -/
def bgL (P : aP) : Lk := fun j => if 4 ≤ j ∧ j < 4 + pY P then pT P 4 (j - 4) else if 12 ≤ j ∧ j < 12 + pY P then pT P 3 (j - 12) else 0
theorem bgL_LI (hI : PI P) : LI 0 (bgL P) := by
  have hy := hI.1.2.1
  unfold bgL
  refine ⟨by simp, fun k hk => ?_⟩
  have hb := hI.2.2.1 k hk
  simp only []
  rw [if_neg (show ¬ (4 ≤ 20 + k ∧ 20 + k < 4 + pY P) by omega), if_neg (show ¬ (12 ≤ 20 + k ∧ 20 + k < 12 + pY P) by omega), if_neg (show ¬ (4 ≤ 12 + k ∧ 12 + k < 4 + pY P) by omega), if_neg (show ¬ (12 ≤ 4 + k ∧ 4 + k < 12 + pY P) by omega), show 4 + k - 4 = k by omega, show 12 + k - 12 = k by omega]
  refine ⟨?_, by omega, ?_⟩
  · split <;> omega
  · split <;> omega
theorem T_X4_begin {p : Nat} (hr : LR S p) (hP : CP S q P) (hI : PI P) (hp : 43 ≤ p) (hq : q = 3 ∨ q = 19) (hg : 60 ≤ f) : zU (F_X4_begin f 0 [.ref p, .ref q] S) (fun T => LA T p (pY P) (pDe P) (bgL P) ∧ Fr (dL p) S T) := by
  have hy := hI.1.2.1
  have cp : ∀ T, Fr (dL p) S T → CP T q P := fun T hf => hP.fr hf (fun x k a b c d e => by unfold dL at e; omega)
  obtain ⟨g, ge, hG⟩ := g1 hg; subst ge; clear hg; have hg := hG; clear hG; rw [E_X4_begin_0]; unfold F_X4_begin_0
  rw [hP.2.1.1]
  refine o_s (fun S1 e1 => ?_)
  have f1 := (Fr.refl (D := dL p) S).sI e1 (by unfold dL; omega)
  refine o_s (fun S2 e2 => ?_)
  have f2 := f1.sI e2 (by unfold dL; omega)
  refine o_s (fun S3 e3 => ?_)
  have f3 := f2.sI e3 (by unfold dL; omega)
  refine o_s (fun S4 e4 => ?_)
  have f4 := f3.sI e4 (by unfold dL; omega)
  refine o_s (fun S5 e5 => ?_)
  have f5 := f4.sI e5 (by unfold dL; omega)
  rw [(cp S5 f5).2.1.2.2.2.2]
  refine o_s (fun S6 e6 => ?_)
  have f6 := f5.sI e6 (by unfold dL; omega)
  have b : gI S6 p 0 = nI (pY P) ∧ gI S6 p 8 = nI (pDe P) ∧ ∀ k, k < 4 → gI S6 p (4 + k) = nI (bgL P k) := by
    subst e6 e5 e4 e3 e2 e1
    refine ⟨by simp [gI_sI], by simp [gI_sI], fun k hk => ?_⟩
    have e0 : bgL P k = 0 := by unfold bgL; rw [if_neg (by omega), if_neg (by omega)]
    rw [e0]
    rcases (show k = 0 ∨ k = 1 ∨ k = 2 ∨ k = 3 by omega) with rfl | rfl | rfl | rfl <;> simp [gI_sI] <;> rfl
  clear e1 e2 e3 e4 e5 e6 f1 f2 f3 f4 f5
  have c4 : ∀ k, k < 8 → bgL P (4 + k) = if k < pY P then pT P 4 k else 0 := fun k hk => by
    unfold bgL
    by_cases c : k < pY P
    · rw [if_pos (by omega), if_pos c, show 4 + k - 4 = k by omega]
    · rw [if_neg (by omega), if_neg (by omega), if_neg c]
  have c12 : ∀ k, k < 8 → bgL P (12 + k) = if k < pY P then pT P 3 k else 0 := fun k hk => by
    unfold bgL
    rw [if_neg (show ¬ (4 ≤ 12 + k ∧ 12 + k < 4 + pY P) by omega)]
    by_cases c : k < pY P
    · rw [if_pos (by omega), if_pos c, show 12 + k - 12 = k by omega]
    · rw [if_neg (by omega), if_neg c]
  have c20 : ∀ k, k < 8 → bgL P (20 + k) = 0 := fun k hk => by
    unfold bgL
    rw [if_neg (by omega), if_neg (by omega)]
  refine o_loop (F := fun f vs S => F_X4_begin f 1 vs S) (c := 3) (B := 3) (y := 8) (fun k vs T => vs = [.ref p, .ref q, .int (nI k)] ∧ Fr (dL p) S T ∧ (gI T p 0 = nI (pY P) ∧ gI T p 8 = nI (pDe P) ∧ ∀ k, k < 4 → gI T p (4 + k) = nI (bgL P k)) ∧ ∀ j, j < k → gI T (p + 1) j = nI (bgL P (4 + j)) ∧ gI T (p + 2) j = nI (bgL P (12 + j)) ∧ gI T (p + 3) j = nI (bgL P (20 + j))) ?_ ?_ 0 _ _ g (by omega) ⟨rfl, f6, b, fun j hj => absurd hj (Nat.not_lt_zero j)⟩ (by omega)
  · rintro k _ T g hk ⟨rfl, hf, hb, hj⟩ hg rec
    have hPT := cp T hf
    show zO (F_X4_begin g 1 _ _) _
    obtain ⟨g, ge, hG⟩ := g1 hg; subst ge; clear hg; have hg := hG; clear hG; rw [E_X4_begin_1]; unfold F_X4_begin_1
    refine o_f (nI_ge (b := 8) hk (by omega)) ?_
    rw [hb.1, (hr.fr hf).1, hPT.1.2.2.2.2.1]
    refine o_e (r2 := F_X4_begin g 2 [.ref p, .ref q, .int (nI k), .int (nI (bgL P (4 + k))), .int (nI k), .ref (p + 1)] T) ?_ ?_
    · rw [c4 k hk]
      by_cases c : k < pY P
      · rw [if_neg (nI_ge c (by omega)), if_pos c]
        refine (bX_ok rfl hk).trans ?_
        rw [(hPT.2.2.2.1 k hk).2]
      · rw [if_pos (nI_le (by omega) (by omega)), if_neg c]
        rfl
    obtain ⟨g, ge, hG⟩ := g1 hg; subst ge; clear hg; have hg := hG; clear hG; rw [E_X4_begin_2]; unfold F_X4_begin_2
    refine o_X rfl hk ?_
    refine o_s (fun T1 t1 => ?_)
    have g1' := hf.sI t1 (by unfold dL; omega)
    have hPT1 := cp T1 g1'
    have hb1 : gI T1 p 0 = nI (pY P) := by subst t1; rw [gI_sI, if_neg (by omega)]; exact hb.1
    rw [hb1, (hr.fr g1').2.1, hPT1.1.2.2.2.1]
    refine o_e (r2 := F_X4_begin g 3 [.ref p, .ref q, .int (nI k), .int (nI (bgL P (12 + k))), .int (nI k), .ref (p + 2)] T1) ?_ ?_
    · rw [c12 k hk]
      by_cases c : k < pY P
      · rw [if_neg (nI_ge c (by omega)), if_pos c]
        refine (bX_ok rfl hk).trans ?_
        rw [(hPT1.2.2.2.1 k hk).1]
      · rw [if_pos (nI_le (by omega) (by omega)), if_neg c]
        rfl
    obtain ⟨g, ge, hG⟩ := g1 hg; subst ge; clear hg; have hg := hG; clear hG; rw [E_X4_begin_3]; unfold F_X4_begin_3
    refine o_X rfl hk ?_
    refine o_s (fun T2 t2 => ?_)
    have g2 := g1'.sI t2 (by unfold dL; omega)
    refine o_X rfl hk ?_
    rw [(hr.fr g2).2.2]
    refine o_s (fun T3 t3 => ?_)
    refine rec g _ _ (by omega) ⟨by rw [nI_1], g2.sI t3 (by unfold dL; omega), ?_, fun j hj2 => ?_⟩
    · subst t3 t2 t1
      refine ⟨?_, ?_, fun j hj3 => ?_⟩ <;> rw [gI_sI, if_neg (by omega), gI_sI, if_neg (by omega), gI_sI, if_neg (by omega)]
      · exact hb.1
      · exact hb.2.1
      · exact hb.2.2 j hj3
    · subst t3 t2 t1
      simp only [gI_sI]
      by_cases e : j = k
      · subst e
        rw [c20 j hk]
        simp
        rfl
      · have := hj j (by omega)
        simp [e, this]
  · rintro _ T g ⟨rfl, hf, hb, hj⟩ hg
    show zO (F_X4_begin g 1 _ _) _
    obtain ⟨g, ge, hG⟩ := g1 hg; subst ge; clear hg; have hg := hG; clear hG; rw [E_X4_begin_1]; unfold F_X4_begin_1
    exact o_t (nI_le (a := 8) (b := 8) (by omega) (by omega)) (u_r ⟨⟨hr.fr hf, hb.1, hb.2.1, hb.2.2, fun k hk => (hj k hk).1, fun k hk => (hj k hk).2.1, fun k hk => (hj k hk).2.2⟩, hf⟩)
theorem T_X13_starts {b : Nat} (h : MM S P) (hI : PI P) (hb : b ≤ 792) (hg : 100 ≤ f) : zU (F_X13_starts f 0 [.ref 186, .int (nI b)] S) (fun T => MA T b (bgL P) ∧ Fr (dX b) S T) := by
  have hy := hI.1.2.1
  obtain ⟨g, ge, hG⟩ := g1 hg; subst ge; clear hg; have hg := hG; clear hG; rw [E_X13_starts_0]; unfold F_X13_starts_0
  refine o_loop (F := fun f vs S => F_X13_starts f 1 vs S) (c := 1) (B := 40) (y := 28) (fun k vs T => vs = [.ref 186, .int (nI b), .int (nI k)] ∧ (∀ j, j < k → gI T 200 (b + j) = nI 0) ∧ Fr (dX b) S T) ?_ ?_ 0 _ S g (by omega) ⟨rfl, fun j hj => absurd hj (Nat.not_lt_zero j), Fr.refl S⟩ (by omega)
  · rintro k _ T g hk ⟨rfl, hT, hf⟩ hg rec
    have mT := h.x hf
    show zO (F_X13_starts g 1 _ _) _
    obtain ⟨g, ge, hG⟩ := g1 hg; subst ge; clear hg; have hg := hG; clear hG; rw [E_X13_starts_1]; unfold F_X13_starts_1
    refine o_f (nI_ge (b := 28) hk (by omega)) ?_
    refine o_X (nI_add b k) (by omega) ?_
    rw [mT.1.state]
    refine o_s (fun T1 e1 => ?_)
    refine rec g _ _ (by omega) ⟨by rw [nI_1], fun j hj => ?_, hf.sI e1 (by omega)⟩
    subst e1
    rw [gI_sI]
    by_cases e : j = k
    · rw [if_pos ⟨rfl, by omega⟩]; rfl
    · rw [if_neg (by omega)]
      exact hT j (by omega)
  · rintro _ T g ⟨rfl, hT, hf⟩ hg
    show zO (F_X13_starts g 1 _ _) _
    obtain ⟨g, ge, hG⟩ := g1 hg; subst ge; clear hg; have hg := hG; clear hG; rw [E_X13_starts_1]; unfold F_X13_starts_1
    refine o_t (nI_le (a := 28) (b := 28) (by omega) (by omega)) ?_
    refine o_loop (F := fun f vs S => F_X13_starts f 2 vs S) (c := 2) (B := 4) (y := (pY) P) (fun k vs U => vs = [.ref 186, .int (nI b), .int (nI k)] ∧ MA U b (fun j => if 4 ≤ j ∧ j < 4 + k then pT P 4 (j - 4) else if 12 ≤ j ∧ j < 12 + k then pT P 3 (j - 12) else 0) ∧ Fr (dX b) S U) ?_ ?_ 0 _ T g (by omega) ⟨rfl, fun k hk => ?_, hf⟩ (by omega)
    · rintro k _ U g hk ⟨rfl, hU, hf⟩ hg rec
      have mU := h.x hf
      show zO (F_X13_starts g 2 _ _) _
      obtain ⟨g, ge, hG⟩ := g1 hg; subst ge; clear hg; have hg := hG; clear hG; rw [E_X13_starts_2]; unfold F_X13_starts_2
      refine o_I (T_X13_yards mU (by omega)) ?_
      rintro _ U ⟨rfl, rfl⟩
      refine o_f (nI_ge hk (by omega)) ?_
      refine o_X (nA2' (n := 34) rfl) (by omega) ?_
      rw [mU.1.paths, mU.1.state, nA3 (n := 4) (c := 4) rfl]
      have hpk := hI.2.2.1 k (by omega)
      refine o_e (r2 := F_X13_starts g 3 [.ref 186, .int (nI b), .int (nI k), .int (nI (pT P 4 k)), .int (nI (b + (4 + k))), .ref 200] U) ?_ ?_
      · rcases (mU.2.2.2.1 k (by omega)).2 with ⟨e, e0⟩ | e
        · rw [e, e0]
          rfl
        · rw [e, if_neg (nI_nle (by omega) (by omega))]
          refine (bX_ok (nA2' (n := 34) rfl) (by omega)).trans ?_
          rw [e, nI_pred]
      obtain ⟨g, ge, hG⟩ := g1 hg; subst ge; clear hg; have hg := hG; clear hG; rw [E_X13_starts_3]; unfold F_X13_starts_3
      refine o_X rfl (by omega) ?_
      refine o_s (fun U1 u1 => ?_)
      have a1 := hU.s (k := 4 + k) u1
      have g1' := hf.sI u1 (by omega)
      have mU1 := h.x g1'
      refine o_X (nA2' (n := 26) rfl) (by omega) ?_
      refine o_X (nA3 (n := 12) rfl) (by omega) ?_
      rw [mU1.1.paths, mU1.1.state, (mU1.2.2.2.1 k (by omega)).1]
      refine o_s (fun U2 u2 => ?_)
      have a2 := a1.s (k := 12 + k) u2
      refine rec g _ _ (by omega) ⟨by rw [nI_1], a2.cg (fun j hj => ?_), g1'.sI u2 (by omega)⟩
      simp only [up1_at]
      by_cases c1 : j = 12 + k
      · rw [if_pos c1, if_neg (by omega), if_pos (by omega), c1, show 12 + k - 12 = k by omega]
      · rw [if_neg c1]
        by_cases c2 : j = 4 + k
        · rw [if_pos c2, if_pos (by omega), c2, show 4 + k - 4 = k by omega]
        · rw [if_neg c2]
          by_cases c3 : 4 ≤ j ∧ j < 4 + k
          · rw [if_pos c3, if_pos (by omega)]
          · rw [if_neg c3, if_neg (show ¬ (4 ≤ j ∧ j < 4 + (k + 1)) by omega)]
            by_cases c4 : 12 ≤ j ∧ j < 12 + k
            · rw [if_pos c4, if_pos (by omega)]
            · rw [if_neg c4, if_neg (by omega)]
    · rintro _ U g ⟨rfl, hU, hf⟩ hg
      have mU := h.x hf
      show zO (F_X13_starts g 2 _ _) _
      obtain ⟨g, ge, hG⟩ := g1 hg; subst ge; clear hg; have hg := hG; clear hG; rw [E_X13_starts_2]; unfold F_X13_starts_2
      refine o_I (T_X13_yards mU (by omega)) ?_
      rintro _ U ⟨rfl, rfl⟩
      exact o_t (nI_le (Nat.le_refl _) (by omega)) (u_r ⟨hU, hf⟩)
    · rw [hT k hk]
      simp only []
      rw [if_neg (by omega), if_neg (by omega)]
end P6

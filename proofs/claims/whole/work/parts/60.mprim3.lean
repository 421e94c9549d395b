/-! the reference's reader: numbers, words, names -/
section MR1
variable {S T : aS} {f n a b c i N x : Nat} {tp : List Nat}
theorem M_takeNumber0 {v w : Int32} (h : MFt S x) (hg : 4 ≤ f) : zI (F_X13_takeNumber f 0 [.ref 186, .int v, .int w] S) (fun x T => x = 0 ∧ T = S) := by
  replace hg : 3 + 1 ≤ f := hg
  obtain ⟨g, ge, hG⟩ := g1 hg; subst ge; clear hg; have hg := hG; clear hG; rw [E_X13_takeNumber_0]; unfold F_X13_takeNumber_0
  refine o_f h.ne ?_
  replace hg : 2 + 1 ≤ g := hg
  obtain ⟨g, ge, hG⟩ := g1 hg; subst ge; clear hg; have hg := hG; clear hG; rw [E_X13_takeNumber_1]; unfold F_X13_takeNumber_1
  refine o_f h.ne ?_
  replace hg : 1 + 1 ≤ g := hg
  obtain ⟨g, ge, hG⟩ := g1 hg; subst ge; clear hg; have hg := hG; clear hG; rw [E_X13_takeNumber_2]; unfold F_X13_takeNumber_2
  exact o_f h.p (i_r ⟨rfl, rfl⟩)
theorem M_takeNumber (ho : tp.length ≤ 1000) (h : MTk S tp N n) (hb : b < 10000) (hab : a ≤ b) (hg : 6 ≤ f) : zI (F_X13_takeNumber f 0 [.ref 186, .int (nI a), .int (nI b)] S) (fun x T => if nW tp n a b = 0 then x = nI (tk tp n).2.2 ∧ MTk T tp N (n + 1) ∧ Fr d7 S T else x = 0 ∧ gI T 186 8 = nI (nW tp n a b + 16 * tP tp n) ∧ Fr d8 S T) := by
  replace hg : 5 + 1 ≤ f := hg
  obtain ⟨g, ge, hG⟩ := g1 hg; subst ge; clear hg; have hg := hG; clear hG; rw [E_X13_takeNumber_0]; unfold F_X13_takeNumber_0
  obtain ⟨k1, k2, k3, k4⟩ := h.tk
  have hP := tP_b (tp := tp) n
  have hs5 : (tk tp n).1 < 5 := by
    show (tK tp (tP tp n)).1 < 5
    unfold tK
    repeat' split
    all_goals simp
  have bad : ∀ (T : aS) (g k : Nat), 1 ≤ g → 1 ≤ k → k ≤ 5 → gI T 186 8 = nI (k + 16 * tP tp n) → zI (F_X13_takeNumber g 2 [.ref 186] T) (fun x U => x = 0 ∧ U = T) := by
    intro T g k hg hk hk5 ht
    obtain ⟨g, rfl, hg2⟩ := g1 (n := 0) (f := g) (by omega)
    rw [E_X13_takeNumber_2]; unfold F_X13_takeNumber_2
    have hm : MFt T (k + 16 * tP tp n) := ⟨ht, by omega, by omega⟩
    exact o_f hm.p (i_r ⟨rfl, rfl⟩)
  refine o_t h.2.2.2.1 ?_
  rw [h.2.2.1.1]
  refine o_X rfl h.lt ?_
  rw [h.1.sort, k1, show (2 : Int32) = nI 2 from rfl]
  unfold nW
  by_cases hq : qN tp n = true
  · have h2 : (tk tp n).1 = 2 := by unfold qN at hq; simpa using hq
    have hv := tk_n h2
    rw [if_pos hq]
    refine o_t (by rw [h2]) ?_
    have kv := k4 (Or.inl h2)
    replace hg : 4 + 1 ≤ g := hg
    obtain ⟨g, ge, hG⟩ := g1 hg; subst ge; clear hg; have hg := hG; clear hG; rw [E_X13_takeNumber_1]; unfold F_X13_takeNumber_1
    refine o_t h.2.2.2.1 ?_
    rw [h.2.2.1.1]
    refine o_X rfl h.lt ?_
    rw [h.1.value, kv, nI_l (show a < 2 ^ 31 by omega), nI_l (show b < 2 ^ 31 by omega)]
    have out3 : ∀ g, 4 ≤ g → zI (F_X13_takeNumber g 3 [.ref 186] S) (fun x T => x = 0 ∧ gI T 186 8 = nI (4 + 16 * tP tp n) ∧ Fr d8 S T) := by
      intro g hg
      obtain ⟨g, rfl, hg2⟩ := g1 (n := 3) (f := g) (by omega)
      rw [E_X13_takeNumber_3]; unfold F_X13_takeNumber_3
      refine o_V (M_wrong (k := 4) h (by omega)) ?_
      rintro T1 ⟨t1, t2⟩
      refine i_m (bad T1 g 4 (by omega) (by omega) (by omega) t1) (fun x U hx => ⟨hx.1, ?_⟩)
      rw [hx.2]
      exact ⟨t1, t2⟩
    by_cases c1 : (tk tp n).2.2 < a
    · refine o_t (by rw [lg_cmp_lt, pk_lLT (by omega) (by omega)]; exact c1) ?_
      rw [if_neg (show ¬ (a ≤ (tk tp n).2.2 ∧ (tk tp n).2.2 ≤ b) by omega)]
      refine i_m (out3 g (by omega)) (fun x U hx => ?_)
      rw [if_neg (by decide)]
      exact hx
    refine o_f (by rw [lg_cmp_lt, pk_lLT (by omega) (by omega)]; exact c1) ?_
    refine o_X rfl h.lt ?_
    rw [kv]
    by_cases c2 : (tk tp n).2.2 ≤ b
    · refine o_t (by rw [lg_cmp_le, pk_lLE (by omega) (by omega)]; exact c2) ?_
      rw [if_pos (show a ≤ (tk tp n).2.2 ∧ (tk tp n).2.2 ≤ b by omega)]
      replace hg : 3 + 1 ≤ g := hg
      obtain ⟨g, ge, hG⟩ := g1 hg; subst ge; clear hg; have hg := hG; clear hG; rw [E_X13_takeNumber_2]; unfold F_X13_takeNumber_2
      refine o_t (by rw [h.2.2.2.1]; decide) ?_
      rw [h.2.2.1.1, nI_1]
      refine o_s (fun S1 s1 => ?_)
      have hf : Fr d7 S S1 := (Fr.refl S).sI s1 (by unfold d7; omega)
      have e7 : gI S1 186 7 = nI (n + 1) := by rw [s1, gI_sI, if_pos ⟨rfl, rfl⟩]
      rw [e7, show (1 : Int32) = nI 1 from rfl, pk_sub (by omega), show n + 1 - 1 = n by omega]
      refine o_X rfl h.lt ?_
      rw [show gR S1 186 6 = 190 by rw [hf.R]; exact h.1.value, hf.J, kv, lN_i]
      refine i_r ?_
      rw [if_pos rfl]
      exact ⟨rfl, h.at hf e7 (qN.s h.2.1.1 h.2.2.1.2 hq), hf⟩
    · refine o_f (by rw [lg_cmp_le, pk_lLE (by omega) (by omega)]; exact c2) ?_
      rw [if_neg (show ¬ (a ≤ (tk tp n).2.2 ∧ (tk tp n).2.2 ≤ b) by omega)]
      refine i_m (out3 g (by omega)) (fun x U hx => ?_)
      rw [if_neg (by decide)]
      exact hx
  · have h2 : ¬ (tk tp n).1 = 2 := by unfold qN at hq; simpa using hq
    rw [if_neg hq]
    refine o_f (nI_ne h2 (by omega) (by omega)) ?_
    refine o_V (M_wrong (k := 1) h (by omega)) ?_
    rintro T1 ⟨t1, t2⟩
    refine i_m (bad T1 g 1 (by omega) (by omega) (by omega) t1) (fun x U hx => ?_)
    rw [if_neg (by decide)]
    refine ⟨hx.1, ?_⟩
    rw [hx.2]
    exact ⟨t1, t2⟩
theorem M_takeWord0 {v : Int32} (h : MFt S x) (hg : 6 ≤ f) : zU (F_X13_takeWord f 0 [.ref 186, .int v] S) (fun T => Fr d0 S T) := by
  replace hg : 5 + 1 ≤ f := hg
  obtain ⟨g, ge, hG⟩ := g1 hg; subst ge; clear hg; have hg := hG; clear hG; rw [E_X13_takeWord_0]; unfold F_X13_takeWord_0
  refine o_I (M_hasWord0 h (by omega)) ?_
  rintro y T1 ⟨rfl, t1⟩
  refine o_t rfl ?_
  refine o_V (M_wrong0 (h.fr t1 (fun h => h)) (by omega)) (fun T2 t2 => ?_)
  rw [t2]
  replace hg : 4 + 1 ≤ g := hg
  obtain ⟨g, ge, hG⟩ := g1 hg; subst ge; clear hg; have hg := hG; clear hG; rw [E_X13_takeWord_1]; unfold F_X13_takeWord_1
  exact u_r t1
theorem M_takeWord (h : MTk S tp N n) (hi : i < 29) (hg : 6 ≤ f) : zU (F_X13_takeWord f 0 [.ref 186, .int (nI i)] S) (fun T => if qW tp n (cm i) = true then MTk T tp N (n + 1) ∧ Fr d7 S T else gI T 186 8 = nI (1 + 16 * tP tp n) ∧ Fr (fun x k => x = 186 ∧ (k = 7 ∨ k = 8)) S T) := by
  replace hg : 5 + 1 ≤ f := hg
  obtain ⟨g, ge, hG⟩ := g1 hg; subst ge; clear hg; have hg := hG; clear hG; rw [E_X13_takeWord_0]; unfold F_X13_takeWord_0
  refine o_I (M_hasWord h hi (by omega)) ?_
  rintro y T1 ⟨rfl, v1, v2⟩
  by_cases e : qW tp n (cm i) = true
  · rw [if_pos e] at v1 ⊢
    refine o_f (by decide) ?_
    replace hg : 4 + 1 ≤ g := hg
    obtain ⟨g, ge, hG⟩ := g1 hg; subst ge; clear hg; have hg := hG; clear hG; rw [E_X13_takeWord_1]; unfold F_X13_takeWord_1
    refine u_r ?_
    rw [if_pos e]
    exact ⟨v1, v2⟩
  · rw [if_neg e] at v1 ⊢
    refine o_t rfl ?_
    refine o_V (M_wrong (k := 1) v1 (by omega)) ?_
    rintro T2 ⟨t1, t2⟩
    replace hg : 4 + 1 ≤ g := hg
    obtain ⟨g, ge, hG⟩ := g1 hg; subst ge; clear hg; have hg := hG; clear hG; rw [E_X13_takeWord_1]; unfold F_X13_takeWord_1
    refine u_r ?_
    rw [if_neg e]
    exact ⟨t1, (v2.mono (fun q k d => by unfold d7 at d; omega)).tr (t2.mono (fun q k d => by unfold d8 at d; omega))⟩
theorem M_wordHere (h : MTk S tp N n) (hac : a + c ≤ 29) (hg : 60 ≤ f) : zI (F_X13_wordHere f 0 [.ref 186, .int (nI a), .int (nI c)] S) (fun x T => T = S ∧ ((∃ j, j < c ∧ x = nI j ∧ qW tp n (cm (a + j)) = true) ∨ (x = -1 ∧ ∀ j, j < c → ¬ qW tp n (cm (a + j)) = true))) := by
  obtain ⟨g, ge, hG⟩ := g1 hg; subst ge; clear hg; have hg := hG; clear hG; rw [E_X13_wordHere_0]; unfold F_X13_wordHere_0
  refine o_loop (F := fun f vs S => F_X13_wordHere f 1 vs S) (c := 1) (B := 10) (y := c) (fun k vs T => T = S ∧ ∃ x : Int32, vs = [.ref 186, .int (nI a), .int (nI c), .int x, .int (nI k)] ∧ ((∃ j, j < k ∧ x = nI j ∧ qW tp n (cm (a + j)) = true) ∨ (x = -1 ∧ ∀ j, j < k → ¬ qW tp n (cm (a + j)) = true))) ?_ ?_ 0 _ S g (by omega) ⟨rfl, _, rfl, Or.inr ⟨rfl, fun j h => absurd h (by omega)⟩⟩ (by omega)
  · rintro k _ T1 g hk ⟨t1, x, rfl, hx⟩ hg rk
    rw [t1]
    show zO (F_X13_wordHere g 1 _ _) _
    replace hg : 10 + 1 ≤ g := hg
    obtain ⟨g, ge, hG⟩ := g1 hg; subst ge; clear hg; have hg := hG; clear hG; rw [E_X13_wordHere_1]; unfold F_X13_wordHere_1
    refine o_f (nI_ge hk (by omega)) ?_
    rw [nI_add]
    refine o_I (M_isWord h (show a + k < 29 by omega) (by omega)) ?_
    rintro y T2 ⟨rfl, t2⟩
    rw [t2, nI_1]
    by_cases e : qW tp n (cm (a + k)) = true
    · rw [if_pos e, if_neg (by decide)]
      exact rk g _ _ (by omega) ⟨rfl, _, rfl, Or.inl ⟨k, by omega, rfl, e⟩⟩
    · rw [if_neg e, if_pos rfl]
      refine rk g _ _ (by omega) ⟨rfl, _, rfl, ?_⟩
      rcases hx with ⟨j, j1, j2, j3⟩ | ⟨h1, h2⟩
      · exact Or.inl ⟨j, by omega, j2, j3⟩
      · refine Or.inr ⟨h1, fun j hj => ?_⟩
        by_cases ej : j = k
        · rw [ej]; exact e
        · exact h2 j (by omega)
  · rintro _ T1 g ⟨t1, x, rfl, hx⟩ hg
    rw [t1]
    show zO (F_X13_wordHere g 1 _ _) _
    replace hg : 10 + 1 ≤ g := hg
    obtain ⟨g, ge, hG⟩ := g1 hg; subst ge; clear hg; have hg := hG; clear hG; rw [E_X13_wordHere_1]; unfold F_X13_wordHere_1
    refine o_t (nI_le (by omega) (by omega)) ?_
    exact i_r ⟨rfl, hx⟩
end MR1

/-! questions over a trial: both sides -/
theorem hoursF_b {P : aP} {d : Nat} {c c2 : Lk → Bool} {n k : Nat} {L : Lk} : hoursF P d c c2 (n + 1) k L = if c (awA P d L) then nI k else if c2 (hA P d L) then nI k else hoursF P d c c2 n (k + 1) (hA P d L) := rfl
theorem Both.of {n : Nat} {rC rM : aS → aR} (h : ∀ S T A, CI S A → MI T A → AI n A → ∃ v A', AI (n + 1) A' ∧ UC S (rC S) v A' ∧ UM T (rM T) v A') : Both n rC rM := h
section P2
variable {S T : aS} {q : Nat} {P : aP} {L : Lk} {f n B : Nat}
/-- the reference lays a trial -/
theorem MX.cp (h : MX S P L) (hg : 30 ≤ f) : zU (F_X13_copies f 0 [.ref 186, .int 0, .int 756, .int 28] S) (fun T => MA T 756 L ∧ MX T P L ∧ Fr mJ S T) := by
  refine u_m (T_X13_cp (a := 0) (b := 756) h.1 h.2.1 (by omega) (by omega) (by omega) hg) ?_
  rintro T ⟨h1, h2, h3, h4⟩
  have hf := h4.mono (dX_mJ (b := 756) (by omega))
  exact ⟨h1, h.j hf, hf⟩
theorem B_all (hg : 4700 ≤ f) : Both n (fun S => F_X12_all f 0 [.ref 0] S) (fun S => F_X13_all f 0 [.ref 186] S) := by
  refine Both.ro (fun S T A q hC hX hL hM hA hB hd => ?_)
  have mx := hM.x hA
  refine ⟨nI (tot (pY (plA A)) (awA (plA A) (pDe (plA A)) (lkA A))), ?_, ?_⟩
  · obtain ⟨g, ge, hG⟩ := g1 hg; subst ge; clear hg; have hg := hG; clear hG; rw [E_X12_all_0]; unfold F_X12_all_0
    rw [hX.c11]
    refine o_I (T_X9_liesAfterAll hX hL hB hd (by omega)) ?_
    rintro _ S1 ⟨rfl, f1⟩
    rw [aw_m1 hX.pi]
    exact i_r ⟨rfl, f1.mono dW_dJ⟩
  · obtain ⟨g, ge, hG⟩ := g1 hg; subst ge; clear hg; have hg := hG; clear hG; rw [E_X13_all_0]; unfold F_X13_all_0
    refine o_s (fun T1 e1 => ?_)
    have f1 := (Fr.refl (D := mJ) T).sI e1 (by unfold mJ; omega)
    have m1 := mx.j f1
    refine o_V (m1.cp (by omega)) ?_
    rintro T2 ⟨a2, m2, f2⟩
    refine o_V (T_X13_all (b := 756) m2.1 hX.pi a2 hB (by omega) m2.2.2.1 (by omega)) ?_
    rintro T3 ⟨a3, f3⟩
    have f3 := f3.mono (dX_mJ (b := 756) (by omega))
    refine o_I (T_X13_lyingIn (b := 756) (m2.j f3).1 hX.pi a3 (by omega) (by omega)) ?_
    rintro _ T3 ⟨rfl, rfl⟩
    exact i_r ⟨rfl, (f1.tr f2).tr f3⟩
theorem tb_pow {k j : Nat} : (2 ^ k).testBit j = decide (j = k) := by
  rw [Nat.testBit_two_pow]
  by_cases h : k = j
  · rw [decide_eq_true h, decide_eq_true h.symm]
  · rw [decide_eq_false h, decide_eq_false (fun e => h e.symm)]
theorem B_without {a : Int32} (hg : 4700 ≤ f) : Both n (fun S => F_X12_without f 0 [.ref 0, .int a] S) (fun S => F_X13_without f 0 [.ref 186, .int a] S) := by
  refine Both.ro (fun S T A q hC hX hL hM hA hB hd => ?_)
  have mx := hM.x hA
  have hn := hX.pi.1.2.2.1
  obtain ⟨T1, e1⟩ : ∃ T1, T1 = sI T 186 0 0 := ⟨_, rfl⟩
  have f1 := (Fr.refl (D := mJ) T).sI e1 (by unfold mJ; omega)
  have m1 := mx.j f1
  rcases ix a (n := pN (plA A)) with ha | ⟨k, hk, rfl⟩
  · refine ⟨-1, ?_, ?_⟩
    · obtain ⟨g, ge, hG⟩ := g1 hg; subst ge; clear hg; have hg := hG; clear hG; rw [E_X12_without_0]; unfold F_X12_without_0
      rw [hX.c1]
      refine o_I (T_X6_hasPerson0 hX.cp ha (by omega)) ?_
      rintro _ S ⟨rfl, rfl⟩
      refine o_t rfl ?_
      obtain ⟨g, ge, hG⟩ := g1 hg; subst ge; clear hg; have hg := hG; clear hG; rw [E_X12_without_1]; unfold F_X12_without_1
      exact i_r ⟨rfl, Fr.refl _⟩
    · obtain ⟨g, ge, hG⟩ := g1 hg; subst ge; clear hg; have hg := hG; clear hG; rw [E_X13_without_0]; unfold F_X13_without_0
      rw [← e1]
      show zO (bI _ _) _
      refine o_I (T_X13_isPerson0 m1.1 ha (by omega)) ?_
      rintro _ T1 ⟨rfl, rfl⟩
      exact o_t rfl (i_r ⟨rfl, f1⟩)
  refine ⟨nI (tot (pY (plA A)) (aw (plA A) (pDe (plA A)) (fun j => decide (nI j = nI k)) (lkA A) (pN (plA A)))), ?_, ?_⟩
  · obtain ⟨g, ge, hG⟩ := g1 hg; subst ge; clear hg; have hg := hG; clear hG; rw [E_X12_without_0]; unfold F_X12_without_0
    rw [hX.c1]
    refine o_I (T_X6_hasPerson hX.cp hX.pi hk (by omega)) ?_
    rintro _ S ⟨rfl, rfl⟩
    refine o_f (by decide) ?_
    rw [hX.c11]
    refine o_I (T_X9_liesAfterAll hX hL hB hd (by omega)) ?_
    rintro _ S1 ⟨rfl, f1⟩
    obtain ⟨g, ge, hG⟩ := g1 hg; subst ge; clear hg; have hg := hG; clear hG; rw [E_X12_without_1]; unfold F_X12_without_1
    exact i_r ⟨rfl, f1.mono dW_dJ⟩
  · obtain ⟨g, ge, hG⟩ := g1 hg; subst ge; clear hg; have hg := hG; clear hG; rw [E_X13_without_0]; unfold F_X13_without_0
    rw [← e1]
    show zO (bI _ _) _
    refine o_I (T_X13_isPerson m1.1 hX.pi hk (by omega)) ?_
    rintro _ T1 ⟨rfl, rfl⟩
    refine o_f (by decide) ?_
    refine o_V (m1.cp (by omega)) ?_
    rintro T2 ⟨a2, m2, f2⟩
    rw [sh1 k (by omega)]
    have h2k : 2 ^ k ≤ 2 ^ 6 := Nat.pow_le_pow_right (by omega) (by omega)
    refine o_V (T_X13_allWalk (b := 756) (n := 2 ^ k) m2.1 hX.pi a2 hB (by omega) m2.2.2.1 (by omega) (by omega)) ?_
    rintro T3 ⟨a3, f3⟩
    have f3 := f3.mono (dX_mJ (b := 756) (by omega))
    refine o_I (T_X13_lyingIn (b := 756) (m2.j f3).1 hX.pi a3 (by omega) (by omega)) ?_
    rintro _ T3 ⟨rfl, rfl⟩
    refine i_r ⟨?_, (f1.tr f2).tr f3⟩
    rw [aw_cg (ab2 := fun j => decide (nI j = nI k)) (fun j hj => ?_)]
    rw [tb_pow]
    by_cases e : j = k
    · rw [decide_eq_true e, decide_eq_true (by rw [e])]
    · rw [decide_eq_false e, decide_eq_false (nI_ne e (by omega) (by omega))]
theorem B_hands {a : Int32} (hg : 4700 ≤ f) : Both n (fun S => F_X12_hands f 0 [.ref 0, .int a] S) (fun S => F_X13_hands f 0 [.ref 186, .int a] S) := by
  refine Both.ro (fun S T A q hC hX hL hM hA hB hd => ?_)
  have mx := hM.x hA
  have hn := hX.pi.1.2.2.1
  obtain ⟨T1, e1⟩ : ∃ T1, T1 = sI T 186 0 0 := ⟨_, rfl⟩
  have f1 := (Fr.refl (D := mJ) T).sI e1 (by unfold mJ; omega)
  have m1 := mx.j f1
  rcases ix a (n := pN (plA A)) with ha | ⟨k, hk, rfl⟩
  · refine ⟨-1, ?_, ?_⟩
    · obtain ⟨g, ge, hG⟩ := g1 hg; subst ge; clear hg; have hg := hG; clear hG; rw [E_X12_hands_0]; unfold F_X12_hands_0
      rw [hX.c1]
      refine o_I (T_X6_hasPerson0 hX.cp ha (by omega)) ?_
      rintro _ S ⟨rfl, rfl⟩
      refine o_t rfl ?_
      obtain ⟨g, ge, hG⟩ := g1 hg; subst ge; clear hg; have hg := hG; clear hG; rw [E_X12_hands_1]; unfold F_X12_hands_1
      exact i_r ⟨rfl, Fr.refl _⟩
    · obtain ⟨g, ge, hG⟩ := g1 hg; subst ge; clear hg; have hg := hG; clear hG; rw [E_X13_hands_0]; unfold F_X13_hands_0
      rw [← e1]
      show zO (bI _ _) _
      refine o_I (T_X13_isPerson0 m1.1 ha (by omega)) ?_
      rintro _ T1 ⟨rfl, rfl⟩
      exact o_t rfl (i_r ⟨rfl, f1⟩)
  refine ⟨nI (wE (plA A) k (pDe (plA A)) (lkA A)).2.2.2.2, ?_, ?_⟩
  · obtain ⟨g, ge, hG⟩ := g1 hg; subst ge; clear hg; have hg := hG; clear hG; rw [E_X12_hands_0]; unfold F_X12_hands_0
    rw [hX.c1]
    refine o_I (T_X6_hasPerson hX.cp hX.pi hk (by omega)) ?_
    rintro _ S ⟨rfl, rfl⟩
    refine o_f (by decide) ?_
    rw [hX.c11]
    refine o_I (T_X9_yardsWithFullHands hX hL hB hd hk (by omega)) ?_
    rintro _ S1 ⟨rfl, f1⟩
    obtain ⟨g, ge, hG⟩ := g1 hg; subst ge; clear hg; have hg := hG; clear hG; rw [E_X12_hands_1]; unfold F_X12_hands_1
    exact i_r ⟨rfl, f1.mono dW_dJ⟩
  · obtain ⟨g, ge, hG⟩ := g1 hg; subst ge; clear hg; have hg := hG; clear hG; rw [E_X13_hands_0]; unfold F_X13_hands_0
    rw [← e1]
    show zO (bI _ _) _
    refine o_I (T_X13_isPerson m1.1 hX.pi hk (by omega)) ?_
    rintro _ T1 ⟨rfl, rfl⟩
    refine o_f (by decide) ?_
    refine o_V (m1.cp (by omega)) ?_
    rintro T2 ⟨a2, m2, f2⟩
    refine o_I (T_X13_walks (b := 756) m2.1 hX.pi a2 hB (by omega) hk m2.2.2.1 (by omega)) ?_
    rintro _ T3 ⟨rfl, a3, w3, f3⟩
    have f3 := f3.mono (dX_mJ (b := 756) (by omega))
    exact i_r ⟨w3.2.2, (f1.tr f2).tr f3⟩
theorem Int32_sub_add (a b : Nat) : nI (a + b) - nI a = nI b := by
  rw [pk_sub (by omega), Nat.add_sub_cancel_left]
theorem B_leaves {a b : Int32} (hg : 4700 ≤ f) : Both n (fun S => F_X12_leaves f 0 [.ref 0, .int a, .int b] S) (fun S => F_X13_leaves f 0 [.ref 186, .int a, .int b] S) := by
  refine Both.ro (fun S T A q hC hX hL hM hA hB hd => ?_)
  have mx := hM.x hA
  have hn := hX.pi.1.2.2.1
  have hy := hX.pi.1.2.1
  obtain ⟨T1, e1⟩ : ∃ T1, T1 = sI T 186 0 0 := ⟨_, rfl⟩
  have f1 := (Fr.refl (D := mJ) T).sI e1 (by unfold mJ; omega)
  have m1 := mx.j f1
  rcases ix a (n := pN (plA A)) with ha | ⟨k, hk, rfl⟩
  · refine ⟨-1000, ?_, ?_⟩
    · obtain ⟨g, ge, hG⟩ := g1 hg; subst ge; clear hg; have hg := hG; clear hG; rw [E_X12_leaves_0]; unfold F_X12_leaves_0
      rw [hX.c1]
      refine o_I (T_X6_hasPerson0 hX.cp ha (by omega)) ?_
      rintro _ S ⟨rfl, rfl⟩
      refine o_t rfl ?_
      obtain ⟨g, ge, hG⟩ := g1 hg; subst ge; clear hg; have hg := hG; clear hG; rw [E_X12_leaves_1]; unfold F_X12_leaves_1
      exact i_r ⟨rfl, Fr.refl _⟩
    · obtain ⟨g, ge, hG⟩ := g1 hg; subst ge; clear hg; have hg := hG; clear hG; rw [E_X13_leaves_0]; unfold F_X13_leaves_0
      rw [← e1]
      show zO (bI _ _) _
      refine o_I (T_X13_isPerson0 m1.1 ha (by omega)) ?_
      rintro _ T1 ⟨rfl, rfl⟩
      refine o_t rfl ?_
      obtain ⟨g, ge, hG⟩ := g1 hg; subst ge; clear hg; have hg := hG; clear hG; rw [E_X13_leaves_1]; unfold F_X13_leaves_1
      exact i_r ⟨rfl, f1⟩
  rcases wI_n (a := b) (lo := 0) (hi := 11) (by omega) (by omega) with hb | ⟨j, hj0, hj, rfl, hb⟩
  · refine ⟨-1000, ?_, ?_⟩
    · obtain ⟨g, ge, hG⟩ := g1 hg; subst ge; clear hg; have hg := hG; clear hG; rw [E_X12_leaves_0]; unfold F_X12_leaves_0
      rw [hX.c1]
      refine o_I (T_X6_hasPerson hX.cp hX.pi hk (by omega)) ?_
      rintro _ S ⟨rfl, rfl⟩
      refine o_f (by decide) ?_
      refine o_I (T_X12_isWithin (by omega)) ?_
      rintro _ S ⟨rfl, rfl⟩
      refine o_t hb ?_
      obtain ⟨g, ge, hG⟩ := g1 hg; subst ge; clear hg; have hg := hG; clear hG; rw [E_X12_leaves_1]; unfold F_X12_leaves_1
      exact i_r ⟨rfl, Fr.refl _⟩
    · obtain ⟨g, ge, hG⟩ := g1 hg; subst ge; clear hg; have hg := hG; clear hG; rw [E_X13_leaves_0]; unfold F_X13_leaves_0
      rw [← e1]
      show zO (bI _ _) _
      refine o_I (T_X13_isPerson m1.1 hX.pi hk (by omega)) ?_
      rintro _ T1 ⟨rfl, rfl⟩
      refine o_f (by decide) ?_
      refine o_I (T_X13_within (by omega)) ?_
      rintro _ T1 ⟨rfl, rfl⟩
      refine o_t hb ?_
      obtain ⟨g, ge, hG⟩ := g1 hg; subst ge; clear hg; have hg := hG; clear hG; rw [E_X13_leaves_1]; unfold F_X13_leaves_1
      exact i_r ⟨rfl, f1⟩
  have hb' : ¬ wI (nI j) 0 11 = 0 := fun e => by have hb : wI (nI j) 0 11 = 1 := hb; rw [hb] at e; exact absurd e (by decide)
  have cls : zI (F_X12_leaves f 0 [.ref 0, .int (nI k), .int (nI j)] S) (fun x U => x = (if j = 8 then nI (tot (pY (plA A)) (wk (plA A) k (pDe (plA A)) (lkA A))) - nI (tot (pY (plA A)) (lkA A)) else if j = 9 then nI (wE (plA A) k (pDe (plA A)) (lkA A)).2.1.1 else if j = 10 then nI (wE (plA A) k (pDe (plA A)) (lkA A)).2.1.2 else if j = 11 then nI (wE (plA A) k (pDe (plA A)) (lkA A)).2.2.1 else if j < pY (plA A) then nI (wk (plA A) k (pDe (plA A)) (lkA A) (4 + j)) - nI (lkA A (4 + j)) else 0) ∧ Fr dJ S U) := by
    obtain ⟨g, ge, hG⟩ := g1 hg; subst ge; clear hg; have hg := hG; clear hG; rw [E_X12_leaves_0]; unfold F_X12_leaves_0
    rw [hX.c1]
    refine o_I (T_X6_hasPerson hX.cp hX.pi hk (by omega)) ?_
    rintro _ S ⟨rfl, rfl⟩
    refine o_f (by decide) ?_
    refine o_I (T_X12_isWithin (by omega)) ?_
    rintro _ S ⟨rfl, rfl⟩
    refine o_f hb' ?_
    rw [hX.c11]
    refine o_I (T_X9_changeBy hX hL hB hd hk (show j < 12 by omega) (by omega)) ?_
    rintro _ S1 ⟨rfl, f1⟩
    exact i_r ⟨rfl, f1.mono dW_dJ⟩
  refine ⟨_, cls, ?_⟩
  obtain ⟨g, ge, hG⟩ := g1 hg; subst ge; clear hg; have hg := hG; clear hG; rw [E_X13_leaves_0]; unfold F_X13_leaves_0
  rw [← e1]
  show zO (bI _ _) _
  refine o_I (T_X13_isPerson m1.1 hX.pi hk (by omega)) ?_
  rintro _ T1 ⟨rfl, rfl⟩
  refine o_f (by decide) ?_
  refine o_I (T_X13_within (by omega)) ?_
  rintro _ T1 ⟨rfl, rfl⟩
  refine o_f hb' ?_
  refine o_V (m1.cp (by omega)) ?_
  rintro T2 ⟨a2, m2, f2⟩
  refine o_I (T_X13_walks (b := 756) m2.1 hX.pi a2 hB (by omega) hk m2.2.2.1 (by omega)) ?_
  rintro _ T3 ⟨rfl, a3, w3, f3⟩
  have f3 := f3.mono (dX_mJ (b := 756) (by omega))
  have m3 := m2.j f3
  have ff := (f1.tr f2).tr f3
  refine o_if (fun c => ?_) (fun c => ?_)
  · rw [show (8 : Int32) = nI 8 from rfl, nI_leI (by omega) (by omega)] at c
    rcases (show j = 8 ∨ j = 9 ∨ j = 10 ∨ j = 11 by omega) with rfl | rfl | rfl | rfl
    · refine o_t rfl ?_
      refine o_I (T_X13_lyingIn (b := 756) m3.1 hX.pi a3 (by omega) (by omega)) ?_
      rintro _ T3 ⟨rfl, rfl⟩
      refine o_I (T_X13_lyingIn (b := 0) m3.1 hX.pi m3.2.1 (by omega) (by omega)) ?_
      rintro _ T3 ⟨rfl, rfl⟩
      obtain ⟨g, ge, hG⟩ := g1 hg; subst ge; clear hg; have hg := hG; clear hG; rw [E_X13_leaves_2]; unfold F_X13_leaves_2
      exact i_r ⟨rfl, ff⟩
    · refine o_f (by decide) (o_t rfl ?_)
      obtain ⟨g, ge, hG⟩ := g1 hg; subst ge; clear hg; have hg := hG; clear hG; rw [E_X13_leaves_2]; unfold F_X13_leaves_2
      exact i_r ⟨rfl, ff⟩
    · refine o_f (by decide) (o_f (by decide) (o_t rfl ?_))
      obtain ⟨g, ge, hG⟩ := g1 hg; subst ge; clear hg; have hg := hG; clear hG; rw [E_X13_leaves_2]; unfold F_X13_leaves_2
      exact i_r ⟨w3.2.1, ff⟩
    · refine o_f (by decide) (o_f (by decide) (o_f (by decide) ?_))
      refine o_X (n := 758) rfl (by omega) ?_
      refine o_X (n := 2) rfl (by omega) ?_
      obtain ⟨g, ge, hG⟩ := g1 hg; subst ge; clear hg; have hg := hG; clear hG; rw [E_X13_leaves_2]; unfold F_X13_leaves_2
      refine i_r ⟨?_, ff⟩
      rw [m3.1.1.state, show gI T3 200 758 = nI (wk (plA A) k (pDe (plA A)) (lkA A) 2) from a3 2 (by omega), m3.2.1.z (by omega)]
      have e : wk (plA A) k (pDe (plA A)) (lkA A) 2 = lkA A 2 + (wE (plA A) k (pDe (plA A)) (lkA A)).2.2.1 := by
        unfold wk
        rw [up1_at, if_pos rfl]
        unfold wE
        rw [wN_c _ _ _ _ (by omega)]
      rw [e, Int32_sub_add]
      rfl
  · rw [show (8 : Int32) = nI 8 from rfl, nI_leI (by omega) (by omega)] at c
    rw [if_neg (by omega), if_neg (by omega), if_neg (by omega), if_neg (by omega)]
    by_cases hjy : j < pY (plA A)
    · rw [if_pos hjy]
      refine o_I (T_X13_isYard m3.1 hX.pi hjy (by omega)) ?_
      rintro _ T3 ⟨rfl, rfl⟩
      refine o_f (by decide) ?_
      refine o_X (nA2' (n := 760) rfl) (by omega) ?_
      refine o_X (nA2' (n := 4) rfl) (by omega) ?_
      obtain ⟨g, ge, hG⟩ := g1 hg; subst ge; clear hg; have hg := hG; clear hG; rw [E_X13_leaves_3]; unfold F_X13_leaves_3
      refine i_r ⟨?_, ff⟩
      rw [m3.1.1.state, show gI T3 200 (760 + j) = nI (wk (plA A) k (pDe (plA A)) (lkA A) (4 + j)) by have := a3 (4 + j) (by omega); rw [← Nat.add_assoc] at this; exact this, m3.2.1.z (by omega)]
    · rw [if_neg hjy]
      refine o_I (T_X13_isYard0 m3.1 (Or.inr (nI_le (by omega) (by omega))) (by omega)) ?_
      rintro _ T3 ⟨rfl, rfl⟩
      refine o_t rfl ?_
      obtain ⟨g, ge, hG⟩ := g1 hg; subst ge; clear hg; have hg := hG; clear hG; rw [E_X13_leaves_3]; unfold F_X13_leaves_3
      exact i_r ⟨rfl, ff⟩
theorem B_grows {a b : Int32} (hg : 4700 ≤ f) : Both n (fun S => F_X12_grows f 0 [.ref 0, .int a, .int b] S) (fun S => F_X13_grows f 0 [.ref 186, .int a, .int b] S) := by
  refine Both.ro (fun S T A q hC hX hL hM hA hB hd => ?_)
  have mx := hM.x hA
  have hy := hX.pi.1.2.1
  obtain ⟨T1, e1⟩ : ∃ T1, T1 = sI T 186 0 0 := ⟨_, rfl⟩
  have f1 := (Fr.refl (D := mJ) T).sI e1 (by unfold mJ; omega)
  have m1 := mx.j f1
  rcases ix a (n := pY (plA A)) with ha | ⟨k, hk, rfl⟩
  · refine ⟨-1000, ?_, ?_⟩
    · obtain ⟨g, ge, hG⟩ := g1 hg; subst ge; clear hg; have hg := hG; clear hG; rw [E_X12_grows_0]; unfold F_X12_grows_0
      rw [hX.c5]
      refine o_I (T_X4_hasYard0 hL ha (by omega)) ?_
      rintro _ S ⟨rfl, rfl⟩
      refine o_t rfl ?_
      obtain ⟨g, ge, hG⟩ := g1 hg; subst ge; clear hg; have hg := hG; clear hG; rw [E_X12_grows_1]; unfold F_X12_grows_1
      exact i_r ⟨rfl, Fr.refl _⟩
    · obtain ⟨g, ge, hG⟩ := g1 hg; subst ge; clear hg; have hg := hG; clear hG; rw [E_X13_grows_0]; unfold F_X13_grows_0
      rw [← e1]
      show zO (bI _ _) _
      refine o_I (T_X13_isYard0 m1.1 ha (by omega)) ?_
      rintro _ T1 ⟨rfl, rfl⟩
      refine o_t rfl ?_
      obtain ⟨g, ge, hG⟩ := g1 hg; subst ge; clear hg; have hg := hG; clear hG; rw [E_X13_grows_1]; unfold F_X13_grows_1
      exact i_r ⟨rfl, f1⟩
  rcases wI_n (a := b) (lo := 0) (hi := 99) (by omega) (by omega) with hb | ⟨j, hj0, hj, rfl, hb⟩
  · refine ⟨-1000, ?_, ?_⟩
    · obtain ⟨g, ge, hG⟩ := g1 hg; subst ge; clear hg; have hg := hG; clear hG; rw [E_X12_grows_0]; unfold F_X12_grows_0
      rw [hX.c5]
      refine o_I (T_X4_hasYard hL hy hk (by omega)) ?_
      rintro _ S ⟨rfl, rfl⟩
      refine o_f (by decide) ?_
      refine o_I (T_X12_isWithin (by omega)) ?_
      rintro _ S ⟨rfl, rfl⟩
      refine o_t hb ?_
      obtain ⟨g, ge, hG⟩ := g1 hg; subst ge; clear hg; have hg := hG; clear hG; rw [E_X12_grows_1]; unfold F_X12_grows_1
      exact i_r ⟨rfl, Fr.refl _⟩
    · obtain ⟨g, ge, hG⟩ := g1 hg; subst ge; clear hg; have hg := hG; clear hG; rw [E_X13_grows_0]; unfold F_X13_grows_0
      rw [← e1]
      show zO (bI _ _) _
      refine o_I (T_X13_isYard m1.1 hX.pi hk (by omega)) ?_
      rintro _ T1 ⟨rfl, rfl⟩
      refine o_f (by decide) ?_
      refine o_I (T_X13_within (by omega)) ?_
      rintro _ T1 ⟨rfl, rfl⟩
      refine o_t hb ?_
      obtain ⟨g, ge, hG⟩ := g1 hg; subst ge; clear hg; have hg := hG; clear hG; rw [E_X13_grows_1]; unfold F_X13_grows_1
      exact i_r ⟨rfl, f1⟩
  have hb' : ¬ wI (nI j) 0 99 = 0 := fun e => by have hb : wI (nI j) 0 99 = 1 := hb; rw [hb] at e; exact absurd e (by decide)
  refine ⟨nI (awA (plA A) (pDe (plA A)) (up1 (lkA A) (4 + k) j) (4 + k)) - nI j, ?_, ?_⟩
  · obtain ⟨g, ge, hG⟩ := g1 hg; subst ge; clear hg; have hg := hG; clear hG; rw [E_X12_grows_0]; unfold F_X12_grows_0
    rw [hX.c5]
    refine o_I (T_X4_hasYard hL hy hk (by omega)) ?_
    rintro _ S ⟨rfl, rfl⟩
    refine o_f (by decide) ?_
    refine o_I (T_X12_isWithin (by omega)) ?_
    rintro _ S ⟨rfl, rfl⟩
    refine o_f hb' ?_
    rw [hX.c11]
    refine o_I (T_X9_growthOf hX hL hB hd (by omega) hj (by omega)) ?_
    rintro _ S1 ⟨rfl, f1⟩
    exact i_r ⟨rfl, f1.mono dW_dJ⟩
  · obtain ⟨g, ge, hG⟩ := g1 hg; subst ge; clear hg; have hg := hG; clear hG; rw [E_X13_grows_0]; unfold F_X13_grows_0
    rw [← e1]
    show zO (bI _ _) _
    refine o_I (T_X13_isYard m1.1 hX.pi hk (by omega)) ?_
    rintro _ T1 ⟨rfl, rfl⟩
    refine o_f (by decide) ?_
    refine o_I (T_X13_within (by omega)) ?_
    rintro _ T1 ⟨rfl, rfl⟩
    refine o_f hb' ?_
    refine o_V (m1.cp (by omega)) ?_
    rintro T2 ⟨a2, m2, f2⟩
    refine o_X (nA2' (n := 760) rfl) (by omega) ?_
    rw [m2.1.1.state]
    refine o_s (fun T3 e3 => ?_)
    have a3 : MA T3 756 (up1 (lkA A) (4 + k) j) := a2.s (k := 4 + k) (v := j) (by rw [← Nat.add_assoc]; exact e3)
    have f3 := (Fr.refl (D := mJ) T2).sI e3 (by unfold mJ; omega)
    have m3 := m2.j f3
    have hB2 : LI n (up1 (lkA A) (4 + k) j) := by
      refine ⟨by rw [up1_at, if_neg (by omega)]; exact hB.1, fun x hx => ?_⟩
      have hb := hB.2 x hx
      simp only [up1_at]
      rw [if_neg (show ¬ 20 + x = 4 + k by omega), if_neg (show ¬ 12 + x = 4 + k by omega)]
      refine ⟨?_, hb.2⟩
      split
      · omega
      · exact hb.1
    refine o_V (T_X13_all (b := 756) m3.1 hX.pi a3 hB2 (by omega) m3.2.2.1 (by omega)) ?_
    rintro T4 ⟨a4, f4⟩
    have f4 := f4.mono (dX_mJ (b := 756) (by omega))
    have m4 := m3.j f4
    refine o_X (nA2' (n := 760) rfl) (by omega) (i_r ⟨?_, ((f1.tr f2).tr f3).tr f4⟩)
    have := a4 (4 + k) (by omega)
    rw [← Nat.add_assoc] at this
    rw [m4.1.1.state, this]
theorem B_from {a b : Int32} (hg : 4700 ≤ f) : Both n (fun S => F_X12_from f 0 [.ref 0, .int a, .int b] S) (fun S => F_X13_from f 0 [.ref 186, .int a, .int b] S) := by
  refine Both.ro (fun S T A q hC hX hL hM hA hB hd => ?_)
  have mx := hM.x hA
  have hn := hX.pi.1.2.2.1
  have hy := hX.pi.1.2.1
  obtain ⟨T1, e1⟩ : ∃ T1, T1 = sI T 186 0 0 := ⟨_, rfl⟩
  have f1 := (Fr.refl (D := mJ) T).sI e1 (by unfold mJ; omega)
  have m1 := mx.j f1
  rcases ix a (n := pN (plA A)) with ha | ⟨k, hk, rfl⟩
  · refine ⟨-1, ?_, ?_⟩
    · obtain ⟨g, ge, hG⟩ := g1 hg; subst ge; clear hg; have hg := hG; clear hG; rw [E_X12_from_0]; unfold F_X12_from_0
      rw [hX.c1]
      refine o_I (T_X6_hasPerson0 hX.cp ha (by omega)) ?_
      rintro _ S ⟨rfl, rfl⟩
      refine o_t rfl ?_
      obtain ⟨g, ge, hG⟩ := g1 hg; subst ge; clear hg; have hg := hG; clear hG; rw [E_X12_from_1]; unfold F_X12_from_1
      exact i_r ⟨rfl, Fr.refl _⟩
    · obtain ⟨g, ge, hG⟩ := g1 hg; subst ge; clear hg; have hg := hG; clear hG; rw [E_X13_from_0]; unfold F_X13_from_0
      rw [← e1]
      show zO (bI _ _) _
      refine o_I (T_X13_isPerson0 m1.1 ha (by omega)) ?_
      rintro _ T1 ⟨rfl, rfl⟩
      refine o_t rfl ?_
      obtain ⟨g, ge, hG⟩ := g1 hg; subst ge; clear hg; have hg := hG; clear hG; rw [E_X13_from_1]; unfold F_X13_from_1
      exact i_r ⟨rfl, f1⟩
  rcases ix b (n := pY (plA A)) with hb | ⟨j, hj, rfl⟩
  · refine ⟨-1, ?_, ?_⟩
    · obtain ⟨g, ge, hG⟩ := g1 hg; subst ge; clear hg; have hg := hG; clear hG; rw [E_X12_from_0]; unfold F_X12_from_0
      rw [hX.c1]
      refine o_I (T_X6_hasPerson hX.cp hX.pi hk (by omega)) ?_
      rintro _ S ⟨rfl, rfl⟩
      refine o_f (by decide) ?_
      rw [hX.c5]
      refine o_I (T_X4_hasYard0 hL hb (by omega)) ?_
      rintro _ S ⟨rfl, rfl⟩
      refine o_t rfl ?_
      obtain ⟨g, ge, hG⟩ := g1 hg; subst ge; clear hg; have hg := hG; clear hG; rw [E_X12_from_1]; unfold F_X12_from_1
      exact i_r ⟨rfl, Fr.refl _⟩
    · obtain ⟨g, ge, hG⟩ := g1 hg; subst ge; clear hg; have hg := hG; clear hG; rw [E_X13_from_0]; unfold F_X13_from_0
      rw [← e1]
      show zO (bI _ _) _
      refine o_I (T_X13_isPerson m1.1 hX.pi hk (by omega)) ?_
      rintro _ T1 ⟨rfl, rfl⟩
      refine o_f (by decide) ?_
      refine o_I (T_X13_isYard0 m1.1 hb (by omega)) ?_
      rintro _ T1 ⟨rfl, rfl⟩
      refine o_t rfl ?_
      obtain ⟨g, ge, hG⟩ := g1 hg; subst ge; clear hg; have hg := hG; clear hG; rw [E_X13_from_1]; unfold F_X13_from_1
      exact i_r ⟨rfl, f1⟩
  obtain ⟨V, eV⟩ : ∃ V, V = fst (fun h => decide (0 < dv (plA A) k h (near (pY (plA A)) (lkA A) j) (tv (plA A) k (lkA A)))) 100 0 := ⟨_, rfl⟩
  refine ⟨V, ?_, ?_⟩
  · obtain ⟨g, ge, hG⟩ := g1 hg; subst ge; clear hg; have hg := hG; clear hG; rw [E_X12_from_0]; unfold F_X12_from_0
    rw [hX.c1]
    refine o_I (T_X6_hasPerson hX.cp hX.pi hk (by omega)) ?_
    rintro _ S ⟨rfl, rfl⟩
    refine o_f (by decide) ?_
    rw [hX.c5]
    refine o_I (T_X4_hasYard hL hy hj (by omega)) ?_
    rintro _ S ⟨rfl, rfl⟩
    refine o_f (by decide) ?_
    rw [hX.c11]
    refine o_I (T_X9_leastHeap hX hL hB hk hj (by omega)) ?_
    rintro _ S1 ⟨rfl, f1⟩
    exact i_r ⟨eV.symm, f1.mono dC_dJ⟩
  · obtain ⟨g, ge, hG⟩ := g1 hg; subst ge; clear hg; have hg := hG; clear hG; rw [E_X13_from_0]; unfold F_X13_from_0
    rw [← e1]
    show zO (bI _ _) _
    refine o_I (T_X13_isPerson m1.1 hX.pi hk (by omega)) ?_
    rintro _ T1 ⟨rfl, rfl⟩
    refine o_f (by decide) ?_
    refine o_I (T_X13_isYard m1.1 hX.pi hj (by omega)) ?_
    rintro _ T1 ⟨rfl, rfl⟩
    refine o_f (by decide) ?_
    have ht := tv_le (P := plA A) (i := k) (L := lkA A) hX.pi hk
    refine o_I (T_X13_takesOf (b := 0) m1.1 hX.pi m1.2.1 hB (by omega) hk (by omega)) ?_
    rintro _ T2 ⟨rfl, f2⟩
    have f2 := f1.tr (f2.mono dF_mJ)
    generalize tv (plA A) k (lkA A) = hd2 at ht eV ⊢
    refine o_loop (F := fun f vs S => F_X13_from f 2 vs S) (c := 1) (B := 4300) (y := 100) (fun h vs U => vs = [.ref 186, .int (nI k), .int (nI j), .int (nI hd2), .int (nI h)] ∧ Fr mJ T U ∧ V = fst (fun h => decide (0 < dv (plA A) k h (near (pY (plA A)) (lkA A) j) hd2)) (100 - h) h) ?_ ?_ 0 _ T2 g (by omega) ⟨rfl, f2, by rw [Nat.sub_zero]; exact eV⟩ (by omega)
    · rintro h _ U g hh ⟨rfl, hf, e⟩ hg rec
      have mU := mx.j hf
      show zO (F_X13_from g 2 _ _) _
      obtain ⟨g, ge, hG⟩ := g1 hg; subst ge; clear hg; have hg := hG; clear hG; rw [E_X13_from_2]; unfold F_X13_from_2
      refine o_f (nI_ge (b := 100) hh (by omega)) ?_
      refine o_I (T_X13_dropsOf (b := 0) mU.1 hX.pi mU.2.1 hB (by omega) hk (by omega) (show h ≤ 999 by omega) ht (by omega)) ?_
      rintro _ U2 ⟨rfl, f3⟩
      have hdv := dv_le (P := plA A) (i := k) (heap := h) (nr := near (pY (plA A)) (lkA A) j) (hand := hd2) (by omega)
      rw [show 100 - h = 100 - (h + 1) + 1 by omega, fst_s] at e
      refine o_if (fun c => ?_) (fun c => ?_)
      · rw [show (0 : Int32) = nI 0 from rfl, nI_leI (by omega) (by omega)] at c
        rw [if_neg (by rw [decide_eq_false (by omega)]; decide)] at e
        exact rec g _ _ (by omega) ⟨by rw [nI_1], hf.tr (f3.mono dF_mJ), e⟩
      · rw [show (0 : Int32) = nI 0 from rfl, nI_leI (by omega) (by omega)] at c
        rw [if_pos (decide_eq_true (by omega))] at e
        exact i_r ⟨e.symm, hf.tr (f3.mono dF_mJ)⟩
    · rintro _ U g ⟨rfl, hf, e⟩ hg
      show zO (F_X13_from g 2 _ _) _
      obtain ⟨g, ge, hG⟩ := g1 hg; subst ge; clear hg; have hg := hG; clear hG; rw [E_X13_from_2]; unfold F_X13_from_2
      exact o_t (nI_le (a := 100) (b := 100) (by omega) (by omega)) (i_r ⟨e.symm, hf⟩)
/-- what an hour may touch in the reference -/
theorem dP_mJ {b : Nat} (hb : 756 ≤ b) (q k : Nat) (h : dX b q k ∨ q = 202) : mJ q k := by
  rcases h with h | h
  · exact dX_mJ hb q k h
  · unfold mJ; omega
theorem B_bare {a : Int32} (hg : 5000 ≤ f) (hn : n ≤ 512) : Both n (fun S => F_X12_bare f 0 [.ref 0, .int a] S) (fun S => F_X13_bare f 0 [.ref 186, .int a] S) := by
  refine Both.ro (fun S T A q hC hX hL hM hAI hB hd => ?_)
  have mx := hM.x hAI
  have hy := hX.pi.1.2.1
  obtain ⟨T1, e1⟩ : ∃ T1, T1 = sI T 186 0 0 := ⟨_, rfl⟩
  have f1 := (Fr.refl (D := mJ) T).sI e1 (by unfold mJ; omega)
  have m1 := mx.j f1
  rcases ix a (n := pY (plA A)) with ha | ⟨k, hk, rfl⟩
  · refine ⟨-1, ?_, ?_⟩
    · obtain ⟨g, ge, hG⟩ := g1 hg; subst ge; clear hg; have hg := hG; clear hG; rw [E_X12_bare_0]; unfold F_X12_bare_0
      rw [hX.c5]
      refine o_I (T_X4_hasYard0 hL ha (by omega)) ?_
      rintro _ S ⟨rfl, rfl⟩
      refine o_t rfl ?_
      obtain ⟨g, ge, hG⟩ := g1 hg; subst ge; clear hg; have hg := hG; clear hG; rw [E_X12_bare_1]; unfold F_X12_bare_1
      exact i_r ⟨rfl, Fr.refl _⟩
    · obtain ⟨g, ge, hG⟩ := g1 hg; subst ge; clear hg; have hg := hG; clear hG; rw [E_X13_bare_0]; unfold F_X13_bare_0
      rw [← e1]
      show zO (bI _ _) _
      refine o_I (T_X13_isYard0 m1.1 ha (by omega)) ?_
      rintro _ T1 ⟨rfl, rfl⟩
      refine o_t rfl ?_
      obtain ⟨g, ge, hG⟩ := g1 hg; subst ge; clear hg; have hg := hG; clear hG; rw [E_X13_bare_1]; unfold F_X13_bare_1
      exact i_r ⟨rfl, f1⟩
  have hb9 := hB.2 k (by omega)
  by_cases c0 : lkA A (4 + k) = 0
  · obtain ⟨V, eV⟩ : ∃ V, V = hoursF (plA A) (pDe (plA A)) (fun _ => false) (fun L => decide (0 < L (4 + k))) 40 1 (lkA A) := ⟨_, rfl⟩
    refine ⟨V, ?_, ?_⟩
    · obtain ⟨g, ge, hG⟩ := g1 hg; subst ge; clear hg; have hg := hG; clear hG; rw [E_X12_bare_0]; unfold F_X12_bare_0
      rw [hX.c5]
      refine o_I (T_X4_hasYard hL hy hk (by omega)) ?_
      rintro _ S ⟨rfl, rfl⟩
      refine o_f (by decide) ?_
      refine o_X rfl (show k < 8 by omega) ?_
      rw [hX.c5, hL.r1, hL.l k (by omega), c0]
      refine o_t (by decide) ?_
      rw [hX.c11]
      refine o_I (T_X9_hoursTillLittered hX hL hB hd (by omega) (show k < 8 by omega) (by omega)) ?_
      rintro _ S1 ⟨rfl, f1⟩
      exact i_r ⟨eV.symm, f1.mono dW_dJ⟩
    · obtain ⟨g, ge, hG⟩ := g1 hg; subst ge; clear hg; have hg := hG; clear hG; rw [E_X13_bare_0]; unfold F_X13_bare_0
      rw [← e1]
      show zO (bI _ _) _
      refine o_I (T_X13_isYard m1.1 hX.pi hk (by omega)) ?_
      rintro _ T1 ⟨rfl, rfl⟩
      refine o_f (by decide) ?_
      refine o_X (nA2' (n := 4) rfl) (by omega) ?_
      rw [m1.1.1.state, m1.2.1.z (k := 4 + k) (by omega), c0]
      refine o_t (by decide) ?_
      refine o_V (m1.cp (by omega)) ?_
      rintro T2 ⟨a2, m2, f2⟩
      refine o_loop (F := fun f vs S => F_X13_bare f 2 vs S) (c := 1) (B := 4700) (y := 41) (fun h vs U => ∃ M, vs = [.ref 186, .int (nI k), .int (nI h)] ∧ MA U 756 M ∧ LI (n + h) M ∧ Fr mJ T U ∧ V = hoursF (plA A) (pDe (plA A)) (fun _ => false) (fun L => decide (0 < L (4 + k))) (41 - h) h M) ?_ ?_ 1 _ T2 g (by omega) ⟨lkA A, rfl, a2, hB.up (by omega), f1.tr f2, by rw [show 41 - 1 = 40 from rfl]; exact eV⟩ (by omega)
      · rintro h _ U g hh ⟨M, rfl, aU, hM2, hf, e⟩ hg rec
        have mU := mx.j hf
        show zO (F_X13_bare g 2 _ _) _
        obtain ⟨g, ge, hG⟩ := g1 hg; subst ge; clear hg; have hg := hG; clear hG; rw [E_X13_bare_2]; unfold F_X13_bare_2
        refine o_f (nI_nlt (a := 40) (by omega) (by omega)) ?_
        refine o_V (T_X13_all (b := 756) mU.1 hX.pi aU hM2 (by omega) mU.2.2.1 (by omega)) ?_
        rintro U2 ⟨aU2, f3⟩
        have f3 := hf.tr (f3.mono (dX_mJ (b := 756) (by omega)))
        have mU2 := mx.j f3
        refine o_I (T_X13_passes (b := 756) mU2.1 hX.pi aU2 (awA_LI hX.pi hM2) (by omega) (by omega) (by omega)) ?_
        rintro _ U3 ⟨rfl, aU3, f4⟩
        have f4 := f3.tr (f4.mono (dP_mJ (b := 756) (by omega)))
        have mU3 := mx.j f4
        refine o_X (nA2' (n := 760) rfl) (by omega) ?_
        have ev := aU3 (4 + k) (by omega)
        rw [← Nat.add_assoc] at ev
        rw [mU3.1.1.state, ev]
        have hb : hrL (plA A) (awA (plA A) (pDe (plA A)) M) (4 + k) ≤ 999 := ((hA_LI (d := pDe (plA A)) hX.pi hM2).2 k (by omega)).1
        rw [show 41 - h = 41 - (h + 1) + 1 by omega, hoursF_s] at e
        rw [if_neg (by decide)] at e
        refine o_if (fun c => ?_) (fun c => ?_)
        · rw [show (0 : Int32) = nI 0 from rfl, nI_leI (by omega) (by omega)] at c
          rw [if_neg (by rw [decide_eq_false (show ¬ 0 < hA (plA A) (pDe (plA A)) M (4 + k) by unfold hA; omega)]; decide)] at e
          exact rec g _ _ (by omega) ⟨hA (plA A) (pDe (plA A)) M, by rw [nI_1], aU3, hA_LI hX.pi hM2, f4, e⟩
        · rw [show (0 : Int32) = nI 0 from rfl, nI_leI (by omega) (by omega)] at c
          rw [if_pos (decide_eq_true (show 0 < hA (plA A) (pDe (plA A)) M (4 + k) by unfold hA; omega))] at e
          exact i_r ⟨e.symm, f4⟩
      · rintro _ U g ⟨M, rfl, aU, hM2, hf, e⟩ hg
        show zO (F_X13_bare g 2 _ _) _
        obtain ⟨g, ge, hG⟩ := g1 hg; subst ge; clear hg; have hg := hG; clear hG; rw [E_X13_bare_2]; unfold F_X13_bare_2
        exact o_t (nI_lt (a := 40) (b := 41) (by omega) (by omega)) (i_r ⟨e.symm, hf⟩)
  · refine ⟨-1, ?_, ?_⟩
    · obtain ⟨g, ge, hG⟩ := g1 hg; subst ge; clear hg; have hg := hG; clear hG; rw [E_X12_bare_0]; unfold F_X12_bare_0
      rw [hX.c5]
      refine o_I (T_X4_hasYard hL hy hk (by omega)) ?_
      rintro _ S ⟨rfl, rfl⟩
      refine o_f (by decide) ?_
      refine o_X rfl (show k < 8 by omega) ?_
      rw [hX.c5, hL.r1, hL.l k (by omega)]
      refine o_f (nI_nle (by omega) (by omega)) ?_
      obtain ⟨g, ge, hG⟩ := g1 hg; subst ge; clear hg; have hg := hG; clear hG; rw [E_X12_bare_1]; unfold F_X12_bare_1
      exact i_r ⟨rfl, Fr.refl _⟩
    · obtain ⟨g, ge, hG⟩ := g1 hg; subst ge; clear hg; have hg := hG; clear hG; rw [E_X13_bare_0]; unfold F_X13_bare_0
      rw [← e1]
      show zO (bI _ _) _
      refine o_I (T_X13_isYard m1.1 hX.pi hk (by omega)) ?_
      rintro _ T1 ⟨rfl, rfl⟩
      refine o_f (by decide) ?_
      refine o_X (nA2' (n := 4) rfl) (by omega) ?_
      rw [m1.1.1.state, m1.2.1.z (k := 4 + k) (by omega)]
      refine o_f (nI_nle (by omega) (by omega)) ?_
      obtain ⟨g, ge, hG⟩ := g1 hg; subst ge; clear hg; have hg := hG; clear hG; rw [E_X13_bare_1]; unfold F_X13_bare_1
      exact i_r ⟨rfl, f1⟩
theorem fst_last {c : Nat → Bool} : ∀ {n k : Nat}, fst c (n + 1) k = if c k then nI k else fst c n (k + 1) := rfl
theorem B_deposit {a : Int32} (hg : 5000 ≤ f) : Both n (fun S => F_X12_deposit f 0 [.ref 0, .int a] S) (fun S => F_X13_deposit f 0 [.ref 186, .int a] S) := by
  refine Both.of (fun S T A hC hM hA => ?_)
  obtain ⟨q, ⟨hX, hb0, hL, hF⟩, hr⟩ := id hC
  have hB := hA.2.1.2.1
  have hd := hX.pi.1.2.2.2.2.2
  have mx := hM.x hA
  have hy := hX.pi.1.2.1
  obtain ⟨T1, e1⟩ : ∃ T1, T1 = sI T 186 0 0 := ⟨_, rfl⟩
  have f1 := (Fr.refl (D := mJ) T).sI e1 (by unfold mJ; omega)
  have m1 := mx.j f1
  rcases wI_n (a := a) (lo := 0) (hi := 999) (by omega) (by omega) with hb | ⟨j, hj0, hj, rfl, hb⟩
  · refine ⟨-1, A, hA.up (by omega), UC.of hC ?_, UM.of hM hA ?_⟩
    · obtain ⟨g, ge, hG⟩ := g1 hg; subst ge; clear hg; have hg := hG; clear hG; rw [E_X12_deposit_0]; unfold F_X12_deposit_0
      refine o_I (T_X12_isWithin (by omega)) ?_
      rintro _ S ⟨rfl, rfl⟩
      refine o_t hb ?_
      obtain ⟨g, ge, hG⟩ := g1 hg; subst ge; clear hg; have hg := hG; clear hG; rw [E_X12_deposit_1]; unfold F_X12_deposit_1
      exact i_r ⟨rfl, Fr.refl _⟩
    · obtain ⟨g, ge, hG⟩ := g1 hg; subst ge; clear hg; have hg := hG; clear hG; rw [E_X13_deposit_0]; unfold F_X13_deposit_0
      rw [← e1]
      show zO (bI _ _) _
      refine o_I (T_X13_within (by omega)) ?_
      rintro _ T1 ⟨rfl, rfl⟩
      exact o_t hb (i_r ⟨rfl, f1⟩)
  have hb' : ¬ wI (nI j) 0 999 = 0 := fun e => by have hb : wI (nI j) 0 999 = 1 := hb; rw [hb] at e; exact absurd e (by decide)
  obtain ⟨V, eV⟩ : ∃ V, V = fst (fun d => decide (tot (pY (plA A)) (awA (plA A) d (lkA A)) ≤ j)) 10 0 := ⟨_, rfl⟩
  refine ⟨V, A, hA.up (by omega), UC.of hC ?_, ?_⟩
  · obtain ⟨g, ge, hG⟩ := g1 hg; subst ge; clear hg; have hg := hG; clear hG; rw [E_X12_deposit_0]; unfold F_X12_deposit_0
    refine o_I (T_X12_isWithin (by omega)) ?_
    rintro _ S ⟨rfl, rfl⟩
    refine o_f hb' ?_
    rw [hX.c11]
    refine o_I (T_X9_leastDeposit hX hL hB hj (by omega)) ?_
    rintro _ S1 ⟨rfl, f1⟩
    obtain ⟨g, ge, hG⟩ := g1 hg; subst ge; clear hg; have hg := hG; clear hG; rw [E_X12_deposit_1]; unfold F_X12_deposit_1
    exact i_r ⟨eV.symm, f1.mono dW_dJ⟩
  have key : zI (F_X13_deposit f 0 [.ref 186, .int (nI j)] T) (fun x U => x = V ∧ gI U 186 25 = -1 ∧ Fr (fun x k => mJ x k ∨ (x = 186 ∧ k = 25)) T U) := by
    have f1 := f1.mono (E := fun x k => mJ x k ∨ (x = 186 ∧ k = 25)) (fun x k h => Or.inl h)
    have mm : ∀ U, Fr (fun x k => mJ x k ∨ (x = 186 ∧ k = 25)) T U → MM U (plA A) ∧ MA U 0 (lkA A) := fun U hf => ⟨mx.1.fr hf (fun q k a b d => by unfold mJ at d; omega), mx.2.1.fr hf (fun k a b d => by unfold mJ at d; omega)⟩
    obtain ⟨g, ge, hG⟩ := g1 hg; subst ge; clear hg; have hg := hG; clear hG; rw [E_X13_deposit_0]; unfold F_X13_deposit_0
    rw [← e1]
    show zO (bI _ _) _
    refine o_I (T_X13_within (by omega)) ?_
    rintro _ T1 ⟨rfl, rfl⟩
    refine o_f hb' ?_
    refine o_loopD (F := fun f vs S => F_X13_deposit f 1 vs S) (c := 1) (B := 4900) (fun k vs U => k ≤ 10 ∧ vs = [.ref 186, .int (nI j), .int (fst (fun d => decide (tot (pY (plA A)) (awA (plA A) d (lkA A)) ≤ j)) (10 - k) k), .int (nI k - 1)] ∧ Fr (fun x k => mJ x k ∨ (x = 186 ∧ k = 25)) T U) ?_ ?_ 10 _ T1 g ⟨by omega, rfl, f1⟩ (by omega)
    · rintro k _ U g ⟨hk, rfl, hf⟩ hg rec
      show zO (F_X13_deposit g 1 _ _) _
      rw [nI_pred]
      obtain ⟨g, ge, hG⟩ := g1 hg; subst ge; clear hg; have hg := hG; clear hG; rw [E_X13_deposit_1]; unfold F_X13_deposit_1
      refine o_f (nI_pos (by omega)) ?_
      refine o_s (fun U1 u1 => ?_)
      have g1' := hf.sI u1 (Or.inr ⟨rfl, rfl⟩)
      obtain ⟨mU, aU⟩ := mm U1 g1'
      have dU : DN U1 (plA A) k := ⟨Or.inr (by subst u1; rw [gI_sI, if_pos ⟨rfl, rfl⟩]), by omega⟩
      refine o_V (T_X13_cp (a := 0) (b := 756) mU aU (by omega) (by omega) (by omega) (by omega)) ?_
      rintro U2 ⟨aU2, -, mU2, f2⟩
      have dU2 := dU.fr f2 (by omega)
      refine o_V (T_X13_all (b := 756) mU2 hX.pi aU2 hB (by omega) dU2 (by omega)) ?_
      rintro U3 ⟨aU3, f3⟩
      have mU3 := mU2.x f3
      refine o_I (T_X13_lyingIn (b := 756) mU3 hX.pi aU3 (by omega) (by omega)) ?_
      rintro _ U3 ⟨rfl, rfl⟩
      have ff := (g1'.tr (f2.mono (fun q k h => Or.inl (dX_mJ (b := 756) (by omega) q k h)))).tr (f3.mono (fun q k h => Or.inl (dX_mJ (b := 756) (by omega) q k h)))
      refine rec g _ _ (by omega) ⟨by omega, ?_, ff⟩
      have ht := tot_le (awA_LI (d := k) hX.pi hB) hy
      have e : (if nI j < nI (tot (pY (plA A)) (awA (plA A) k (lkA A))) then fst (fun d => decide (tot (pY (plA A)) (awA (plA A) d (lkA A)) ≤ j)) (10 - (k + 1)) (k + 1) else nI k) = fst (fun d => decide (tot (pY (plA A)) (awA (plA A) d (lkA A)) ≤ j)) (10 - k) k := by
        rw [show 10 - k = 10 - (k + 1) + 1 by omega, fst_s]
        by_cases c : tot (pY (plA A)) (awA (plA A) k (lkA A)) ≤ j
        · rw [if_neg (nI_nlt c (by omega)), if_pos (decide_eq_true c)]
        · rw [if_pos (nI_lt (by omega) (by omega)), if_neg (by rw [decide_eq_false c]; decide)]
      rw [e, show nI k + (-1) = nI k - 1 by rw [Int32.sub_eq_add_neg]]
    · rintro _ U g ⟨hk, rfl, hf⟩ hg
      show zO (F_X13_deposit g 1 _ _) _
      obtain ⟨g, ge, hG⟩ := g1 hg; subst ge; clear hg; have hg := hG; clear hG; rw [E_X13_deposit_1]; unfold F_X13_deposit_1
      refine o_t (by decide) ?_
      refine o_s (fun U1 u1 => ?_)
      refine i_r ⟨?_, by subst u1; rw [gI_sI, if_pos ⟨rfl, rfl⟩], hf.sI u1 (Or.inr ⟨rfl, rfl⟩)⟩
      rw [Nat.sub_zero]
      exact eV.symm
  refine i_m key ?_
  rintro x U ⟨rfl, e25, hf⟩
  refine ⟨rfl, ?_, hf.g.mono (fun q k d => by unfold mJ at d; omega) (fun q h => h.elim)⟩
  -- as it was but for the deposit's cell, which holds what it held
  have hf2 : Fr mJ T U := by
    refine ⟨hf.1, fun q k hn => ?_⟩
    by_cases c : q = 186 ∧ k = 25
    · rw [c.1, c.2, e25, hM.1.2.2.2]
    · exact hf.2 q k (fun d => d.elim hn c)
  exact hM.fg hA hf2.g (fun x k d => Or.inl d) (fun x hx => hx.elim)
theorem opF_none {L : Lk} : ∀ {j k : Nat}, opF L j k = none ↔ ∀ x, k ≤ x → x < k + j → ¬ L (20 + x) < L (12 + x)
  | 0, k => ⟨fun _ x h1 h2 => by omega, fun _ => rfl⟩
  | j + 1, k => by
    unfold opF
    by_cases c : L (20 + k) < L (12 + k)
    · rw [if_pos c]
      exact ⟨fun h => (by cases h), fun h => absurd c (h k (Nat.le_refl _) (by omega))⟩
    · rw [if_neg c, opF_none]
      constructor
      · intro h x h1 h2
        by_cases e : x = k
        · rw [e]; exact c
        · exact h x (by omega) (by omega)
      · intro h x h1 h2
        exact h x (by omega) (by omega)
theorem B_full (hg : 8000 ≤ f) (hn : n ≤ 512) : Both n (fun S => F_X12_full f 0 [.ref 0] S) (fun S => F_X13_full f 0 [.ref 186] S) := by
  refine Both.ro (fun S T A q hC hX hL hM hAI hB hd => ?_)
  have mx := hM.x hAI
  have hy := hX.pi.1.2.1
  obtain ⟨V, eV⟩ : ∃ V, V = hoursF (plA A) (pDe (plA A)) (fun L => (opF L (pY (plA A)) 0).isNone) (fun _ => false) 40 1 (lkA A) := ⟨_, rfl⟩
  refine ⟨V, ?_, ?_⟩
  · obtain ⟨g, ge, hG⟩ := g1 hg; subst ge; clear hg; have hg := hG; clear hG; rw [E_X12_full_0]; unfold F_X12_full_0
    rw [hX.c11]
    refine o_I (T_X9_hoursTillFull hX hL hB hd (by omega) (by omega)) ?_
    rintro _ S1 ⟨rfl, f1⟩
    exact i_r ⟨eV.symm, f1.mono dW_dJ⟩
  · obtain ⟨g, ge, hG⟩ := g1 hg; subst ge; clear hg; have hg := hG; clear hG; rw [E_X13_full_0]; unfold F_X13_full_0
    refine o_s (fun T1 e1 => ?_)
    have f1 := (Fr.refl (D := mJ) T).sI e1 (by unfold mJ; omega)
    have m1 := mx.j f1
    refine o_V (m1.cp (by omega)) ?_
    rintro T2 ⟨a2, m2, f2⟩
    refine o_loop (F := fun f vs S => F_X13_full f 1 vs S) (c := 32) (B := 4700) (y := 41) (fun h vs U => ∃ M, vs = [.ref 186, .int (nI h)] ∧ MA U 756 M ∧ LI (n + h) M ∧ Fr mJ T U ∧ V = hoursF (plA A) (pDe (plA A)) (fun L => (opF L (pY (plA A)) 0).isNone) (fun _ => false) (41 - h) h M) ?_ ?_ 1 _ T2 g (by omega) ⟨lkA A, rfl, a2, hB.up (by omega), f1.tr f2, by rw [show 41 - 1 = 40 from rfl]; exact eV⟩ (by omega)
    · rintro h _ U g hh ⟨M, rfl, aU, hM2, hf, e⟩ hg rec
      have mU := mx.j hf
      show zO (F_X13_full g 1 _ _) _
      obtain ⟨g, ge, hG⟩ := g1 hg; subst ge; clear hg; have hg := hG; clear hG; rw [E_X13_full_1]; unfold F_X13_full_1
      refine o_f (nI_nlt (a := 40) (by omega) (by omega)) ?_
      refine o_V (T_X13_all (b := 756) mU.1 hX.pi aU hM2 (by omega) mU.2.2.1 (by omega)) ?_
      rintro U2 ⟨aU2, f3⟩
      have f3 := hf.tr (f3.mono (dX_mJ (b := 756) (by omega)))
      have mU2 := mx.j f3
      have hM3 := awA_LI (d := pDe (plA A)) hX.pi hM2
      rw [show 41 - h = 41 - (h + 1) + 1 by omega, hoursF_s] at e
      have eh : hA (plA A) (pDe (plA A)) M = hrL (plA A) (awA (plA A) (pDe (plA A)) M) := rfl
      generalize awA (plA A) (pDe (plA A)) M = M2 at aU2 hM3 e eh
            -- are all full
      have scan : ∀ (d k g : Nat), d = pY (plA A) - k → k ≤ pY (plA A) → 4700 + 3 * d ≤ g → ∀ (w : Bool), (w = true ↔ ∀ x, x < k → ¬ M2 (20 + x) < M2 (12 + x)) → (∀ g', g ≤ g' + 3 * d → zO (F_X13_full g' 2 [.ref 186, .int (nI h), .int (if (opF M2 (pY (plA A)) 0).isNone then 1 else 0), .int (nI (pY (plA A)))] U2) (fun v S_1 => ∃ x, v = some (Value.int x) ∧ (fun x U => x = V ∧ Fr mJ T U) x S_1)) → zI (F_X13_full g 2 [.ref 186, .int (nI h), .int (if w then 1 else 0), .int (nI k)] U2) (fun x U => x = V ∧ Fr mJ T U) := by
        intro d
        induction d with
        | zero =>
          intro k g hd2 hk hg w hw fin
          have hk' : k = pY (plA A) := by omega
          subst hk'
          have : w = (opF M2 (pY (plA A)) 0).isNone := by
            rw [Bool.eq_iff_iff, hw, Option.isNone_iff_eq_none, opF_none]
            exact ⟨fun h x _ h2 => h x (by omega), fun h x h2 => h x (by omega) (by omega)⟩
          rw [this]
          exact fin g (by omega)
        | succ d ih =>
          intro k g hd2 hk hg w hw fin
          have hk' : k < pY (plA A) := by omega
          replace hg : 4700 + 3 * d + 1 + 1 + 1 ≤ g := by omega
          obtain ⟨g, ge, hG⟩ := g1 hg; subst ge; clear hg; have hg := hG; clear hG; rw [E_X13_full_2]; unfold F_X13_full_2
          refine o_I (T_X13_yards mU2.1 (by omega)) ?_
          rintro _ U2 ⟨rfl, rfl⟩
          refine o_f (nI_ge hk' (by omega)) ?_
          cases w with
          | false =>
            refine o_t rfl ?_
            obtain ⟨g, ge, hG⟩ := g1 hg; subst ge; clear hg; have hg := hG; clear hG; rw [E_X13_full_3]; unfold F_X13_full_3
            obtain ⟨g, ge, hG⟩ := g1 hg; subst ge; clear hg; have hg := hG; clear hG; rw [E_X13_full_4]; unfold F_X13_full_4
            rw [nI_1]
            refine ih (k + 1) g (by omega) (by omega) (by omega) false ?_ (fun g' hg' => fin g' (by omega))
            constructor
            · intro h; cases h
            · intro h
              exact absurd (hw.mpr (fun x hx => h x (by omega))) (by decide)
          | true =>
            refine o_f (by decide) ?_
            refine o_I (T_X13_hasRoom (b := 756) mU2.1.1 aU2 hM3 (by omega) (by omega) (by omega)) ?_
            rintro _ U2 ⟨rfl, rfl⟩
            refine o_lI ?_
            rw [nI_1]
            have hw1 := hw.mp rfl
            have e1 : (if (if M2 (20 + k) < M2 (12 + k) then (1 : Int32) else 0) = 0 then (1 : Int32) else 0) = if (!decide (M2 (20 + k) < M2 (12 + k))) then 1 else 0 := by
              by_cases c : M2 (20 + k) < M2 (12 + k)
              · rw [if_pos c, decide_eq_true c]; decide
              · rw [if_neg c, decide_eq_false c]; decide
            rw [e1]
            refine ih (k + 1) g (by omega) (by omega) (by omega) _ ?_ (fun g' hg' => fin g' (by omega))
            rw [Bool.not_eq_true', decide_eq_false_iff_not]
            constructor
            · intro h x hx
              by_cases e : x = k
              · rw [e]; exact h
              · exact hw1 x (by omega)
            · intro h
              exact h k (by omega)
      refine scan (pY (plA A)) 0 g (by omega) (by omega) (by omega) true ⟨fun _ x hx => absurd hx (Nat.not_lt_zero x), fun _ => rfl⟩ (fun g' hg' => ?_)
      have hg : 4700 ≤ g' := by omega
      clear scan
      obtain ⟨g2, rfl, hg2⟩ := g1 (n := 4699) hg
      rw [E_X13_full_2]; unfold F_X13_full_2
      refine o_I (T_X13_yards mU2.1 (by omega)) ?_
      rintro _ U2 ⟨rfl, rfl⟩
      refine o_t (nI_le (Nat.le_refl _) (by omega)) ?_
      by_cases c : (opF M2 (pY (plA A)) 0).isNone
      · rw [if_pos c] at e ⊢
        exact o_f (by decide) (i_r ⟨e.symm, f3⟩)
      · rw [if_neg c, if_neg (by decide)] at e
        rw [if_neg c]
        refine o_t rfl ?_
        refine o_I (T_X13_passes (b := 756) mU2.1 hX.pi aU2 hM3 (by omega) (by omega) (by omega)) ?_
        rintro _ U3 ⟨rfl, aU3, f4⟩
        have f4 := f3.tr (f4.mono (dP_mJ (b := 756) (by omega)))
        exact rec g2 _ _ (by omega) ⟨hA (plA A) (pDe (plA A)) M, by rw [nI_1], by rw [eh]; exact aU3, hA_LI hX.pi hM2, f4, e⟩
    · rintro _ U g ⟨M, rfl, aU, hM2, hf, e⟩ hg
      show zO (F_X13_full g 1 _ _) _
      obtain ⟨g, ge, hG⟩ := g1 hg; subst ge; clear hg; have hg := hG; clear hG; rw [E_X13_full_1]; unfold F_X13_full_1
      exact o_t (nI_lt (a := 40) (b := 41) (by omega) (by omega)) (i_r ⟨e.symm, hf⟩)
end P2

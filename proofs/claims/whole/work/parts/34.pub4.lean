/-! what is done by hand: both sides -/
abbrev dMu : Nat → Nat → Prop := fun x k => (43 ≤ x ∧ x ≤ 46) ∨ (49 ≤ x ∧ x ≤ 114) ∨ dJ x k
abbrev mMu : Nat → Nat → Prop := fun x k => (x = 200 ∧ (k < 28 ∨ (180 ≤ k ∧ k < 756))) ∨ (x = 186 ∧ k = 23) ∨ mJ x k
/-- another lake, another history -/
def mutA (A : aA) (L : Lk) (hi : List Lk) : aA := (A.1, (plA A, L, fdA A), (hi, mkA A), dyA A)
section P4
variable {S T : aS} {A : aA} {q f n : Nat} {L : Lk} {hi : List Lk}
theorem CI.mut (h : CI S A) (hf : Fr dMu S T) (hL : LA T 43 (pY (plA A)) (pDe (plA A)) L) (hH : CHi T (plA A) hi) : CI T (mutA A L hi) := by
  obtain ⟨q, ⟨h1, h1b, h2, h3⟩, ⟨h4, h5⟩, h6, h7, h8⟩ := h
  have hq := h1.2.2.2
  refine ⟨q, ⟨h1.fr hf (fun x k d => by unfold dMu dJ at d; unfold dN; omega), by rw [hf.R]; exact h1b, hL, h3.fg hf.g (fun k => ⟨by unfold dMu dJ; omega, by unfold dMu dJ; omega⟩)⟩, ⟨hH, h5.fg hf.g (by unfold dMu dJ; omega) (fun x k a b => by unfold dMu dJ; omega) (fun x a b => id)⟩, h6.fg hf.g (fun x k a b => by unfold dMu dJ; omega) id, h7.fg hf.g ⟨by unfold dMu dJ; omega, fun k => by unfold dMu dJ; omega⟩, fun i hi => ?_⟩
  rw [hf.J]
  exact h8 i hi
theorem MI.mut (h : MI S A) (hf : Fr mMu S T) (hL : MA T 0 L) (hH : MHi T hi) : MI T (mutA A L hi) := by
  obtain ⟨⟨h1, h2, h3, h4⟩, ⟨h5, h6⟩, h7, h8, ⟨h9, h10⟩, h11⟩ := h
  refine ⟨⟨h1.fr hf (fun x k a b d => by unfold mMu mJ at d; omega), hL, h3.fg hf.g (fun k a b d => by unfold mMu mJ at d; omega), by rw [hf.2 _ _ (by unfold mMu mJ; omega)]; exact h4⟩, ⟨hH, h6.fg hf.g (fun k d => by unfold mMu mJ at d; omega) (fun k a b d => by unfold mMu mJ at d; omega)⟩, h7.fg hf.g (fun k d => by unfold mMu mJ at d; omega), h8.fg hf.g ⟨by unfold mMu mJ; omega, fun k d => by unfold mMu mJ at d; omega⟩, ⟨by rw [hf.2 _ _ (by unfold mMu mJ; omega)]; exact h9, fun i hi => ?_⟩, fun k hk => ?_⟩
  · rw [hf.J]
    exact h10 i hi
  · rw [hf.J]
    exact h11 k hk
theorem UC.mut {r : aR} {v : Int32} (h : CI S A) (hr : zI r (fun x T => x = v ∧ LA T 43 (pY (plA A)) (pDe (plA A)) L ∧ CHi T (plA A) hi ∧ Fr dMu S T)) : UC S r v (mutA A L hi) := i_m hr (fun x T ⟨e, hL, hH, hf⟩ => ⟨e, h.mut hf hL hH, hf.g.mono (fun q k d => by unfold dMu dJ at d; omega) (fun q h => h.elim)⟩)
theorem UM.mut {r : aR} {v : Int32} (h : MI S A) (hr : zI r (fun x T => x = v ∧ MA T 0 L ∧ MHi T hi ∧ Fr mMu S T)) : UM S r v (mutA A L hi) := i_m hr (fun x T ⟨e, hL, hH, hf⟩ => ⟨e, h.mut hf hL hH, hf.g.mono (fun q k d => by unfold mMu mJ at d; omega) (fun q h => h.elim)⟩)
theorem AI.mut (h : AI n A) (hL : LI (n + 1) L) (hh : hi.length ≤ 16) (hm : ∀ M, M ∈ hi → LI (n + 1) M) : AI (n + 1) (mutA A L hi) := by
  have h := h.up (m := n + 1) (by omega)
  exact ⟨h.1, ⟨h.2.1.1, hL, h.2.1.2.2⟩, ⟨hh, hm, h.2.2.1.2.2⟩, h.2.2.2⟩
theorem AI.pu (h : AI n A) (hL : LI (n + 1) L) : AI (n + 1) (mutA A L (pu (lkA A) (hiA A))) := by
  refine h.mut hL (by rw [pu_len]; omega) (fun M hM => ?_)
  rcases pu_mem hM with e | e
  · rw [e]; exact h.2.1.2.1.up (by omega)
  · exact (h.2.2.1.2.1 M e).up (by omega)
theorem dH_dMu (x k : Nat) (h : dH x k) : dMu x k := Or.inr (Or.inl h)
theorem dW43_dMu (x k : Nat) (h : dW 43 x k) : dMu x k := by unfold dW at h; unfold dMu dJ; omega
theorem dL43_dMu (x k : Nat) (h : dL 43 x k) : dMu x k := by unfold dL at h; unfold dMu dJ; omega
theorem dX0_mMu (x k : Nat) (h : dX 0 x k) : mMu x k := by unfold dX at h; unfold mMu mJ; omega
theorem CHi.fr {P : aP} {D : Nat → Nat → Prop} (h : CHi S P hi) (hf : Fr D S T) (hD : ∀ x k, 49 ≤ x → x ≤ 114 → ¬ D x k) : CHi T P hi := h.fg hf.g hD (fun _ _ _ => id)
theorem MHi.fr {D : Nat → Nat → Prop} (h : MHi S hi) (hl : hi.length ≤ 16) (hf : Fr D S T) (h0 : ¬ D 186 23) (hD : ∀ k, 180 ≤ k → k < 756 → ¬ D 200 k) : MHi T hi := h.fg hl hf.g h0 hD
/-- the reference behind thrown = 0 and keeps -/
theorem MI.kp (h : MI S A) (hA : AI n A) (e1 : T = sI S 186 0 0) (hg : 100 ≤ f) : zU (F_X13_keeps f 0 [.ref 186] T) (fun U => MX U (plA A) (lkA A) ∧ MHi U (pu (lkA A) (hiA A)) ∧ Fr mMu S U) := by
  have f1 := (Fr.refl (D := mJ) S).sI e1 (by unfold mJ; omega)
  have m1 := (h.x hA).j f1
  refine u_m (T_X13_keeps m1.1 m1.2.1 (h.2.1.1.fr hA.2.2.1.1 f1 (by unfold mJ; omega) (fun k a b d => by unfold mJ at d; omega)) hA.2.2.1.1 hg) ?_
  rintro U ⟨h1, f2⟩
  refine ⟨⟨m1.1.fr f2 (fun q k a b d => by omega), m1.2.1.fr f2 (fun k a b d => by omega), m1.2.2.1.fr f2 (by omega), m1.2.2.2⟩, h1, (f1.mono (E := mMu) (fun x k d => Or.inr (Or.inr d))).tr (f2.mono (fun x k d => by omega))⟩
theorem pu16 (L : Lk) (hi : List Lk) : (pu L hi).length ≤ 16 := by rw [pu_len]; omega
theorem B_walk {a : Int32} (hg : 4700 ≤ f) : Both n (fun S => F_X12_walk f 0 [.ref 0, .int a] S) (fun S => F_X13_walk f 0 [.ref 186, .int a] S) := by
  refine Both.of (fun S T A hC hM hA => ?_)
  obtain ⟨q, ⟨hX, hb0, hL, hF⟩, ⟨hH, hMk⟩, hr⟩ := id hC
  have hB := hA.2.1.2.1
  have hd := hX.pi.1.2.2.2.2.2
  have mx := hM.x hA
  obtain ⟨T1, e1⟩ : ∃ T1, T1 = sI T 186 0 0 := ⟨_, rfl⟩
  have f1 := (Fr.refl (D := mJ) T).sI e1 (by unfold mJ; omega)
  have m1 := mx.j f1
  rcases ix a (n := pN (plA A)) (by have := hX.pi.1.2.2.1; omega) with ha | ⟨k, hk, rfl⟩
  · refine ⟨-1, A, hA.up (by omega), UC.of hC ?_, UM.of hM hA ?_⟩
    · obtain ⟨g, ge, hG⟩ := g1 hg; subst ge; clear hg; have hg := hG; clear hG; rw [E_X12_walk_0]; unfold F_X12_walk_0
      rw [hX.c1]
      refine o_I (T_X6_hasPerson0 hX.cp ha (by omega)) ?_
      rintro _ S ⟨rfl, rfl⟩
      exact o_t rfl (i_r ⟨rfl, Fr.refl _⟩)
    · obtain ⟨g, ge, hG⟩ := g1 hg; subst ge; clear hg; have hg := hG; clear hG; rw [E_X13_walk_0]; unfold F_X13_walk_0
      rw [← e1]
      show zO (bI _ _) _
      refine o_I (T_X13_isPerson0 m1.1 ha (by omega)) ?_
      rintro _ T1 ⟨rfl, rfl⟩
      exact o_t rfl (i_r ⟨rfl, f1⟩)
  refine ⟨nI (wE (plA A) k (pDe (plA A)) (lkA A)).2.1.1, mutA A (wk (plA A) k (pDe (plA A)) (lkA A)) (pu (lkA A) (hiA A)), hA.pu ((wk_LI hX.pi hk hB).up (by omega)), UC.mut hC ?_, UM.mut hM ?_⟩
  · obtain ⟨g, ge, hG⟩ := g1 hg; subst ge; clear hg; have hg := hG; clear hG; rw [E_X12_walk_0]; unfold F_X12_walk_0
    rw [hX.c1]
    refine o_I (T_X6_hasPerson hX.cp hX.pi hk (by omega)) ?_
    rintro _ S ⟨rfl, rfl⟩
    refine o_f (by decide) ?_
    rw [hX.c5, hX.c7]
    refine o_V (T_X3_push hX hL hH hA.2.2.1.1 (by omega)) ?_
    rintro S1 ⟨h1, l1, x1, f1⟩
    rw [x1.c5, x1.c11]
    refine o_I (T_X9_walkOf x1 l1 hB hd hk lk43 (by omega)) ?_
    rintro _ S2 ⟨rfl, l2, -, f2⟩
    exact i_r ⟨rfl, l2, h1.fr f2 (fun x k a b d => by unfold dW at d; omega), (f1.mono dH_dMu).tr (f2.mono dW43_dMu)⟩
  · obtain ⟨g, ge, hG⟩ := g1 hg; subst ge; clear hg; have hg := hG; clear hG; rw [E_X13_walk_0]; unfold F_X13_walk_0
    rw [← e1]
    show zO (bI _ _) _
    refine o_I (T_X13_isPerson m1.1 hX.pi hk (by omega)) ?_
    rintro _ T1 ⟨rfl, rfl⟩
    refine o_f (by decide) ?_
    refine o_V (hM.kp hA e1 (by omega)) ?_
    rintro T2 ⟨m2, h2, f2⟩
    refine o_I (T_X13_walks (b := 0) m2.1 hX.pi m2.2.1 hB (by omega) hk m2.2.2.1 (by omega)) ?_
    rintro _ T3 ⟨rfl, a3, -, f3⟩
    exact i_r ⟨rfl, a3, h2.fr (pu16 _ _) f3 (by unfold dX; omega) (fun k a b d => by unfold dX at d; omega), f2.tr (f3.mono dX0_mMu)⟩
theorem B_hour (hg : 4700 ≤ f) (hn : n ≤ 512) : Both n (fun S => F_X12_hour f 0 [.ref 0] S) (fun S => F_X13_hour f 0 [.ref 186] S) := by
  refine Both.of (fun S T A hC hM hA => ?_)
  obtain ⟨q, ⟨hX, hb0, hL, hF⟩, ⟨hH, hMk⟩, hr⟩ := id hC
  have hB := hA.2.1.2.1
  refine ⟨nI (wind (plA A) (lkA A 0)), mutA A (hrL (plA A) (lkA A)) (pu (lkA A) (hiA A)), hA.pu (hrL_LI hB hX.pi.1.2.1), UC.mut hC ?_, UM.mut hM ?_⟩
  · obtain ⟨g, ge, hG⟩ := g1 hg; subst ge; clear hg; have hg := hG; clear hG; rw [E_X12_hour_0]; unfold F_X12_hour_0
    rw [hX.c5, hX.c7]
    refine o_V (T_X3_push hX hL hH hA.2.2.1.1 (by omega)) ?_
    rintro S1 ⟨h1, l1, x1, f1⟩
    rw [x1.c5, x1.c1]
    refine o_I (T_X4_passHour l1 x1.cp hX.pi hB (by omega) (by omega)) ?_
    rintro _ S2 ⟨rfl, l2, f2⟩
    exact i_r ⟨rfl, l2, h1.fr f2 (fun x k a b d => by unfold dL at d; omega), (f1.mono dH_dMu).tr (f2.mono dL43_dMu)⟩
  · obtain ⟨g, ge, hG⟩ := g1 hg; subst ge; clear hg; have hg := hG; clear hG; rw [E_X13_hour_0]; unfold F_X13_hour_0
    refine o_s (fun T1 e1 => ?_)
    refine o_V (hM.kp hA e1 (by omega)) ?_
    rintro T2 ⟨m2, h2, f2⟩
    refine o_I (T_X13_passes (b := 0) m2.1 hX.pi m2.2.1 hB (by omega) (by omega) (by omega)) ?_
    rintro _ T3 ⟨rfl, a3, f3⟩
    exact i_r ⟨rfl, a3, h2.fr (pu16 _ _) f3 (by unfold dX; omega) (fun k a b d => by unfold dX at d; omega), f2.tr (f3.mono (fun x k d => d.elim (dX0_mMu x k) (fun d => by unfold mMu mJ; omega)))⟩
theorem B_sweep {a : Int32} (hg : 4700 ≤ f) : Both n (fun S => F_X12_sweep f 0 [.ref 0, .int a] S) (fun S => F_X13_sweep f 0 [.ref 186, .int a] S) := by
  refine Both.of (fun S T A hC hM hA => ?_)
  obtain ⟨q, ⟨hX, hb0, hL, hF⟩, ⟨hH, hMk⟩, hr⟩ := id hC
  have hB := hA.2.1.2.1
  have hy := hX.pi.1.2.1
  have mx := hM.x hA
  obtain ⟨T1, e1⟩ : ∃ T1, T1 = sI T 186 0 0 := ⟨_, rfl⟩
  have f1 := (Fr.refl (D := mJ) T).sI e1 (by unfold mJ; omega)
  have m1 := mx.j f1
  rcases ix a (n := pY (plA A)) with ha | ⟨k, hk, rfl⟩
  · refine ⟨-1, A, hA.up (by omega), UC.of hC ?_, UM.of hM hA ?_⟩
    · obtain ⟨g, ge, hG⟩ := g1 hg; subst ge; clear hg; have hg := hG; clear hG; rw [E_X12_sweep_0]; unfold F_X12_sweep_0
      rw [hX.c5]
      refine o_I (T_X4_hasYard0 hL ha (by omega)) ?_
      rintro _ S ⟨rfl, rfl⟩
      exact o_t rfl (i_r ⟨rfl, Fr.refl _⟩)
    · obtain ⟨g, ge, hG⟩ := g1 hg; subst ge; clear hg; have hg := hG; clear hG; rw [E_X13_sweep_0]; unfold F_X13_sweep_0
      rw [← e1]
      show zO (bI _ _) _
      refine o_I (T_X13_isYard0 m1.1 ha (by omega)) ?_
      rintro _ T1 ⟨rfl, rfl⟩
      exact o_t rfl (i_r ⟨rfl, f1⟩)
  have hL2 : LI (n + 1) (up1 (lkA A) (4 + k) 0) := by
    refine ⟨by rw [up1_at, if_neg (by omega)]; exact (hB.up (by omega)).1, fun x hx => ?_⟩
    have hb := hB.2 x hx
    simp only [up1_at]
    rw [if_neg (show ¬ 20 + x = 4 + k by omega), if_neg (show ¬ 12 + x = 4 + k by omega)]
    refine ⟨?_, hb.2⟩
    split
    · omega
    · exact hb.1
  refine ⟨nI (lkA A (4 + k)), mutA A (up1 (lkA A) (4 + k) 0) (pu (lkA A) (hiA A)), hA.pu hL2, UC.mut hC ?_, UM.mut hM ?_⟩
  · obtain ⟨g, ge, hG⟩ := g1 hg; subst ge; clear hg; have hg := hG; clear hG; rw [E_X12_sweep_0]; unfold F_X12_sweep_0
    rw [hX.c5]
    refine o_I (T_X4_hasYard hL hy hk (by omega)) ?_
    rintro _ S ⟨rfl, rfl⟩
    refine o_f (by decide) ?_
    rw [hX.c5, hX.c7]
    refine o_V (T_X3_push hX hL hH hA.2.2.1.1 (by omega)) ?_
    rintro S1 ⟨h1, l1, x1, f1⟩
    rw [x1.c5]
    refine o_I (T_X4_sweepYard l1 (by omega) (by omega)) ?_
    rintro _ S2 ⟨rfl, l2, f2⟩
    exact i_r ⟨rfl, l2, h1.fr f2 (fun x k a b d => by unfold dL at d; omega), (f1.mono dH_dMu).tr (f2.mono dL43_dMu)⟩
  · obtain ⟨g, ge, hG⟩ := g1 hg; subst ge; clear hg; have hg := hG; clear hG; rw [E_X13_sweep_0]; unfold F_X13_sweep_0
    rw [← e1]
    show zO (bI _ _) _
    refine o_I (T_X13_isYard m1.1 hX.pi hk (by omega)) ?_
    rintro _ T1 ⟨rfl, rfl⟩
    refine o_f (by decide) ?_
    refine o_V (hM.kp hA e1 (by omega)) ?_
    rintro T2 ⟨m2, h2, f2⟩
    refine o_X (nA2' (n := 4) rfl) (by omega) ?_
    refine o_X (nA2' (n := 4) rfl) (by omega) ?_
    rw [m2.1.1.state]
    refine o_s (fun T3 e3 => ?_)
    have f3 : Fr (fun x j => x = 200 ∧ j = 4 + k) T2 T3 := (Fr.refl _).sI e3 ⟨rfl, rfl⟩
    refine i_r ⟨m2.2.1.z (by omega), m2.2.1.s (k := 4 + k) (v := 0) (by rw [Nat.zero_add]; exact e3), h2.fr (pu16 _ _) f3 (by omega) (fun k a b d => by omega), f2.tr (f3.mono (fun x k d => by unfold mMu; omega))⟩
theorem setB_LI {B k m : Nat} {L : Lk} (hB : LI B L) (hk : k < 8) (hm : m ≤ 30) : LI B (setB L k m) := by
  unfold setB
  refine ⟨by rw [up1_at, if_neg (by omega), up1_at, if_neg (by omega)]; exact hB.1, fun x hx => ?_⟩
  have hb := hB.2 x hx
  simp only [up1_at]
  rw [if_neg (show ¬ 4 + x = 20 + k by omega), if_neg (show ¬ 4 + x = 12 + k by omega), if_neg (show ¬ 12 + x = 20 + k by omega)]
  by_cases e : x = k
  · rw [if_pos (by omega), if_pos (by omega)]; omega
  · rw [if_neg (by omega), if_neg (by omega), if_neg (by omega)]; exact hb
theorem empB_LI {B k m : Nat} {L : Lk} (hB : LI B L) (hk : k < 8) : LI B (empB L k m) := by
  unfold empB
  refine ⟨by rw [up1_at, if_neg (by omega), up1_at, if_neg (by omega)]; exact hB.1, fun x hx => ?_⟩
  have hb := hB.2 x hx
  simp only [up1_at]
  rw [if_neg (show ¬ 4 + x = 3 by omega), if_neg (show ¬ 20 + x = 3 by omega), if_neg (show ¬ 12 + x = 3 by omega), if_neg (show ¬ 4 + x = 20 + k by omega), if_neg (show ¬ 12 + x = 20 + k by omega)]
  by_cases e : x = k
  · rw [if_pos (by omega)]; omega
  · rw [if_neg (by omega)]; exact hb
theorem B_empty {a : Int32} (hg : 4700 ≤ f) : Both n (fun S => F_X12_empty f 0 [.ref 0, .int a] S) (fun S => F_X13_empty f 0 [.ref 186, .int a] S) := by
  refine Both.of (fun S T A hC hM hA => ?_)
  obtain ⟨q, ⟨hX, hb0, hL, hF⟩, ⟨hH, hMk⟩, hr⟩ := id hC
  have hB := hA.2.1.2.1
  have hy := hX.pi.1.2.1
  have mx := hM.x hA
  obtain ⟨T1, e1⟩ : ∃ T1, T1 = sI T 186 0 0 := ⟨_, rfl⟩
  have f1 := (Fr.refl (D := mJ) T).sI e1 (by unfold mJ; omega)
  have m1 := mx.j f1
  rcases ix a (n := pY (plA A)) with ha | ⟨k, hk, rfl⟩
  · refine ⟨-1, A, hA.up (by omega), UC.of hC ?_, UM.of hM hA ?_⟩
    · obtain ⟨g, ge, hG⟩ := g1 hg; subst ge; clear hg; have hg := hG; clear hG; rw [E_X12_empty_0]; unfold F_X12_empty_0
      rw [hX.c5]
      refine o_I (T_X4_hasBin0 hL ha (by omega)) ?_
      rintro _ S ⟨rfl, rfl⟩
      exact o_t rfl (i_r ⟨rfl, Fr.refl _⟩)
    · obtain ⟨g, ge, hG⟩ := g1 hg; subst ge; clear hg; have hg := hG; clear hG; rw [E_X13_empty_0]; unfold F_X13_empty_0
      rw [← e1]
      show zO (bI _ _) _
      refine o_I (T_X13_isYard0 m1.1 ha (by omega)) ?_
      rintro _ T1 ⟨rfl, rfl⟩
      refine o_t rfl ?_
      obtain ⟨g, ge, hG⟩ := g1 hg; subst ge; clear hg; have hg := hG; clear hG; rw [E_X13_empty_1]; unfold F_X13_empty_1
      exact i_r ⟨rfl, f1⟩
  by_cases c : lkA A (12 + k) = 0
  · refine ⟨-1, A, hA.up (by omega), UC.of hC ?_, UM.of hM hA ?_⟩
    · obtain ⟨g, ge, hG⟩ := g1 hg; subst ge; clear hg; have hg := hG; clear hG; rw [E_X12_empty_0]; unfold F_X12_empty_0
      rw [hX.c5]
      refine o_I (T_X4_hasBin hL hB hy hk (by omega)) ?_
      rintro _ S ⟨rfl, rfl⟩
      exact o_t (if_pos c) (i_r ⟨rfl, Fr.refl _⟩)
    · obtain ⟨g, ge, hG⟩ := g1 hg; subst ge; clear hg; have hg := hG; clear hG; rw [E_X13_empty_0]; unfold F_X13_empty_0
      rw [← e1]
      show zO (bI _ _) _
      refine o_I (T_X13_isYard m1.1 hX.pi hk (by omega)) ?_
      rintro _ T1 ⟨rfl, rfl⟩
      refine o_f (by decide) ?_
      refine o_I (T_X13_isBin (b := 0) m1.1.1 m1.2.1 hB (by omega) (by omega) (by omega)) ?_
      rintro _ T1 ⟨rfl, rfl⟩
      refine o_t (if_pos c) ?_
      obtain ⟨g, ge, hG⟩ := g1 hg; subst ge; clear hg; have hg := hG; clear hG; rw [E_X13_empty_1]; unfold F_X13_empty_1
      exact i_r ⟨rfl, f1⟩
  refine ⟨nI (lkA A (20 + k)), mutA A (empB (lkA A) k (pPe (plA A))) (pu (lkA A) (hiA A)), hA.pu ((empB_LI hB (by omega)).up (by omega)), UC.mut hC ?_, UM.mut hM ?_⟩
  · obtain ⟨g, ge, hG⟩ := g1 hg; subst ge; clear hg; have hg := hG; clear hG; rw [E_X12_empty_0]; unfold F_X12_empty_0
    rw [hX.c5]
    refine o_I (T_X4_hasBin hL hB hy hk (by omega)) ?_
    rintro _ S ⟨rfl, rfl⟩
    refine o_f (by rw [if_neg c]; decide) ?_
    rw [hX.c5, hX.c7]
    refine o_V (T_X3_push hX hL hH hA.2.2.1.1 (by omega)) ?_
    rintro S1 ⟨h1, l1, x1, f1⟩
    rw [x1.c5, x1.c1, x1.cp.2.1.2.2.2.1]
    refine o_I (T_X4_emptyBin l1 (by omega) (by omega)) ?_
    rintro _ S2 ⟨rfl, l2, f2⟩
    exact i_r ⟨rfl, l2, h1.fr f2 (fun x k a b d => by unfold dL at d; omega), (f1.mono dH_dMu).tr (f2.mono dL43_dMu)⟩
  · obtain ⟨g, ge, hG⟩ := g1 hg; subst ge; clear hg; have hg := hG; clear hG; rw [E_X13_empty_0]; unfold F_X13_empty_0
    rw [← e1]
    show zO (bI _ _) _
    refine o_I (T_X13_isYard m1.1 hX.pi hk (by omega)) ?_
    rintro _ T1 ⟨rfl, rfl⟩
    refine o_f (by decide) ?_
    refine o_I (T_X13_isBin (b := 0) m1.1.1 m1.2.1 hB (by omega) (by omega) (by omega)) ?_
    rintro _ T1 ⟨rfl, rfl⟩
    refine o_f (by rw [if_neg c]; decide) ?_
    refine o_V (hM.kp hA e1 (by omega)) ?_
    rintro T2 ⟨m2, h2, f2⟩
    refine o_I (T_X13_empties (b := 0) m2.1 m2.2.1 (by omega) (by omega) (by omega)) ?_
    rintro _ T3 ⟨rfl, a3, f3⟩
    exact i_r ⟨rfl, a3, h2.fr (pu16 _ _) f3 (by unfold dX; omega) (fun k a b d => by unfold dX at d; omega), f2.tr (f3.mono dX0_mMu)⟩
theorem B_off {a : Int32} (hg : 4700 ≤ f) : Both n (fun S => F_X12_off f 0 [.ref 0, .int a] S) (fun S => F_X13_off f 0 [.ref 186, .int a] S) := by
  refine Both.of (fun S T A hC hM hA => ?_)
  obtain ⟨q, ⟨hX, hb0, hL, hF⟩, ⟨hH, hMk⟩, hr⟩ := id hC
  have hB := hA.2.1.2.1
  have hy := hX.pi.1.2.1
  have mx := hM.x hA
  obtain ⟨T1, e1⟩ : ∃ T1, T1 = sI T 186 0 0 := ⟨_, rfl⟩
  have f1 := (Fr.refl (D := mJ) T).sI e1 (by unfold mJ; omega)
  have m1 := mx.j f1
  rcases ix a (n := pY (plA A)) with ha | ⟨k, hk, rfl⟩
  · refine ⟨-1, A, hA.up (by omega), UC.of hC ?_, UM.of hM hA ?_⟩
    · obtain ⟨g, ge, hG⟩ := g1 hg; subst ge; clear hg; have hg := hG; clear hG; rw [E_X12_off_0]; unfold F_X12_off_0
      rw [hX.c5]
      refine o_I (T_X4_hasBin0 hL ha (by omega)) ?_
      rintro _ S ⟨rfl, rfl⟩
      exact o_t rfl (i_r ⟨rfl, Fr.refl _⟩)
    · obtain ⟨g, ge, hG⟩ := g1 hg; subst ge; clear hg; have hg := hG; clear hG; rw [E_X13_off_0]; unfold F_X13_off_0
      rw [← e1]
      show zO (bI _ _) _
      refine o_I (T_X13_isYard0 m1.1 ha (by omega)) ?_
      rintro _ T1 ⟨rfl, rfl⟩
      refine o_t rfl ?_
      obtain ⟨g, ge, hG⟩ := g1 hg; subst ge; clear hg; have hg := hG; clear hG; rw [E_X13_off_1]; unfold F_X13_off_1
      exact i_r ⟨rfl, f1⟩
  by_cases c : lkA A (12 + k) = 0
  · refine ⟨-1, A, hA.up (by omega), UC.of hC ?_, UM.of hM hA ?_⟩
    · obtain ⟨g, ge, hG⟩ := g1 hg; subst ge; clear hg; have hg := hG; clear hG; rw [E_X12_off_0]; unfold F_X12_off_0
      rw [hX.c5]
      refine o_I (T_X4_hasBin hL hB hy hk (by omega)) ?_
      rintro _ S ⟨rfl, rfl⟩
      exact o_t (if_pos c) (i_r ⟨rfl, Fr.refl _⟩)
    · obtain ⟨g, ge, hG⟩ := g1 hg; subst ge; clear hg; have hg := hG; clear hG; rw [E_X13_off_0]; unfold F_X13_off_0
      rw [← e1]
      show zO (bI _ _) _
      refine o_I (T_X13_isYard m1.1 hX.pi hk (by omega)) ?_
      rintro _ T1 ⟨rfl, rfl⟩
      refine o_f (by decide) ?_
      refine o_I (T_X13_isBin (b := 0) m1.1.1 m1.2.1 hB (by omega) (by omega) (by omega)) ?_
      rintro _ T1 ⟨rfl, rfl⟩
      refine o_t (if_pos c) ?_
      obtain ⟨g, ge, hG⟩ := g1 hg; subst ge; clear hg; have hg := hG; clear hG; rw [E_X13_off_1]; unfold F_X13_off_1
      exact i_r ⟨rfl, f1⟩
  refine ⟨nI (lkA A (20 + k)), mutA A (setB (lkA A) k 0) (pu (lkA A) (hiA A)), hA.pu ((setB_LI hB (by omega) (by omega)).up (by omega)), UC.mut hC ?_, UM.mut hM ?_⟩
  · obtain ⟨g, ge, hG⟩ := g1 hg; subst ge; clear hg; have hg := hG; clear hG; rw [E_X12_off_0]; unfold F_X12_off_0
    rw [hX.c5]
    refine o_I (T_X4_hasBin hL hB hy hk (by omega)) ?_
    rintro _ S ⟨rfl, rfl⟩
    refine o_f (by rw [if_neg c]; decide) ?_
    rw [hX.c5, hX.c7]
    refine o_V (T_X3_push hX hL hH hA.2.2.1.1 (by omega)) ?_
    rintro S1 ⟨h1, l1, x1, f1⟩
    rw [x1.c5]
    refine o_I (T_X4_takeBin l1 (by omega) (by omega)) ?_
    rintro _ S2 ⟨rfl, l2, f2⟩
    exact i_r ⟨rfl, l2, h1.fr f2 (fun x k a b d => by unfold dL at d; omega), (f1.mono dH_dMu).tr (f2.mono dL43_dMu)⟩
  · obtain ⟨g, ge, hG⟩ := g1 hg; subst ge; clear hg; have hg := hG; clear hG; rw [E_X13_off_0]; unfold F_X13_off_0
    rw [← e1]
    show zO (bI _ _) _
    refine o_I (T_X13_isYard m1.1 hX.pi hk (by omega)) ?_
    rintro _ T1 ⟨rfl, rfl⟩
    refine o_f (by decide) ?_
    refine o_I (T_X13_isBin (b := 0) m1.1.1 m1.2.1 hB (by omega) (by omega) (by omega)) ?_
    rintro _ T1 ⟨rfl, rfl⟩
    refine o_f (by rw [if_neg c]; decide) ?_
    refine o_V (hM.kp hA e1 (by omega)) ?_
    rintro T2 ⟨m2, h2, f2⟩
    refine o_I (T_X13_offs (b := 0) m2.1.1 m2.2.1 (by omega) (by omega) (by omega)) ?_
    rintro _ T3 ⟨rfl, a3, f3⟩
    exact i_r ⟨rfl, a3, h2.fr (pu16 _ _) f3 (by unfold dX; omega) (fun k a b d => by unfold dX at d; omega), f2.tr (f3.mono dX0_mMu)⟩
theorem B_put {a b : Int32} (hg : 4700 ≤ f) : Both n (fun S => F_X12_put f 0 [.ref 0, .int a, .int b] S) (fun S => F_X13_put f 0 [.ref 186, .int a, .int b] S) := by
  refine Both.of (fun S T A hC hM hA => ?_)
  obtain ⟨q, ⟨hX, hb0, hL, hF⟩, ⟨hH, hMk⟩, hr⟩ := id hC
  have hB := hA.2.1.2.1
  have hy := hX.pi.1.2.1
  have mx := hM.x hA
  obtain ⟨T1, e1⟩ : ∃ T1, T1 = sI T 186 0 0 := ⟨_, rfl⟩
  have f1 := (Fr.refl (D := mJ) T).sI e1 (by unfold mJ; omega)
  have m1 := mx.j f1
  rcases ix a (n := pY (plA A)) with ha | ⟨k, hk, rfl⟩
  · refine ⟨0, A, hA.up (by omega), UC.of hC ?_, UM.of hM hA ?_⟩
    · obtain ⟨g, ge, hG⟩ := g1 hg; subst ge; clear hg; have hg := hG; clear hG; rw [E_X12_put_0]; unfold F_X12_put_0
      rw [hX.c5]
      refine o_I (T_X4_hasYard0 hL ha (by omega)) ?_
      rintro _ S ⟨rfl, rfl⟩
      refine o_t rfl ?_
      obtain ⟨g, ge, hG⟩ := g1 hg; subst ge; clear hg; have hg := hG; clear hG; rw [E_X12_put_1]; unfold F_X12_put_1
      exact o_Z (Or.inl rfl) (i_r ⟨rfl, Fr.refl _⟩)
    · obtain ⟨g, ge, hG⟩ := g1 hg; subst ge; clear hg; have hg := hG; clear hG; rw [E_X13_put_0]; unfold F_X13_put_0
      rw [← e1]
      show zO (bI _ _) _
      refine o_I (T_X13_isYard0 m1.1 ha (by omega)) ?_
      rintro _ T1 ⟨rfl, rfl⟩
      refine o_t rfl ?_
      obtain ⟨g, ge, hG⟩ := g1 hg; subst ge; clear hg; have hg := hG; clear hG; rw [E_X13_put_1]; unfold F_X13_put_1
      exact o_Z (Or.inl rfl) (i_r ⟨rfl, f1⟩)
  have w1 := wI_n (a := b) (lo := 1) (hi := 30) (by omega) (by omega)
  by_cases c : lkA A (12 + k) = 0
  · rcases w1 with hb | ⟨j, hj0, hj, rfl, hb⟩
    · refine ⟨0, A, hA.up (by omega), UC.of hC ?_, UM.of hM hA ?_⟩
      · obtain ⟨g, ge, hG⟩ := g1 hg; subst ge; clear hg; have hg := hG; clear hG; rw [E_X12_put_0]; unfold F_X12_put_0
        rw [hX.c5]
        refine o_I (T_X4_hasYard hL hy hk (by omega)) ?_
        rintro _ S ⟨rfl, rfl⟩
        refine o_f (by decide) ?_
        rw [hX.c5]
        refine o_I (T_X4_hasBin hL hB hy hk (by omega)) ?_
        rintro _ S ⟨rfl, rfl⟩
        refine o_t (if_pos c) ?_
        refine o_I (T_X12_isWithin (by omega)) ?_
        rintro _ S ⟨rfl, rfl⟩
        refine o_t hb ?_
        obtain ⟨g, ge, hG⟩ := g1 hg; subst ge; clear hg; have hg := hG; clear hG; rw [E_X12_put_1]; unfold F_X12_put_1
        exact o_Z (Or.inl rfl) (i_r ⟨rfl, Fr.refl _⟩)
      · obtain ⟨g, ge, hG⟩ := g1 hg; subst ge; clear hg; have hg := hG; clear hG; rw [E_X13_put_0]; unfold F_X13_put_0
        rw [← e1]
        show zO (bI _ _) _
        refine o_I (T_X13_isYard m1.1 hX.pi hk (by omega)) ?_
        rintro _ T1 ⟨rfl, rfl⟩
        refine o_f (by decide) ?_
        refine o_I (T_X13_within (by omega)) ?_
        rintro _ T1 ⟨rfl, rfl⟩
        refine o_t hb ?_
        obtain ⟨g, ge, hG⟩ := g1 hg; subst ge; clear hg; have hg := hG; clear hG; rw [E_X13_put_1]; unfold F_X13_put_1
        exact o_Z (Or.inl rfl) (i_r ⟨rfl, f1⟩)
    have hb' : ¬ wI (nI j) 1 30 = 0 := fun e => by have hb : wI (nI j) 1 30 = 1 := hb; rw [hb] at e; exact absurd e (by decide)
    refine ⟨1, mutA A (setB (lkA A) k j) (pu (lkA A) (hiA A)), hA.pu ((setB_LI hB (by omega) hj).up (by omega)), UC.mut hC ?_, UM.mut hM ?_⟩
    · obtain ⟨g, ge, hG⟩ := g1 hg; subst ge; clear hg; have hg := hG; clear hG; rw [E_X12_put_0]; unfold F_X12_put_0
      rw [hX.c5]
      refine o_I (T_X4_hasYard hL hy hk (by omega)) ?_
      rintro _ S ⟨rfl, rfl⟩
      refine o_f (by decide) ?_
      rw [hX.c5]
      refine o_I (T_X4_hasBin hL hB hy hk (by omega)) ?_
      rintro _ S ⟨rfl, rfl⟩
      refine o_t (if_pos c) ?_
      refine o_I (T_X12_isWithin (by omega)) ?_
      rintro _ S ⟨rfl, rfl⟩
      refine o_f hb' ?_
      rw [hX.c5, hX.c7]
      refine o_V (T_X3_push hX hL hH hA.2.2.1.1 (by omega)) ?_
      rintro S1 ⟨h1, l1, x1, f1⟩
      rw [x1.c5]
      refine o_V (T_X4_setBin l1 (by omega) (by omega)) ?_
      rintro S2 ⟨l2, f2⟩
      exact o_Z (Or.inr rfl) (i_r ⟨rfl, l2, h1.fr f2 (fun x k a b d => by unfold dL at d; omega), (f1.mono dH_dMu).tr (f2.mono dL43_dMu)⟩)
    · obtain ⟨g, ge, hG⟩ := g1 hg; subst ge; clear hg; have hg := hG; clear hG; rw [E_X13_put_0]; unfold F_X13_put_0
      rw [← e1]
      show zO (bI _ _) _
      refine o_I (T_X13_isYard m1.1 hX.pi hk (by omega)) ?_
      rintro _ T1 ⟨rfl, rfl⟩
      refine o_f (by decide) ?_
      refine o_I (T_X13_within (by omega)) ?_
      rintro _ T1 ⟨rfl, rfl⟩
      refine o_f hb' ?_
      refine o_I (T_X13_isBin (b := 0) m1.1.1 m1.2.1 hB (by omega) (by omega) (by omega)) ?_
      rintro _ T1 ⟨rfl, rfl⟩
      refine o_t (if_pos c) ?_
      refine o_V (hM.kp hA e1 (by omega)) ?_
      rintro T2 ⟨m2, h2, f2⟩
      refine o_X (nA2' (n := 12) rfl) (by omega) ?_
      rw [m2.1.1.state]
      refine o_s (fun T3 e3 => ?_)
      refine o_X (nA2' (n := 20) rfl) (by omega) ?_
      have f3 : Fr (fun x j => x = 200 ∧ j < 28) T2 T3 := (Fr.refl _).sI e3 ⟨rfl, by omega⟩
      rw [(m2.1.1.fr f3).state]
      refine o_s (fun T4 e4 => ?_)
      have f4 := f3.sI e4 ⟨rfl, by omega⟩
      have a3 : MA T3 0 (up1 (lkA A) (12 + k) j) := m2.2.1.s (k := 12 + k) (v := j) (by rw [Nat.zero_add]; exact e3)
      exact o_Z (Or.inr rfl) (i_r ⟨rfl, a3.s (k := 20 + k) (v := 0) (by rw [Nat.zero_add]; exact e4), h2.fr (pu16 _ _) f4 (by omega) (fun k a b d => by omega), f2.tr (f4.mono (fun x k d => by unfold mMu; omega))⟩)
  · refine ⟨0, A, hA.up (by omega), UC.of hC ?_, UM.of hM hA ?_⟩
    · obtain ⟨g, ge, hG⟩ := g1 hg; subst ge; clear hg; have hg := hG; clear hG; rw [E_X12_put_0]; unfold F_X12_put_0
      rw [hX.c5]
      refine o_I (T_X4_hasYard hL hy hk (by omega)) ?_
      rintro _ S ⟨rfl, rfl⟩
      refine o_f (by decide) ?_
      rw [hX.c5]
      refine o_I (T_X4_hasBin hL hB hy hk (by omega)) ?_
      rintro _ S ⟨rfl, rfl⟩
      refine o_f (by rw [if_neg c]; decide) ?_
      obtain ⟨g, ge, hG⟩ := g1 hg; subst ge; clear hg; have hg := hG; clear hG; rw [E_X12_put_1]; unfold F_X12_put_1
      exact o_Z (Or.inl rfl) (i_r ⟨rfl, Fr.refl _⟩)
    · obtain ⟨g, ge, hG⟩ := g1 hg; subst ge; clear hg; have hg := hG; clear hG; rw [E_X13_put_0]; unfold F_X13_put_0
      rw [← e1]
      show zO (bI _ _) _
      refine o_I (T_X13_isYard m1.1 hX.pi hk (by omega)) ?_
      rintro _ T1 ⟨rfl, rfl⟩
      refine o_f (by decide) ?_
      refine o_I (T_X13_within (by omega)) ?_
      rintro _ T1 ⟨rfl, rfl⟩
      refine o_if (fun c2 => ?_) (fun c2 => ?_)
      · obtain ⟨g, ge, hG⟩ := g1 hg; subst ge; clear hg; have hg := hG; clear hG; rw [E_X13_put_1]; unfold F_X13_put_1
        exact o_Z (Or.inl rfl) (i_r ⟨rfl, f1⟩)
      · refine o_I (T_X13_isBin (b := 0) m1.1.1 m1.2.1 hB (by omega) (by omega) (by omega)) ?_
        rintro _ T1 ⟨rfl, rfl⟩
        refine o_f (by rw [if_neg c]; decide) ?_
        obtain ⟨g, ge, hG⟩ := g1 hg; subst ge; clear hg; have hg := hG; clear hG; rw [E_X13_put_1]; unfold F_X13_put_1
        exact o_Z (Or.inl rfl) (i_r ⟨rfl, f1⟩)
theorem B_undo (hg : 4700 ≤ f) : Both n (fun S => F_X12_undo f 0 [.ref 0] S) (fun S => F_X13_undo f 0 [.ref 186] S) := by
  refine Both.of (fun S T A hC hM hA => ?_)
  obtain ⟨q, ⟨hX, hb0, hL, hF⟩, ⟨hH, hMk⟩, hr⟩ := id hC
  have mx := hM.x hA
  obtain ⟨T1, e1⟩ : ∃ T1, T1 = sI T 186 0 0 := ⟨_, rfl⟩
  have f1 := (Fr.refl (D := mJ) T).sI e1 (by unfold mJ; omega)
  have m1 := mx.j f1
  have h1 := hM.2.1.1.fr hA.2.2.1.1 f1 (by unfold mJ; omega) (fun k a b d => by unfold mJ at d; omega)
  have hl := hA.2.2.1.1
  have hm := hA.2.2.1.2.1
  cases eh : hiA A with
  | nil =>
    rw [eh] at hH h1
    refine ⟨0, A, hA.up (by omega), UC.of hC ?_, UM.of hM hA ?_⟩
    · obtain ⟨g, ge, hG⟩ := g1 hg; subst ge; clear hg; have hg := hG; clear hG; rw [E_X12_undo_0]; unfold F_X12_undo_0
      rw [hX.c5, hX.c7]
      obtain ⟨nx, z0, z1, z2, z3⟩ := hH
      refine o_I (P := fun v U => v = 0 ∧ U = S) ?_ ?_
      · obtain ⟨g, ge, hG⟩ := g1 hg; subst ge; clear hg; have hg := hG; clear hG; rw [E_X3_pop_0]; unfold F_X3_pop_0
        rw [z2]
        exact o_t rfl (o_Z (Or.inl rfl) (i_r ⟨rfl, rfl⟩))
      · rintro _ S ⟨rfl, rfl⟩
        exact o_Z (Or.inl rfl) (i_r ⟨rfl, Fr.refl _⟩)
    · obtain ⟨g, ge, hG⟩ := g1 hg; subst ge; clear hg; have hg := hG; clear hG; rw [E_X13_undo_0]; unfold F_X13_undo_0
      rw [← e1]
      show zO (if _ then _ else _) _
      rw [h1.1]
      exact o_t rfl (o_Z (Or.inl rfl) (i_r ⟨rfl, f1⟩))
  | cons M hs =>
    rw [eh] at hH h1 hl hm
    rw [List.length_cons] at hl
    refine ⟨1, mutA A M hs, hA.mut ((hm M List.mem_cons_self).up (by omega)) (by omega) (fun x hx => (hm x (List.mem_cons_of_mem _ hx)).up (by omega)), UC.mut hC ?_, UM.mut hM ?_⟩
    · obtain ⟨g, ge, hG⟩ := g1 hg; subst ge; clear hg; have hg := hG; clear hG; rw [E_X12_undo_0]; unfold F_X12_undo_0
      rw [hX.c5, hX.c7]
      refine o_I (T_X3_pop hX hH hl (by omega)) ?_
      rintro _ S1 ⟨rfl, c1, l1, f2⟩
      exact o_Z (Or.inr rfl) (i_r ⟨rfl, l1, c1, f2.mono (fun x k d => by unfold dMu; omega)⟩)
    · obtain ⟨g, ge, hG⟩ := g1 hg; subst ge; clear hg; have hg := hG; clear hG; rw [E_X13_undo_0]; unfold F_X13_undo_0
      rw [← e1]
      show zO (if _ then _ else _) _
      rw [h1.1, List.length_cons]
      refine o_f (nI_ne0 (by omega) (by omega)) ?_
      rw [nI_pred]
      refine o_s (fun T2 e2 => ?_)
      have f2 : Fr (fun x k => x = 186 ∧ k = 23) T1 T2 := (Fr.refl _).sI e2 ⟨rfl, rfl⟩
      have g2 : gI T2 186 23 = nI hs.length := by subst e2; rw [gI_sI, if_pos ⟨rfl, rfl⟩]
      rw [g2, show (36 : Int32) = nI 36 from rfl, show (5 : Int32) = nI 5 from rfl, nI_add, pk_mul]
      refine o_V (T_X13_copies (a := 36 * (5 + hs.length)) (c := 0) (n := 28) (m1.1.1.fr f2) (by omega) (by omega) (by omega) (by omega)) ?_
      rintro T3 ⟨c3, f3⟩
      refine o_Z (Or.inr rfl) (i_r ⟨rfl, fun k hk => ?_, ⟨by rw [f3.2 _ _ (by omega)]; exact g2, fun i hi => ?_⟩, ((f1.mono (E := mMu) (fun x k d => Or.inr (Or.inr d))).tr (f2.mono (fun x k d => by omega))).tr (f3.mono (fun x k d => by omega))⟩)
      · rw [c3 k hk, f2.2 _ _ (by omega)]
        have := h1.2 0 (by rw [List.length_cons]; omega) k hk
        rw [List.length_cons, show hs.length + 1 - 1 - 0 = hs.length by omega] at this
        exact this
      · have := h1.2 (i + 1) (by rw [List.length_cons]; omega)
        rw [List.length_cons, show hs.length + 1 - 1 - (i + 1) = hs.length - 1 - i by omega] at this
        exact (this.fr f2 (fun k a b d => by omega)).fr f3 (fun k a b d => by omega)
end P4

/-! found, marks, counts: both sides -/
theorem bs_tb (g : Nat → Bool) : ∀ n j, (bs g n).testBit j = (decide (j < n) && g j)
  | 0, j => by
    rw [show bs g 0 = 0 from rfl, Nat.zero_testBit]
    simp
  | n + 1, j => by
    rw [← bs_or, Nat.testBit_or, bs_tb g n j]
    by_cases hg : g n = true
    · rw [if_pos hg, Nat.testBit_two_pow]
      by_cases e : n = j
      · subst e
        simp [hg]
      · have : (decide (j < n + 1)) = decide (j < n) := by
          by_cases h : j < n
          · rw [decide_eq_true h, decide_eq_true (by omega)]
          · rw [decide_eq_false h, decide_eq_false (by omega)]
        rw [this, decide_eq_false e, Bool.or_false]
    · rw [if_neg hg, Nat.zero_testBit, Bool.or_false]
      by_cases e : j = n
      · subst e
        simp at hg
        simp [hg]
      · have : (decide (j < n + 1)) = decide (j < n) := by
          by_cases h : j < n
          · rw [decide_eq_true h, decide_eq_true (by omega)]
          · rw [decide_eq_false h, decide_eq_false (by omega)]
        rw [this]
theorem bs_set {g : Nat → Bool} {n k : Nat} (hk : k < n) : bs g n ||| 2 ^ k = bs (up1 g k true) n := by
  apply Nat.eq_of_testBit_eq
  intro j
  rw [Nat.testBit_or, bs_tb, bs_tb, Nat.testBit_two_pow, up1_at]
  by_cases e : j = k
  · subst e
    simp [hk]
  · rw [if_neg e, decide_eq_false (show ¬ k = j from fun h => e h.symm), Bool.or_false]
theorem bs_and {g : Nat → Bool} {n k : Nat} (hk : k < n) : bs g n &&& 2 ^ k = if g k then 2 ^ k else 0 := by
  apply Nat.eq_of_testBit_eq
  intro j
  rw [Nat.testBit_and, bs_tb, Nat.testBit_two_pow]
  by_cases e : k = j
  · subst e
    cases hg : g k <;> simp [hk, hg, Nat.testBit_two_pow]
  · rw [decide_eq_false e, Bool.and_false]
    cases hg : g k
    · simp
    · simp [Nat.testBit_two_pow, e]
/-- how many -/
def cnt (g : Nat → Bool) (n : Nat) : Nat := sm (fun k => if g k then 1 else 0) n
def pc (m : Nat) : Nat := cnt (fun k => m.testBit k) 8
theorem cnt_le (g : Nat → Bool) (n : Nat) : cnt g n ≤ n := by
  have := sm_le (g := fun k => if g k then 1 else 0) (c := 1) (n := n) (fun k _ => by split <;> omega)
  unfold cnt
  omega
theorem cnt_cg {g h : Nat → Bool} {n : Nat} (e : ∀ k, k < n → g k = h k) : cnt g n = cnt h n := sm_cg (fun k hk => by rw [e k hk])
theorem cnt_ext {g : Nat → Bool} {n : Nat} : ∀ {m : Nat}, n ≤ m → (∀ k, n ≤ k → k < m → g k = false) → cnt g m = cnt g n
  | 0, h, _ => by rw [show n = 0 by omega]
  | m + 1, h, hz => by
    by_cases e : n = m + 1
    · rw [e]
    · have h1 := cnt_ext (m := m) (by omega) (fun k a b => hz k a (by omega))
      show cnt g m + (if g m then 1 else 0) = _
      rw [hz m (by omega) (by omega), h1]
      rfl
theorem pc_bs {g : Nat → Bool} {n : Nat} (hn : n ≤ 8) : pc (bs g n) = cnt g n := by
  unfold pc
  rw [cnt_ext hn (fun k a b => by rw [bs_tb, decide_eq_false (by omega)]; rfl)]
  exact cnt_cg (fun k hk => by rw [bs_tb, decide_eq_true hk]; rfl)
def bcF (v0 : Int32) : Int32 :=
  (fun y1 : Int32 => (fun y2 : Int32 => (fun y3 : Int32 => (fun y4 : Int32 => (fun y5 : Int32 => (y5 &&& (63 : Int32))) (y4 + ((y4.toUInt32 >>> (Int32.toUInt32 (16 : Int32) &&& Int32.toUInt32 31)).toInt32))) (y3 + ((y3.toUInt32 >>> (Int32.toUInt32 (8 : Int32) &&& Int32.toUInt32 31)).toInt32))) ((y2 + ((y2.toUInt32 >>> (Int32.toUInt32 (4 : Int32) &&& Int32.toUInt32 31)).toInt32)) &&& (252645135 : Int32))) ((y1 &&& (858993459 : Int32)) + (((y1.toUInt32 >>> (Int32.toUInt32 (2 : Int32) &&& Int32.toUInt32 31)).toInt32) &&& (858993459 : Int32)))) (v0 - (((v0.toUInt32 >>> (Int32.toUInt32 (1 : Int32) &&& Int32.toUInt32 31)).toInt32) &&& (1431655765 : Int32)))
theorem bcF_n {m : Nat} (hm : m < 256) : bcF (nI m) = nI (pc m) := co_dec (N := 256) (P := fun m => bcF (nI m) = nI (pc m)) (by decide +kernel) hm
theorem T_bitCount {S : aS} {f m : Nat} (hm : m < 256) (hg : 1 ≤ f) : zI (F_J6_bitCount_0f7a4 f 0 [.int (nI m)] S) (fun x T => x = nI (pc m) ∧ T = S) := by
  obtain ⟨g, ge, hG⟩ := g1 hg; subst ge; clear hg; have hg := hG; clear hG; rw [E_J6_bitCount_0f7a4_0]; unfold F_J6_bitCount_0f7a4_0
  exact i_r ⟨bcF_n hm, rfl⟩
section P5
variable {S T : aS} {A : aA} {q f n : Nat} {P : aP} {L : Lk}
def fdM (A : aA) (fd : aF) : aA := (A.1, (plA A, lkA A, fd), A.2.2)
theorem CX.f0 (h : CX S q P) : gR S 47 0 = 48 := h.1.1 47 0 (by omega) rfl
theorem CX.fm (h : CX S q P) {m : Nat} (hm : m < 4) : gR S 115 m = 162 + 6 * m ∧ gR S 116 m = 166 + 6 * m ∧ gR S (166 + 6 * m) 0 = 166 + 6 * m + 1 := by
  have hd := co_dec (N := 4) (P := fun m => RX 115 m = false ∧ RX 116 m = false ∧ RX (166 + 6 * m) 0 = false ∧ R0 115 m = 162 + 6 * m ∧ R0 116 m = 166 + 6 * m ∧ R0 (166 + 6 * m) 0 = 166 + 6 * m + 1) (by decide +kernel) hm
  rw [h.1.1 115 m (by omega) hd.1, h.1.1 116 m (by omega) hd.2.1, h.1.1 _ 0 (by omega) hd.2.2.1]
  exact hd.2.2.2
theorem B_find {a b : Int32} (hg : 100 ≤ f) : Both n (fun S => F_X12_find f 0 [.ref 0, .int a, .int b] S) (fun S => F_X13_find f 0 [.ref 186, .int a, .int b] S) := by
  refine Both.of (fun S T A hC hM hA => ?_)
  obtain ⟨q, ⟨hX, hb0, hL, hF⟩, ⟨hH, hMk⟩, h6, h7, h8⟩ := id hC
  have hq := hX.2.2.2
  have hy := hX.pi.1.2.1
  have mx := hM.x hA
  obtain ⟨T1, e1⟩ : ∃ T1, T1 = sI T 186 0 0 := ⟨_, rfl⟩
  have f1 := (Fr.refl (D := mJ) T).sI e1 (by unfold mJ; omega)
  have m1 := mx.j f1
  rcases ix a (n := pY (plA A)) with ha | ⟨k, hk, rfl⟩
  · refine ⟨0, A, hA.up (by omega), UC.of hC ?_, UM.of hM hA ?_⟩
    · obtain ⟨g, ge, hG⟩ := g1 hg; subst ge; clear hg; have hg := hG; clear hG; rw [E_X12_find_0]; unfold F_X12_find_0
      rw [hX.c5]
      refine o_I (T_X4_hasYard0 hL ha (by omega)) ?_
      rintro _ S ⟨rfl, rfl⟩
      refine o_t rfl ?_
      obtain ⟨g, ge, hG⟩ := g1 hg; subst ge; clear hg; have hg := hG; clear hG; rw [E_X12_find_1]; unfold F_X12_find_1
      exact o_Z (Or.inl rfl) (i_r ⟨rfl, Fr.refl _⟩)
    · obtain ⟨g, ge, hG⟩ := g1 hg; subst ge; clear hg; have hg := hG; clear hG; rw [E_X13_find_0]; unfold F_X13_find_0
      rw [← e1]
      show zO (bI _ _) _
      refine o_I (T_X13_isYard0 m1.1 ha (by omega)) ?_
      rintro _ T1 ⟨rfl, rfl⟩
      refine o_t rfl ?_
      obtain ⟨g, ge, hG⟩ := g1 hg; subst ge; clear hg; have hg := hG; clear hG; rw [E_X13_find_1]; unfold F_X13_find_1
      exact o_Z (Or.inl rfl) (i_r ⟨rfl, f1⟩)
  rcases wI_01 b (-99) 99 with hb | hb
  · refine ⟨0, A, hA.up (by omega), UC.of hC ?_, UM.of hM hA ?_⟩
    · obtain ⟨g, ge, hG⟩ := g1 hg; subst ge; clear hg; have hg := hG; clear hG; rw [E_X12_find_0]; unfold F_X12_find_0
      rw [hX.c5]
      refine o_I (T_X4_hasYard hL hy hk (by omega)) ?_
      rintro _ S ⟨rfl, rfl⟩
      refine o_f (by decide) ?_
      refine o_I (T_X12_isWithin (by omega)) ?_
      rintro _ S ⟨rfl, rfl⟩
      refine o_t hb ?_
      obtain ⟨g, ge, hG⟩ := g1 hg; subst ge; clear hg; have hg := hG; clear hG; rw [E_X12_find_1]; unfold F_X12_find_1
      exact o_Z (Or.inl rfl) (i_r ⟨rfl, Fr.refl _⟩)
    · obtain ⟨g, ge, hG⟩ := g1 hg; subst ge; clear hg; have hg := hG; clear hG; rw [E_X13_find_0]; unfold F_X13_find_0
      rw [← e1]
      show zO (bI _ _) _
      refine o_I (T_X13_isYard m1.1 hX.pi hk (by omega)) ?_
      rintro _ T1 ⟨rfl, rfl⟩
      refine o_f (by decide) ?_
      refine o_I (T_X13_within (by omega)) ?_
      rintro _ T1 ⟨rfl, rfl⟩
      refine o_t hb ?_
      obtain ⟨g, ge, hG⟩ := g1 hg; subst ge; clear hg; have hg := hG; clear hG; rw [E_X13_find_1]; unfold F_X13_find_1
      exact o_Z (Or.inl rfl) (i_r ⟨rfl, f1⟩)
  have hb' : ¬ wI b (-99) 99 = 0 := fun e => by rw [hb] at e; exact absurd e (by decide)
  have hne : b ≠ -1000 := fun e => by rw [e] at hb; exact absurd hb (by decide)
  refine ⟨1, fdM A (up1 (fdA A) k b), ?_, ?_, ?_⟩
  · have h := hA.up (m := n + 1) (by omega)
    refine ⟨h.1, ⟨h.2.1.1, h.2.1.2.1, fun j hj => ?_⟩, h.2.2⟩
    show up1 (fdA A) k b j = _
    rw [up1_at, if_neg (by have : pY (plA A) ≤ j := hj; omega)]
    exact h.2.1.2.2 j hj
  · show zI _ _
    obtain ⟨g, ge, hG⟩ := g1 hg; subst ge; clear hg; have hg := hG; clear hG; rw [E_X12_find_0]; unfold F_X12_find_0
    rw [hX.c5]
    refine o_I (T_X4_hasYard hL hy hk (by omega)) ?_
    rintro _ S ⟨rfl, rfl⟩
    refine o_f (by decide) ?_
    refine o_I (T_X12_isWithin (by omega)) ?_
    rintro _ S ⟨rfl, rfl⟩
    refine o_f hb' ?_
    rw [hX.c6]
    refine o_V (P := fun U => CFd U 47 (up1 (fdA A) k b) ∧ Fr (fun x _ => x = 47 ∨ x = 48) S U) ?_ ?_
    · obtain ⟨g, ge, hG⟩ := g1 hg; subst ge; clear hg; have hg := hG; clear hG; rw [E_X2_set_0]; unfold F_X2_set_0
      refine o_X rfl (show k < 8 by omega) ?_
      rw [hX.f0]
      refine o_s (fun S1 e1 => ?_)
      have g1' : gI S1 47 1 = nI (bs (fun k => fdA A k != -1000) 8) := by
        subst e1
        rw [gI_sI, if_neg (by omega)]
        exact hF.1
      rw [g1', sh1 k (by omega), nI_or, bs_set (by omega)]
      refine o_s (fun S2 e2 => ?_)
      refine u_r ⟨⟨?_, fun j hj hn => ?_⟩, ((Fr.refl S).sI e1 (Or.inr rfl)).sI e2 (Or.inl rfl)⟩
      · subst e2
        rw [gI_sI, if_pos ⟨rfl, rfl⟩]
        apply congrArg nI
        apply bs_cg
        intro j hj
        show up1 _ k true j = (up1 (fdA A) k b j != -1000)
        rw [up1_at, up1_at]
        by_cases e : j = k
        · rw [if_pos e, if_pos e]
          exact (bne_iff_ne.mpr hne).symm
        · rw [if_neg e, if_neg e]
      · subst e2 e1
        rw [gI_sI, if_neg (by omega), gI_sI]
        rw [up1_at] at hn ⊢
        by_cases e : j = k
        · rw [if_pos ⟨rfl, e⟩, if_pos e]
        · rw [if_neg (by omega), if_neg e]
          rw [if_neg e] at hn
          exact hF.2 j hj hn
    · rintro S1 ⟨c1, f2⟩
      refine o_Z (Or.inr rfl) (i_r ⟨rfl, ⟨q, ⟨hX.fr f2 (fun x k d => by unfold dN; omega), by rw [f2.R]; exact hb0, hL.fr f2 (fun x k a b d => by omega), c1⟩, ⟨hH.fr f2 (fun x k a b d => by omega), hMk.fg f2.g (by omega) (fun x k a b d => by omega) (fun x a b => id)⟩, h6.fg f2.g (fun x k a b d => by omega) id, h7.fg f2.g ⟨by omega, fun k => by omega⟩, fun i hi => ?_⟩, f2.g.mono (fun q k d => by omega) (fun q h => h.elim)⟩)
      rw [f2.J]
      exact h8 i hi
  · show zI _ _
    obtain ⟨g, ge, hG⟩ := g1 hg; subst ge; clear hg; have hg := hG; clear hG; rw [E_X13_find_0]; unfold F_X13_find_0
    rw [← e1]
    show zO (bI _ _) _
    refine o_I (T_X13_isYard m1.1 hX.pi hk (by omega)) ?_
    rintro _ T1 ⟨rfl, rfl⟩
    refine o_f (by decide) ?_
    refine o_I (T_X13_within (by omega)) ?_
    rintro _ T1 ⟨rfl, rfl⟩
    refine o_f hb' ?_
    refine o_X (nA2' (n := 28) rfl) (by omega) ?_
    rw [m1.1.1.state]
    refine o_s (fun T2 e2 => ?_)
    have h1 := hM.fg hA f1.g (fun x k d => Or.inl d) (fun x hx => hx.elim)
    have f2 : Fr (fun x j => x = 200 ∧ j = 28 + k) T1 T2 := (Fr.refl _).sI e2 ⟨rfl, rfl⟩
    obtain ⟨⟨h1, h2, h3, h4⟩, ⟨h5, h6⟩, h7, h8, ⟨h9, h10⟩, h11⟩ := h1
    refine o_Z (Or.inr rfl) (i_r ⟨rfl, ⟨⟨h1.fr f2 (fun x k a b d => by omega), h2.fr f2 (fun k a b d => by omega), fun j hj => ?_, by rw [f2.2 _ _ (by omega)]; exact h4⟩, ⟨h5.fr hA.2.2.1.1 f2 (by omega) (fun k a b d => by omega), h6.fg f2.g (fun k d => by omega) (fun k a b d => by omega)⟩, h7.fg f2.g (fun k d => by omega), h8.fg f2.g ⟨by omega, fun k d => by omega⟩, ⟨by rw [f2.2 _ _ (by omega)]; exact h9, fun i hi => ?_⟩, fun k hk => ?_⟩, (f1.g.mono (fun q k d => by unfold mJ at d; omega) (fun q h => h.elim)).tr (f2.g.mono (fun q k d => by omega) (fun q h => h.elim))⟩)
    · show _ = up1 (fdA A) k b j
      rw [up1_at]
      subst e2
      rw [gI_sI]
      by_cases e : j = k
      · rw [if_pos ⟨rfl, by omega⟩, if_pos e]
      · rw [if_neg (by omega), if_neg e]
        exact h3 j hj
    · rw [f2.J]; exact h10 i hi
    · rw [f2.J]; exact h11 k hk
theorem T_X2_become {p p2 : Nat} {fd : aF} (h : CFd S p2 fd) (hr : gR S p 0 = p + 1) (hr2 : gR S p2 0 = p2 + 1) (hp : p + 2 ≤ p2 ∨ p2 + 2 ≤ p) (hg : 20 ≤ f) : zU (F_X2_become f 0 [.ref p, .ref p2] S) (fun T => CFd T p fd ∧ Fr (fun x _ => x = p ∨ x = p + 1) S T) := by
  obtain ⟨g, ge, hG⟩ := g1 hg; subst ge; clear hg; have hg := hG; clear hG; rw [E_X2_become_0]; unfold F_X2_become_0
  rw [h.1]
  refine o_s (fun S1 e1 => ?_)
  have f1 := (Fr.refl (D := fun x _ => x = p ∨ x = p + 1) S).sI e1 (Or.inl rfl)
  refine o_loop (F := fun f vs S => F_X2_become f 1 vs S) (c := 1) (B := 2) (y := 8) (fun k vs T => vs = [.ref p, .ref p2, .int (nI k)] ∧ Fr (fun x _ => x = p ∨ x = p + 1) S T ∧ gI T p 1 = nI (bs (fun k => fd k != -1000) 8) ∧ ∀ j, j < k → gI T (p + 1) j = gI S (p2 + 1) j) ?_ ?_ 0 _ S1 g (by omega) ⟨rfl, f1, by subst e1; rw [gI_sI, if_pos ⟨rfl, rfl⟩], fun j hj => absurd hj (Nat.not_lt_zero j)⟩ (by omega)
  · rintro k _ T g hk ⟨rfl, hf, ht, hj⟩ hg rec
    show zO (F_X2_become g 1 _ _) _
    obtain ⟨g, ge, hG⟩ := g1 hg; subst ge; clear hg; have hg := hG; clear hG; rw [E_X2_become_1]; unfold F_X2_become_1
    refine o_f (nI_ge (b := 8) hk (by omega)) ?_
    refine o_X rfl hk ?_
    refine o_X rfl hk ?_
    rw [hf.R, hf.R, hr, hr2]
    refine o_s (fun T1 t1 => ?_)
    refine rec g _ _ (by omega) ⟨by rw [nI_1], hf.sI t1 (Or.inr rfl), ?_, fun j hj2 => ?_⟩
    · subst t1
      rw [gI_sI, if_neg (by omega)]
      exact ht
    · subst t1
      rw [gI_sI]
      by_cases e : j = k
      · rw [if_pos ⟨rfl, e⟩, e, hf.2 _ _ (by omega)]
      · rw [if_neg (by omega)]
        exact hj j (by omega)
  · rintro _ T g ⟨rfl, hf, ht, hj⟩ hg
    show zO (F_X2_become g 1 _ _) _
    obtain ⟨g, ge, hG⟩ := g1 hg; subst ge; clear hg; have hg := hG; clear hG; rw [E_X2_become_1]; unfold F_X2_become_1
    exact o_t (nI_le (a := 8) (b := 8) (by omega) (by omega)) (u_r ⟨⟨ht, fun k hk hn => by rw [hj k hk]; exact h.2 k hk hn⟩, hf⟩)
def mkM (A : aA) (m : Nat) : aA := (A.1, A.2.1, (hiA A, up1 (mkA A) m (some (lkA A, fdA A))), dyA A)
def bkM (A : aA) (x : Lk × aF) : aA := (A.1, (plA A, x.1, x.2), ([], mkA A), dyA A)
theorem B_mark {a b : Int32} (hg : 100 ≤ f) : Both n (fun S => F_X12_mark f 0 [.ref 0, .int a, .int b] S) (fun S => F_X13_mark f 0 [.ref 186, .int a, .int b] S) := by
  refine Both.of (fun S T A hC hM hA => ?_)
  obtain ⟨q, ⟨hX, hb0, hL, hF⟩, ⟨hH, hMk⟩, h6, h7, h8⟩ := id hC
  have hq := hX.2.2.2
  have mx := hM.x hA
  obtain ⟨T1, e1⟩ : ∃ T1, T1 = sI T 186 0 0 := ⟨_, rfl⟩
  have f1 := (Fr.refl (D := mJ) T).sI e1 (by unfold mJ; omega)
  have m1 := mx.j f1
  have hM1 := hM.fg hA f1.g (fun x k d => Or.inl d) (fun x hx => hx.elim)
  rcases wI_n (a := a) (lo := 0) (hi := 3) (by omega) (by omega) with ha | ⟨m, hm0, hm, rfl, ha⟩
  · refine ⟨0, A, hA.up (by omega), UC.of hC ?_, UM.of hM hA ?_⟩
    · obtain ⟨g, ge, hG⟩ := g1 hg; subst ge; clear hg; have hg := hG; clear hG; rw [E_X12_mark_0]; unfold F_X12_mark_0
      refine o_I (T_X12_isWithin (by omega)) ?_
      rintro _ S ⟨rfl, rfl⟩
      exact o_t ha (o_Z (Or.inl rfl) (i_r ⟨rfl, Fr.refl _⟩))
    · obtain ⟨g, ge, hG⟩ := g1 hg; subst ge; clear hg; have hg := hG; clear hG; rw [E_X13_mark_0]; unfold F_X13_mark_0
      rw [← e1]
      show zO (bI _ _) _
      refine o_I (T_X13_within (by omega)) ?_
      rintro _ T1 ⟨rfl, rfl⟩
      refine o_t ha ?_
      obtain ⟨g, ge, hG⟩ := g1 hg; subst ge; clear hg; have hg := hG; clear hG; rw [E_X13_mark_1]; unfold F_X13_mark_1
      exact o_Z (Or.inl rfl) (i_r ⟨rfl, f1⟩)
  have ha' : ¬ wI (nI m) 0 3 = 0 := fun e => by have ha : wI (nI m) 0 3 = 1 := ha; rw [ha] at e; exact absurd e (by decide)
  have hlkm : lk (162 + 6 * m) := Or.inr (Or.inr (Or.inr (Or.inr ⟨m, by omega, rfl⟩)))
  obtain ⟨r8, r9, rf⟩ := hX.fm (show m < 4 by omega)
  by_cases hb : b = 0
  · -- it is laid
    refine ⟨1, mkM A m, ?_, ?_, ?_⟩
    · have h := hA.up (m := n + 1) (by omega)
      refine ⟨h.1, h.2.1, ⟨h.2.2.1.1, h.2.2.1.2.1, fun j x hx => ?_⟩, h.2.2.2⟩
      have hx : up1 (mkA A) m (some (lkA A, fdA A)) j = some x := hx
      rw [up1_at] at hx
      by_cases e : j = m
      · rw [if_pos e] at hx
        cases hx
        exact ⟨h.2.1.2.1, h.2.1.2.2⟩
      · rw [if_neg e] at hx
        exact h.2.2.1.2.2 j x hx
    · show zI _ _
      obtain ⟨g, ge, hG⟩ := g1 hg; subst ge; clear hg; have hg := hG; clear hG; rw [E_X12_mark_0]; unfold F_X12_mark_0
      refine o_I (T_X12_isWithin (by omega)) ?_
      rintro _ S ⟨rfl, rfl⟩
      refine o_f ha' ?_
      refine o_t hb ?_
      refine o_X rfl (show m < 4 by omega) ?_
      rw [hX.c8, hX.c5, r8]
      refine o_V (T_now hX hL hlkm (by omega) (by omega)) ?_
      rintro S1 ⟨l1, n1, x1, g1'⟩
      refine o_X rfl (show m < 4 by omega) ?_
      rw [x1.c9, x1.c6, (x1.fm (show m < 4 by omega)).2.1]
      have hF1 : CFd S1 47 (fdA A) := hF.fg g1'.g (fun k => ⟨by unfold dL; omega, by unfold dL; omega⟩)
      refine o_V (T_X2_become hF1 (x1.fm (show m < 4 by omega)).2.2 x1.f0 (by omega) (by omega)) ?_
      rintro S2 ⟨c2, g2⟩
      have f2 : Fr (fun x _ => 162 + 6 * m ≤ x ∧ x ≤ 167 + 6 * m) S S2 := (g1'.mono (fun x k d => by unfold dL at d; omega)).tr (g2.mono (fun x k d => by omega))
      rw [f2.2 0 10 (by omega), hMk.1, sh1 m (by omega), nI_or, bs_set (by omega)]
      refine o_s (fun S3 e3 => ?_)
      have f3 : Fr (fun x k => (162 + 6 * m ≤ x ∧ x ≤ 167 + 6 * m) ∨ (x = 0 ∧ k = 10)) S S3 := (f2.mono (fun x k d => Or.inl d)).sI e3 (Or.inr ⟨rfl, rfl⟩)
      have f23 : Fr (fun x k => x = 0 ∧ k = 10) S2 S3 := (Fr.refl _).sI e3 ⟨rfl, rfl⟩
      refine o_Z (Or.inr rfl) (i_r ⟨rfl, ⟨q, ⟨?_, by rw [f3.R]; exact hb0, hL.fr f3 (fun x k a b d => by omega), hF.fg f3.g (fun k => ⟨by omega, by omega⟩)⟩, ⟨hH.fr f3 (fun x k a b d => by omega), ?_, fun j hj x hx => ?_⟩, h6.fg f3.g (fun x k a b d => by omega) id, h7.fg f3.g ⟨by omega, fun k => by omega⟩, fun i hi => ?_⟩, f3.g.mono (fun q k d => by omega) (fun q h => h.elim)⟩)
      · exact ⟨hX.1.fr f3, hX.cp.fr f3 (fun x k a b c d e => by omega), hX.2.2⟩
      · subst e3
        rw [gI_sI, if_pos ⟨rfl, rfl⟩]
        apply congrArg nI
        apply bs_cg
        intro j hj
        show up1 _ m true j = (up1 (mkA A) m _ j).isSome
        rw [up1_at, up1_at]
        by_cases e : j = m
        · rw [if_pos e, if_pos e]; rfl
        · rw [if_neg e, if_neg e]
      · have hx : up1 (mkA A) m (some (lkA A, fdA A)) j = some x := hx
        rw [up1_at] at hx
        by_cases e : j = m
        · rw [if_pos e] at hx
          cases hx
          subst e
          exact ⟨(l1.fr g2 (fun x k a b d => by omega)).fr f23 (fun x k a b d => by omega), c2.fg f23.g (fun k => ⟨by omega, by omega⟩)⟩
        · rw [if_neg e] at hx
          have := hMk.2 j hj x hx
          exact ⟨this.1.fr f3 (fun x k a b d => by omega), this.2.fg f3.g (fun k => ⟨by omega, by omega⟩)⟩
      · rw [f3.J]; exact h8 i hi
    · show zI _ _
      obtain ⟨g, ge, hG⟩ := g1 hg; subst ge; clear hg; have hg := hG; clear hG; rw [E_X13_mark_0]; unfold F_X13_mark_0
      rw [← e1]
      show zO (bI _ _) _
      refine o_I (T_X13_within (by omega)) ?_
      rintro _ T1 ⟨rfl, rfl⟩
      refine o_f ha' ?_
      refine o_t hb ?_
      obtain ⟨g, ge, hG⟩ := g1 hg; subst ge; clear hg; have hg := hG; clear hG; rw [E_X13_mark_2]; unfold F_X13_mark_2
      refine o_X rfl (show m < 4 by omega) ?_
      rw [m1.1.1.marked, if_pos hb, if_pos hb, show (36 : Int32) * ((1 : Int32) + nI m) = nI (36 * (1 + m)) by rw [show (36 : Int32) = nI 36 from rfl, show (1 : Int32) = nI 1 from rfl, nI_add, pk_mul]]
      refine o_s (fun T2 e2 => ?_)
      have f2 : Fr (fun x j => x = 201 ∧ j = m) T1 T2 := (Fr.refl _).sI e2 ⟨rfl, rfl⟩
      refine o_V (T_X13_copies (a := 0) (c := 36 * (1 + m)) (n := 36) (m1.1.1.fr f2) (by omega) (by omega) (by omega) (by omega)) ?_
      rintro T3 ⟨c3, f3⟩
      rw [if_pos hb]
      refine o_s (fun T4 e4 => ?_)
      have e4 : T4 = sI T3 186 23 (gI T3 186 23) := e4
      have f4 : Fr (fun _ _ => False) T3 T4 := by
        subst e4
        refine ⟨rfl, fun q k _ => ?_⟩
        rw [gI_sI]
        by_cases e : q = 186 ∧ k = 23
        · rw [if_pos e, e.1, e.2]
        · rw [if_neg e]
      have ff : Fr (fun x j => (x = 201 ∧ j = m) ∨ (x = 200 ∧ 36 * (1 + m) ≤ j ∧ j < 36 * (1 + m) + 36)) T1 T4 := ((f2.mono (fun x k d => Or.inl d)).tr (f3.mono (fun x k d => Or.inr d))).tr (f4.mono (fun x k d => d.elim))
      obtain ⟨⟨h1, h2, h3, h4⟩, ⟨h5, h6⟩, h7, h8, ⟨h9, h10⟩, h11⟩ := hM1
      refine o_Z (Or.inr rfl) (i_r ⟨rfl, ⟨⟨h1.fr ff (fun x k a b d => by omega), h2.fr ff (fun k a b d => by omega), h3.fg ff.g (fun k a b d => by omega), by rw [ff.2 _ _ (by omega)]; exact h4⟩, ⟨h5.fr hA.2.2.1.1 ff (by omega) (fun k a b d => by omega), fun j hj => ?_⟩, h7.fg ff.g (fun k d => by omega), h8.fg ff.g ⟨by omega, fun k d => by omega⟩, ⟨by rw [ff.2 _ _ (by omega)]; exact h9, fun i hi => ?_⟩, fun k hk => ?_⟩, (f1.g.mono (fun q k d => by unfold mJ at d; omega) (fun q h => h.elim)).tr (ff.g.mono (fun q k d => by omega) (fun q h => h.elim))⟩)
      · show gI T4 201 j = (if (up1 (mkA A) m _ j).isSome then 1 else 0) ∧ ∀ x, up1 (mkA A) m _ j = some x → _
        rw [up1_at]
        by_cases e : j = m
        · subst e
          rw [if_pos rfl]
          refine ⟨?_, fun x hx => ?_⟩
          · rw [f4.2 _ _ id, f3.2 _ _ (by omega)]
            subst e2
            rw [gI_sI, if_pos ⟨rfl, rfl⟩]
            rfl
          · cases hx
            refine ⟨fun k hk => ?_, fun k hk => ?_⟩
            · rw [f4.2 _ _ id, c3 k (by omega), f2.2 _ _ (by omega)]
              exact h2 k hk
            · rw [f4.2 _ _ id, show 36 * (1 + j) + 28 + k = 36 * (1 + j) + (28 + k) by omega, c3 (28 + k) (by omega), f2.2 _ _ (by omega)]
              have := h3 k hk
              rw [show 0 + 28 + k = 0 + (28 + k) by omega] at this
              exact this
        · rw [if_neg e]
          have := h6 j hj
          refine ⟨by rw [ff.2 _ _ (by omega)]; exact this.1, fun x hx => ⟨(this.2 x hx).1.fr ff (fun k a b d => by omega), (this.2 x hx).2.fg ff.g (fun k a b d => by omega)⟩⟩
      · rw [ff.J]; exact h10 i hi
      · rw [ff.J]; exact h11 k hk
  -- it is gone back to
  have hbit : (nI (bs (fun k => (mkA A k).isSome) 4) &&& nI (2 ^ m) = 0) ↔ mkA A m = none := by
    rw [nI_and, bs_and (by omega)]
    have h2 : 2 ^ m ≤ 2 ^ 3 := Nat.pow_le_pow_right (by omega) (by omega)
    have h3 := Nat.two_pow_pos m
    cases hm2 : mkA A m with
    | none => simp; rfl
    | some x =>
      simp
      exact nI_ne0 h3 (by omega)
  cases hmk : mkA A m with
  | none =>
    refine ⟨0, A, hA.up (by omega), UC.of hC ?_, UM.of hM hA ?_⟩
    · obtain ⟨g, ge, hG⟩ := g1 hg; subst ge; clear hg; have hg := hG; clear hG; rw [E_X12_mark_0]; unfold F_X12_mark_0
      refine o_I (T_X12_isWithin (by omega)) ?_
      rintro _ S ⟨rfl, rfl⟩
      refine o_f ha' ?_
      refine o_f hb ?_
      rw [hMk.1, sh1 m (by omega)]
      exact o_t (hbit.mpr hmk) (o_Z (Or.inl rfl) (i_r ⟨rfl, Fr.refl _⟩))
    · obtain ⟨g, ge, hG⟩ := g1 hg; subst ge; clear hg; have hg := hG; clear hG; rw [E_X13_mark_0]; unfold F_X13_mark_0
      rw [← e1]
      show zO (bI _ _) _
      refine o_I (T_X13_within (by omega)) ?_
      rintro _ T1 ⟨rfl, rfl⟩
      refine o_f ha' ?_
      refine o_f hb ?_
      refine o_X rfl (show m < 4 by omega) ?_
      rw [m1.1.1.marked, (hM1.2.1.2 m (by omega)).1, hmk]
      refine o_t rfl ?_
      obtain ⟨g, ge, hG⟩ := g1 hg; subst ge; clear hg; have hg := hG; clear hG; rw [E_X13_mark_1]; unfold F_X13_mark_1
      exact o_Z (Or.inl rfl) (i_r ⟨rfl, f1⟩)
  | some x =>
    obtain ⟨lm, cm⟩ := hMk.2 m (by omega) x hmk
    refine ⟨1, bkM A x, ?_, ?_, ?_⟩
    · have h := hA.up (m := n + 1) (by omega)
      have hx := h.2.2.1.2.2 m x hmk
      exact ⟨h.1, ⟨h.2.1.1, hx.1, hx.2⟩, ⟨Nat.zero_le _, fun L hL => absurd hL List.not_mem_nil, h.2.2.1.2.2⟩, h.2.2.2⟩
    · show zI _ _
      obtain ⟨g, ge, hG⟩ := g1 hg; subst ge; clear hg; have hg := hG; clear hG; rw [E_X12_mark_0]; unfold F_X12_mark_0
      refine o_I (T_X12_isWithin (by omega)) ?_
      rintro _ S ⟨rfl, rfl⟩
      refine o_f ha' ?_
      refine o_f hb ?_
      rw [hMk.1, sh1 m (by omega)]
      refine o_f (fun e => by have := hbit.mp e; rw [hmk] at this; cases this) ?_
      refine o_X rfl (show m < 4 by omega) ?_
      rw [hX.c8, hX.c5, r8]
      refine o_V (T_X4_become lm (hX.lr lk43) (by omega) (by omega)) ?_
      rintro S1 ⟨l1, g1'⟩
      have x1 := hX.l g1' lk43
      refine o_X rfl (show m < 4 by omega) ?_
      rw [x1.c9, x1.c6, (x1.fm (show m < 4 by omega)).2.1]
      have cm1 : CFd S1 (166 + 6 * m) x.2 := cm.fg g1'.g (fun k => ⟨by unfold dL; omega, by unfold dL; omega⟩)
      refine o_V (T_X2_become cm1 x1.f0 (x1.fm (show m < 4 by omega)).2.2 (by omega) (by omega)) ?_
      rintro S2 ⟨c2, g2⟩
      have x2 := x1.fr g2 (fun x k d => by unfold dN; omega)
      rw [x2.c7]
      refine o_V (P := fun U => gI U 49 1 = nI 0 ∧ gI U 49 2 = nI 0 ∧ Fr (fun x _ => x = 49) S2 U) ?_ ?_
      · obtain ⟨g, ge, hG⟩ := g1 hg; subst ge; clear hg; have hg := hG; clear hG; rw [E_X3_clear_0]; unfold F_X3_clear_0
        refine o_s (fun S3 e3 => ?_)
        refine o_s (fun S4 e4 => ?_)
        refine u_r ⟨?_, ?_, ((Fr.refl _).sI e3 rfl).sI e4 rfl⟩
        · subst e4 e3
          rw [gI_sI, if_neg (by omega), gI_sI, if_pos ⟨rfl, rfl⟩]
          rfl
        · subst e4
          rw [gI_sI, if_pos ⟨rfl, rfl⟩]
          rfl
      rintro S3 ⟨z1, z2, g3⟩
      have ff : Fr (fun x _ => (43 ≤ x ∧ x ≤ 46) ∨ x = 47 ∨ x = 48 ∨ x = 49) S S3 := ((g1'.mono (fun x k d => by unfold dL at d; omega)).tr (g2.mono (fun x k d => by omega))).tr (g3.mono (fun x k d => by omega))
      refine o_Z (Or.inr rfl) (i_r ⟨rfl, ⟨q, ⟨hX.fr ff (fun x k d => by unfold dN; omega), by rw [ff.R]; exact hb0, (l1.fr g2 (fun x k a b d => by omega)).fr g3 (fun x k a b d => by omega), c2.fg g3.g (fun k => ⟨by omega, by omega⟩)⟩, ⟨⟨0, by omega, z1, z2, fun i hi => absurd hi (Nat.not_lt_zero i)⟩, hMk.fg ff.g (by omega) (fun x k a b d => by omega) (fun x a b => id)⟩, h6.fg ff.g (fun x k a b d => by omega) id, h7.fg ff.g ⟨by omega, fun k => by omega⟩, fun i hi => ?_⟩, ff.g.mono (fun q k d => by omega) (fun q h => h.elim)⟩)
      rw [ff.J]; exact h8 i hi
    · show zI _ _
      obtain ⟨g, ge, hG⟩ := g1 hg; subst ge; clear hg; have hg := hG; clear hG; rw [E_X13_mark_0]; unfold F_X13_mark_0
      rw [← e1]
      show zO (bI _ _) _
      refine o_I (T_X13_within (by omega)) ?_
      rintro _ T1 ⟨rfl, rfl⟩
      refine o_f ha' ?_
      refine o_f hb ?_
      refine o_X rfl (show m < 4 by omega) ?_
      have hmm := hM1.2.1.2 m (by omega)
      rw [m1.1.1.marked, hmm.1, hmk]
      refine o_f (show ¬ (1 : Int32) = 0 by decide) ?_
      obtain ⟨g, ge, hG⟩ := g1 hg; subst ge; clear hg; have hg := hG; clear hG; rw [E_X13_mark_2]; unfold F_X13_mark_2
      refine o_X rfl (show m < 4 by omega) ?_
      rw [m1.1.1.marked, if_neg hb, if_neg hb, show (36 : Int32) * ((1 : Int32) + nI m) = nI (36 * (1 + m)) by rw [show (36 : Int32) = nI 36 from rfl, show (1 : Int32) = nI 1 from rfl, nI_add, pk_mul]]
      refine o_s (fun T2 e2 => ?_)
      have f2 : Fr (fun x j => x = 201 ∧ j = m) T1 T2 := (Fr.refl _).sI e2 ⟨rfl, rfl⟩
      refine o_V (T_X13_copies (a := 36 * (1 + m)) (c := 0) (n := 36) (m1.1.1.fr f2) (by omega) (by omega) (by omega) (by omega)) ?_
      rintro T3 ⟨c3, f3⟩
      rw [if_neg hb]
      refine o_s (fun T4 e4 => ?_)
      have f4 : Fr (fun x k => x = 186 ∧ k = 23) T3 T4 := (Fr.refl _).sI e4 ⟨rfl, rfl⟩
      have ff : Fr (fun x j => (x = 201 ∧ j = m) ∨ (x = 200 ∧ j < 36) ∨ (x = 186 ∧ j = 23)) T1 T4 := ((f2.mono (fun x k d => Or.inl d)).tr (f3.mono (fun x k d => by omega))).tr (f4.mono (fun x k d => by omega))
      obtain ⟨⟨h1, h2, h3, h4⟩, ⟨h5, h6⟩, h7, h8, ⟨h9, h10⟩, h11⟩ := hM1
      have hx2 := hmm.2 x hmk
      refine o_Z (Or.inr rfl) (i_r ⟨rfl, ⟨⟨h1.fr ff (fun x k a b d => by omega), fun k hk => ?_, fun k hk => ?_, by rw [ff.2 _ _ (by omega)]; exact h4⟩, ⟨⟨by subst e4; rw [gI_sI, if_pos ⟨rfl, rfl⟩]; rfl, fun i hi => absurd hi (Nat.not_lt_zero i)⟩, fun j hj => ?_⟩, h7.fg ff.g (fun k d => by omega), h8.fg ff.g ⟨by omega, fun k d => by omega⟩, ⟨by rw [ff.2 _ _ (by omega)]; exact h9, fun i hi => ?_⟩, fun k hk => ?_⟩, (f1.g.mono (fun q k d => by unfold mJ at d; omega) (fun q h => h.elim)).tr (ff.g.mono (fun q k d => by omega) (fun q h => h.elim))⟩)
      · rw [f4.2 _ _ (by omega), c3 k (by omega), f2.2 _ _ (by omega)]
        exact hx2.1 k hk
      · rw [f4.2 _ _ (by omega), show 0 + 28 + k = 0 + (28 + k) by omega, c3 (28 + k) (by omega), f2.2 _ _ (by omega)]
        have := hx2.2 k hk
        rw [show 36 * (1 + m) + 28 + k = 36 * (1 + m) + (28 + k) by omega] at this
        exact this
      · show gI T4 201 j = (if (mkA A j).isSome then 1 else 0) ∧ ∀ x, mkA A j = some x → _
        have := h6 j hj
        refine ⟨?_, fun x hx => ⟨(this.2 x hx).1.fr ff (fun k a b d => by omega), (this.2 x hx).2.fg ff.g (fun k a b d => by omega)⟩⟩
        by_cases e : j = m
        · rw [f4.2 _ _ (by omega), f3.2 _ _ (by omega), e, hmk]
          subst e2
          rw [gI_sI, if_pos ⟨rfl, rfl⟩]
          rfl
        · rw [ff.2 _ _ (by omega)]
          exact this.1
      · rw [ff.J]; exact h10 i hi
      · rw [ff.J]; exact h11 k hk
end P5

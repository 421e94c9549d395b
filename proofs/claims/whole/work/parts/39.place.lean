/-! places and moves: both sides -/
def plc (L : Lk) (s m : Nat) : Nat → Lk
  | 0 => L
  | k + 1 => if s.testBit k then setB (plc L s m k) k m else plc L s m k
def okS (L : Lk) (y b s : Nat) : Bool := decide (pc s ≤ b) && decide (∀ k, k < y → ¬ (s.testBit k = true ∧ L (12 + k) ≠ 0))
def offS (x : Nat × Nat) (v s : Nat) : Nat × Nat := if v < x.1 ∨ (v = x.1 ∧ (pc s < pc x.2 ∨ (pc s = pc x.2 ∧ s < x.2))) then (v, s) else x
def plV (P : aP) (L : Lk) (m s : Nat) : Nat := tot (pY P) (awA P (pDe P) (plc L s m (pY P)))
def plN (P : aP) (L : Lk) (b m : Nat) : Nat → Nat × Nat
  | 0 => (7993, 0)
  | s + 1 => if okS L (pY P) b s then offS (plN P L b m s) (plV P L m s) s else plN P L b m s
theorem plc_LI {B s m : Nat} {L : Lk} (h : LI B L) (hm : m ≤ 30) : ∀ k, k ≤ 8 → LI B (plc L s m k)
  | 0, _ => h
  | k + 1, hk => by
    show LI B (if _ then _ else _)
    split
    · exact setB_LI (plc_LI h hm k (by omega)) (by omega) hm
    · exact plc_LI h hm k (by omega)
theorem plc_hi {s m j : Nat} {L : Lk} : ∀ k, k ≤ j → plc L s m k (20 + j) = L (20 + j) ∧ (j < 8 → plc L s m k (12 + j) = L (12 + j))
  | 0, _ => ⟨rfl, fun _ => rfl⟩
  | k + 1, hk => by
    have ih := plc_hi (s := s) (m := m) (L := L) (j := j) k (by omega)
    show (if _ then _ else _ : Lk) (20 + j) = _ ∧ (_ → (if _ then _ else _ : Lk) (12 + j) = _)
    split
    · unfold setB
      refine ⟨by rw [up1_at, if_neg (by omega), up1_at, if_neg (by omega)]; exact ih.1, fun h => by rw [up1_at, if_neg (by omega), up1_at, if_neg (by omega)]; exact ih.2 h⟩
    · exact ih
theorem plV_le {P : aP} {L : Lk} {B m s : Nat} (hI : PI P) (h : LI B L) (hm : m ≤ 30) : plV P L m s ≤ 7992 := tot_le (awA_LI hI (plc_LI h hm _ hI.1.2.1)) hI.1.2.1
theorem plN_i {P : aP} {L : Lk} {B b m : Nat} (hI : PI P) (h : LI B L) (hm : m ≤ 30) : ∀ s, (plN P L b m s).1 ≤ 7993 ∧ (plN P L b m s).2 ≤ s - 1
  | 0 => ⟨Nat.le_refl _, Nat.le_refl _⟩
  | s + 1 => by
    obtain ⟨h1, h2⟩ := plN_i (b := b) hI h hm s
    have hv := plV_le (s := s) hI h hm
    show (if _ then _ else _ : Nat × Nat).1 ≤ 7993 ∧ (if _ then _ else _ : Nat × Nat).2 ≤ s + 1 - 1
    split
    · unfold offS
      split
      · exact ⟨by show plV P L m s ≤ 7993; omega, by show s ≤ _; omega⟩
      · exact ⟨h1, by omega⟩
    · exact ⟨h1, by omega⟩
theorem okS_0 {L : Lk} {y b : Nat} : okS L y b 0 = true := by
  unfold okS
  have h : ∀ k, k < y → ¬ ((0 : Nat).testBit k = true ∧ L (12 + k) ≠ 0) := fun k _ h => by rw [Nat.zero_testBit] at h; exact absurd h.1 (by decide)
  rw [decide_eq_true (show pc 0 ≤ b by rw [show pc 0 = 0 from rfl]; omega), decide_eq_true h]
  rfl
section PL
variable {S T : aS} {A : aA} {q f n B : Nat} {P : aP} {L M : Lk}
theorem CX.s0 (h : CX S q P) : gR S 123 0 = 43 := h.1.1 123 0 (by omega) rfl
theorem CX.s1 (h : CX S q P) : gR S 123 1 = 117 := h.1.1 123 1 (by omega) rfl
theorem CX.s2 (h : CX S q P) : gR S 123 2 = q := h.1.2.2.2
theorem CX.s3 (h : CX S q P) : gR S 123 3 = 124 := h.1.1 123 3 (by omega) rfl
theorem CX.s4 (h : CX S q P) : gR S 123 4 = 125 := h.1.1 123 4 (by omega) rfl
theorem CX.s5 (h : CX S q P) : gR S 123 5 = 126 := h.1.1 123 5 (by omega) rfl
theorem CX.s6 (h : CX S q P) : gR S 123 6 = 127 := h.1.1 123 6 (by omega) rfl
theorem CX.sd (h : CX S q P) {i : Nat} (hi : i < 7) : gR S 124 i = 134 + 4 * i := by
  have hd := co_dec (N := 7) (P := fun i => RX 124 i = false ∧ R0 124 i = 134 + 4 * i) (by decide +kernel) hi
  rw [h.1.1 124 i (by omega) hd.1]
  exact hd.2
theorem CX.sc (h : CX S q P) {i : Nat} (hi : i < 6) : gR S 127 i = 128 + i := by
  have hd := co_dec (N := 6) (P := fun i => RX 127 i = false ∧ R0 127 i = 128 + i) (by decide +kernel) hi
  rw [h.1.1 127 i (by omega) hd.1]
  exact hd.2
theorem lkd {i : Nat} (h : i < 7) : lk (134 + 4 * i) := Or.inr (Or.inr (Or.inr (Or.inl ⟨i, h, rfl⟩)))
theorem CX.j (h : CX S q P) (hf : Fr dJ S T) : CX T q P := h.fr hf (fun x k d => by unfold dJ at d; unfold dN; omega)
theorem LA.j43 {y d : Nat} (h : LA S 43 y d L) (hf : Fr dJ S T) : LA T 43 y d L := h.fr hf (fun x k a b d => by unfold dJ at d; omega)
theorem dWd_dJ {i : Nat} (h : i < 7) (x k : Nat) (d : dW (134 + 4 * i) x k) : dJ x k := by unfold dW at d; unfold dJ; omega
theorem dLd_dJ {i : Nat} (h : i < 7) (x k : Nat) (d : dL (134 + 4 * i) x k) : dJ x k := by unfold dL at d; unfold dJ; omega
theorem T_X7_start (hX : CX S q P) (hL : LA S 43 (pY P) (pDe P) L) (hg : 20 ≤ f) : zU (F_X7_start f 0 [.ref 123] S) (fun T => gI T 123 7 = nI 7993 ∧ gI T 123 8 = nI 0 ∧ LA T 134 (pY P) (pDe P) L ∧ Fr dJ S T) := by
  obtain ⟨g, ge, hG⟩ := g1 hg; subst ge; clear hg; have hg := hG; clear hG; rw [E_X7_start_0]; unfold F_X7_start_0
  refine o_s (fun S1 e1 => ?_)
  refine o_s (fun S2 e2 => ?_)
  have f2 : Fr dJ S S2 := ((Fr.refl _).sI e1 (by unfold dJ; omega)).sI e2 (by unfold dJ; omega)
  have x2 := hX.j f2
  refine o_X (n := 0) rfl (by omega) ?_
  rw [x2.s0, x2.s3, x2.sd (show 0 < 7 by omega)]
  refine o_V (T_now x2 (hL.j43 f2) (lkd (show 0 < 7 by omega)) (by omega) (by omega)) ?_
  rintro S3 ⟨l3, -, -, f3⟩
  refine u_r ⟨?_, ?_, l3, f2.tr (f3.mono (dLd_dJ (by omega)))⟩
  · rw [f3.2 _ _ (by unfold dL; omega)]
    subst e2 e1
    rw [gI_sI, if_neg (by omega), gI_sI, if_pos ⟨rfl, rfl⟩]
    rfl
  · rw [f3.2 _ _ (by unfold dL; omega)]
    subst e2
    rw [gI_sI, if_pos ⟨rfl, rfl⟩]
    rfl
theorem T_X7_offerSet {v s : Nat} {x : Nat × Nat} (h7 : gI S 123 7 = nI x.1) (h8 : gI S 123 8 = nI x.2) (hx1 : x.1 < 2 ^ 30) (hx2 : x.2 < 256) (hv : v < 2 ^ 30) (hs : s < 256) (hg : 5 ≤ f) : zU (F_X7_offerSet f 0 [.ref 123, .int (nI v), .int (nI s)] S) (fun T => gI T 123 7 = nI (offS x v s).1 ∧ gI T 123 8 = nI (offS x v s).2 ∧ Fr (fun p k => p = 123 ∧ 7 ≤ k) S T) := by
  have p1 := cnt_le (fun k => s.testBit k) 8
  have p2 := cnt_le (fun k => x.2.testBit k) 8
  have p1 : pc s ≤ 8 := p1
  have p2 : pc x.2 ≤ 8 := p2
  have yes : ∀ (U : aS) (g : Nat), 2 ≤ g → U = S → offS x v s = (v, s) → zU (F_X7_offerSet g 1 [.ref 123, .int (nI v), .int (nI s)] U) (fun T => gI T 123 7 = nI (offS x v s).1 ∧ gI T 123 8 = nI (offS x v s).2 ∧ Fr (fun p k => p = 123 ∧ 7 ≤ k) S T) := by
    intro U g hg hU ho
    subst hU
    obtain ⟨g, ge, hG⟩ := g1 hg; subst ge; clear hg; have hg := hG; clear hG; rw [E_X7_offerSet_1]; unfold F_X7_offerSet_1
    refine o_s (fun S1 e1 => ?_)
    refine o_s (fun S2 e2 => ?_)
    obtain ⟨g, ge, hG⟩ := g1 hg; subst ge; clear hg; have hg := hG; clear hG; rw [E_X7_offerSet_2]; unfold F_X7_offerSet_2
    rw [ho]
    refine u_r ⟨?_, ?_, ((Fr.refl _).sI e1 ⟨rfl, by omega⟩).sI e2 ⟨rfl, by omega⟩⟩
    · subst e2 e1
      rw [gI_sI, if_neg (by omega), gI_sI, if_pos ⟨rfl, rfl⟩]
    · subst e2
      rw [gI_sI, if_pos ⟨rfl, rfl⟩]
  have no : ∀ (U : aS) (g : Nat), 1 ≤ g → U = S → offS x v s = x → zU (F_X7_offerSet g 2 [] U) (fun T => gI T 123 7 = nI (offS x v s).1 ∧ gI T 123 8 = nI (offS x v s).2 ∧ Fr (fun p k => p = 123 ∧ 7 ≤ k) S T) := by
    intro U g hg hU ho
    subst hU
    obtain ⟨g, ge, hG⟩ := g1 hg; subst ge; clear hg; have hg := hG; clear hG; rw [E_X7_offerSet_2]; unfold F_X7_offerSet_2
    rw [ho]
    exact u_r ⟨h7, h8, Fr.refl _⟩
  obtain ⟨g, ge, hG⟩ := g1 hg; subst ge; clear hg; have hg := hG; clear hG; rw [E_X7_offerSet_0]; unfold F_X7_offerSet_0
  refine o_I (T_bitCount hs (by omega)) ?_
  rintro _ S ⟨rfl, rfl⟩
  rw [h8]
  refine o_I (T_bitCount hx2 (by omega)) ?_
  rintro _ S ⟨rfl, rfl⟩
  refine o_lI ?_
  rw [h7, h8]
  have es : (if nI (pc s) < nI (pc x.2) then (1 : Int32) else if nI (pc s) = nI (pc x.2) then if nI x.2 ≤ nI s then (0 : Int32) else 1 else 0) = if (pc s < pc x.2 ∨ (pc s = pc x.2 ∧ s < x.2)) then 1 else 0 := by
    by_cases c1 : pc s < pc x.2
    · rw [if_pos (nI_lt c1 (by omega)), if_pos (Or.inl c1)]
    · rw [if_neg (nI_nlt (by omega) (by omega))]
      by_cases c2 : pc s = pc x.2
      · rw [if_pos (by rw [c2])]
        by_cases c3 : s < x.2
        · rw [if_neg (nI_ge c3 (by omega)), if_pos (Or.inr ⟨c2, c3⟩)]
        · rw [if_pos (nI_le (by omega) (by omega)), if_neg (by omega)]
      · rw [if_neg (nI_ne c2 (by omega) (by omega)), if_neg (by omega)]
  rw [es]
  refine o_if (fun c => ?_) (fun c => ?_)
  · rw [nI_ltI (by omega) (by omega)] at c
    exact yes S g (by omega) rfl (if_pos (Or.inl c))
  · rw [nI_ltI (by omega) (by omega)] at c
    refine o_if (fun c2 => ?_) (fun c2 => ?_)
    · rw [nI_eq (by omega) (by omega)] at c2
      by_cases c3 : pc s < pc x.2 ∨ (pc s = pc x.2 ∧ s < x.2)
      · rw [if_pos c3]
        exact o_f (by decide) (yes S g (by omega) rfl (if_pos (Or.inr ⟨c2, c3⟩)))
      · rw [if_neg c3]
        exact o_t rfl (no S g (by omega) rfl (if_neg (fun h => h.elim c (fun h => c3 h.2))))
    · rw [nI_eq (by omega) (by omega)] at c2
      exact no S g (by omega) rfl (if_neg (fun h => h.elim c (fun h => c2 h.1)))
theorem and_pow (s k : Nat) : s &&& 2 ^ k = if s.testBit k then 2 ^ k else 0 := by
  apply Nat.eq_of_testBit_eq
  intro j
  rw [Nat.testBit_and, Nat.testBit_two_pow]
  by_cases e : k = j
  · subst e
    cases hg : s.testBit k <;> simp [Nat.testBit_two_pow]
  · rw [decide_eq_false e, Bool.and_false]
    cases hg : s.testBit k
    · simp
    · simp [Nat.testBit_two_pow, e]
theorem bitA {s k : Nat} (hk : k < 31) (hs : s < 2 ^ 31) : (nI s &&& ((1 : Int32) <<< (nI k &&& 31)) = (0 : Int32)) ↔ s.testBit k = false := by
  rw [sh1 k hk, nI_and, and_pow]
  have h3 := Nat.two_pow_pos k
  have h4 : 2 ^ k ≤ 2 ^ 30 := Nat.pow_le_pow_right (by omega) (by omega)
  cases hb : s.testBit k with
  | false => simp; rfl
  | true =>
    simp
    exact nI_ne0 h3 (by omega)
theorem T_X7_liesWithBins {s m : Nat} (hX : CX S q P) (hL : LA S 43 (pY P) (pDe P) L) (hB : LI B L) (hs : s < 2 ^ 31) (hm : m ≤ 30) (hg : 4300 ≤ f) : zI (F_X7_liesWithBins f 0 [.ref 123, .int (nI s), .int (nI m)] S) (fun v T => v = nI (plV P L m s) ∧ Fr (dW 138) S T) := by
  have hy := hX.pi.1.2.1
  have hd9 := hX.pi.1.2.2.2.2.2
  have lk1 : lk 138 := lkd (show 1 < 7 by omega)
  obtain ⟨g, ge, hG⟩ := g1 hg; subst ge; clear hg; have hg := hG; clear hG; rw [E_X7_liesWithBins_0]; unfold F_X7_liesWithBins_0
  refine o_X (n := 1) rfl (by omega) ?_
  rw [hX.s3, hX.s0, hX.sd (show 1 < 7 by omega)]
  refine o_V (T_now hX hL lk1 (by omega) (by omega)) ?_
  rintro S1 ⟨l1, -, x1, f1⟩
  refine o_loop (F := fun f vs S => F_X7_liesWithBins f 1 vs S) (c := 2) (B := 4210) (y := (pY P)) (fun k vs T => vs = [.ref 123, .int (nI s), .int (nI m), .ref 138, .int (nI k)] ∧ LA T 138 (pY P) (pDe P) (plc L s m k) ∧ Fr (dL 138) S T) ?_ ?_ 0 _ S1 g (by omega) ⟨rfl, l1, f1⟩ (by omega)
  · rintro k _ T g hk ⟨rfl, hT, hf⟩ hg rec
    show zO (F_X7_liesWithBins g 1 _ _) _
    obtain ⟨g, ge, hG⟩ := g1 hg; subst ge; clear hg; have hg := hG; clear hG; rw [E_X7_liesWithBins_1]; unfold F_X7_liesWithBins_1
    rw [hT.yy]
    refine o_f (nI_ge hk (by omega)) ?_
    have e : plc L s m (k + 1) = if s.testBit k then setB (plc L s m k) k m else plc L s m k := rfl
    refine o_if (fun c => ?_) (fun c => ?_)
    · rw [bitA (by omega) hs] at c
      rw [if_neg (by rw [c]; decide)] at e
      obtain ⟨g, ge, hG⟩ := g1 hg; subst ge; clear hg; have hg := hG; clear hG; rw [E_X7_liesWithBins_2]; unfold F_X7_liesWithBins_2
      exact rec g _ _ (by omega) ⟨by rw [nI_1], by rw [e]; exact hT, hf⟩
    · rw [bitA (by omega) hs] at c
      rw [if_pos (by simpa using c)] at e
      refine o_V (T_X4_setBin hT (by omega) (by omega)) ?_
      rintro T2 ⟨t2, g2⟩
      obtain ⟨g, ge, hG⟩ := g1 hg; subst ge; clear hg; have hg := hG; clear hG; rw [E_X7_liesWithBins_2]; unfold F_X7_liesWithBins_2
      exact rec g _ _ (by omega) ⟨by rw [nI_1], by rw [e]; exact t2, hf.tr g2⟩
  · rintro _ T g ⟨rfl, hT, hf⟩ hg
    have xT := hX.l hf lk1
    show zO (F_X7_liesWithBins g 1 _ _) _
    obtain ⟨g, ge, hG⟩ := g1 hg; subst ge; clear hg; have hg := hG; clear hG; rw [E_X7_liesWithBins_1]; unfold F_X7_liesWithBins_1
    rw [hT.yy, xT.s1]
    refine o_t (nI_le (Nat.le_refl _) (by omega)) ?_
    refine o_V (T_X9_all xT hT (plc_LI hB hm _ hy) hd9 lk1 (by omega)) ?_
    rintro T2 ⟨t2, g2⟩
    refine o_I (T_X4_total t2 hy (by omega)) ?_
    rintro _ T2 ⟨rfl, rfl⟩
    exact i_r ⟨rfl, hf.lw g2⟩
theorem and_0 {s y : Nat} {g : Nat → Bool} : s &&& bs g y = 0 ↔ ∀ k, k < y → ¬ (s.testBit k = true ∧ g k = true) := by
  constructor
  · intro h k hk hh
    have : (s &&& bs g y).testBit k = false := by rw [h]; exact Nat.zero_testBit k
    rw [Nat.testBit_and, bs_tb, decide_eq_true hk, hh.1, hh.2] at this
    exact absurd this (by decide)
  · intro h
    apply Nat.eq_of_testBit_eq
    intro k
    rw [Nat.testBit_and, bs_tb, Nat.zero_testBit]
    by_cases hk : k < y
    · rw [decide_eq_true hk]
      cases h1 : s.testBit k
      · rfl
      · cases h2 : g k
        · rfl
        · exact absurd ⟨h1, h2⟩ (h k hk)
    · rw [decide_eq_false hk, Bool.false_and, Bool.and_false]
theorem pow8 {y : Nat} (h : y ≤ 8) : 2 ^ y ≤ 256 := Nat.pow_le_pow_right (n := 2) (by omega) h
theorem T_X7_placeBins {b m : Nat} (hX : CX S q P) (hL : LA S 43 (pY P) (pDe P) L) (hB : LI B L) (h7 : gI S 123 7 = nI 7993) (h8 : gI S 123 8 = nI 0) (hb : b ≤ 4) (hm : m ≤ 30) (hg : 5500 ≤ f) : zU (F_X7_placeBins f 0 [.ref 123, .int (nI b), .int (nI m)] S) (fun T => gI T 123 7 = nI (plN P L b m (2 ^ pY P)).1 ∧ gI T 123 8 = nI (plN P L b m (2 ^ pY P)).2 ∧ Fr dJ S T) := by
  have hy := hX.pi.1.2.1
  have hp8 := pow8 hy
  obtain ⟨N, hN⟩ : ∃ N, N = 2 ^ pY P := ⟨_, rfl⟩
  rw [← hN] at hp8 ⊢
  obtain ⟨g, ge, hG⟩ := g1 hg; subst ge; clear hg; have hg := hG; clear hG; rw [E_X7_placeBins_0]; unfold F_X7_placeBins_0
  rw [hX.s0]
  refine o_I (T_X4_binBits hL hB hy (by omega)) ?_
  rintro _ S ⟨rfl, rfl⟩
  refine o_loop (F := fun f vs S => F_X7_placeBins f 1 vs S) (c := 2) (B := 4310) (y := N) (fun s vs T => vs = [.ref 123, .int (nI b), .int (nI m), .int (nI (bs (fun k => L (12 + k) != 0) (pY P))), .int (nI s)] ∧ gI T 123 7 = nI (plN P L b m s).1 ∧ gI T 123 8 = nI (plN P L b m s).2 ∧ Fr dJ S T) ?_ ?_ 0 _ S g (by omega) ⟨rfl, h7, h8, Fr.refl S⟩ (by omega)
  · rintro s _ T g hs ⟨rfl, t7, t8, hf⟩ hg rec
    have xT := hX.j hf
    have lT := hL.j43 hf
    obtain ⟨i1, i2⟩ := plN_i (b := b) hX.pi hB hm s
    have hv := plV_le (s := s) hX.pi hB hm
    show zO (F_X7_placeBins g 1 _ _) _
    obtain ⟨g, ge, hG⟩ := g1 hg; subst ge; clear hg; have hg := hG; clear hG; rw [E_X7_placeBins_1]; unfold F_X7_placeBins_1
    rw [xT.s0, lT.yy, sh1 _ (by omega), ← hN]
    refine o_f (nI_ge hs (by omega)) ?_
    have e : plN P L b m (s + 1) = if okS L (pY P) b s then offS (plN P L b m s) (plV P L m s) s else plN P L b m s := rfl
    have hbl := bs_lt (fun k => L (12 + k) != 0) (pY P)
    have hand : s &&& bs (fun k => L (12 + k) != 0) (pY P) < 256 := Nat.lt_of_le_of_lt Nat.and_le_left (by omega)
    have h0 : (nI s &&& nI (bs (fun k => L (12 + k) != 0) (pY P)) = (0 : Int32)) ↔ ∀ k, k < pY P → ¬ (s.testBit k = true ∧ L (12 + k) ≠ 0) := by
      rw [nI_and, show (0 : Int32) = nI 0 from rfl, nI_eq (by omega) (by omega), and_0]
      simp only [bne_iff_ne]
    have hpc : pc s ≤ 8 := cnt_le _ 8
    have skip : ∀ (g2 : Nat), g ≤ g2 → ¬ okS L (pY P) b s = true → (∀ g' vs' S', g + 1 ≤ g' + 2 → vs' = [.ref 123, .int (nI b), .int (nI m), .int (nI (bs (fun k => L (12 + k) != 0) (pY P))), .int (nI (s + 1))] ∧ gI S' 123 7 = nI (plN P L b m (s + 1)).1 ∧ gI S' 123 8 = nI (plN P L b m (s + 1)).2 ∧ Fr dJ S S' → zO (F_X7_placeBins g' 1 vs' S') (fun v S_1 => v = none ∧ (fun T => gI T 123 7 = nI (plN P L b m N).1 ∧ gI T 123 8 = nI (plN P L b m N).2 ∧ Fr dJ S T) S_1)) → zU (F_X7_placeBins g2 2 [.ref 123, .int (nI b), .int (nI m), .int (nI (bs (fun k => L (12 + k) != 0) (pY P))), .int (nI s)] T) (fun T => gI T 123 7 = nI (plN P L b m N).1 ∧ gI T 123 8 = nI (plN P L b m N).2 ∧ Fr dJ S T) := by
      intro g2 hg2 hno rec
      obtain ⟨g2, rfl, hg3⟩ := g1 (n := 4310) (f := g2) (by omega)
      rw [E_X7_placeBins_2]; unfold F_X7_placeBins_2
      rw [if_neg hno] at e
      exact rec g2 _ _ (by omega) ⟨by rw [nI_1], by rw [e]; exact t7, by rw [e]; exact t8, hf⟩
    refine o_if (fun c => ?_) (fun c => ?_)
    · rw [h0] at c
      refine o_I (T_bitCount (by omega) (by omega)) ?_
      rintro _ T ⟨rfl, rfl⟩
      refine o_if (fun c2 => ?_) (fun c2 => ?_)
      · rw [nI_ltI (by omega) (by omega)] at c2
        refine skip g (Nat.le_refl _) ?_ rec
        unfold okS
        rw [decide_eq_false (by omega), Bool.false_and]
        decide
      · rw [nI_ltI (by omega) (by omega)] at c2
        have hok : okS L (pY P) b s = true := by
          unfold okS
          rw [decide_eq_true (by omega), decide_eq_true c]
          rfl
        rw [if_pos hok] at e
        refine o_I (T_X7_liesWithBins xT lT hB (by omega) hm (by omega)) ?_
        rintro _ T2 ⟨rfl, g2⟩
        refine o_V (T_X7_offerSet (x := plN P L b m s) (by rw [g2.2 _ _ (by unfold dW; omega)]; exact t7) (by rw [g2.2 _ _ (by unfold dW; omega)]; exact t8) (by omega) (by omega) (by omega) (by omega) (by omega)) ?_
        rintro T3 ⟨z7, z8, g3⟩
        obtain ⟨g, ge, hG⟩ := g1 hg; subst ge; clear hg; have hg := hG; clear hG; rw [E_X7_placeBins_2]; unfold F_X7_placeBins_2
        refine rec g _ _ (by omega) ⟨by rw [nI_1], by rw [e]; exact z7, by rw [e]; exact z8, (hf.tr (g2.mono (dWd_dJ (i := 1) (by omega)))).tr (g3.mono (fun x k d => by unfold dJ; omega))⟩
    · rw [h0] at c
      refine skip g (Nat.le_refl _) ?_ rec
      unfold okS
      rw [decide_eq_false c, Bool.and_false]
      decide
  · rintro _ T g ⟨rfl, t7, t8, hf⟩ hg
    have xT := hX.j hf
    have lT := hL.j43 hf
    show zO (F_X7_placeBins g 1 _ _) _
    obtain ⟨g, ge, hG⟩ := g1 hg; subst ge; clear hg; have hg := hG; clear hG; rw [E_X7_placeBins_1]; unfold F_X7_placeBins_1
    rw [xT.s0, lT.yy, sh1 _ (by omega), ← hN]
    exact o_t (nI_le (Nat.le_refl _) (by omega)) (u_r ⟨t7, t8, hf⟩)
theorem T_X13_bits {m : Nat} (hm : m < 256) (hg : 40 ≤ f) : zI (F_X13_bits f 0 [.int (nI m)] S) (fun x T => x = nI (pc m) ∧ T = S) := by
  obtain ⟨g, ge, hG⟩ := g1 hg; subst ge; clear hg; have hg := hG; clear hG; rw [E_X13_bits_0]; unfold F_X13_bits_0
  refine o_loop (F := fun f vs S => F_X13_bits f 1 vs S) (c := 1) (B := 2) (y := 30) (fun k vs T => vs = [.int (nI m), .int (nI (cnt (fun k => m.testBit k) k)), .int (nI k)] ∧ T = S) ?_ ?_ 0 _ S g (by omega) ⟨rfl, rfl⟩ (by omega)
  · rintro k _ S g hk ⟨rfl, rfl⟩ hg rec
    show zO (F_X13_bits g 1 _ _) _
    obtain ⟨g, ge, hG⟩ := g1 hg; subst ge; clear hg; have hg := hG; clear hG; rw [E_X13_bits_1]; unfold F_X13_bits_1
    refine o_f (nI_ge (b := 30) hk (by omega)) ?_
    rw [bitI (by omega) (by omega), nI_add]
    exact rec g _ _ (by omega) ⟨by rw [nI_1]; rfl, rfl⟩
  · rintro _ S g ⟨rfl, rfl⟩ hg
    show zO (F_X13_bits g 1 _ _) _
    obtain ⟨g, ge, hG⟩ := g1 hg; subst ge; clear hg; have hg := hG; clear hG; rw [E_X13_bits_1]; unfold F_X13_bits_1
    refine o_t (nI_le (a := 30) (b := 30) (by omega) (by omega)) (i_r ⟨?_, rfl⟩)
    unfold pc
    rw [cnt_ext (show 8 ≤ 30 by omega) (fun k a b => Nat.testBit_lt_two_pow (Nat.lt_of_lt_of_le (show m < 2 ^ 8 from hm) (Nat.pow_le_pow_right (by omega) a)))]
end PL

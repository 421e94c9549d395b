/-! questions that change nothing: both sides -/
def wI (a lo hi : Int32) : Int32 := if a < lo then (0 : Int32) else if hi < a then (0 : Int32) else 1
theorem wI_n {a : Int32} {lo hi : Nat} (hlo : lo ≤ hi) (hhi : hi < 2 ^ 30) : (wI a (nI lo) (nI hi) = 0) ∨ ∃ j : Nat, lo ≤ j ∧ j ≤ hi ∧ a = nI j ∧ wI a (nI lo) (nI hi) = 1 := by
  unfold wI
  rcases pk_ix a (n := hi + 1) (by omega) with h | h | ⟨j, hj, rfl⟩
  · left
    rw [if_pos]
    rw [Int32.lt_iff_toInt_lt] at h ⊢
    rw [nI_toInt (by omega)]
    have : (0 : Int32).toInt = 0 := rfl
    omega
  · left
    by_cases c : a < nI lo
    · rw [if_pos c]
    · rw [if_neg c, if_pos]
      rw [Int32.le_iff_toInt_le, nI_toInt (by omega)] at h
      rw [Int32.lt_iff_toInt_lt, nI_toInt (by omega)]
      omega
  · by_cases c : j < lo
    · left
      rw [if_pos (nI_lt c (by omega))]
    · right
      exact ⟨j, by omega, by omega, rfl, by rw [if_neg (nI_nlt (by omega) (by omega)), if_neg (nI_nlt (by omega) (by omega))]⟩
theorem wI_01 (a lo hi : Int32) : wI a lo hi = 0 ∨ wI a lo hi = 1 := by
  unfold wI
  split
  · exact Or.inl rfl
  · split
    · exact Or.inl rfl
    · exact Or.inr rfl
theorem T_X12_isWithin {S : aS} {f : Nat} {a lo hi : Int32} (hg : 1 ≤ f) : zI (F_X12_isWithin f 0 [.int a, .int lo, .int hi] S) (fun x T => x = wI a lo hi ∧ T = S) := by
  obtain ⟨g, ge, hG⟩ := g1 hg; subst ge; clear hg; have hg := hG; clear hG; rw [E_X12_isWithin_0]; unfold F_X12_isWithin_0
  exact o_Z (wI_01 a lo hi) (i_r ⟨rfl, rfl⟩)
theorem T_X13_within {S : aS} {f : Nat} {a lo hi : Int32} (hg : 1 ≤ f) : zI (F_X13_within f 0 [.int a, .int lo, .int hi] S) (fun x T => x = wI a lo hi ∧ T = S) := by
  obtain ⟨g, ge, hG⟩ := g1 hg; subst ge; clear hg; have hg := hG; clear hG; rw [E_X13_within_0]; unfold F_X13_within_0
  exact o_Z (wI_01 a lo hi) (i_r ⟨rfl, rfl⟩)
/-- both answer alike, from any state that both are in -/
def Both (n : Nat) (rC rM : aS → aR) : Prop := ∀ S T A, CI S A → MI T A → AI n A → ∃ v A', AI (n + 1) A' ∧ UC S (rC S) v A' ∧ UM T (rM T) v A'
theorem Both.ro {n : Nat} {rC rM : aS → aR} (h : ∀ S T A q, CI S A → CX S q (plA A) → LA S 43 (pY (plA A)) (pDe (plA A)) (lkA A) → MI T A → AI n A → LI n (lkA A) → pDe (plA A) ≤ 9 → ∃ v, zI (rC S) (fun x U => x = v ∧ Fr dJ S U) ∧ zI (rM T) (fun x U => x = v ∧ Fr mJ T U)) : Both n rC rM := by
  intro S T A hC hM hA
  obtain ⟨q, ⟨hX, hb, hL, hF⟩, hr⟩ := id hC
  obtain ⟨v, h1, h2⟩ := h S T A q hC hX hL hM hA hA.2.1.2.1 hX.pi.1.2.2.2.2.2
  exact ⟨v, A, hA.up (by omega), UC.of hC h1, UM.of hM hA h2⟩
/-- the reference at the begin of a call -/
def MX (S : aS) (P : aP) (L : Lk) : Prop := MM S P ∧ MA S 0 L ∧ DN S P (pDe P) ∧ PI P
theorem MI.x {S : aS} {A : aA} {n : Nat} (h : MI S A) (hA : AI n A) : MX S (plA A) (lkA A) := ⟨h.1.1, h.1.2.1, ⟨Or.inl ⟨by rw [h.1.2.2.2]; decide, rfl⟩, hA.2.1.1.1.2.2.2.2.2⟩, hA.2.1.1⟩
theorem MX.fr {S T : aS} {P : aP} {L : Lk} {D : Nat → Nat → Prop} (h : MX S P L) (hf : Fr D S T) (hD : ∀ x k, D x k → mJ x k) : MX T P L := ⟨h.1.fr hf (fun q k a b d => by have := hD q k d; unfold mJ at this; omega), h.2.1.fr hf (fun k a b d => by have := hD _ k d; unfold mJ at this; omega), h.2.2.1.fr hf (fun d => by have := hD _ _ d; unfold mJ at this; omega), h.2.2.2⟩
theorem MX.j {S T : aS} {P : aP} {L : Lk} (h : MX S P L) (hf : Fr mJ S T) : MX T P L := h.fr hf (fun _ _ d => d)
theorem dX_mJ {b : Nat} (hb : 756 ≤ b) (q k : Nat) (h : dX b q k) : mJ q k := by unfold dX at h; unfold mJ; omega
section P1
variable {S T : aS} {q : Nat} {P : aP} {L : Lk} {f n : Nat}
theorem CX.c0 (h : CX S q P) : gR S 0 0 = 1 := h.1.1 0 0 (by omega) rfl
theorem CX.c1 (h : CX S q P) : gR S 0 1 = q := h.1.2.1
theorem CX.c5 (h : CX S q P) : gR S 0 5 = 43 := h.1.1 0 5 (by omega) rfl
theorem CX.c6 (h : CX S q P) : gR S 0 6 = 47 := h.1.1 0 6 (by omega) rfl
theorem CX.c7 (h : CX S q P) : gR S 0 7 = 49 := h.1.1 0 7 (by omega) rfl
theorem CX.c8 (h : CX S q P) : gR S 0 8 = 115 := h.1.1 0 8 (by omega) rfl
theorem CX.c9 (h : CX S q P) : gR S 0 9 = 116 := h.1.1 0 9 (by omega) rfl
theorem CX.c11 (h : CX S q P) : gR S 0 11 = 117 := h.1.1 0 11 (by omega) rfl
theorem CX.c12 (h : CX S q P) : gR S 0 12 = 123 := h.1.1 0 12 (by omega) rfl
theorem dW_dJ (x k : Nat) (h : dW 118 x k) : dJ x k := by unfold dW at h; unfold dJ; omega
theorem dC_dJ (x k : Nat) (h : dC x k) : dJ x k := by unfold dC at h; unfold dJ; omega
theorem dF_mJ (x k : Nat) (h : dF x k) : mJ x k := by unfold dF at h; unfold mJ; omega
theorem B_lies (hg : 100 ≤ f) : Both n (fun S => F_X12_lies f 0 [.ref 0] S) (fun S => F_X13_lies f 0 [.ref 186] S) := by
  refine Both.ro (fun S T A q hC hX hL hM hA hB hd => ?_)
  have mx := hM.x hA
  refine ⟨nI (tot (pY (plA A)) (lkA A)), ?_, ?_⟩
  · obtain ⟨g, ge, hG⟩ := g1 hg; subst ge; clear hg; have hg := hG; clear hG; rw [E_X12_lies_0]; unfold F_X12_lies_0
    rw [hX.c5]
    refine o_I (T_X4_total hL hX.pi.1.2.1 (by omega)) ?_
    rintro _ S ⟨rfl, rfl⟩
    exact i_r ⟨rfl, Fr.refl _⟩
  · obtain ⟨g, ge, hG⟩ := g1 hg; subst ge; clear hg; have hg := hG; clear hG; rw [E_X13_lies_0]; unfold F_X13_lies_0
    refine o_s (fun T1 e1 => ?_)
    have f1 := (Fr.refl (D := mJ) T).sI e1 (by unfold mJ; omega)
    have m1 := mx.j f1
    refine o_I (T_X13_lyingIn (b := 0) m1.1 hX.pi m1.2.1 (by omega) (by omega)) ?_
    rintro _ T1 ⟨rfl, rfl⟩
    exact i_r ⟨rfl, f1⟩
theorem B_space (hg : 100 ≤ f) : Both n (fun S => F_X12_space f 0 [.ref 0] S) (fun S => F_X13_space f 0 [.ref 186] S) := by
  refine Both.ro (fun S T A q hC hX hL hM hA hB hd => ?_)
  have mx := hM.x hA
  have hy := hX.pi.1.2.1
  refine ⟨nI (sm (fun k => lkA A (12 + k) - lkA A (20 + k)) (pY (plA A))), ?_, ?_⟩
  · obtain ⟨g, ge, hG⟩ := g1 hg; subst ge; clear hg; have hg := hG; clear hG; rw [E_X12_space_0]; unfold F_X12_space_0
    rw [hX.c5]
    refine o_I (T_X4_room hL hB hX.pi.1.2.1 (by omega)) ?_
    rintro _ S ⟨rfl, rfl⟩
    exact i_r ⟨rfl, Fr.refl _⟩
  · obtain ⟨g, ge, hG⟩ := g1 hg; subst ge; clear hg; have hg := hG; clear hG; rw [E_X13_space_0]; unfold F_X13_space_0
    refine o_s (fun T1 e1 => ?_)
    have f1 := (Fr.refl (D := mJ) T).sI e1 (by unfold mJ; omega)
    have m1 := mx.j f1
    refine o_loop (F := fun f vs S => F_X13_space f 1 vs S) (c := 1) (B := 5) (y := (pY) (plA A)) (fun k vs U => vs = [.ref 186, .int (nI (sm (fun k => lkA A (12 + k) - lkA A (20 + k)) k)), .int (nI k)] ∧ U = T1) ?_ ?_ 0 _ T1 g (by omega) ⟨rfl, rfl⟩ (by omega)
    · rintro k _ T1 g hk ⟨rfl, rfl⟩ hg rec
      show zO (F_X13_space g 1 _ _) _
      obtain ⟨g, ge, hG⟩ := g1 hg; subst ge; clear hg; have hg := hG; clear hG; rw [E_X13_space_1]; unfold F_X13_space_1
      refine o_I (T_X13_yards m1.1 (by omega)) ?_
      rintro _ T1 ⟨rfl, rfl⟩
      refine o_f (nI_ge hk (by omega)) ?_
      refine o_X (nA2' (n := 12) rfl) (by omega) ?_
      refine o_X (nA2' (n := 20) rfl) (by omega) ?_
      have hb := hB.2 k (by omega)
      have e12 : gI T1 200 (12 + k) = nI (lkA A (12 + k)) := by have := m1.2.1 (12 + k) (by omega); rw [Nat.zero_add] at this; exact this
      have e20 : gI T1 200 (20 + k) = nI (lkA A (20 + k)) := by have := m1.2.1 (20 + k) (by omega); rw [Nat.zero_add] at this; exact this
      rw [m1.1.1.state, e12, e20, pk_sub hb.2.1, nI_add]
      refine o_lI ?_
      exact rec g _ _ (by omega) ⟨by rw [nI_1]; rfl, rfl⟩
    · rintro _ T1 g ⟨rfl, rfl⟩ hg
      show zO (F_X13_space g 1 _ _) _
      obtain ⟨g, ge, hG⟩ := g1 hg; subst ge; clear hg; have hg := hG; clear hG; rw [E_X13_space_1]; unfold F_X13_space_1
      refine o_I (T_X13_yards m1.1 (by omega)) ?_
      rintro _ T1 ⟨rfl, rfl⟩
      exact o_t (nI_le (Nat.le_refl _) (by omega)) (i_r ⟨rfl, f1⟩)
theorem MA.z {k : Nat} (h : MA S 0 L) (hk : k < 28) : gI S 200 k = nI (L k) := by have := h k hk; rw [Nat.zero_add] at this; exact this
theorem B_heaps {v : Int32} (hg : 100 ≤ f) : Both n (fun S => F_X12_heaps f 0 [.ref 0, .int v] S) (fun S => F_X13_heaps f 0 [.ref 186, .int v] S) := by
  refine Both.ro (fun S T A q hC hX hL hM hA hB hd => ?_)
  have mx := hM.x hA
  have hy := hX.pi.1.2.1
  refine ⟨nI (bs (fun k => decide (v < nI (lkA A (4 + k)))) (pY (plA A))), ?_, ?_⟩
  · obtain ⟨g, ge, hG⟩ := g1 hg; subst ge; clear hg; have hg := hG; clear hG; rw [E_X12_heaps_0]; unfold F_X12_heaps_0
    rw [hX.c5]
    refine o_I (T_X4_above hL hX.pi.1.2.1 (by omega)) ?_
    rintro _ S ⟨rfl, rfl⟩
    exact i_r ⟨rfl, Fr.refl _⟩
  · obtain ⟨g, ge, hG⟩ := g1 hg; subst ge; clear hg; have hg := hG; clear hG; rw [E_X13_heaps_0]; unfold F_X13_heaps_0
    refine o_s (fun T1 e1 => ?_)
    have f1 := (Fr.refl (D := mJ) T).sI e1 (by unfold mJ; omega)
    have m1 := mx.j f1
    refine o_loop (F := fun f vs S => F_X13_heaps f 1 vs S) (c := 1) (B := 5) (y := (pY) (plA A)) (fun k vs U => vs = [.ref 186, .int v, .int (nI (bs (fun k => decide (v < nI (lkA A (4 + k)))) k)), .int (nI k)] ∧ U = T1) ?_ ?_ 0 _ T1 g (by omega) ⟨rfl, rfl⟩ (by omega)
    · rintro k _ T1 g hk ⟨rfl, rfl⟩ hg rec
      show zO (F_X13_heaps g 1 _ _) _
      obtain ⟨g, ge, hG⟩ := g1 hg; subst ge; clear hg; have hg := hG; clear hG; rw [E_X13_heaps_1]; unfold F_X13_heaps_1
      refine o_I (T_X13_yards m1.1 (by omega)) ?_
      rintro _ T1 ⟨rfl, rfl⟩
      refine o_f (nI_ge hk (by omega)) ?_
      refine o_X (nA2' (n := 4) rfl) (by omega) ?_
      rw [m1.1.1.state, m1.2.1.z (k := 4 + k) (by omega)]
      refine o_lI ?_
      rw [bs_orI (fun k => decide (v < nI (lkA A (4 + k)))) (by omega) (by rw [decide_eq_false_iff_not, Int32.not_lt])]
      exact rec g _ _ (by omega) ⟨by rw [nI_1], rfl⟩
    · rintro _ T1 g ⟨rfl, rfl⟩ hg
      show zO (F_X13_heaps g 1 _ _) _
      obtain ⟨g, ge, hG⟩ := g1 hg; subst ge; clear hg; have hg := hG; clear hG; rw [E_X13_heaps_1]; unfold F_X13_heaps_1
      refine o_I (T_X13_yards m1.1 (by omega)) ?_
      rintro _ T1 ⟨rfl, rfl⟩
      exact o_t (nI_le (Nat.le_refl _) (by omega)) (i_r ⟨rfl, f1⟩)
theorem B_yard {a b : Int32} (hg : 100 ≤ f) : Both n (fun S => F_X12_yard f 0 [.ref 0, .int a, .int b] S) (fun S => F_X13_yard f 0 [.ref 186, .int a, .int b] S) := by
  refine Both.ro (fun S T A q hC hX hL hM hA hB hd => ?_)
  have mx := hM.x hA
  have hy := hX.pi.1.2.1
  obtain ⟨T1, e1⟩ : ∃ T1, T1 = sI T 186 0 0 := ⟨_, rfl⟩
  have f1 := (Fr.refl (D := mJ) T).sI e1 (by unfold mJ; omega)
  have m1 := mx.j f1
  rcases ix a (n := pY (plA A)) with ha | ⟨k, hk, rfl⟩
  · refine ⟨-1, ?_, ?_⟩
    · obtain ⟨g, ge, hG⟩ := g1 hg; subst ge; clear hg; have hg := hG; clear hG; rw [E_X12_yard_0]; unfold F_X12_yard_0
      rw [hX.c5]
      refine o_I (T_X4_hasYard0 hL ha (by omega)) ?_
      rintro _ S ⟨rfl, rfl⟩
      exact o_t rfl (i_r ⟨rfl, Fr.refl _⟩)
    · obtain ⟨g, ge, hG⟩ := g1 hg; subst ge; clear hg; have hg := hG; clear hG; rw [E_X13_yard_0]; unfold F_X13_yard_0
      rw [← e1]
      show zO (bI _ _) _
      refine o_I (T_X13_isYard0 m1.1 ha (by omega)) ?_
      rintro _ T1 ⟨rfl, rfl⟩
      refine o_t rfl ?_
      obtain ⟨g, ge, hG⟩ := g1 hg; subst ge; clear hg; have hg := hG; clear hG; rw [E_X13_yard_1]; unfold F_X13_yard_1
      exact i_r ⟨rfl, f1⟩
  rcases wI_n (a := b) (lo := 0) (hi := 3) (by omega) (by omega) with hb | ⟨j, hj0, hj, rfl, hb⟩
  · refine ⟨-1, ?_, ?_⟩
    · obtain ⟨g, ge, hG⟩ := g1 hg; subst ge; clear hg; have hg := hG; clear hG; rw [E_X12_yard_0]; unfold F_X12_yard_0
      rw [hX.c5]
      refine o_I (T_X4_hasYard hL hy hk (by omega)) ?_
      rintro _ S ⟨rfl, rfl⟩
      refine o_f (by decide) ?_
      have n0 : ¬ b = 0 := fun e => by rw [e] at hb; exact absurd hb (by decide)
      have n1 : ¬ b = 1 := fun e => by rw [e] at hb; exact absurd hb (by decide)
      have n2 : ¬ b = 2 := fun e => by rw [e] at hb; exact absurd hb (by decide)
      have n3 : ¬ b = 3 := fun e => by rw [e] at hb; exact absurd hb (by decide)
      exact o_f n0 (o_f n1 (o_f n2 (o_f n3 (i_r ⟨rfl, Fr.refl _⟩))))
    · obtain ⟨g, ge, hG⟩ := g1 hg; subst ge; clear hg; have hg := hG; clear hG; rw [E_X13_yard_0]; unfold F_X13_yard_0
      rw [← e1]
      show zO (bI _ _) _
      refine o_I (T_X13_isYard m1.1 hX.pi hk (by omega)) ?_
      rintro _ T1 ⟨rfl, rfl⟩
      refine o_f (by decide) ?_
      refine o_I (T_X13_within (by omega)) ?_
      rintro _ T1 ⟨rfl, rfl⟩
      refine o_t hb ?_
      obtain ⟨g, ge, hG⟩ := g1 hg; subst ge; clear hg; have hg := hG; clear hG; rw [E_X13_yard_1]; unfold F_X13_yard_1
      exact i_r ⟨rfl, f1⟩
  refine ⟨nI (if j = 0 then lkA A (4 + k) else if j = 1 then lkA A (12 + k) else if j = 2 then lkA A (20 + k) else near (pY (plA A)) (lkA A) k), ?_, ?_⟩
  · obtain ⟨g, ge, hG⟩ := g1 hg; subst ge; clear hg; have hg := hG; clear hG; rw [E_X12_yard_0]; unfold F_X12_yard_0
    rw [hX.c5]
    refine o_I (T_X4_hasYard hL hy hk (by omega)) ?_
    rintro _ S ⟨rfl, rfl⟩
    refine o_f (by decide) ?_
    rw [hX.c5, hL.r1, hL.r2, hL.r3]
    rcases (show j = 0 ∨ j = 1 ∨ j = 2 ∨ j = 3 by omega) with rfl | rfl | rfl | rfl
    · refine o_t rfl ?_
      exact o_X rfl (show k < 8 by omega) (i_r ⟨hL.l k (by omega), Fr.refl _⟩)
    · refine o_f (by decide) (o_t rfl ?_)
      exact o_X rfl (show k < 8 by omega) (i_r ⟨hL.h k (by omega), Fr.refl _⟩)
    · refine o_f (by decide) (o_f (by decide) (o_t rfl ?_))
      exact o_X rfl (show k < 8 by omega) (i_r ⟨hL.i k (by omega), Fr.refl _⟩)
    · refine o_f (by decide) (o_f (by decide) (o_f (by decide) (o_t rfl ?_)))
      refine o_I (T_X4_nearOf hL hB hy (by omega) (by omega)) ?_
      rintro _ S ⟨rfl, rfl⟩
      exact i_r ⟨rfl, Fr.refl _⟩
  · obtain ⟨g, ge, hG⟩ := g1 hg; subst ge; clear hg; have hg := hG; clear hG; rw [E_X13_yard_0]; unfold F_X13_yard_0
    rw [← e1]
    show zO (bI _ _) _
    refine o_I (T_X13_isYard m1.1 hX.pi hk (by omega)) ?_
    rintro _ T1 ⟨rfl, rfl⟩
    refine o_f (by decide) ?_
    refine o_I (T_X13_within (by omega)) ?_
    rintro _ T1 ⟨rfl, rfl⟩
    refine o_f (fun e => by have hb : wI (nI j) 0 3 = 1 := hb; rw [hb] at e; exact absurd e (by decide)) ?_
    rw [m1.1.1.state]
    rcases (show j = 0 ∨ j = 1 ∨ j = 2 ∨ j = 3 by omega) with rfl | rfl | rfl | rfl
    · refine o_t rfl ?_
      refine o_X (nA2' (n := 4) rfl) (by omega) ?_
      obtain ⟨g, ge, hG⟩ := g1 hg; subst ge; clear hg; have hg := hG; clear hG; rw [E_X13_yard_2]; unfold F_X13_yard_2
      exact i_r ⟨m1.2.1.z (by omega), f1⟩
    · refine o_f (by decide) (o_t rfl ?_)
      refine o_X (nA2' (n := 12) rfl) (by omega) ?_
      obtain ⟨g, ge, hG⟩ := g1 hg; subst ge; clear hg; have hg := hG; clear hG; rw [E_X13_yard_2]; unfold F_X13_yard_2
      exact i_r ⟨m1.2.1.z (by omega), f1⟩
    · refine o_f (by decide) (o_f (by decide) (o_t rfl ?_))
      refine o_X (nA2' (n := 20) rfl) (by omega) ?_
      obtain ⟨g, ge, hG⟩ := g1 hg; subst ge; clear hg; have hg := hG; clear hG; rw [E_X13_yard_2]; unfold F_X13_yard_2
      exact i_r ⟨m1.2.1.z (by omega), f1⟩
    · refine o_f (by decide) (o_f (by decide) (o_f (by decide) ?_))
      refine o_I (T_X13_nearOf (b := 0) m1.1 hX.pi m1.2.1 hB (by omega) (by omega) (by omega)) ?_
      rintro _ T1 ⟨rfl, rfl⟩
      obtain ⟨g, ge, hG⟩ := g1 hg; subst ge; clear hg; have hg := hG; clear hG; rw [E_X13_yard_2]; unfold F_X13_yard_2
      exact i_r ⟨rfl, f1⟩
theorem B_person {a b : Int32} (hg : 4300 ≤ f) : Both n (fun S => F_X12_person f 0 [.ref 0, .int a, .int b] S) (fun S => F_X13_person f 0 [.ref 186, .int a, .int b] S) := by
  refine Both.ro (fun S T A q hC hX hL hM hA hB hd => ?_)
  have mx := hM.x hA
  have hn := hX.pi.1.2.2.1
  obtain ⟨T1, e1⟩ : ∃ T1, T1 = sI T 186 0 0 := ⟨_, rfl⟩
  have f1 := (Fr.refl (D := mJ) T).sI e1 (by unfold mJ; omega)
  have m1 := mx.j f1
  rcases ix a (n := pN (plA A)) with ha | ⟨k, hk, rfl⟩
  · refine ⟨-1, ?_, ?_⟩
    · obtain ⟨g, ge, hG⟩ := g1 hg; subst ge; clear hg; have hg := hG; clear hG; rw [E_X12_person_0]; unfold F_X12_person_0
      rw [hX.c1]
      refine o_I (T_X6_hasPerson0 hX.cp ha (by omega)) ?_
      rintro _ S ⟨rfl, rfl⟩
      exact o_t rfl (i_r ⟨rfl, Fr.refl _⟩)
    · obtain ⟨g, ge, hG⟩ := g1 hg; subst ge; clear hg; have hg := hG; clear hG; rw [E_X13_person_0]; unfold F_X13_person_0
      rw [← e1]
      show zO (bI _ _) _
      refine o_I (T_X13_isPerson0 m1.1 ha (by omega)) ?_
      rintro _ T1 ⟨rfl, rfl⟩
      refine o_t rfl ?_
      obtain ⟨g, ge, hG⟩ := g1 hg; subst ge; clear hg; have hg := hG; clear hG; rw [E_X13_person_1]; unfold F_X13_person_1
      exact i_r ⟨rfl, f1⟩
  rcases wI_n (a := b) (lo := 0) (hi := 3) (by omega) (by omega) with hb | ⟨j, hj0, hj, rfl, hb⟩
  · refine ⟨-1, ?_, ?_⟩
    · obtain ⟨g, ge, hG⟩ := g1 hg; subst ge; clear hg; have hg := hG; clear hG; rw [E_X12_person_0]; unfold F_X12_person_0
      rw [hX.c1]
      refine o_I (T_X6_hasPerson hX.cp hX.pi hk (by omega)) ?_
      rintro _ S ⟨rfl, rfl⟩
      refine o_f (by decide) ?_
      have n0 : ¬ b = 0 := fun e => by rw [e] at hb; exact absurd hb (by decide)
      have n1 : ¬ b = 1 := fun e => by rw [e] at hb; exact absurd hb (by decide)
      have n2 : ¬ b = 2 := fun e => by rw [e] at hb; exact absurd hb (by decide)
      have n3 : ¬ b = 3 := fun e => by rw [e] at hb; exact absurd hb (by decide)
      exact o_f n0 (o_f n1 (o_f n2 (o_f n3 (i_r ⟨rfl, Fr.refl _⟩))))
    · obtain ⟨g, ge, hG⟩ := g1 hg; subst ge; clear hg; have hg := hG; clear hG; rw [E_X13_person_0]; unfold F_X13_person_0
      rw [← e1]
      show zO (bI _ _) _
      refine o_I (T_X13_isPerson m1.1 hX.pi hk (by omega)) ?_
      rintro _ T1 ⟨rfl, rfl⟩
      refine o_f (by decide) ?_
      refine o_I (T_X13_within (by omega)) ?_
      rintro _ T1 ⟨rfl, rfl⟩
      refine o_t hb ?_
      obtain ⟨g, ge, hG⟩ := g1 hg; subst ge; clear hg; have hg := hG; clear hG; rw [E_X13_person_1]; unfold F_X13_person_1
      exact i_r ⟨rfl, f1⟩
  refine ⟨nI (if j < 3 then pT (plA A) j k else tv (plA A) k (lkA A)), ?_, ?_⟩
  · obtain ⟨g, ge, hG⟩ := g1 hg; subst ge; clear hg; have hg := hG; clear hG; rw [E_X12_person_0]; unfold F_X12_person_0
    rw [hX.c1]
    refine o_I (T_X6_hasPerson hX.cp hX.pi hk (by omega)) ?_
    rintro _ S ⟨rfl, rfl⟩
    refine o_f (by decide) ?_
    rw [hX.c1, hX.c5, hX.cp.1.1, hX.cp.1.2.1, hX.cp.1.2.2.1]
    have hp := hX.cp.2.2.1 k hk
    rcases (show j = 0 ∨ j = 1 ∨ j = 2 ∨ j = 3 by omega) with rfl | rfl | rfl | rfl
    · refine o_t rfl ?_
      exact o_X rfl (show k < 6 by omega) (i_r ⟨hp.1, Fr.refl _⟩)
    · refine o_f (by decide) (o_t rfl ?_)
      exact o_X rfl (show k < 6 by omega) (i_r ⟨hp.2.1, Fr.refl _⟩)
    · refine o_f (by decide) (o_f (by decide) (o_t rfl ?_))
      exact o_X rfl (show k < 6 by omega) (i_r ⟨hp.2.2, Fr.refl _⟩)
    · refine o_f (by decide) (o_f (by decide) (o_f (by decide) (o_t rfl ?_)))
      refine o_I (T_X6_takenBy hX.cp hX.2.2.2 hX.pi hL hB hk (by omega)) ?_
      rintro _ S2 ⟨rfl, f2⟩
      exact i_r ⟨rfl, f2.mono dC_dJ⟩
  · obtain ⟨g, ge, hG⟩ := g1 hg; subst ge; clear hg; have hg := hG; clear hG; rw [E_X13_person_0]; unfold F_X13_person_0
    rw [← e1]
    show zO (bI _ _) _
    refine o_I (T_X13_isPerson m1.1 hX.pi hk (by omega)) ?_
    rintro _ T1 ⟨rfl, rfl⟩
    refine o_f (by decide) ?_
    refine o_I (T_X13_within (by omega)) ?_
    rintro _ T1 ⟨rfl, rfl⟩
    refine o_f (fun e => by have hb : wI (nI j) 0 3 = 1 := hb; rw [hb] at e; exact absurd e (by decide)) ?_
    refine o_if (fun c => ?_) (fun c => ?_)
    · rw [show (3 : Int32) = nI 3 from rfl, nI_leI (by omega) (by omega)] at c
      rw [if_neg (by omega)]
      refine o_I (T_X13_takesOf (b := 0) m1.1 hX.pi m1.2.1 hB (by omega) hk (by omega)) ?_
      rintro _ T2 ⟨rfl, f2⟩
      obtain ⟨g, ge, hG⟩ := g1 hg; subst ge; clear hg; have hg := hG; clear hG; rw [E_X13_person_2]; unfold F_X13_person_2
      exact i_r ⟨rfl, f1.tr (f2.mono dF_mJ)⟩
    · rw [show (3 : Int32) = nI 3 from rfl, nI_leI (by omega) (by omega)] at c
      rw [if_pos (by omega)]
      refine o_I (T_X13_personOf m1.1 hX.pi hk (by omega) (by omega)) ?_
      rintro _ T1 ⟨rfl, rfl⟩
      obtain ⟨g, ge, hG⟩ := g1 hg; subst ge; clear hg; have hg := hG; clear hG; rw [E_X13_person_2]; unfold F_X13_person_2
      exact i_r ⟨rfl, f1⟩
end P1

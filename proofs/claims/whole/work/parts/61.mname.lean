/-! names on both sides -/
theorem nmO_s {nm : Nat → List Nat} {l : List Nat} : ∀ (k j i : Nat), j ≤ i → i < j + k → nm i = l → (∀ a, j ≤ a → a < i → nm a ≠ l) → nmO nm l k j = some i
  | 0, j, i, h1, h2, _, _ => by omega
  | k + 1, j, i, h1, h2, h3, h4 => by
    show (if nm j = l then some j else nmO nm l k (j + 1)) = some i
    by_cases e : j = i
    · subst e; rw [if_pos h3]
    · rw [if_neg (h4 j (Nat.le_refl _) (by omega))]
      exact nmO_s k (j + 1) i (by omega) (by omega) h3 (fun a a1 a2 => h4 a (by omega) a2)
theorem nmO_n {nm : Nat → List Nat} {l : List Nat} : ∀ (k j : Nat), (∀ a, j ≤ a → a < j + k → nm a ≠ l) → nmO nm l k j = none
  | 0, j, _ => rfl
  | k + 1, j, h => by
    show (if nm j = l then some j else nmO nm l k (j + 1)) = none
    rw [if_neg (h j (Nat.le_refl _) (by omega))]
    exact nmO_n k (j + 1) (fun a a1 a2 => h a (by omega) (by omega))
theorem nmO_b {nm : Nat → List Nat} {l : List Nat} : ∀ (k j i : Nat), nmO nm l k j = some i → j ≤ i ∧ i < j + k ∧ nm i = l
  | 0, j, i, h => by exact absurd h (by simp [nmO])
  | k + 1, j, i, h => by
    have h' : (if nm j = l then some j else nmO nm l k (j + 1)) = some i := h
    by_cases e : nm j = l
    · rw [if_pos e] at h'
      have := Option.some.inj h'
      subst this
      exact ⟨Nat.le_refl _, by omega, e⟩
    · rw [if_neg e] at h'
      have := nmO_b k (j + 1) i h'
      exact ⟨by omega, by omega, this.2.2⟩
def nmV (o : Option Nat) : Int32 := match o with
  | none => -1
  | some i => nI i
section MN
variable {S T : aS} {f n N : Nat} {tp : List Nat}
theorem cm_25 {q : Nat} (h : 2 ≤ q) (h2 : q ≤ 26) : ∃ i, i < 25 ∧ cm i = q := by
  have hd := co_dec (N := 25) (P := fun k => ((List.range 25).any (fun i => cm i == k + 2)) = true) (by decide +kernel) (show q - 2 < 25 by omega)
  obtain ⟨i, hi, he⟩ := List.any_eq_true.mp hd
  exact ⟨i, List.mem_range.mp hi, by have := beq_iff_eq.mp he; omega⟩
theorem cm_lt {i : Nat} (h : i < 25) : 2 ≤ cm i ∧ cm i ≤ 26 := co_dec (N := 25) (P := fun i => 2 ≤ cm i ∧ cm i ≤ 26) (by decide +kernel) h
theorem M_isName (h : MTk S tp N n) (hg : 70 ≤ f) : zI (F_X13_isName f 0 [.ref 186] S) (fun x T => x = (if qA tp n = true then 1 else 0) ∧ T = S) := by
  replace hg : 69 + 1 ≤ f := hg
  obtain ⟨g, ge, hG⟩ := g1 hg; subst ge; clear hg; have hg := hG; clear hG; rw [E_X13_isName_0]; unfold F_X13_isName_0
  obtain ⟨k1, k2, k3, k4⟩ := h.tk
  have hs5 : (tk tp n).1 < 5 := by
    show (tK tp (tP tp n)).1 < 5
    unfold tK
    repeat' split
    all_goals simp
  refine o_t h.2.2.2.1 ?_
  rw [h.2.2.1.1]
  refine o_X rfl h.lt ?_
  rw [h.1.sort, k1]
  have eq : qA tp n = true ↔ (tk tp n).1 = 1 ∧ (wdO (tk tp n).2.1 = 1 ∨ 27 ≤ wdO (tk tp n).2.1) := by
    unfold qA
    simp only [Bool.and_eq_true, Bool.or_eq_true, beq_iff_eq, decide_eq_true_eq]
  have hb := wdO_b (tk tp n).2.1
  by_cases e : (tk tp n).1 = 1
  · refine o_t (show nI (tk tp n).1 = (1 : Int32) by rw [e]; rfl) ?_
    refine o_I (M_wordHere (a := 0) (c := 25) h (by omega) (by omega)) ?_
    rintro x T1 ⟨t1, hx⟩
    rw [t1]
    have ez : (if (0 : Int32) ≤ x then (0 : Int32) else (1 : Int32)) = (if qA tp n = true then 1 else 0) := by
      rcases hx with ⟨j, j1, j2, j3⟩ | ⟨x1, x2⟩
      · rw [Nat.zero_add] at j3
        have hc := cm_lt j1
        unfold qW at j3
        simp only [Bool.and_eq_true, beq_iff_eq] at j3
        have hw := (wdO_iff (l := (tk tp n).2.1) hc.1 (by omega)).mpr j3.2
        rw [if_pos (by rw [j2]; exact nI_pos' (by omega)), if_neg (fun h => by have := (eq.mp h).2; omega)]
      · rw [if_neg (by rw [x1]; decide), if_pos]
        refine eq.mpr ⟨e, ?_⟩
        by_cases c : wdO (tk tp n).2.1 = 1 ∨ 27 ≤ wdO (tk tp n).2.1
        · exact c
        · exfalso
          obtain ⟨i, i1, i2⟩ := cm_25 (q := wdO (tk tp n).2.1) (by omega) (by omega)
          refine x2 i i1 ?_
          rw [Nat.zero_add]
          unfold qW
          simp only [Bool.and_eq_true, beq_iff_eq]
          exact ⟨e, (wdO_iff (by omega) (by omega)).mp i2.symm⟩
    rw [ez]
    exact o_Z (by split <;> simp) (i_r ⟨rfl, rfl⟩)
  · refine o_f (nI_ne (b := 1) e (by omega) (by omega)) ?_
    replace hg : 68 + 1 ≤ g := by omega
    obtain ⟨g, ge, hG⟩ := g1 hg; subst ge; clear hg; have hg := hG; clear hG; rw [E_X13_isName_1]; unfold F_X13_isName_1
    replace hg : 67 + 1 ≤ g := by omega
    obtain ⟨g, ge, hG⟩ := g1 hg; subst ge; clear hg; have hg := hG; clear hG; rw [E_X13_isName_2]; unfold F_X13_isName_2
    rw [if_neg (fun h => e (eq.mp h).1)]
    exact o_Z (Or.inl rfl) (i_r ⟨rfl, rfl⟩)
/-- which name: z = 0 those of the path, z = 1 those that are being read -/
theorem M_nameAt {nm : Nat → List Nat} {m z : Nat} (h : MTk S tp N n) (h1 : (tk tp n).1 = 1) (hz : z = 0 ∨ z = 1) (hm : m ≤ 6) (hc : gI S 186 (16 + z) = nI m) (hn : ∀ i, i < m → (okN (nm i) ∧ ∀ j, j < i → nm j ≠ nm i) ∧ gJ S (195 + z) i = lN (k37 (nm i))) (hg : 40 ≤ f) : zI (F_X13_nameAt f 0 [.ref 186, .int (nI z)] S) (fun x T => x = nmV (nmO nm (tk tp n).2.1 m 0) ∧ T = S) := by
  obtain ⟨g, ge, hG⟩ := g1 hg; subst ge; clear hg; have hg := hG; clear hG; rw [E_X13_nameAt_0]; unfold F_X13_nameAt_0
  have hok := tk_1 h1
  obtain ⟨k1, k2, k3, k4⟩ := h.tk
  have kv := k3 h1
  refine o_loop (F := fun f vs S => F_X13_nameAt f 1 vs S) (c := 2) (B := 10) (y := m) (fun k vs T => T = S ∧ ∃ x : Int32, vs = [.ref 186, .int (nI z), .int x, .int (nI k)] ∧ ((∃ j, j < k ∧ x = nI j ∧ nm j = (tk tp n).2.1) ∨ (x = -1 ∧ ∀ j, j < k → nm j ≠ (tk tp n).2.1))) ?_ ?_ 0 _ S g (by omega) ⟨rfl, _, rfl, Or.inr ⟨rfl, fun j h => absurd h (by omega)⟩⟩ (by omega)
  · rintro k _ T1 g hk ⟨t1, x, rfl, hx⟩ hg rk
    rw [t1]
    show zO (F_X13_nameAt g 1 _ _) _
    replace hg : 10 + 1 + 1 ≤ g := hg
    obtain ⟨g, ge, hG⟩ := g1 hg; subst ge; clear hg; have hg := hG; clear hG; rw [E_X13_nameAt_1]; unfold F_X13_nameAt_1
    have nxt : ∀ v, v = lN (k37 (nm k)) → zO (F_X13_nameAt g 2 [.ref 186, .int (nI z), .int x, .int (nI k), .long v] S) (fun v S_1 => ∃ x, v = some (.int x) ∧ x = nmV (nmO nm (tk tp n).2.1 m 0) ∧ S_1 = S) := by
      rintro v rfl
      obtain ⟨g, rfl, hg2⟩ := g1 (n := 10) (f := g) (by omega)
      rw [E_X13_nameAt_2]; unfold F_X13_nameAt_2
      rw [h.2.2.1.1]
      refine o_X rfl h.lt ?_
      rw [h.1.value, kv, nI_1]
      by_cases e : nm k = (tk tp n).2.1
      · rw [if_pos (by rw [lg_cmp_eq, k37_i hok (hn k hk).1.1]; exact e)]
        exact o_lI (rk g _ _ (by omega) ⟨rfl, _, rfl, Or.inl ⟨k, by omega, rfl, e⟩⟩)
      · rw [if_neg (by rw [lg_cmp_eq, k37_i hok (hn k hk).1.1]; exact e)]
        refine o_lI (rk g _ _ (by omega) ⟨rfl, _, rfl, ?_⟩)
        rcases hx with ⟨j, j1, j2, j3⟩ | ⟨x1, x2⟩
        · exact Or.inl ⟨j, by omega, j2, j3⟩
        · refine Or.inr ⟨x1, fun j hj => ?_⟩
          by_cases ej : j = k
          · rw [ej]; exact e
          · exact x2 j (by omega)
    have hv := (hn k hk).2
    rcases hz with rfl | rfl
    · rw [show gI S 186 (16 + 0) = gI S 186 16 from rfl] at hc
      refine o_f (by rw [if_pos (show nI 0 = (0 : Int32) from rfl), hc]; exact nI_ge hk (by omega)) ?_
      refine o_t rfl ?_
      refine o_X rfl (show k < 6 by omega) ?_
      rw [show gR S 186 14 = 195 from h.1 14]
      exact nxt _ hv
    · rw [show gI S 186 (16 + 1) = gI S 186 17 from rfl] at hc
      refine o_f (by rw [if_neg (show ¬ nI 1 = (0 : Int32) by decide), hc]; exact nI_ge hk (by omega)) ?_
      refine o_f (by decide) ?_
      refine o_X rfl (show k < 6 by omega) ?_
      rw [show gR S 186 15 = 196 from h.1 15]
      exact nxt _ hv
  · rintro _ T1 g ⟨t1, x, rfl, hx⟩ hg
    rw [t1]
    show zO (F_X13_nameAt g 1 _ _) _
    replace hg : 10 + 1 + 1 ≤ g := hg
    obtain ⟨g, ge, hG⟩ := g1 hg; subst ge; clear hg; have hg := hG; clear hG; rw [E_X13_nameAt_1]; unfold F_X13_nameAt_1
    have hle : (if nI z = (0 : Int32) then gI S 186 16 else gI S 186 17) ≤ nI m := by
      rcases hz with rfl | rfl
      · rw [if_pos (show nI 0 = (0 : Int32) from rfl), show gI S 186 16 = nI m from hc]; exact nI_le (Nat.le_refl _) (by omega)
      · rw [if_neg (show ¬ nI 1 = (0 : Int32) by decide), show gI S 186 17 = nI m from hc]; exact nI_le (Nat.le_refl _) (by omega)
    refine o_t hle (i_r ⟨?_, rfl⟩)
    rcases hx with ⟨j, j1, j2, j3⟩ | ⟨x1, x2⟩
    · rw [nmO_s m 0 j (by omega) (by omega) j3 (fun a _ a2 e => (hn j j1).1.2 a a2 (by rw [e, j3])), j2]; rfl
    · rw [nmO_n m 0 (fun a _ a2 => x2 a (by omega)), x1]; rfl
end MN

/-! the class's reader: numbers, words, names -/
/-- 0, or what is wrong with the number -/
def nW (tp : List Nat) (n a b : Nat) : Nat := if qN tp n = true then (if a ≤ (tk tp n).2.2 ∧ (tk tp n).2.2 ≤ b then 0 else 4) else 1
/-- may it be a name -/
def qA (tp : List Nat) (n : Nat) : Bool := (tk tp n).1 == 1 && (wdO (tk tp n).2.1 == 1 || decide (27 ≤ wdO (tk tp n).2.1))
/-- which of the first k names, from the j-th on -/
def nmO (nm : Nat → List Nat) (l : List Nat) : Nat → Nat → Option Nat
  | 0, _ => none
  | k + 1, j => if nm j = l then some j else nmO nm l k (j + 1)
/-- what comes out of a step that may be wrong -/
def stp (tp : List Nat) (S : aS) (e m : Nat) (P : aS → Prop) (x : Int32) (T : aS) : Prop := if e = 0 then x = 1 ∧ P T else x = 0 ∧ gI T 1 2 = nI (e + 16 * tP tp m) ∧ CTp T tp ∧ Fx dP S T
section CR1
variable {S T : aS} {f n a b q N : Nat} {tp : List Nat}
theorem T_num (h : CTk S tp (tP tp n)) (hb : b < 10000) (hab : a ≤ b) (hg : 4 ≤ f) : zI (F_X8_isNumberWithin f 0 [.ref 1, .int (nI a), .int (nI b)] S) (stp tp S (nW tp n a b) n (fun T => T = S)) := by
  replace hg : 3 + 1 ≤ f := hg
  obtain ⟨g, ge, hG⟩ := g1 hg; subst ge; clear hg; have hg := hG; clear hG; rw [E_X8_isNumberWithin_0]; unfold F_X8_isNumberWithin_0
  unfold nW stp
  by_cases hq : qN tp n = true
  · have h2 : (tk tp n).1 = 2 := by unfold qN at hq; simpa using hq
    have hv := tk_n h2
    refine o_f (fun e => h.num.mp e hq) ?_
    rw [h.nv hq, if_pos hq]
    refine o_I (T_X12_isWithin (by omega)) ?_
    rintro x T1 ⟨rfl, t1⟩
    rw [t1]
    have ew : wI (nI (tk tp n).2.2) (nI a) (nI b) = (if a ≤ (tk tp n).2.2 ∧ (tk tp n).2.2 ≤ b then 1 else 0) := by
      unfold wI
      simp only [nI_ltI (show (tk tp n).2.2 < 2 ^ 31 by omega) (show a < 2 ^ 31 by omega), nI_ltI (show b < 2 ^ 31 by omega) (show (tk tp n).2.2 < 2 ^ 31 by omega)]
      by_cases c1 : (tk tp n).2.2 < a
      · rw [if_pos c1, if_neg (by omega)]
      · rw [if_neg c1]
        by_cases c2 : b < (tk tp n).2.2
        · rw [if_pos c2, if_neg (by omega)]
        · rw [if_neg c2, if_pos (by omega)]
    rw [ew]
    by_cases c : a ≤ (tk tp n).2.2 ∧ (tk tp n).2.2 ≤ b
    · rw [if_pos c, if_pos c]
      refine o_f (by decide) ?_
      replace hg : 2 + 1 ≤ g := hg
      obtain ⟨g, ge, hG⟩ := g1 hg; subst ge; clear hg; have hg := hG; clear hG; rw [E_X8_isNumberWithin_1]; unfold F_X8_isNumberWithin_1
      replace hg : 1 + 1 ≤ g := hg
      obtain ⟨g, ge, hG⟩ := g1 hg; subst ge; clear hg; have hg := hG; clear hG; rw [E_X8_isNumberWithin_2]; unfold F_X8_isNumberWithin_2
      refine o_Z (Or.inr rfl) (i_r ?_)
      rw [if_pos rfl]
      exact ⟨rfl, rfl⟩
    · rw [if_neg c, if_neg c]
      refine o_t rfl ?_
      refine o_I (T_fail (k := 4) h (by omega)) ?_
      rintro x U ⟨rfl, u1, u2, u3⟩
      rw [if_pos rfl]
      refine o_Z (Or.inl rfl) (i_r ?_)
      rw [if_neg (by decide)]
      exact ⟨rfl, u1, u2, u3⟩
  · refine o_t (h.num.mpr hq) ?_
    rw [if_neg hq]
    refine o_I (T_fail (k := 1) h (by omega)) ?_
    rintro x U ⟨rfl, u1, u2, u3⟩
    refine o_Z (Or.inl rfl) (i_r ?_)
    rw [if_neg (by decide)]
    exact ⟨rfl, u1, u2, u3⟩
theorem T_passW (ho : okTp tp) (h : CTk S tp (tP tp n)) (h2 : 2 ≤ q) (h3 : q < 31) (hg : 6201 ≤ f) : zI (F_X8_pass f 0 [.ref 1, .ref q] S) (stp tp S (if qW tp n q = true then 0 else 1) n (fun T => CTk T tp (tP tp (n + 1)) ∧ Fx dT S T)) := by
  replace hg : 6200 + 1 ≤ f := hg
  obtain ⟨g, ge, hG⟩ := g1 hg; subst ge; clear hg; have hg := hG; clear hG; rw [E_X8_pass_0]; unfold F_X8_pass_0
  unfold stp
  by_cases e : qW tp n q = true
  · refine o_t ((h.w h2 h3).mpr e) ?_
    refine o_V (T_next ho h (by omega)) ?_
    rintro U ⟨u1, u2⟩
    refine o_Z (Or.inr rfl) (i_r ?_)
    rw [if_pos e, if_pos rfl]
    exact ⟨rfl, u1, u2⟩
  · refine o_f (fun d => e ((h.w h2 h3).mp d)) ?_
    refine o_I (T_fail (k := 1) h (by omega)) ?_
    rintro x U ⟨rfl, u1, u2, u3⟩
    refine o_Z (Or.inl rfl) (i_r ?_)
    rw [if_neg e, if_neg (by decide)]
    exact ⟨rfl, u1, u2, u3⟩
theorem T_nameTok (h : CTk S tp (tP tp n)) (hg : 4 ≤ f) : zI (F_X8_isNameToken f 0 [.ref 1] S) (stp tp S (if qA tp n = true then 0 else 1) n (fun T => T = S)) := by
  replace hg : 3 + 1 ≤ f := hg
  obtain ⟨g, ge, hG⟩ := g1 hg; subst ge; clear hg; have hg := hG; clear hG; rw [E_X8_isNameToken_0]; unfold F_X8_isNameToken_0
  unfold stp
  have ez : zmay (gR S 1 6) = (0 : Int32) ↔ ¬ qA tp n = true := by
    obtain ⟨_, _, h6, _⟩ := h
    rw [h6]
    unfold qA
    simp only [Bool.and_eq_true, Bool.or_eq_true, beq_iff_eq, decide_eq_true_eq]
    by_cases c : (tk tp n).1 = 1
    · rw [if_pos c]
      have hb := wdO_b (tk tp n).2.1
      have hd := co_dec (N := 31) (P := fun k => zmay k = (0 : Int32) ↔ ¬ (k = 1 ∨ 27 ≤ k)) (by decide +kernel) hb.2
      rw [hd]
      exact ⟨fun h1 h2 => h1 h2.2, fun h1 h2 => h1 ⟨c, h2⟩⟩
    · rw [if_neg c]
      exact ⟨fun _ h2 => c h2.1, fun _ => rfl⟩
  by_cases e : qA tp n = true
  · refine o_f (fun d => ez.mp d e) ?_
    replace hg : 2 + 1 ≤ g := hg
    obtain ⟨g, ge, hG⟩ := g1 hg; subst ge; clear hg; have hg := hG; clear hG; rw [E_X8_isNameToken_1]; unfold F_X8_isNameToken_1
    replace hg : 1 + 1 ≤ g := hg
    obtain ⟨g, ge, hG⟩ := g1 hg; subst ge; clear hg; have hg := hG; clear hG; rw [E_X8_isNameToken_2]; unfold F_X8_isNameToken_2
    refine o_Z (Or.inr rfl) (i_r ?_)
    rw [if_pos e, if_pos rfl]
    exact ⟨rfl, rfl⟩
  · refine o_t (ez.mpr e) ?_
    refine o_I (T_fail (k := 1) h (by omega)) ?_
    rintro x U ⟨rfl, u1, u2, u3⟩
    rw [if_pos rfl]
    refine o_Z (Or.inl rfl) (i_r ?_)
    rw [if_neg e, if_neg (by decide)]
    exact ⟨rfl, u1, u2, u3⟩
theorem T_atEnd (h : CTk S tp (tP tp n)) (hg : 1 ≤ f) : zI (F_X8_isAtEnd f 0 [.ref 1] S) (fun x T => x = (if (tk tp n).1 = 0 then 1 else 0) ∧ T = S) := by
  obtain ⟨g, ge, hG⟩ := g1 hg; subst ge; clear hg; have hg := hG; clear hG; rw [E_X8_isAtEnd_0]; unfold F_X8_isAtEnd_0
  rw [h.2.1]
  exact o_Z (by split <;> simp) (i_r ⟨rfl, rfl⟩)
theorem T_numberOf {nm : Nat → List Nat} {l : List Nat} {r : Nat} (hl : okN l) (hn : n ≤ 6) (h2 : gR S q 2 = r) (h1 : gI S q 1 = nI n) (hm : ∀ i, i < n → okN (nm i) ∧ gJ S r i = lN (k32 (nm i))) (hg : 30 ≤ f) : zI (F_X6_numberOf f 0 [.ref q, .long (lN (k32 l))] S) (fun x T => x = (match nmO nm l n 0 with | none => -1 | some i => nI i) ∧ T = S) := by
  obtain ⟨g, ge, hG⟩ := g1 hg; subst ge; clear hg; have hg := hG; clear hG; rw [E_X6_numberOf_0]; unfold F_X6_numberOf_0
  refine o_loop (F := fun f vs S => F_X6_numberOf f 1 vs S) (c := 1) (B := 10) (y := n) (fun k vs T => vs = [.ref q, .long (lN (k32 l)), .int (nI k)] ∧ T = S ∧ nmO nm l n 0 = nmO nm l (n - k) k) ?_ ?_ 0 _ S g (by omega) ⟨rfl, rfl, rfl⟩ (by omega)
  · rintro k _ T1 g hk ⟨rfl, t1, hw⟩ hg rk
    rw [t1]
    show zO (F_X6_numberOf g 1 _ _) _
    replace hg : 10 + 1 ≤ g := hg
    obtain ⟨g, ge, hG⟩ := g1 hg; subst ge; clear hg; have hg := hG; clear hG; rw [E_X6_numberOf_1]; unfold F_X6_numberOf_1
    rw [h1]
    refine o_f (nI_ge hk (by omega)) ?_
    refine o_X rfl (show k < 6 by omega) ?_
    rw [h2, (hm k hk).2]
    rw [show n - k = (n - (k + 1)) + 1 by omega] at hw
    have hw3 : nmO nm l n 0 = if nm k = l then some k else nmO nm l (n - (k + 1)) (k + 1) := hw
    by_cases e : nm k = l
    · refine o_t (by rw [lg_cmp_eq, k32_i hl (hm k hk).1]; exact e) ?_
      rw [if_pos e] at hw3
      exact i_r ⟨by rw [hw3], rfl⟩
    · refine o_f (by rw [lg_cmp_eq, k32_i hl (hm k hk).1]; exact e) ?_
      rw [if_neg e] at hw3
      rw [nI_1]
      exact rk g _ _ (by omega) ⟨rfl, rfl, hw3⟩
  · rintro _ T1 g ⟨rfl, t1, hw⟩ hg
    rw [t1]
    show zO (F_X6_numberOf g 1 _ _) _
    replace hg : 10 + 1 ≤ g := hg
    obtain ⟨g, ge, hG⟩ := g1 hg; subst ge; clear hg; have hg := hG; clear hG; rw [E_X6_numberOf_1]; unfold F_X6_numberOf_1
    rw [h1]
    refine o_t (nI_le (by omega) (by omega)) ?_
    rw [show n - n = 0 by omega] at hw
    have hw3 : nmO nm l n 0 = none := hw
    exact i_r ⟨by rw [hw3], rfl⟩
end CR1

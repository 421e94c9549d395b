/-! the reference's reader: its smallest steps -/
def cm (i : Nat) : Nat := ([2, 8, 9, 10, 11, 12, 13, 3, 4, 5, 6, 7, 14, 15, 16, 17, 18, 19, 20, 21, 22, 23, 24, 25, 26, 27, 28, 29, 30] : List Nat).getD i 0
theorem J0_k {i : Nat} (h : i < 29) : J0 191 i = lN (k37 (kwd (cm i))) ∧ 2 ≤ cm i ∧ cm i < 31 := co_dec (N := 29) (P := fun i => J0 191 i = lN (k37 (kwd (cm i))) ∧ 2 ≤ cm i ∧ cm i < 31) (by decide +kernel) h
abbrev d0 : Nat → Nat → Prop := fun _ _ => False
abbrev d8 : Nat → Nat → Prop := fun x k => x = 186 ∧ k = 8
abbrev d7 : Nat → Nat → Prop := fun x k => x = 186 ∧ k = 7
/-- the reference's reader stands at token n, and nothing was wrong -/
def MTk (S : aS) (tp : List Nat) (N n : Nat) : Prop := MR S ∧ MTs S tp N ∧ (gI S 186 7 = nI n ∧ n ≤ N) ∧ gI S 186 8 = 0 ∧ ∀ k, k < 29 → gJ S 191 k = J0 191 k
/-- something was wrong -/
def MFt (S : aS) (x : Nat) : Prop := gI S 186 8 = nI x ∧ 0 < x ∧ x < 2 ^ 31
section MP
variable {S T : aS} {f n c i N x : Nat} {tp : List Nat} {D : Nat → Nat → Prop}
theorem MFt.ne (h : MFt S x) : ¬ gI S 186 8 = (0 : Int32) := by
  rw [h.1]; exact nI_ne (b := 0) (by have := h.2.1; omega) h.2.2 (by omega)
theorem MFt.p (h : MFt S x) : ¬ gI S 186 8 ≤ (0 : Int32) := by
  rw [h.1]; exact nI_ge (a := 0) h.2.1 h.2.2
theorem MFt.fr (h : MFt S x) (hf : Fr D S T) (hD : ¬ D 186 8) : MFt T x := ⟨by rw [hf.2 _ _ hD]; exact h.1, h.2⟩
theorem MTk.fr (h : MTk S tp N n) (hf : Fr D S T) (hD : (¬ D 186 7 ∧ ¬ D 186 8) ∧ ∀ k, ¬ D 188 k ∧ ¬ D 189 k ∧ ¬ D 190 k) : MTk T tp N n := ⟨h.1.fr hf, h.2.1.fg hf.g hD.2, ⟨by rw [hf.2 _ _ hD.1.1]; exact h.2.2.1.1, h.2.2.1.2⟩, by rw [hf.2 _ _ hD.1.2]; exact h.2.2.2.1, fun k hk => by rw [hf.J]; exact h.2.2.2.2 k hk⟩
theorem MTk.tk (h : MTk S tp N n) : MTo S tp n := h.2.1.2 n h.2.2.1.2
theorem MTk.lt (h : MTk S tp N n) : n < 1002 := by have := h.2.1.1.1; have := h.2.2.1.2; omega
theorem MTk.at (h : MTk S tp N n) (hf : Fr d7 S T) (h7 : gI T 186 7 = nI c) (hc : c ≤ N) : MTk T tp N c := ⟨h.1.fr hf, h.2.1.fg hf.g (by unfold d7; omega), ⟨h7, hc⟩, by rw [hf.2 _ _ (by unfold d7; omega)]; exact h.2.2.2.1, fun k hk => by rw [hf.J]; exact h.2.2.2.2 k hk⟩
theorem tk_3 (h : (tk tp n).1 = 3) : isS (tk tp n).2.2 = true := by
  revert h
  show (tK tp (tP tp n)).1 = 3 → isS (tK tp (tP tp n)).2.2 = true
  generalize tP tp n = i
  unfold tK
  split
  · intro h; exact absurd h (by simp)
  split
  · split <;> (intro h; exact absurd h (by simp))
  split
  · split <;> (intro h; exact absurd h (by simp))
  split
  · rename_i hs; intro _; exact hs
  · intro h; exact absurd h (by simp)
theorem tk_1 (h : (tk tp n).1 = 1) : okN (tk tp n).2.1 := by
  revert h
  show (tK tp (tP tp n)).1 = 1 → okN (tK tp (tP tp n)).2.1
  generalize tP tp n = i
  by_cases c0 : tp.length ≤ i
  · unfold tK; rw [if_pos c0]; intro h; exact absurd h (by simp)
  by_cases cL : isL (cAt tp i) = true
  · have eE : tE tp i = en isL tp i := by unfold tE; rw [if_neg c0, if_pos cL]
    unfold tK
    rw [if_neg c0, if_pos cL, eE]
    by_cases c8 : en isL tp i - i ≤ 8
    · rw [if_pos c8]; intro _; exact wd_ok (by omega) cL c8
    · rw [if_neg c8]; intro h; exact absurd h (by simp)
  unfold tK
  rw [if_neg c0, if_neg cL]
  split
  · split <;> (intro h; exact absurd h (by simp))
  · split <;> (intro h; exact absurd h (by simp))
theorem M_isSign (h : MTk S tp N n) (hc : c < 128) (hg : 3 ≤ f) : zI (F_X13_isSign f 0 [.ref 186, .int (nI c)] S) (fun x T => x = (if qS tp n c = true then 1 else 0) ∧ T = S) := by
  replace hg : 2 + 1 ≤ f := hg
  obtain ⟨g, ge, hG⟩ := g1 hg; subst ge; clear hg; have hg := hG; clear hG; rw [E_X13_isSign_0]; unfold F_X13_isSign_0
  obtain ⟨k1, k2, k3, k4⟩ := h.tk
  refine o_t h.2.2.2.1 ?_
  rw [h.2.2.1.1]
  refine o_X rfl h.lt ?_
  rw [h.1.sort, k1, show (3 : Int32) = nI 3 from rfl]
  unfold qS
  simp only [Bool.and_eq_true, beq_iff_eq]
  have hs : (tk tp n).1 < 5 := by
    show (tK tp (tP tp n)).1 < 5
    unfold tK
    repeat' split
    all_goals simp
  by_cases e : (tk tp n).1 = 3
  · refine o_t (by rw [e]) ?_
    refine o_X rfl h.lt ?_
    have hb := (isS_b (tk_3 e)).1
    have ez : (if (lg_cmp (gJ S (gR S 186 6) n) (Int32.toInt64 (nI c))) = (0 : Int32) then (1 : Int32) else (0 : Int32)) = (if (tk tp n).1 = 3 ∧ (tk tp n).2.2 = c then 1 else 0) := by
      rw [h.1.value, k4 (Or.inr e), nI_l (by omega)]
      refine if_iff ?_
      rw [lg_cmp_eq, pk_lEQ (by omega) (by omega)]
      exact ⟨fun h => ⟨e, h⟩, fun h => h.2⟩
    rw [ez]
    exact o_Z (by split <;> simp) (i_r ⟨rfl, rfl⟩)
  · refine o_f (nI_ne e (by omega) (by omega)) ?_
    replace hg : 1 + 1 ≤ g := hg
    obtain ⟨g, ge, hG⟩ := g1 hg; subst ge; clear hg; have hg := hG; clear hG; rw [E_X13_isSign_1]; unfold F_X13_isSign_1
    replace hg : 0 + 1 ≤ g := hg
    obtain ⟨g, ge, hG⟩ := g1 hg; subst ge; clear hg; have hg := hG; clear hG; rw [E_X13_isSign_2]; unfold F_X13_isSign_2
    rw [if_neg (fun h => e h.1)]
    exact o_Z (Or.inl rfl) (i_r ⟨rfl, rfl⟩)
theorem M_isSign0 {v : Int32} (h : MFt S x) (hg : 3 ≤ f) : zI (F_X13_isSign f 0 [.ref 186, .int v] S) (fun x T => x = 0 ∧ T = S) := by
  replace hg : 2 + 1 ≤ f := hg
  obtain ⟨g, ge, hG⟩ := g1 hg; subst ge; clear hg; have hg := hG; clear hG; rw [E_X13_isSign_0]; unfold F_X13_isSign_0
  refine o_f h.ne ?_
  replace hg : 1 + 1 ≤ g := hg
  obtain ⟨g, ge, hG⟩ := g1 hg; subst ge; clear hg; have hg := hG; clear hG; rw [E_X13_isSign_1]; unfold F_X13_isSign_1
  replace hg : 0 + 1 ≤ g := hg
  obtain ⟨g, ge, hG⟩ := g1 hg; subst ge; clear hg; have hg := hG; clear hG; rw [E_X13_isSign_2]; unfold F_X13_isSign_2
  exact o_Z (Or.inl rfl) (i_r ⟨rfl, rfl⟩)
theorem M_isWord (h : MTk S tp N n) (hi : i < 29) (hg : 3 ≤ f) : zI (F_X13_isWord f 0 [.ref 186, .int (nI i)] S) (fun x T => x = (if qW tp n (cm i) = true then 1 else 0) ∧ T = S) := by
  replace hg : 2 + 1 ≤ f := hg
  obtain ⟨g, ge, hG⟩ := g1 hg; subst ge; clear hg; have hg := hG; clear hG; rw [E_X13_isWord_0]; unfold F_X13_isWord_0
  obtain ⟨k1, k2, k3, k4⟩ := h.tk
  refine o_t h.2.2.2.1 ?_
  rw [h.2.2.1.1]
  refine o_X rfl h.lt ?_
  rw [h.1.sort, k1, show (1 : Int32) = nI 1 from rfl]
  unfold qW
  simp only [Bool.and_eq_true, beq_iff_eq]
  have hs : (tk tp n).1 < 5 := by
    show (tK tp (tP tp n)).1 < 5
    unfold tK
    repeat' split
    all_goals simp
  by_cases e : (tk tp n).1 = 1
  · refine o_t (by rw [e]) ?_
    refine o_X rfl h.lt ?_
    refine o_X rfl hi ?_
    obtain ⟨j1, j2, j3⟩ := J0_k hi
    have hz := zkey_k (q := cm i - 2) (by omega)
    rw [show cm i - 2 + 2 = cm i by omega] at hz
    have ez : (if (lg_cmp (gJ S (gR S 186 6) n) (gJ S (gR S 186 9) i)) = (0 : Int32) then nI 1 else (0 : Int32)) = (if (tk tp n).1 = 1 ∧ (tk tp n).2.1 = kwd (cm i) then nI 1 else 0) := by
      rw [h.1.value, k3 e, show gR S 186 9 = 191 from h.1 9, h.2.2.2.2 i hi, j1]
      refine if_iff ?_
      rw [lg_cmp_eq, k37_i hz.2 (tk_1 e)]
      exact ⟨fun h => ⟨e, h⟩, fun h => h.2⟩
    rw [ez]
    exact o_Z (by split <;> simp [nI]) (i_r ⟨rfl, rfl⟩)
  · refine o_f (nI_ne e (by omega) (by omega)) ?_
    replace hg : 1 + 1 ≤ g := hg
    obtain ⟨g, ge, hG⟩ := g1 hg; subst ge; clear hg; have hg := hG; clear hG; rw [E_X13_isWord_1]; unfold F_X13_isWord_1
    replace hg : 0 + 1 ≤ g := hg
    obtain ⟨g, ge, hG⟩ := g1 hg; subst ge; clear hg; have hg := hG; clear hG; rw [E_X13_isWord_2]; unfold F_X13_isWord_2
    rw [if_neg (fun h => e h.1)]
    exact o_Z (Or.inl rfl) (i_r ⟨rfl, rfl⟩)
theorem M_isWord0 {v : Int32} (h : MFt S x) (hg : 3 ≤ f) : zI (F_X13_isWord f 0 [.ref 186, .int v] S) (fun x T => x = 0 ∧ T = S) := by
  replace hg : 2 + 1 ≤ f := hg
  obtain ⟨g, ge, hG⟩ := g1 hg; subst ge; clear hg; have hg := hG; clear hG; rw [E_X13_isWord_0]; unfold F_X13_isWord_0
  refine o_f h.ne ?_
  replace hg : 1 + 1 ≤ g := hg
  obtain ⟨g, ge, hG⟩ := g1 hg; subst ge; clear hg; have hg := hG; clear hG; rw [E_X13_isWord_1]; unfold F_X13_isWord_1
  replace hg : 0 + 1 ≤ g := hg
  obtain ⟨g, ge, hG⟩ := g1 hg; subst ge; clear hg; have hg := hG; clear hG; rw [E_X13_isWord_2]; unfold F_X13_isWord_2
  exact o_Z (Or.inl rfl) (i_r ⟨rfl, rfl⟩)
theorem M_wrong {k : Nat} (h : MTk S tp N n) (hg : 2 ≤ f) : zU (F_X13_wrong f 0 [.ref 186, .int (nI k)] S) (fun T => gI T 186 8 = nI (k + 16 * tP tp n) ∧ Fr d8 S T) := by
  replace hg : 1 + 1 ≤ f := hg
  obtain ⟨g, ge, hG⟩ := g1 hg; subst ge; clear hg; have hg := hG; clear hG; rw [E_X13_wrong_0]; unfold F_X13_wrong_0
  obtain ⟨k1, k2, k3, k4⟩ := h.tk
  refine o_t h.2.2.2.1 ?_
  rw [h.2.2.1.1]
  refine o_X rfl h.lt ?_
  rw [h.1.place, k2, show (16 : Int32) = nI 16 from rfl, pk_mul, nI_add]
  refine o_s (fun S1 s1 => ?_)
  obtain ⟨g, ge, hG⟩ := g1 hg; subst ge; clear hg; have hg := hG; clear hG; rw [E_X13_wrong_1]; unfold F_X13_wrong_1
  exact u_r ⟨by rw [s1, gI_sI, if_pos ⟨rfl, rfl⟩], (Fr.refl S).sI s1 (by unfold d8; omega)⟩
theorem M_wrong0 {v : Int32} (h : MFt S x) (hg : 2 ≤ f) : zU (F_X13_wrong f 0 [.ref 186, .int v] S) (fun T => T = S) := by
  replace hg : 1 + 1 ≤ f := hg
  obtain ⟨g, ge, hG⟩ := g1 hg; subst ge; clear hg; have hg := hG; clear hG; rw [E_X13_wrong_0]; unfold F_X13_wrong_0
  refine o_f h.ne ?_
  obtain ⟨g, ge, hG⟩ := g1 hg; subst ge; clear hg; have hg := hG; clear hG; rw [E_X13_wrong_1]; unfold F_X13_wrong_1
  exact u_r rfl
theorem Fr_same {v : Int32} {p k : Nat} (e : T = sI S p k v) (h : v = gI S p k) : Fr d0 S T := by
  have h0 : Fr (fun a b => a = p ∧ b = k) S T := (Fr.refl S).sI e ⟨rfl, rfl⟩
  have hk : gI T p k = gI S p k := by rw [e, gI_sI, if_pos ⟨rfl, rfl⟩, h]
  exact ⟨h0.1, fun q j _ => by
    by_cases c : q = p ∧ j = k
    · rw [c.1, c.2]; exact hk
    · exact h0.2 q j c⟩
end MP

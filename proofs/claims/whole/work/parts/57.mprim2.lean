/-! the reference's reader: steps that take a token, and that emit -/
abbrev dEm : Nat → Nat → Prop := fun x k => (x = 186 ∧ (k = 7 ∨ k = 8 ∨ k = 13)) ∨ ((x = 193 ∨ x = 194) ∧ 1100 ≤ k)
section MQ
variable {S T : aS} {f n c i N x : Nat} {tp : List Nat} {D : Nat → Nat → Prop}
theorem M_hasSign (h : MTk S tp N n) (hc : c < 128) (hg : 4 ≤ f) : zI (F_X13_hasSign f 0 [.ref 186, .int (nI c)] S) (fun x T => x = (if qS tp n c = true then 1 else 0) ∧ MTk T tp N (if qS tp n c = true then n + 1 else n) ∧ Fr d7 S T) := by
  replace hg : 3 + 1 ≤ f := hg
  obtain ⟨g, ge, hG⟩ := g1 hg; subst ge; clear hg; have hg := hG; clear hG; rw [E_X13_hasSign_0]; unfold F_X13_hasSign_0
  refine o_I (M_isSign h hc (by omega)) ?_
  rintro _ S ⟨rfl, rfl⟩
  rw [h.2.2.1.1]
  have ev : nI n + (if (if qS tp n c = true then (1 : Int32) else 0) = (0 : Int32) then (0 : Int32) else (1 : Int32)) = nI (if qS tp n c = true then n + 1 else n) := by
    by_cases e : qS tp n c = true
    · rw [if_pos e, if_pos e, if_neg (by decide), nI_1]
    · rw [if_neg e, if_neg e, if_pos rfl]; exact nI_add n 0
  rw [ev]
  refine o_s (fun S1 s1 => ?_)
  have hf : Fr d7 S S1 := (Fr.refl S).sI s1 (by unfold d7; omega)
  refine o_Z (by split <;> simp) (i_r ⟨rfl, h.at hf (by rw [s1, gI_sI, if_pos ⟨rfl, rfl⟩]) ?_, hf⟩)
  by_cases e : qS tp n c = true
  · rw [if_pos e]; exact qS.s h.2.1.1 h.2.2.1.2 e
  · rw [if_neg e]; exact h.2.2.1.2
theorem M_hasSign0 {v : Int32} (h : MFt S x) (hg : 4 ≤ f) : zI (F_X13_hasSign f 0 [.ref 186, .int v] S) (fun x T => x = 0 ∧ Fr d0 S T) := by
  replace hg : 3 + 1 ≤ f := hg
  obtain ⟨g, ge, hG⟩ := g1 hg; subst ge; clear hg; have hg := hG; clear hG; rw [E_X13_hasSign_0]; unfold F_X13_hasSign_0
  refine o_I (M_isSign0 h (by omega)) ?_
  rintro _ S ⟨rfl, rfl⟩
  refine o_s (fun S1 s1 => ?_)
  exact o_Z (Or.inl rfl) (i_r ⟨rfl, Fr_same s1 (by rw [if_pos rfl]; exact Int32.add_zero _)⟩)
theorem M_hasWord (h : MTk S tp N n) (hi : i < 29) (hg : 4 ≤ f) : zI (F_X13_hasWord f 0 [.ref 186, .int (nI i)] S) (fun x T => x = (if qW tp n (cm i) = true then 1 else 0) ∧ MTk T tp N (if qW tp n (cm i) = true then n + 1 else n) ∧ Fr d7 S T) := by
  replace hg : 3 + 1 ≤ f := hg
  obtain ⟨g, ge, hG⟩ := g1 hg; subst ge; clear hg; have hg := hG; clear hG; rw [E_X13_hasWord_0]; unfold F_X13_hasWord_0
  refine o_I (M_isWord h hi (by omega)) ?_
  rintro _ S ⟨rfl, rfl⟩
  rw [h.2.2.1.1]
  have ev : nI n + (if (if qW tp n (cm i) = true then (1 : Int32) else 0) = (0 : Int32) then (0 : Int32) else (1 : Int32)) = nI (if qW tp n (cm i) = true then n + 1 else n) := by
    by_cases e : qW tp n (cm i) = true
    · rw [if_pos e, if_pos e, if_neg (by decide), nI_1]
    · rw [if_neg e, if_neg e, if_pos rfl]; exact nI_add n 0
  rw [ev]
  refine o_s (fun S1 s1 => ?_)
  have hf : Fr d7 S S1 := (Fr.refl S).sI s1 (by unfold d7; omega)
  refine o_Z (by split <;> simp) (i_r ⟨rfl, h.at hf (by rw [s1, gI_sI, if_pos ⟨rfl, rfl⟩]) ?_, hf⟩)
  by_cases e : qW tp n (cm i) = true
  · rw [if_pos e]; exact qW.s h.2.1.1 h.2.2.1.2 e
  · rw [if_neg e]; exact h.2.2.1.2
theorem M_hasWord0 {v : Int32} (h : MFt S x) (hg : 4 ≤ f) : zI (F_X13_hasWord f 0 [.ref 186, .int v] S) (fun x T => x = 0 ∧ Fr d0 S T) := by
  replace hg : 3 + 1 ≤ f := hg
  obtain ⟨g, ge, hG⟩ := g1 hg; subst ge; clear hg; have hg := hG; clear hG; rw [E_X13_hasWord_0]; unfold F_X13_hasWord_0
  refine o_I (M_isWord0 h (by omega)) ?_
  rintro _ S ⟨rfl, rfl⟩
  refine o_s (fun S1 s1 => ?_)
  exact o_Z (Or.inl rfl) (i_r ⟨rfl, Fr_same s1 (by rw [if_pos rfl]; exact Int32.add_zero _)⟩)
theorem M_takeSign (h : MTk S tp N n) (hc : c < 128) (hg : 4 ≤ f) : zU (F_X13_takeSign f 0 [.ref 186, .int (nI c)] S) (fun T => if qS tp n c = true then MTk T tp N (n + 1) ∧ Fr d7 S T else gI T 186 8 = nI (1 + 16 * tP tp n) ∧ Fr d8 S T) := by
  replace hg : 3 + 1 ≤ f := hg
  obtain ⟨g, ge, hG⟩ := g1 hg; subst ge; clear hg; have hg := hG; clear hG; rw [E_X13_takeSign_0]; unfold F_X13_takeSign_0
  refine o_I (M_isSign h hc (by omega)) ?_
  rintro _ S ⟨rfl, rfl⟩
  by_cases e : qS tp n c = true
  · rw [if_pos e]
    refine o_f (by decide) ?_
    rw [h.2.2.1.1, nI_1]
    refine o_s (fun S1 s1 => ?_)
    have hf : Fr d7 S S1 := (Fr.refl S).sI s1 (by unfold d7; omega)
    replace hg : 2 + 1 ≤ g := hg
    obtain ⟨g, ge, hG⟩ := g1 hg; subst ge; clear hg; have hg := hG; clear hG; rw [E_X13_takeSign_1]; unfold F_X13_takeSign_1
    refine u_r ?_
    rw [if_pos e]
    exact ⟨h.at hf (by rw [s1, gI_sI, if_pos ⟨rfl, rfl⟩]) (qS.s h.2.1.1 h.2.2.1.2 e), hf⟩
  · rw [if_neg e]
    refine o_t rfl ?_
    refine o_V (M_wrong (k := 1) h (by omega)) ?_
    rintro T ⟨t1, t2⟩
    replace hg : 2 + 1 ≤ g := hg
    obtain ⟨g, ge, hG⟩ := g1 hg; subst ge; clear hg; have hg := hG; clear hG; rw [E_X13_takeSign_1]; unfold F_X13_takeSign_1
    refine u_r ?_
    rw [if_neg e]
    exact ⟨t1, t2⟩
theorem M_takeSign0 {v : Int32} (h : MFt S x) (hg : 4 ≤ f) : zU (F_X13_takeSign f 0 [.ref 186, .int v] S) (fun T => T = S) := by
  replace hg : 3 + 1 ≤ f := hg
  obtain ⟨g, ge, hG⟩ := g1 hg; subst ge; clear hg; have hg := hG; clear hG; rw [E_X13_takeSign_0]; unfold F_X13_takeSign_0
  refine o_I (M_isSign0 h (by omega)) ?_
  rintro _ S ⟨rfl, rfl⟩
  refine o_t rfl ?_
  refine o_V (M_wrong0 h (by omega)) ?_
  rintro T rfl
  replace hg : 2 + 1 ≤ g := hg
  obtain ⟨g, ge, hG⟩ := g1 hg; subst ge; clear hg; have hg := hG; clear hG; rw [E_X13_takeSign_1]; unfold F_X13_takeSign_1
  exact u_r rfl
/-- the codes of the law that is being read, from j on -/
def MLc (S : aS) (j : Nat) (cs : List Int32) : Prop := gI S 186 13 = nI (j + cs.length) ∧ ∀ k, k < cs.length → crl (gI S 193 (1100 + (j + k))) (gI S 194 (1100 + (j + k))) (cs.getD k 0)
theorem MLc.fr {j : Nat} {cs : List Int32} (h : MLc S j cs) (hf : Fr D S T) (hD : ¬ D 186 13 ∧ ∀ k, ¬ D 193 k ∧ ¬ D 194 k) : MLc T j cs := ⟨by rw [hf.2 _ _ hD.1]; exact h.1, fun k hk => by rw [hf.2 _ _ (hD.2 _).1, hf.2 _ _ (hD.2 _).2]; exact h.2 k hk⟩
theorem M_emit {j : Nat} {o a : Int32} (hR : MR S) (hj : gI S 186 13 = nI j) (hj2 : j < 1100) (hg : 1 ≤ f) : zU (F_X13_emit f 0 [.ref 186, .int o, .int a] S) (fun T => gI T 186 13 = nI (j + 1) ∧ gI T 193 (1100 + j) = o ∧ gI T 194 (1100 + j) = a ∧ Fr (fun x k => (x = 186 ∧ k = 13) ∨ ((x = 193 ∨ x = 194) ∧ k = 1100 + j)) S T) := by
  obtain ⟨g, ge, hG⟩ := g1 hg; subst ge; clear hg; have hg := hG; clear hG; rw [E_X13_emit_0]; unfold F_X13_emit_0
  rw [hj, show (1100 : Int32) = nI 1100 from rfl, nI_add]
  refine o_X rfl (show 1100 + j < 2200 by omega) ?_
  rw [show gR S 186 11 = 193 from hR 11]
  refine o_s (fun S1 s1 => ?_)
  have f1 : Fr (fun x k => (x = 186 ∧ k = 13) ∨ ((x = 193 ∨ x = 194) ∧ k = 1100 + j)) S S1 := (Fr.refl S).sI s1 (by omega)
  rw [show gI S1 186 13 = nI j by rw [s1, gI_sI, if_neg (by omega)]; exact hj, nI_add]
  refine o_X rfl (show 1100 + j < 2200 by omega) ?_
  rw [show gR S1 186 12 = 194 by rw [f1.R]; exact hR 12]
  refine o_s (fun S2 s2 => ?_)
  have f2 := f1.sI s2 (by omega)
  rw [show gI S2 186 13 = nI j by rw [s2, gI_sI, if_neg (by omega), s1, gI_sI, if_neg (by omega)]; exact hj, nI_1]
  refine o_s (fun S3 s3 => ?_)
  have f3 := f2.sI s3 (by omega)
  refine u_r ⟨by rw [s3, gI_sI, if_pos ⟨rfl, rfl⟩], ?_, ?_, f3⟩
  · rw [s3, gI_sI, if_neg (by omega), s2, gI_sI, if_neg (by omega), s1, gI_sI, if_pos ⟨rfl, rfl⟩]
  · rw [s3, gI_sI, if_neg (by omega), s2, gI_sI, if_pos ⟨rfl, rfl⟩]
theorem M_emitc {j : Nat} {o a s : Int32} {cs : List Int32} (hR : MR S) (h : MLc S j cs) (hj2 : j + cs.length < 1100) (hs : crl o a s) (hg : 1 ≤ f) : zU (F_X13_emit f 0 [.ref 186, .int o, .int a] S) (fun T => MLc T j (cs ++ [s]) ∧ Fr (fun x k => (x = 186 ∧ k = 13) ∨ ((x = 193 ∨ x = 194) ∧ k = 1100 + (j + cs.length))) S T) := by
  refine u_m (M_emit hR h.1 hj2 hg) (fun T ⟨t1, t2, t3, t4⟩ => ⟨⟨by rw [t1, List.length_append, List.length_singleton]; rfl, fun k hk => ?_⟩, t4⟩)
  rw [List.length_append, List.length_singleton] at hk
  rw [getD_ap hk]
  by_cases e : k = cs.length
  · rw [if_pos e, e, t2, t3]; exact hs
  · rw [if_neg e, t4.2 _ _ (by omega), t4.2 _ _ (by omega)]
    exact h.2 k (by omega)
theorem M_wordHere4 (h : MTk S tp N n) (hg : 40 ≤ f) : zI (F_X13_wordHere f 0 [.ref 186, .int (nI 25), .int (nI 4)] S) (fun x T => T = S ∧ if qF tp n = true then ∃ j, j < 4 ∧ x = nI j ∧ zval (wdO (tk tp n).2.1) = (-1 : Int32) - nI j else x = -1) := by
  obtain ⟨g, ge, hG⟩ := g1 hg; subst ge; clear hg; have hg := hG; clear hG; rw [E_X13_wordHere_0]; unfold F_X13_wordHere_0
  have hw : ∀ i, i < 4 → ∀ j, j < 4 → i ≠ j → qW tp n (27 + i) = true → ¬ qW tp n (27 + j) = true := by
    intro i hi j hj hne h1 h2
    unfold qW at h1 h2
    simp only [Bool.and_eq_true, beq_iff_eq] at h1 h2
    have e1 := (wdO_iff (l := (tk tp n).2.1) (q := 27 + i) (by omega) (by omega)).mpr h1.2
    have e2 := (wdO_iff (l := (tk tp n).2.1) (q := 27 + j) (by omega) (by omega)).mpr h2.2
    omega
  refine o_loop (F := fun f vs S => F_X13_wordHere f 1 vs S) (c := 1) (B := 10) (y := 4) (fun k vs T => T = S ∧ ∃ x : Int32, vs = [.ref 186, .int (nI 25), .int (nI 4), .int x, .int (nI k)] ∧ ((∃ j, j < k ∧ x = nI j ∧ qW tp n (27 + j) = true) ∨ (x = -1 ∧ ∀ j, j < k → ¬ qW tp n (27 + j) = true))) ?_ ?_ 0 _ S g (by omega) ⟨rfl, _, rfl, Or.inr ⟨rfl, fun j h => absurd h (by omega)⟩⟩ (by omega)
  · rintro k _ T1 g hk ⟨t1, x, rfl, hx⟩ hg rk
    rw [t1]
    show zO (F_X13_wordHere g 1 _ _) _
    replace hg : 10 + 1 ≤ g := hg
    obtain ⟨g, ge, hG⟩ := g1 hg; subst ge; clear hg; have hg := hG; clear hG; rw [E_X13_wordHere_1]; unfold F_X13_wordHere_1
    refine o_f (nI_ge hk (by omega)) ?_
    rw [nI_add]
    refine o_I (M_isWord h (show 25 + k < 29 by omega) (by omega)) ?_
    rintro y T2 ⟨rfl, t2⟩
    rw [t2, nI_1]
    have ec : cm (25 + k) = 27 + k := co_dec (N := 4) (P := fun k => cm (25 + k) = 27 + k) (by decide +kernel) hk
    rw [ec]
    by_cases e : qW tp n (27 + k) = true
    · rw [if_pos e, if_neg (by decide)]
      exact rk g _ _ (by omega) ⟨rfl, _, rfl, Or.inl ⟨k, by omega, rfl, e⟩⟩
    · rw [if_neg e, if_pos rfl]
      refine rk g _ _ (by omega) ⟨rfl, _, rfl, ?_⟩
      rcases hx with ⟨j, j1, j2, j3⟩ | ⟨h1, h2⟩
      · exact Or.inl ⟨j, by omega, j2, j3⟩
      · refine Or.inr ⟨h1, fun j hj => ?_⟩
        by_cases ej : j = k
        · rw [ej]; exact e
        · exact h2 j (by omega)
  · rintro _ T1 g ⟨t1, x, rfl, hx⟩ hg
    rw [t1]
    show zO (F_X13_wordHere g 1 _ _) _
    replace hg : 10 + 1 ≤ g := hg
    obtain ⟨g, ge, hG⟩ := g1 hg; subst ge; clear hg; have hg := hG; clear hG; rw [E_X13_wordHere_1]; unfold F_X13_wordHere_1
    refine o_t (nI_le (by omega) (by omega)) ?_
    refine i_r ⟨rfl, ?_⟩
    have eF : qF tp n = true ↔ ∃ j, j < 4 ∧ qW tp n (27 + j) = true := by
      unfold qF
      simp only [Bool.or_eq_true]
      constructor
      · rintro (((h | h) | h) | h)
        · exact ⟨0, by omega, h⟩
        · exact ⟨1, by omega, h⟩
        · exact ⟨2, by omega, h⟩
        · exact ⟨3, by omega, h⟩
      · rintro ⟨j, hj, h⟩
        rcases (show j = 0 ∨ j = 1 ∨ j = 2 ∨ j = 3 by omega) with rfl | rfl | rfl | rfl
        · exact Or.inl (Or.inl (Or.inl h))
        · exact Or.inl (Or.inl (Or.inr h))
        · exact Or.inl (Or.inr h)
        · exact Or.inr h
    rcases hx with ⟨j, j1, j2, j3⟩ | ⟨h1, h2⟩
    · rw [if_pos (eF.mpr ⟨j, j1, j3⟩)]
      refine ⟨j, j1, j2, ?_⟩
      unfold qW at j3
      simp only [Bool.and_eq_true, beq_iff_eq] at j3
      rw [(wdO_iff (by omega) (by omega)).mpr j3.2]
      exact co_dec (N := 4) (P := fun j => zval (27 + j) = (-1 : Int32) - nI j) (by decide +kernel) j1
    · rw [if_neg (fun hq => by obtain ⟨j, hj, h⟩ := eF.mp hq; exact h2 j hj h)]
      exact h1
end MQ

/-! the reference reads a day -/
abbrev d78 : Nat → Nat → Prop := fun x k => x = 186 ∧ (k = 7 ∨ k = 8)
abbrev dMd : Nat → Nat → Prop := fun x k => (x = 186 ∧ (k = 7 ∨ k = 8)) ∨ (x = 197 ∧ 125 ≤ k)
def MNm (S : aS) (z m : Nat) (nm : Nat → List Nat) : Prop := gI S 186 (16 + z) = nI m ∧ ∀ i, i < m → (okN (nm i) ∧ ∀ j, j < i → nm j ≠ nm i) ∧ gJ S (195 + z) i = lN (k37 (nm i))
def MDa (S : aS) (b : Nat) (l : List (Nat × Nat × Nat)) : Prop := ∀ i, i < l.length → gI S 197 (b + 3 * i) = nI (l.getD i (0, 0, 0)).1 ∧ ((l.getD i (0, 0, 0)).1 ≠ 5 → gI S 197 (b + 1 + 3 * i) = nI (l.getD i (0, 0, 0)).2.1) ∧ gI S 197 (b + 2 + 3 * i) = nI (l.getD i (0, 0, 0)).2.2
section MD
variable {S T : aS} {f n k x pn N a b : Nat} {tp : List Nat} {nm : Nat → List Nat} {D : Nat → Nat → Prop} {P : aP}
theorem MNm.fr {z m : Nat} (h : MNm S z m nm) (hf : Fr D S T) (hD : ¬ D 186 (16 + z)) : MNm T z m nm := ⟨by rw [hf.2 _ _ hD]; exact h.1, fun i hi => by rw [hf.J]; exact h.2 i hi⟩
theorem mf_n {k m : Nat} (ho : tp.length ≤ 1000) (hk : 1 ≤ k) (hk5 : k ≤ 5) (h : gI S 186 8 = nI (k + 16 * tP tp m)) : MFt S (k + 16 * tP tp m) := by
  have := tP_b (tp := tp) m
  exact ⟨h, by omega, by omega⟩
theorem M_takePerson (ho : tp.length ≤ 1000) (h : MTk S tp N n) (hm : MNm S 0 pn nm) (hp : pn ≤ 6) (hg : 80 ≤ f) : zI (F_X13_takePerson f 0 [.ref 186] S) (fun x T => match dBe tp nm pn 0 n with
  | .error e => x = 0 ∧ gI T 186 8 = nI (e.1 + 16 * tP tp e.2) ∧ Fr d78 S T
  | .ok y => x = nI y.1.2.1 ∧ MTk T tp N y.2 ∧ Fr d78 S T) := by
  unfold dBe
  rw [if_neg (show ¬ (0 : Nat) = 5 by decide), if_pos rfl]
  have h3 : ∀ (g x : Nat) (w : Int32) (U : aS), 2 ≤ g → MFt U x → zI (F_X13_takePerson g 3 [.ref 186, .int w] U) (fun y T => y = 0 ∧ Fr d0 U T) := by
    intro g x w U hg hx
    obtain ⟨g, rfl, hg2⟩ := g1 (n := 1) (f := g) (by omega)
    rw [E_X13_takePerson_3]; unfold F_X13_takePerson_3
    rw [if_neg hx.p]
    refine o_s (fun V v => ?_)
    have fv := Fr_same v (by simp)
    refine i_r ⟨?_, fv⟩
    rw [if_neg (hx.fr fv (fun d => d)).p]
  have h2 : ∀ (g x : Nat) (w : Int32) (U : aS), 4 ≤ g → MFt U x → zI (F_X13_takePerson g 2 [.ref 186, .int w] U) (fun y T => y = 0 ∧ Fr d0 U T) := by
    intro g x w U hg hx
    obtain ⟨g, rfl, hg2⟩ := g1 (n := 3) (f := g) (by omega)
    rw [E_X13_takePerson_2]; unfold F_X13_takePerson_2
    exact o_f hx.ne (h3 g x w U (by omega) hx)
  replace hg : 79 + 1 ≤ f := hg
  obtain ⟨g, ge, hG⟩ := g1 hg; subst ge; clear hg; have hg := hG; clear hG; rw [E_X13_takePerson_0]; unfold F_X13_takePerson_0
  refine o_I (M_isName h (by omega)) ?_
  rintro _ T1 ⟨rfl, t1⟩
  rw [t1]
  by_cases q : qA tp n = true
  · rw [if_pos q, if_pos q]
    refine o_f (by decide) ?_
    replace hg : 78 + 1 ≤ g := hg
    obtain ⟨g, ge, hG⟩ := g1 hg; subst ge; clear hg; have hg := hG; clear hG; rw [E_X13_takePerson_1]; unfold F_X13_takePerson_1
    refine o_t (by rw [h.2.2.2.1]; decide) ?_
    have q1 : (tk tp n).1 = 1 := by unfold qA at q; simp at q; exact q.1
    refine o_I (M_nameAt h q1 (Or.inl rfl) hp hm.1 hm.2 (by omega)) ?_
    rintro _ T2 ⟨rfl, t2⟩
    rw [t2]
    replace hg : 77 + 1 ≤ g := hg
    obtain ⟨g, ge, hG⟩ := g1 hg; subst ge; clear hg; have hg := hG; clear hG; rw [E_X13_takePerson_2]; unfold F_X13_takePerson_2
    refine o_t h.2.2.2.1 ?_
    rcases eo : nmO nm (tk tp n).2.1 pn 0 with _ | i
    · refine o_f (show ¬ (0 : Int32) ≤ -1 by decide) ?_
      refine o_V (M_wrong (k := 2) h (by omega)) ?_
      rintro T3 ⟨u1, u2⟩
      refine i_m (h3 g _ _ T3 (by omega) (mf_n ho (by omega) (by omega) u1)) ?_
      rintro y V ⟨rfl, fv⟩
      exact ⟨rfl, by rw [fv.2 _ _ (fun d => d)]; exact u1, (u2.mono (fun q k d => by unfold d8 at d; unfold d78; omega)).tr (fv.mono (fun q k d => d.elim))⟩
    · have hb := nmO_b pn 0 i eo
      refine o_t (nI_pos' (n := i) (by omega)) ?_
      replace hg : 76 + 1 ≤ g := hg
      obtain ⟨g, ge, hG⟩ := g1 hg; subst ge; clear hg; have hg := hG; clear hG; rw [E_X13_takePerson_3]; unfold F_X13_takePerson_3
      rw [h.2.2.2.1, if_pos (by decide), h.2.2.1.1, nI_1]
      refine o_s (fun V v => ?_)
      have fv : Fr d7 S V := (Fr.refl S).sI v ⟨rfl, rfl⟩
      have hV := h.at fv (by rw [v, gI_sI, if_pos ⟨rfl, rfl⟩]) (qA.s h.2.1.1 h.2.2.1.2 q)
      rw [hV.2.2.2.1, if_pos (by decide)]
      exact i_r ⟨rfl, hV, fv.mono (fun q k d => by unfold d7 at d; unfold d78; omega)⟩
  · rw [if_neg q, if_neg q]
    refine o_t rfl ?_
    refine o_V (M_wrong (k := 1) h (by omega)) ?_
    rintro T3 ⟨u1, u2⟩
    have hx := mf_n ho (by omega) (by omega) u1
    replace hg : 78 + 1 ≤ g := hg
    obtain ⟨g, ge, hG⟩ := g1 hg; subst ge; clear hg; have hg := hG; clear hG; rw [E_X13_takePerson_1]; unfold F_X13_takePerson_1
    refine o_f hx.p ?_
    refine i_m (h2 g _ _ T3 (by omega) hx) ?_
    rintro y V ⟨rfl, fv⟩
    exact ⟨rfl, by rw [fv.2 _ _ (fun d => d)]; exact u1, (u2.mono (fun q k d => by unfold d8 at d; unfold d78; omega)).tr (fv.mono (fun q k d => d.elim))⟩
theorem md1 {v : Int32} (h : MFt S x) (hg : 2 ≤ f) : zI (F_X13_day f 1 [.ref 186, .int v] S) (fun y T => y = nI x ∧ T = S) := by
  replace hg : 1 + 1 ≤ f := hg
  obtain ⟨g, ge, hG⟩ := g1 hg; subst ge; clear hg; have hg := hG; clear hG; rw [E_X13_day_1]; unfold F_X13_day_1
  refine o_f h.ne ?_
  replace hg : 0 + 1 ≤ g := hg
  obtain ⟨g, ge, hG⟩ := g1 hg; subst ge; clear hg; have hg := hG; clear hG; rw [E_X13_day_2]; unfold F_X13_day_2
  exact o_f h.p (i_r ⟨h.1, rfl⟩)
theorem md4 {v : Int32} (h : MFt S x) (hg : 8 ≤ f) : zI (F_X13_day f 4 [.ref 186, .int v] S) (fun y T => y = nI x ∧ T = S) := by
  replace hg : 7 + 1 ≤ f := hg
  obtain ⟨g, ge, hG⟩ := g1 hg; subst ge; clear hg; have hg := hG; clear hG; rw [E_X13_day_4]; unfold F_X13_day_4
  refine o_V (M_takeSign0 h (by omega)) ?_
  intro T1 t1
  rw [t1]
  exact md1 h (by omega)
theorem i3 {c : Nat} {v : Int32} (hv : v = nI c) : v + ((3 : Int32) * nI k) = nI (c + 3 * k) := by
  rw [hv, show (3 : Int32) = nI 3 from rfl, pk_mul, nI_add]
theorem md6 {w : Int32} (h : MFt S x) (hk : k < 40) (hg : 10 ≤ f) : zI (F_X13_day f 6 [.ref 186, .int (nI k), .int w, .int (nI (127 + 3 * k)), .ref 197] S) (fun y T => y = nI x ∧ Fr dMd S T) := by
  replace hg : 9 + 1 ≤ f := hg
  obtain ⟨g, ge, hG⟩ := g1 hg; subst ge; clear hg; have hg := hG; clear hG; rw [E_X13_day_6]; unfold F_X13_day_6
  refine o_X rfl (show 127 + 3 * k < 250 by omega) ?_
  refine o_s (fun S1 s1 => ?_)
  have f1 : Fr (fun x k => x = 197 ∧ 125 ≤ k) S S1 := (Fr.refl S).sI s1 ⟨rfl, by omega⟩
  refine i_m (md4 (h.fr f1 (by omega)) (by omega)) ?_
  rintro y T ⟨rfl, t⟩
  rw [t]
  exact ⟨rfl, f1.mono (fun q k d => Or.inr d)⟩
theorem md3 {v w : Int32} (hR : MR S) (h : MFt S x) (hk : k < 40) (hg : 12 ≤ f) : zI (F_X13_day f 3 [.ref 186, .int (nI k), .int v, .int w, .int (nI (126 + 3 * k)), .ref 197] S) (fun y T => y = nI x ∧ Fr dMd S T) := by
  replace hg : 11 + 1 ≤ f := hg
  obtain ⟨g, ge, hG⟩ := g1 hg; subst ge; clear hg; have hg := hG; clear hG; rw [E_X13_day_3]; unfold F_X13_day_3
  refine o_X rfl (show 126 + 3 * k < 250 by omega) ?_
  refine o_s (fun S1 s1 => ?_)
  have f1 : Fr (fun x k => x = 197 ∧ 125 ≤ k) S S1 := (Fr.refl S).sI s1 ⟨rfl, by omega⟩
  have h1 := h.fr f1 (by omega)
  rw [i3 (c := 127) (v := 127) rfl, (hR.fr f1).lines]
  refine o_if (fun c => ?_) (fun c => ?_)
  · refine o_I (M_takeNumber0 h1 (by omega)) ?_
    rintro y T ⟨rfl, t⟩
    rw [t]
    refine i_m (md6 h1 hk (by omega)) ?_
    rintro y T ⟨rfl, t⟩
    exact ⟨rfl, (f1.mono (fun q k d => Or.inr d)).tr t⟩
  · refine i_m (md6 h1 hk (by omega)) ?_
    rintro y T ⟨rfl, t⟩
    exact ⟨rfl, (f1.mono (fun q k d => Or.inr d)).tr t⟩
theorem M_act (h : MTk S tp N n) (hg : 60 ≤ f) : zI (F_X13_wordHere f 0 [.ref 186, .int 12, .int 6] S) (fun x T => T = S ∧ if qAct tp n = true then x = nI (actN tp n) else x = -1) := by
  refine i_m (M_wordHere (a := 12) (c := 6) h (by omega) hg) ?_
  rintro x T ⟨t, hx⟩
  refine ⟨t, ?_⟩
  have hc : ∀ j, j < 6 → cm (12 + j) = 14 + j := fun j hj => co_dec (N := 6) (P := fun j => cm (12 + j) = 14 + j) (by decide +kernel) hj
  rcases hx with ⟨j, j1, j2, j3⟩ | ⟨x1, x2⟩
  · rw [hc j j1] at j3
    unfold qW at j3
    simp only [Bool.and_eq_true, beq_iff_eq] at j3
    have hw := (wdO_iff (l := (tk tp n).2.1) (q := 14 + j) (by omega) (by omega)).mpr j3.2
    have e : qAct tp n = true := by
      unfold qAct
      simp only [Bool.and_eq_true, beq_iff_eq, decide_eq_true_eq]
      exact ⟨j3.1, by omega, by omega⟩
    rw [if_pos e, j2]
    unfold actN
    rw [hw, Nat.add_sub_cancel_left]
  · have e : ¬ qAct tp n = true := by
      intro e
      unfold qAct at e
      simp only [Bool.and_eq_true, beq_iff_eq, decide_eq_true_eq] at e
      refine x2 (wdO (tk tp n).2.1 - 14) (by omega) ?_
      rw [hc _ (by omega), show 14 + (wdO (tk tp n).2.1 - 14) = wdO (tk tp n).2.1 by omega]
      unfold qW
      simp only [Bool.and_eq_true, beq_iff_eq]
      exact ⟨e.1, (wdO_iff (by omega) (by omega)).mp rfl⟩
    rw [if_neg e]
    exact x1
end MD

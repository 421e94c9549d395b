/-! both read a path -/
abbrev dFn : Nat → Nat → Prop := fun x k => (x = 186 ∧ (k = 16 ∨ k = 23 ∨ (26 ≤ k ∧ k ≤ 28))) ∨ x = 195 ∨ (x = 200 ∧ k < 36) ∨ x = 198 ∨ x = 199 ∨ (x = 197 ∧ k = 0) ∨ x = 201
section BP
variable {S T U S0 : aS} {A : aA} {f n x N a b c m : Nat} {tp : List Nat} {D : Nat → Nat → Prop} {R : Nat → Prop} {Q Q2 : aQ} {P : aP}
/-- what the begin leaves -/
def MBg (T : aS) (P : aP) : Prop := MM T P ∧ MA T 0 (bgL P) ∧ MFd T 0 (fun _ => -1000) ∧ gI T 197 0 = 0 ∧ gI T 186 23 = 0 ∧ ∀ m, m < 4 → gI T 201 m = 0
theorem mp5 (h : MM S P) (hI : PI P) (hm : m ≤ 6) (h17 : gI S 186 17 = nI m) (hg : 300 ≤ f) : zI (F_X13_path f 5 [.ref 186, .int 0] S) (fun x T => x = 0 ∧ MBg T P ∧ gI T 186 16 = nI m ∧ (∀ i, i < m → gJ T 195 i = gJ S 196 i) ∧ Fg dFn nR S T) := by
  refine o_loop (F := fun f vs S => F_X13_path f 5 vs S) (c := 1) (B := 250) (y := m) (fun k vs T => vs = [.ref 186, .int (nI k)] ∧ (∀ i, i < k → gJ T 195 i = gJ S 196 i) ∧ Fg (fun x k => x = 195) nR S T) ?_ ?_ 0 _ S f (by omega) ⟨rfl, fun j h => absurd h (by omega), Fg.refl S⟩ (by omega)
  · rintro k _ T g hk ⟨rfl, h1, h2⟩ hg rk
    show zO (F_X13_path g 5 _ _) _
    replace hg : 250 + 1 ≤ g := by omega
    obtain ⟨g, ge, hG⟩ := g1 hg; subst ge; clear hg; have hg := hG; clear hG; rw [E_X13_path_5]; unfold F_X13_path_5
    have hRT := h.1.fg h2 id
    rw [show gI T 186 17 = nI m by rw [h2.I (by omega)]; exact h17]
    refine o_f (nI_ge hk (by omega)) ?_
    refine o_X (n := k) rfl (by omega) (o_X (n := k) rfl (by omega) ?_)
    rw [hRT.names, hRT.rnames, (h2.1 _ _ (by omega)).2, nI_1]
    refine o_sJ (fun A a => ?_)
    refine rk g _ _ (by omega) ⟨rfl, fun i hi => ?_, h2.sJ a rfl⟩
    rw [a, gJ_sJ]
    by_cases e : i = k
    · rw [if_pos ⟨rfl, e⟩, e]
    · rw [if_neg (by omega)]; exact h1 i (by omega)
  · rintro _ T g ⟨rfl, h1, h2⟩ hg
    show zO (F_X13_path g 5 _ _) _
    replace hg : 249 + 1 ≤ g := by omega
    obtain ⟨g, ge, hG⟩ := g1 hg; subst ge; clear hg; have hg := hG; clear hG; rw [E_X13_path_5]; unfold F_X13_path_5
    rw [show gI T 186 17 = nI m by rw [h2.I (by omega)]; exact h17]
    refine o_t (nI_le (Nat.le_refl _) (by omega)) ?_
    refine o_s (fun A a => ?_)
    have fA : Fg (fun x k => x = 195 ∨ (x = 186 ∧ k = 16)) nR S A := (h2.mono (fun q k d => by omega) (fun _ d => d)).sI a (by omega)
    have mA : MM A P := h.fg fA (fun q k a b d => by omega) id
    refine o_V (M_begins mA hI (by omega)) ?_
    rintro B ⟨b1, b2, b3, b4, b5, b6⟩
    refine i_r ⟨rfl, ⟨mA.fr b6 (fun q k a b d => by omega), b1, b2, b3, b4, b5⟩, ?_, fun i hi => ?_, (fA.mono (fun q k d => by unfold dFn; omega) (fun _ d => d)).tr (b6.g.mono (fun q k d => by unfold dFn; omega) (fun _ d => d.elim))⟩
    · rw [b6.2 _ _ (by omega), a, gI_sI, if_pos ⟨rfl, rfl⟩]
    · rw [b6.J, a, gJ_sI]; exact h1 i hi
theorem mp4 {Z : Int32 → aS → Prop} (hR : MR S) (hc : c ≤ 1000) (h13 : gI S 186 13 = nI c) (hg : 1500 ≤ f) (hk : ∀ T g, 300 ≤ g → (∀ j, j < c → gI T 193 j = gI S 193 (1100 + j) ∧ gI T 194 j = gI S 194 (1100 + j)) → Fr (fun x k => (x = 193 ∨ x = 194) ∧ k < 1100) S T → zI (F_X13_path g 5 [.ref 186, .int 0] T) Z) : zI (F_X13_path f 4 [.ref 186, .int 0] S) Z := by
  refine o_loop (F := fun f vs S => F_X13_path f 4 vs S) (c := 1) (B := 301) (y := c) (fun k vs T => vs = [.ref 186, .int (nI k)] ∧ (∀ j, j < k → gI T 193 j = gI S 193 (1100 + j) ∧ gI T 194 j = gI S 194 (1100 + j)) ∧ Fr (fun x k => (x = 193 ∨ x = 194) ∧ k < 1100) S T) ?_ ?_ 0 _ S f (by omega) ⟨rfl, fun j h => absurd h (by omega), Fr.refl S⟩ (by omega)
  · rintro k _ T g hk ⟨rfl, h1, h2⟩ hg rk
    show zO (F_X13_path g 4 _ _) _
    replace hg : 301 + 1 ≤ g := by omega
    obtain ⟨g, ge, hG⟩ := g1 hg; subst ge; clear hg; have hg := hG; clear hG; rw [E_X13_path_4]; unfold F_X13_path_4
    rw [show gI T 186 13 = nI c by rw [h2.2 _ _ (by omega)]; exact h13]
    refine o_f (nI_ge hk (by omega)) ?_
    refine o_X (n := 1100 + k) (nA2' rfl) (by omega) (o_X (n := k) rfl (by omega) ?_)
    rw [(hR.fr h2).op]
    refine o_s (fun A a => ?_)
    have f2 := h2.sI a (by omega)
    refine o_X (n := 1100 + k) (nA2' rfl) (by omega) (o_X (n := k) rfl (by omega) ?_)
    rw [(hR.fr f2).arg, nI_1]
    refine o_s (fun B b => ?_)
    refine rk g _ _ (by omega) ⟨rfl, fun j hj => ?_, f2.sI b (by omega)⟩
    rw [b, gI_sI, if_neg (by omega), gI_sI, f2.2 194 (1100 + k) (by omega), a, gI_sI, gI_sI, if_neg (show ¬ (194 = 193 ∧ j = k) by omega), h2.2 193 (1100 + k) (by omega)]
    by_cases e : j = k
    · rw [if_pos ⟨rfl, e⟩, if_pos ⟨rfl, e⟩, e]; exact ⟨rfl, rfl⟩
    · rw [if_neg (by omega), if_neg (by omega)]; exact h1 j (by omega)
  · rintro _ T g ⟨rfl, h1, h2⟩ hg
    show zO (F_X13_path g 4 _ _) _
    replace hg : 300 + 1 ≤ g := by omega
    obtain ⟨g, ge, hG⟩ := g1 hg; subst ge; clear hg; have hg := hG; clear hG; rw [E_X13_path_4]; unfold F_X13_path_4
    rw [show gI T 186 13 = nI c by rw [h2.2 _ _ (by omega)]; exact h13]
    exact o_t (nI_le (Nat.le_refl _) (by omega)) (hk T g (by omega) h1 h2)
theorem mp3 {Z : Int32 → aS → Prop} (hR : MR S) (hg : 2000 ≤ f) (hk : ∀ T g, 1500 ≤ g → (∀ j, j < 70 → gI T 192 j = gI S 192 (70 + j)) → Fr (fun x k => x = 192 ∧ k < 70) S T → zI (F_X13_path g 4 [.ref 186, .int 0] T) Z) : zI (F_X13_path f 3 [.ref 186, .int 0] S) Z := by
  refine o_loop (F := fun f vs S => F_X13_path f 3 vs S) (c := 1) (B := 1501) (y := 70) (fun k vs T => vs = [.ref 186, .int (nI k)] ∧ (∀ j, j < k → gI T 192 j = gI S 192 (70 + j)) ∧ Fr (fun x k => x = 192 ∧ k < 70) S T) ?_ ?_ 0 _ S f (by omega) ⟨rfl, fun j h => absurd h (by omega), Fr.refl S⟩ (by omega)
  · rintro k _ T g hk ⟨rfl, h1, h2⟩ hg rk
    show zO (F_X13_path g 3 _ _) _
    replace hg : 1501 + 1 ≤ g := by omega
    obtain ⟨g, ge, hG⟩ := g1 hg; subst ge; clear hg; have hg := hG; clear hG; rw [E_X13_path_3]; unfold F_X13_path_3
    refine o_f (nI_ge (b := 70) hk (by omega)) ?_
    refine o_X (n := 70 + k) (nA2' rfl) (by omega) (o_X (n := k) rfl (by omega) ?_)
    rw [(hR.fr h2).paths, nI_1]
    refine o_s (fun A a => ?_)
    refine rk g _ _ (by omega) ⟨rfl, fun j hj => ?_, h2.sI a (by omega)⟩
    rw [a, gI_sI, h2.2 192 (70 + k) (by omega)]
    by_cases e : j = k
    · rw [if_pos ⟨rfl, e⟩, e]
    · rw [if_neg (by omega)]; exact h1 j (by omega)
  · rintro _ T g ⟨rfl, h1, h2⟩ hg
    show zO (F_X13_path g 3 _ _) _
    replace hg : 1500 + 1 ≤ g := by omega
    obtain ⟨g, ge, hG⟩ := g1 hg; subst ge; clear hg; have hg := hG; clear hG; rw [E_X13_path_3]; unfold F_X13_path_3
    exact o_t (nI_le (b := 70) (Nat.le_refl _) (by omega)) (hk T g (by omega) h1 h2)
/-- the copy is the path -/
theorem MQs.mp {V : aS} (h : MQs S Q c) (hI : QI Q) (hc : c ≤ 1000) (h1 : ∀ j, j < 70 → gI V 192 j = gI S 192 (70 + j)) (h2 : ∀ j, j < c → gI V 193 j = gI S 193 (1100 + j) ∧ gI V 194 j = gI S 194 (1100 + j)) : MP V Q.1 := by
  obtain ⟨⟨a1, a2, a3⟩, ⟨l1, l2, l3⟩, a5, a6⟩ := h.1
  have h6 := hI.1.1.1.2.2.1
  have h12 := hI.1.1.1.2.2.2.1
  have ml : ∀ (x : Int32) (o : Option (List Int32)), MLr S x o c → ML V x o := by
    intro x o hh
    rcases hh with hh | ⟨cs, j, e1, e2, e3, e4, e5⟩
    · exact Or.inl hh
    · refine Or.inr ⟨cs, j, e1, e2, by omega, by rw [(h2 _ e3).1]; exact e4, fun k hk => ?_⟩
      rw [(h2 (j + k) (by omega)).1, (h2 (j + k) (by omega)).2]
      exact e5 k hk
  refine ⟨⟨by rw [h1 0 (by omega)]; exact a1.1, by rw [h1 1 (by omega)]; exact a1.2.1, by rw [h1 3 (by omega)]; exact a1.2.2.1, by rw [h1 4 (by omega)]; exact a1.2.2.2⟩, fun i hi => ?_, fun k hk => ?_, ?_, by rw [h1 5 (by omega)]; exact ml _ _ l1, by rw [h1 6 (by omega)]; exact ml _ _ l2⟩
  · rw [h1 (8 + 3 * i) (by omega), h1 (8 + 3 * i + 1) (by omega), h1 (8 + 3 * i + 2) (by omega), show 70 + (8 + 3 * i) = 78 + 3 * i by omega, show 70 + (8 + 3 * i + 1) = 78 + 3 * i + 1 by omega, show 70 + (8 + 3 * i + 2) = 78 + 3 * i + 2 by omega]
    exact a2 i hi
  · rw [h1 (26 + k) (by omega), h1 (34 + k) (by omega), show 70 + (26 + k) = 96 + k by omega, show 70 + (34 + k) = 104 + k by omega]
    refine ⟨(a3 k hk).1, ?_⟩
    rw [(a3 k hk).2]
    by_cases t : Q.2.2.2 k = true
    · rw [if_pos t]; exact Or.inr rfl
    · rw [if_neg t]; exact Or.inl ⟨rfl, hI.2.2.2.2 k hk (by simpa using t)⟩
  · rcases h.2 with ⟨w1, w2, w3⟩ | ⟨w1, w2, w3⟩
    · exact Or.inl ⟨w1, by rw [h1 2 (by omega)]; exact w2, by rw [h1 42 (by omega)]; exact w3⟩
    · refine Or.inr ⟨w1, by rw [h1 2 (by omega)]; exact w2, fun k hk => ?_⟩
      rw [h1 (42 + k) (by omega), show 70 + (42 + k) = 112 + k by omega]
      exact w3 k hk
theorem M_fin (h : MTk S tp N n) (hq : MQs S Q c) (hc : c ≤ n) (hI : QI Q) (hg : 2100 ≤ f) : zI (F_X13_path f 2 [.ref 186] S) (fun x T => x = 0 ∧ MBg T Q.1 ∧ gI T 186 16 = nI (pN Q.1) ∧ (∀ i, i < pN Q.1 → gJ T 195 i = lN (k37 (Q.2.1 i))) ∧ Fg (fun x k => dFn x k ∨ (x = 192 ∧ k < 70) ∨ ((x = 193 ∨ x = 194) ∧ k < 1100)) nR S T) := by
  have hN1 := h.2.1.1.1
  have hn := h.2.2.1.2
  replace hg : 2099 + 1 ≤ f := hg
  obtain ⟨g, ge, hG⟩ := g1 hg; subst ge; clear hg; have hg := hG; clear hG; rw [E_X13_path_2]; unfold F_X13_path_2
  refine o_t (by rw [h.2.2.2.1]; decide) ?_
  refine mp3 h.1 (by omega) (fun V g hg v1 v2 => ?_)
  refine mp4 (c := c) (h.1.fr v2) (by omega) (by rw [v2.2 _ _ (by omega)]; exact hq.1.2.1.2.2) (by omega) (fun W g hg w1 w2 => ?_)
  have fW : Fr (fun x k => (x = 192 ∧ k < 70) ∨ ((x = 193 ∨ x = 194) ∧ k < 1100)) S W := (v2.mono (fun q k d => by omega)).tr (w2.mono (fun q k d => by omega))
  have mW : MM W Q.1 := ⟨h.1.fr fW, hq.mp hI (by omega) (fun j hj => by rw [w2.2 _ _ (by omega)]; exact v1 j hj) (fun j hj => by rw [(w1 j hj).1, (w1 j hj).2, v2.2 _ _ (by omega), v2.2 _ _ (by omega)]; exact ⟨rfl, rfl⟩)⟩
  refine i_m (mp5 mW hI.1.1 hI.1.1.1.2.2.1 (by rw [fW.2 _ _ (by omega)]; exact hq.1.2.2.1.1) (by omega)) ?_
  rintro x T ⟨rfl, t1, t2, t3, t4⟩
  refine ⟨rfl, t1, t2, fun i hi => ?_, (fW.g.mono (fun q k d => Or.inr d) (fun _ d => d.elim)).tr (t4.mono (fun q k d => Or.inl d) (fun _ d => d))⟩
  rw [t3 i hi, fW.J]
  exact hq.1.2.2.1.2 i hi
theorem M_path (hM : MI S A) (hA : AI n A) (ho : okTp (tpA A)) (hg : 37600 ≤ f) : zI (F_X13_path f 0 [.ref 186] S) (fun x T => eE (xAl (tpA A) 1001 Q0 0) (fun k m => x = nI (k + 16 * tP (tpA A) m) ∧ MI T (tpM A [])) (fun Q _ => x = 0 ∧ MI T (paA Q)) ∧ Fg (fun q _ => 186 ≤ q ∧ q < 207) (fun _ => False) S T) := by
  obtain ⟨⟨h1, h2, h3, h4⟩, ⟨h5, h6⟩, h7, h8, ⟨h9, h10⟩, h11⟩ := id hM
  replace hg : 37599 + 1 ≤ f := hg
  obtain ⟨g, ge, hG⟩ := g1 hg; subst ge; clear hg; have hg := hG; clear hG; rw [E_X13_path_0]; unfold F_X13_path_0
  refine o_s (fun S1 s1 => ?_)
  have f1 : Fr (fun x k => x = 186 ∧ k = 0) S S1 := (Fr.refl S).sI s1 ⟨rfl, rfl⟩
  refine o_V (M_cut (tp := tpA A) (h1.1.fr f1) (h8.fg f1.g ⟨by omega, fun k => by omega⟩) ho (by omega)) ?_
  rintro U ⟨⟨M, uM⟩, u7, u8, u2, uf⟩
  have fU : Fg (fun x k => (x = 186 ∧ (k = 0 ∨ k = 2 ∨ k = 3 ∨ k = 7 ∨ k = 8)) ∨ x = 188 ∨ x = 189 ∨ x = 190) nR S U := (f1.g.mono (fun x k d => by omega) (fun x hx => hx)).tr (uf.mono (fun x k d => by unfold dCu at d; omega) (fun x hx => hx))
  have hU : MTk U (tpA A) M 0 := ⟨h1.1.fg fU id, uM, ⟨u7, Nat.zero_le _⟩, u8, fun k hk => by rw [(fU.1 _ _ (by omega)).2]; exact h11 k hk⟩
  refine o_s (fun S2 s2 => o_s (fun S3 s3 => o_s (fun S4 s4 => ?_)))
  have f4 : Fr (fun x k => x = 186 ∧ (k = 13 ∨ k = 17 ∨ k = 18)) U S4 := (((Fr.refl U).sI s2 (by omega)).sI s3 (by omega)).sI s4 (by omega)
  have hR4 := hU.1.fr f4
  refine o_V (M_stands (b := 70) hR4 (Or.inr rfl) (by omega)) ?_
  rintro S5 ⟨t5, f5⟩
  have g5 : Fg dPm nR U S5 := (f4.g.mono (fun q k d => by unfold dPm; omega) (fun _ d => d)).tr (f5.g.mono (fun q k d => by unfold dPm; omega) (fun _ d => d))
  have h5' : MTk S5 (tpA A) M 0 := (hU.fr f4 (by refine ⟨⟨by omega, by omega⟩, fun k => ⟨by omega, by omega, by omega⟩⟩)).fr f5 (by refine ⟨⟨by omega, by omega⟩, fun k => ⟨by omega, by omega, by omega⟩⟩)
  have q5 : MQs S5 Q0 0 := MQs.of0 t5 (by rw [f5.2 _ _ (by omega), s4, gI_sI, if_neg (by omega), s3, gI_sI, if_neg (by omega), s2, gI_sI, if_pos ⟨rfl, rfl⟩]) (by rw [f5.2 _ _ (by omega), s4, gI_sI, if_neg (by omega), s3, gI_sI, if_pos ⟨rfl, rfl⟩]) (by rw [f5.2 _ _ (by omega), s4, gI_sI, if_pos ⟨rfl, rfl⟩])
  have al : ∀ {T : aS}, Fg dPm nR U T → Fg (fun x k => (x = 186 ∧ (k = 0 ∨ k = 2 ∨ k = 3 ∨ k = 7 ∨ k = 8 ∨ k = 13 ∨ k = 17 ∨ k = 18)) ∨ x = 188 ∨ x = 189 ∨ x = 190 ∨ (x = 192 ∧ 70 ≤ k) ∨ ((x = 193 ∨ x = 194) ∧ 1100 ≤ k) ∨ x = 196) nR S T := fun hf => (fU.mono (fun x k d => by omega) (fun x hx => hx)).tr (hf.mono (fun x k d => by unfold dPm at d; omega) (fun x hx => hx))
  refine M_pall (S0 := U) ho.1 1001 0 g S5 Q0 0 (by omega) (by omega) h5' q5 (Nat.le_refl _) Q0_i g5 (fun k m T er fT => ?_) (fun Q m c T g er hI hT hc hq fT hg => ?_)
  · rw [er]
    have fa := al fT
    refine ⟨⟨rfl, ⟨⟨?_, h2.fg fa (fun k a b => by omega), h3.fg fa (fun k a b => by omega), by rw [fa.I (by omega)]; exact h4⟩, ⟨h5.fg hA.2.2.1.1 fa (by omega) (fun k a b => by omega), h6.fg fa (fun k => by omega) (fun k a b => by omega)⟩, h7.fg fa (fun k => by omega), ⟨by rw [fT.I (by unfold dPm; omega)]; exact u2, fun k hk => absurd hk (by simp [tpA, tpM])⟩, ⟨by rw [fa.I (by omega)]; exact h9, fun i hi => ?_⟩, fun k hk => ?_⟩⟩, fa.mono (fun x k d => by omega) (fun _ d => d)⟩
    · obtain ⟨m0, m1, m2, m3, m4, m5, m6⟩ := h1
      have e : ∀ k, k < 70 → gI T 192 k = gI S 192 k := fun k hk => fa.I (by omega)
      have hP6 : pN (plA A) ≤ 6 := hA.2.1.1.1.2.2.1
      have hW12 : pW (plA A) ≤ 12 := hA.2.1.1.1.2.2.2.1
      have mls : ∀ {x : Int32} {o : Option (List Int32)}, ML S x o → ML T x o := by
        intro x o hh
        rcases hh with hh | ⟨cs, j, e1, e2, e3, e4, e5⟩
        · exact Or.inl hh
        · refine Or.inr ⟨cs, j, e1, e2, e3, by rw [fa.I (by omega)]; exact e4, fun k hk => ?_⟩
          rw [fa.I (by omega), fa.I (by omega)]
          exact e5 k hk
      refine ⟨m0.fg fa id, ?_, fun i hi => ?_, fun k hk => ?_, ?_, ?_, ?_⟩
      · rw [e _ (by omega), e _ (by omega), e _ (by omega), e _ (by omega)]; exact m1
      · have hi' : i < pN (plA A) := hi
        rw [e _ (by omega), e _ (by omega), e _ (by omega)]; exact m2 i hi
      · rw [e _ (by omega), e _ (by omega)]; exact m3 k hk
      · rcases m4 with ⟨w1, w2, w3⟩ | ⟨w1, w2, w3⟩
        · exact Or.inl ⟨w1, by rw [e _ (by omega)]; exact w2, by rw [e _ (by omega)]; exact w3⟩
        · exact Or.inr ⟨w1, by rw [e _ (by omega)]; exact w2, fun k hk => by have hk' : k < pW (plA A) := hk; rw [e _ (by omega)]; exact w3 k hk⟩
      · rw [e _ (by omega)]; exact mls m5
      · rw [e _ (by omega)]; exact mls m6
    · rw [(fa.1 _ _ (by omega)).2]; exact h10 i hi
    · rw [(fa.1 _ _ (by omega)).2]; exact h11 k hk
  · rw [er]
    refine i_m (M_fin hT hq hc hI (by omega)) ?_
    rintro x V ⟨rfl, v1, v2, v3, v4⟩
    have fa : Fg (fun x k => (x = 186 ∧ (k = 0 ∨ k = 2 ∨ k = 3 ∨ k = 7 ∨ k = 8 ∨ k = 13 ∨ k = 17 ∨ k = 18 ∨ k = 16 ∨ k = 23 ∨ (26 ≤ k ∧ k ≤ 28))) ∨ (188 ≤ x ∧ x ≤ 190) ∨ (192 ≤ x ∧ x ≤ 201)) nR S V := ((al fT).mono (fun x k d => by omega) (fun _ d => d)).tr (v4.mono (fun x k d => by unfold dFn at d; omega) (fun _ d => d))
    refine ⟨⟨rfl, ⟨⟨v1.1, v1.2.1, v1.2.2.1, by rw [fa.I (by omega)]; exact h4⟩, ⟨⟨v1.2.2.2.2.1, fun i hi => absurd hi (by simp [hiA, paA])⟩, fun m hm => ⟨v1.2.2.2.2.2 m hm, fun x hx => absurd hx (by simp [mkA, paA])⟩⟩, ⟨v1.2.2.2.1, fun i hi => absurd hi (by simp [dyA, paA])⟩, ⟨by rw [v4.I (by unfold dFn; omega), fT.I (by unfold dPm; omega)]; exact u2, fun k hk => absurd hk (by simp [tpA, paA])⟩, ⟨v2, v3⟩, fun k hk => ?_⟩⟩, fa.mono (fun x k d => by omega) (fun _ d => d)⟩
    rw [(fa.1 _ _ (by omega)).2]; exact h11 k hk
theorem AI.pa (hI : QI Q) : AI n (paA Q) := ⟨⟨Nat.zero_le _, fun c hc => absurd hc (by simp [tpA, paA]), hI.1.2⟩, ⟨hI.1.1, (bgL_LI hI.1.1).up (Nat.zero_le _), fun k hk => rfl⟩, ⟨Nat.zero_le _, fun L hL => absurd hL (by simp [hiA, paA]), fun m x hx => absurd hx (by simp [mkA, paA])⟩, Nat.zero_le _, fun x hx => absurd hx (by simp [dyA, paA])⟩
theorem AI.tp0 (hA : AI n A) : AI (n + 1) (tpM A []) := by
  have h := hA.up (m := n + 1) (by omega)
  exact ⟨⟨Nat.zero_le _, fun c hc => absurd hc (by simp [tpA, tpM]), h.1.2.2⟩, h.2⟩
theorem B_path (hg : 43600 ≤ f) : Both n (fun S => F_X12_path f 0 [.ref 0] S) (fun S => F_X13_path f 0 [.ref 186] S) := by
  refine Both.of (fun S T A hC hM hA => ?_)
  have ho : okTp (tpA A) := ⟨hA.1.1, hA.1.2.1⟩
  obtain ⟨N, hN⟩ := nT_ex (tpA A) hA.1.1
  have hi := xAl_i hN 1001 Q0 0 (Nat.zero_le _) (by omega) Q0_i
  have kc := C_path hC ho hN hg
  have km := M_path hM hA ho (show 37600 ≤ f by omega)
  rcases er : xAl (tpA A) 1001 Q0 0 with ⟨k, m⟩ | ⟨Q, m⟩
  · rw [er] at hi kc km
    exact ⟨nI (k + 16 * tP (tpA A) m), tpM A [], hA.tp0, i_m kc (fun x U hx => ⟨hx.1.1, hx.1.2, hx.2⟩), i_m km (fun x U hx => ⟨hx.1.1, hx.1.2, hx.2⟩)⟩
  · rw [er] at hi kc km
    exact ⟨0, paA Q, AI.pa hi.2, i_m kc (fun x U hx => ⟨hx.1.1, hx.1.2, hx.2⟩), i_m km (fun x U hx => ⟨hx.1.1, hx.1.2, hx.2⟩)⟩
end BP

/-! the reference reads a path: lines -/
section MP6
variable {S T U : aS} {f n x N a b c : Nat} {tp : List Nat} {D : Nat → Nat → Prop} {R : Nat → Prop} {Q Q2 : aQ}
theorem ro4 {P : aS → Prop} (hg : 1 ≤ f) (hP : P S) : zU (F_X13_readOnce f 4 [] S) P := by
  obtain ⟨g, ge, hG⟩ := g1 hg; subst ge; clear hg; have hg := hG; clear hG; rw [E_X13_readOnce_4]; unfold F_X13_readOnce_4
  exact u_r hP
theorem M_onum {j : Nat} (ho : tp.length ≤ 1000) (h : MTk S tp N n) (hq : MQs S Q c) (hc : c ≤ n) (hI : QI Q) (hb : b < 10000) (hab : a ≤ b) (hj : j = 70 ∨ j = 73 ∨ j = 74) (hg : 20 ≤ f) : zU (bI (F_X13_takeNumber f 0 [.ref 186, .int (nI a), .int (nI b)] S) fun x S39 => bX (nI j) 140 fun q => fS (sI S39 (gR S 186 10) q x) fun S41 => F_X13_readOnce f 4 [] S41) (fun T => eE (eb (xNum tp n a b) fun v m => .ok (if j = 70 then yQ Q v else if j = 73 then cQ Q v else fQ Q v, m)) (mX tp S T) (mY tp N S T)) := by
  have h12 := hI.1.1.1.2.2.2.1
  have h6 := hI.1.1.1.2.2.1
  refine o_I (M_num ho h hb hab (by omega)) (fun x A hx => ?_)
  refine o_X (n := j) rfl (by omega) ?_
  rw [h.1.paths]
  refine o_s (fun B e => ro4 (by omega) ?_)
  have hE := xNum_i (a := a) (b := b) h.2.1.1 h.2.2.1.2
  rcases er : xNum tp n a b with ⟨e1, e2⟩ | ⟨v, m⟩
  · rw [er] at hx
    obtain ⟨rfl, x1, x2⟩ := hx
    exact ⟨by rw [e, gI_sI, if_neg (by omega)]; exact x1, (g78 x2).tr (g192 e (by omega))⟩
  · rw [er] at hx hE
    obtain ⟨rfl, x1, x2⟩ := hx
    exact ⟨x1.s192 e, ⟨c, by have := hE.1.1; omega, (hq.f78 h12 x2).one h12 h6 hj e⟩, (g78 x2).tr (g192 e (by omega))⟩
theorem ro3 {v : Int32} {z : Nat} (h : MFt S z) (hg : 1 ≤ f) : zU (F_X13_readOnce f 3 [.ref 186, .int v] S) (fun T => T = S) := by
  obtain ⟨g, ge, hG⟩ := g1 hg; subst ge; clear hg; have hg := hG; clear hG; rw [E_X13_readOnce_3]; unfold F_X13_readOnce_3
  exact o_f h.p (u_r rfl)
theorem M_once (ho : tp.length ≤ 1000) (h : MTk S tp N n) (hq : MQs S Q c) (hc : c ≤ n) (hI : QI Q) (hg : 36300 ≤ f) : zU (F_X13_readOnce f 0 [.ref 186] S) (fun T => eE (if 2 ≤ wO tp n ∧ wO tp n ≤ 7 then (if Q.2.2.1 (wO tp n - 2) = true then .error (3, n) else xBe tp (oQ Q (wO tp n - 2)) (wO tp n) (n + 1)) else .error (1, n)) (mX tp S T) (mY tp N S T)) := by
  have h12 := hI.1.1.1.2.2.2.1
  have h6 := hI.1.1.1.2.2.1
  have hN := h.2.1.1
  replace hg : 36299 + 1 ≤ f := hg
  obtain ⟨g, ge, hG⟩ := g1 hg; subst ge; clear hg; have hg := hG; clear hG; rw [E_X13_readOnce_0]; unfold F_X13_readOnce_0
  -- what is known of k
  have at2 : ∀ (g k : Nat), 36297 ≤ g → k < 6 → wO tp n = k + 2 → zU (F_X13_readOnce g 2 [.ref 186, .int (nI k)] S) (fun T => eE (if 2 ≤ wO tp n ∧ wO tp n ≤ 7 then (if Q.2.2.1 (wO tp n - 2) = true then .error (3, n) else xBe tp (oQ Q (wO tp n - 2)) (wO tp n) (n + 1)) else .error (1, n)) (mX tp S T) (mY tp N S T)) := by
    intro g k hg hk hw
    rw [if_pos (show 2 ≤ wO tp n ∧ wO tp n ≤ 7 by omega), show wO tp n - 2 = k by omega, hw]
    have hs := wO_s hN h.2.2.1.2 (show 1 ≤ wO tp n by omega)
    obtain ⟨g, rfl, hg2⟩ := g1 (n := 36296) (f := g) (by omega)
    rw [E_X13_readOnce_2]; unfold F_X13_readOnce_2
    rw [hq.1.2.2.2]
    by_cases c1 : Q.2.2.1 k = true
    · rw [if_pos c1]
      refine o_t ((once_t hk).mpr c1) ?_
      refine o_V (M_wrong (k := 3) h (by omega)) ?_
      rintro A ⟨a1, a2⟩
      refine u_m (ro3 (mf_n ho (by omega) (by omega) a1) (by omega)) (fun T t => ?_)
      rw [t]
      exact ⟨a1, g78 (d8_78 a2)⟩
    rw [if_neg c1]
    refine o_f (fun hh => c1 ((once_t hk).mp hh)) ?_
    have c1' : Q.2.2.1 k = false := by simpa using c1
    obtain ⟨g, rfl, hg2⟩ := g1 (n := 36295) (f := g) (by omega)
    rw [E_X13_readOnce_3]; unfold F_X13_readOnce_3
    refine o_t (by rw [h.2.2.2.1]; decide) ?_
    rw [hq.1.2.2.2, sh_1 (show k < 8 by omega)]
    refine o_s (fun S1 s1 => ?_)
    have q1 := hq.onc h12 hk s1
    have f1 : Fr (fun x k => x = 186 ∧ k = 18) S S1 := (Fr.refl S).sI s1 ⟨rfl, rfl⟩
    have h1 : MTk S1 tp N n := h.fr f1 (by refine ⟨⟨by omega, by omega⟩, fun k => ⟨by omega, by omega, by omega⟩⟩)
    rw [h1.2.2.1.1, nI_1]
    refine o_s (fun S2 s2 => ?_)
    have f2 : Fr d7 S1 S2 := (Fr.refl S1).sI s2 ⟨rfl, rfl⟩
    have h2 := h1.at f2 (by rw [s2, gI_sI, if_pos ⟨rfl, rfl⟩]) hs
    have q2 : MQs S2 (oQ Q k) c := q1.f78 h12 (d7_78 f2)
    have gS : Fg dPm nR S S2 := (f1.g.mono (fun q k d => by unfold dPm; omega) (fun _ d => d)).tr (g78 (d7_78 f2))
    have hI1 : QI (oQ Q k) := by
      have hJ := xHd_i hN h.2.2.1.2 hI
      unfold xHd at hJ
      rw [if_pos (show 2 ≤ wO tp n ∧ wO tp n ≤ 7 by omega), show wO tp n - 2 = k by omega, if_neg c1] at hJ
      exact hJ.2.1.i
    have fin : ∀ {a : aR} {r : eR aQ}, zU a (fun T => eE r (mX tp S2 T) (mY tp N S2 T)) → zU a (fun T => eE r (mX tp S T) (mY tp N S T)) := fun ha => u_m ha (fun T t => eE_m t (fun _ _ hh => ⟨hh.1, gS.tr hh.2⟩) (fun _ _ hh => ⟨hh.1, hh.2.1, gS.tr hh.2.2⟩))
    refine fin ?_
    rcases (show k = 0 ∨ k = 1 ∨ k = 2 ∨ k = 3 ∨ k = 4 ∨ k = 5 by omega) with rfl | rfl | rfl | rfl | rfl | rfl
    · refine o_t rfl ?_
      exact M_onum (j := 70) (a := 2) (b := 8) ho h2 q2 (by omega) hI1 (by omega) (by omega) (Or.inl rfl) (by omega)
    · refine o_f (by decide) (o_t rfl ?_)
      refine o_V (M_winds ho h2 q2 (by omega) hI1 (by omega)) (fun A ha => ro4 (by omega) ?_)
      exact ha
    · refine o_f (by decide) (o_f (by decide) (o_f (by decide) ?_))
      rw [if_pos (show nI 2 = (2 : Int32) from rfl), show ((73 : Int32) + nI 2) - (2 : Int32) = nI 73 by decide]
      exact M_onum (j := 73) (a := 0) (b := 99) ho h2 q2 (by omega) hI1 (by omega) (by omega) (Or.inr (Or.inl rfl)) (by omega)
    · refine o_f (by decide) (o_f (by decide) (o_f (by decide) ?_))
      rw [if_neg (show ¬ nI 3 = (2 : Int32) by decide), show ((73 : Int32) + nI 3) - (2 : Int32) = nI 74 by decide]
      exact M_onum (j := 74) (a := 0) (b := 9) ho h2 q2 (by omega) hI1 (by omega) (by omega) (Or.inr (Or.inr rfl)) (by omega)
    · refine o_f (by decide) (o_f (by decide) (o_t (by decide) ?_))
      refine o_X (n := 75) (by decide) (by omega) ?_
      rw [h2.1.paths, q2.1.2.1.2.2]
      refine o_s (fun S3 s3 => ?_)
      exact M_law (d := 75) ho h2 q2 (by omega) hI1 (Or.inl rfl) s3 (by omega)
    · refine o_f (by decide) (o_f (by decide) (o_t (by decide) ?_))
      refine o_X (n := 76) (by decide) (by omega) ?_
      rw [h2.1.paths, q2.1.2.1.2.2]
      refine o_s (fun S3 s3 => ?_)
      exact M_law (d := 76) ho h2 q2 (by omega) hI1 (Or.inr rfl) s3 (by omega)
  refine o_I (M_isWord (i := 0) h (by omega) (by omega)) ?_
  rintro _ T1 ⟨rfl, t1⟩
  rw [t1]
  have e0 : qW tp n (cm 0) = true ↔ wO tp n = 2 := qW_w (q := 2) (by omega) (by omega)
  by_cases c0 : qW tp n (cm 0) = true
  · rw [if_pos c0]
    refine o_f (by decide) ?_
    replace hg : 36298 + 1 ≤ g := hg
    obtain ⟨g, ge, hG⟩ := g1 hg; subst ge; clear hg; have hg := hG; clear hG; rw [E_X13_readOnce_1]; unfold F_X13_readOnce_1
    refine o_t rfl ?_
    refine o_I (M_isWord (i := 0) h (by omega) (by omega)) ?_
    rintro _ T1 ⟨rfl, t1⟩
    rw [t1, if_pos c0]
    refine o_f (by decide) ?_
    exact at2 g 0 (by omega) (by omega) (e0.mp c0)
  · rw [if_neg c0]
    refine o_t rfl ?_
    refine o_I (M_wordHere (a := 7) (c := 5) h (by omega) (by omega)) ?_
    rintro x T2 ⟨t2, hx⟩
    rw [t2]
    replace hg : 36298 + 1 ≤ g := hg
    obtain ⟨g, ge, hG⟩ := g1 hg; subst ge; clear hg; have hg := hG; clear hG; rw [E_X13_readOnce_1]; unfold F_X13_readOnce_1
    have hcm : ∀ j, j < 5 → cm (7 + j) = 3 + j := fun j hj => co_dec (N := 5) (P := fun j => cm (7 + j) = 3 + j) (by decide +kernel) hj
    rcases hx with ⟨j, j1, j2, j3⟩ | ⟨x1, x2⟩
    · rw [hcm j j1, qW_w (by omega) (by omega)] at j3
      rw [j2, nI_1]
      refine o_f (nI_ne (b := 0) (by omega) (by omega) (by omega)) ?_
      exact at2 g (j + 1) (by omega) (by omega) (by omega)
    · have hn : ¬ (2 ≤ wO tp n ∧ wO tp n ≤ 7) := by
        intro hh
        by_cases c2 : wO tp n = 2
        · exact c0 (e0.mpr c2)
        · exact x2 (wO tp n - 3) (by omega) (by rw [hcm _ (by omega), qW_w (by omega) (by omega)]; omega)
      rw [x1, if_neg hn]
      refine o_t (by decide) ?_
      refine o_I (M_isWord (i := 0) h (by omega) (by omega)) ?_
      rintro _ T1 ⟨rfl, t1⟩
      rw [t1, if_neg c0]
      refine o_t rfl ?_
      refine o_V (M_wrong (k := 1) h (by omega)) ?_
      rintro A ⟨a1, a2⟩
      refine u_m (ro3 (mf_n ho (by omega) (by omega) a1) (by omega)) (fun T t => ?_)
      rw [t]
      exact ⟨a1, g78 (d8_78 a2)⟩
theorem M_line (ho : tp.length ≤ 1000) (h : MTk S tp N n) (hq : MQs S Q c) (hc : c ≤ n) (hI : QI Q) (hg : 36400 ≤ f) : zU (F_X13_readLine f 0 [.ref 186] S) (fun T => eE (eb (xHd tp Q n) fun Q1 m => xBe tp Q1 (wO tp n) m) (mX tp S T) (mY tp N S T)) := by
  have h12 := hI.1.1.1.2.2.2.1
  have hN := h.2.1.1
  replace hg : 36399 + 1 ≤ f := hg
  obtain ⟨g, ge, hG⟩ := g1 hg; subst ge; clear hg; have hg := hG; clear hG; rw [E_X13_readLine_0]; unfold F_X13_readLine_0
  have e1 : qW tp n (cm 1) = true ↔ wO tp n = 8 := qW_w (q := 8) (by omega) (by omega)
  have e4 : qW tp n (cm 4) = true ↔ wO tp n = 11 := qW_w (q := 11) (by omega) (by omega)
  have e6 : qW tp n (cm 6) = true ↔ wO tp n = 13 := qW_w (q := 13) (by omega) (by omega)
  refine o_I (M_isWord (i := 1) h (by omega) (by omega)) ?_
  rintro _ T1 ⟨rfl, t1⟩
  rw [t1]
  by_cases c1 : qW tp n (cm 1) = true
  · rw [if_pos c1]
    refine o_f (by decide) ?_
    have w8 := e1.mp c1
    refine o_V (M_per ho h c1 hq hc hI (by omega)) (fun A ha => u_m (rl1 (by omega)) (fun T t => ?_))
    rw [t]
    have es : (eb (xHd tp Q n) fun Q1 m => xBe tp Q1 (wO tp n) m) = (if 6 ≤ pN Q.1 then .error (5, n) else xPer tp Q (n + 1)) := by
      unfold xHd
      rw [w8, if_neg (by omega), if_pos rfl]
      by_cases c6 : 6 ≤ pN Q.1
      · rw [if_pos c6, if_pos c6]; rfl
      · rw [if_neg c6, if_neg c6]; rfl
    rw [es]
    exact ha
  rw [if_neg c1]
  have n8 : ¬ wO tp n = 8 := fun h => c1 (e1.mpr h)
  refine o_t rfl ?_
  refine o_I (M_isWord (i := 4) h (by omega) (by omega)) ?_
  rintro _ T1 ⟨rfl, t1⟩
  rw [t1]
  have at1 : ∀ (S1 : aS), wO tp n = 11 ∨ wO tp n = 13 → S1 = sI S 186 7 (nI (n + 1)) → MTk S1 tp N (n + 1) ∧ MQs S1 Q c ∧ Fg dPm nR S S1 := by
    intro S1 hw s1
    have hs := wO_s hN h.2.2.1.2 (show 1 ≤ wO tp n by omega)
    have f1 : Fr d7 S S1 := (Fr.refl S).sI s1 ⟨rfl, rfl⟩
    exact ⟨h.at f1 (by rw [s1, gI_sI, if_pos ⟨rfl, rfl⟩]) hs, hq.f78 h12 (d7_78 f1), g78 (d7_78 f1)⟩
  have ex : wO tp n = 11 ∨ wO tp n = 13 → (eb (xHd tp Q n) fun Q1 m => xBe tp Q1 (wO tp n) m) = xBe tp Q (wO tp n) (n + 1) := by
    intro hw
    unfold xHd
    rw [if_neg (by omega), if_neg n8, if_pos hw]; rfl
  by_cases c4 : qW tp n (cm 4) = true
  · rw [if_pos c4]
    refine o_f (by decide) ?_
    have w11 := e4.mp c4
    rw [h.2.2.1.1, nI_1]
    refine o_s (fun S1 s1 => ?_)
    obtain ⟨h1, q1, g1'⟩ := at1 S1 (Or.inl w11) s1
    refine u_m (M_bin ho h1 q1 (by omega) hI (by omega)) (fun T t => ?_)
    rw [ex (Or.inl w11), w11]
    exact eE_m (show eE (xBin tp Q (n + 1)) _ _ from t) (fun _ _ hh => ⟨hh.1, g1'.tr hh.2⟩) (fun _ _ hh => ⟨hh.1, hh.2.1, g1'.tr hh.2.2⟩)
  rw [if_neg c4]
  have n11 : ¬ wO tp n = 11 := fun h => c4 (e4.mpr h)
  refine o_t rfl ?_
  refine o_I (M_isWord (i := 6) h (by omega) (by omega)) ?_
  rintro _ T1 ⟨rfl, t1⟩
  rw [t1]
  by_cases c6 : qW tp n (cm 6) = true
  · rw [if_pos c6]
    refine o_f (by decide) ?_
    have w13 := e6.mp c6
    rw [h.2.2.1.1, nI_1]
    refine o_s (fun S1 s1 => ?_)
    obtain ⟨h1, q1, g1'⟩ := at1 S1 (Or.inr w13) s1
    refine u_m (M_hea ho h1 q1 (by omega) hI (by omega)) (fun T t => ?_)
    rw [ex (Or.inr w13), w13]
    exact eE_m (show eE (xHea tp Q (n + 1)) _ _ from t) (fun _ _ hh => ⟨hh.1, g1'.tr hh.2⟩) (fun _ _ hh => ⟨hh.1, hh.2.1, g1'.tr hh.2.2⟩)
  rw [if_neg c6]
  have n13 : ¬ wO tp n = 13 := fun h => c6 (e6.mpr h)
  refine o_t rfl ?_
  refine o_V (M_once ho h hq hc hI (by omega)) (fun A ha => u_m (rl1 (by omega)) (fun T t => ?_))
  rw [t]
  have es : (eb (xHd tp Q n) fun Q1 m => xBe tp Q1 (wO tp n) m) = (if 2 ≤ wO tp n ∧ wO tp n ≤ 7 then (if Q.2.2.1 (wO tp n - 2) = true then .error (3, n) else xBe tp (oQ Q (wO tp n - 2)) (wO tp n) (n + 1)) else .error (1, n)) := by
    unfold xHd
    by_cases cw : 2 ≤ wO tp n ∧ wO tp n ≤ 7
    · rw [if_pos cw, if_pos cw]
      by_cases co : Q.2.2.1 (wO tp n - 2) = true
      · rw [if_pos co, if_pos co]; rfl
      · rw [if_neg co, if_neg co]; rfl
    · rw [if_neg cw, if_neg cw, if_neg n8, if_neg (show ¬ (wO tp n = 11 ∨ wO tp n = 13) by omega)]; rfl
  rw [es]
  exact ha
def mZ (tp : List Nat) (N : Nat) (S : aS) (r : eR aQ) (T : aS) : Prop := eE r (mX tp S T) (mY tp N S T)
end MP6

/-! the reference reads a path: small steps -/
def mE0 (tp : List Nat) (S T : aS) (k m : Nat) : Prop := gI T 186 8 = nI (k + 16 * tP tp m) ∧ Fr d78 S T
section MP1
variable {S T U : aS} {f n k x N a b : Nat} {tp : List Nat} {D : Nat → Nat → Prop} {R : Nat → Prop}
theorem MTk.fg (h : MTk S tp N n) (hf : Fg D R S T) (hR : ¬ R 186) (hD : (¬ D 186 7 ∧ ¬ D 186 8) ∧ (∀ k, ¬ D 188 k ∧ ¬ D 189 k ∧ ¬ D 190 k) ∧ ∀ k, ¬ D 191 k) : MTk T tp N n := ⟨h.1.fg hf hR, h.2.1.fg hf hD.2.1, ⟨by rw [hf.I hD.1.1]; exact h.2.2.1.1, h.2.2.1.2⟩, by rw [hf.I hD.1.2]; exact h.2.2.2.1, fun k hk => by rw [(hf.1 _ _ (hD.2.2 k)).2]; exact h.2.2.2.2 k hk⟩
theorem MFt.fg (h : MFt S x) (hf : Fg D R S T) (hD : ¬ D 186 8) : MFt T x := ⟨by rw [hf.I hD]; exact h.1, h.2⟩
theorem qW_w {q : Nat} (h2 : 2 ≤ q) (h3 : q < 31) : qW tp n q = true ↔ wO tp n = q := by
  unfold qW wO
  simp only [Bool.and_eq_true, beq_iff_eq]
  by_cases c : (tk tp n).1 = 1
  · rw [if_pos c]
    exact ⟨fun h => (wdO_iff h2 h3).mpr h.2, fun h => ⟨c, (wdO_iff h2 h3).mp h⟩⟩
  · rw [if_neg c]
    exact ⟨fun h => absurd h.1 c, fun h => by omega⟩
theorem d7_78 (h : Fr d7 S T) : Fr d78 S T := h.mono (fun q k d => by unfold d7 at d; unfold d78; omega)
theorem d8_78 (h : Fr d8 S T) : Fr d78 S T := h.mono (fun q k d => by unfold d8 at d; unfold d78; omega)
theorem d0_a (h : Fr d0 S T) : Fr D S T := h.mono (fun q k d => d.elim)
theorem M_num (ho : tp.length ≤ 1000) (h : MTk S tp N n) (hb : b < 10000) (hab : a ≤ b) (hg : 6 ≤ f) : zI (F_X13_takeNumber f 0 [.ref 186, .int (nI a), .int (nI b)] S) (fun x T => eE (xNum tp n a b) (fun k m => x = 0 ∧ mE0 tp S T k m) (fun v m => x = nI v ∧ MTk T tp N m ∧ Fr d78 S T)) := by
  refine i_m (M_takeNumber ho h hb hab hg) (fun x T hx => ?_)
  unfold xNum
  by_cases e : nW tp n a b = 0
  · rw [if_pos e] at hx ⊢
    exact ⟨hx.1, hx.2.1, d7_78 hx.2.2⟩
  · rw [if_neg e] at hx ⊢
    exact ⟨hx.1, hx.2.1, d8_78 hx.2.2⟩
theorem M_wrd {i : Nat} (h : MTk S tp N n) (hi : i < 29) (hg : 6 ≤ f) : zU (F_X13_takeWord f 0 [.ref 186, .int (nI i)] S) (fun T => eE (xWrd tp n (cm i)) (fun k m => mE0 tp S T k m) (fun _ m => MTk T tp N m ∧ Fr d78 S T)) := by
  refine u_m (M_takeWord h hi hg) (fun T hx => ?_)
  unfold xWrd
  by_cases e : qW tp n (cm i) = true
  · rw [if_pos e] at hx ⊢
    exact ⟨hx.1, d7_78 hx.2⟩
  · rw [if_neg e] at hx ⊢
    exact ⟨hx.1, hx.2.mono (fun q k d => d)⟩
theorem M_takeOne0 {v w : Int32} (h : MFt S x) (hg : 5 ≤ f) : zI (F_X13_takeOne f 0 [.ref 186, .int v, .int w] S) (fun y T => y = 0 ∧ Fr d0 S T) := by
  replace hg : 4 + 1 ≤ f := hg
  obtain ⟨g, ge, hG⟩ := g1 hg; subst ge; clear hg; have hg := hG; clear hG; rw [E_X13_takeOne_0]; unfold F_X13_takeOne_0
  refine o_f h.p ?_
  replace hg : 3 + 1 ≤ g := hg
  obtain ⟨g, ge, hG⟩ := g1 hg; subst ge; clear hg; have hg := hG; clear hG; rw [E_X13_takeOne_1]; unfold F_X13_takeOne_1
  refine o_f h.ne ?_
  replace hg : 2 + 1 ≤ g := hg
  obtain ⟨g, ge, hG⟩ := g1 hg; subst ge; clear hg; have hg := hG; clear hG; rw [E_X13_takeOne_2]; unfold F_X13_takeOne_2
  rw [if_neg h.p]
  refine o_s (fun V v => ?_)
  have fv := Fr_same v (by simp)
  refine i_r ⟨?_, fv⟩
  rw [if_neg (h.fr fv (fun d => d)).p]
theorem M_takeOne (ho : tp.length ≤ 1000) (h : MTk S tp N n) (hg : 70 ≤ f) : zI (F_X13_takeOne f 0 [.ref 186, .int 18, .int 4] S) (fun x T => eE (xKnd tp n) (fun k m => x = 0 ∧ mE0 tp S T k m) (fun v m => x = nI v ∧ MTk T tp N m ∧ Fr d78 S T)) := by
  replace hg : 69 + 1 ≤ f := hg
  obtain ⟨g, ge, hG⟩ := g1 hg; subst ge; clear hg; have hg := hG; clear hG; rw [E_X13_takeOne_0]; unfold F_X13_takeOne_0
  refine o_t (by rw [h.2.2.2.1]; decide) ?_
  refine o_I (M_wordHere (a := 18) (c := 4) h (by omega) (by omega)) ?_
  rintro x T1 ⟨t1, hx⟩
  rw [t1]
  replace hg : 68 + 1 ≤ g := hg
  obtain ⟨g, ge, hG⟩ := g1 hg; subst ge; clear hg; have hg := hG; clear hG; rw [E_X13_takeOne_1]; unfold F_X13_takeOne_1
  refine o_t h.2.2.2.1 ?_
  have hc : ∀ j, j < 4 → cm (18 + j) = 20 + j := fun j hj => co_dec (N := 4) (P := fun j => cm (18 + j) = 20 + j) (by decide +kernel) hj
  unfold xKnd
  rcases hx with ⟨j, j1, j2, j3⟩ | ⟨x1, x2⟩
  · rw [hc j j1, qW_w (by omega) (by omega)] at j3
    rw [if_pos (show 20 ≤ wO tp n ∧ wO tp n ≤ 23 by omega)]
    refine o_t (by rw [j2]; exact nI_pos' (by omega)) ?_
    replace hg : 67 + 1 ≤ g := hg
    obtain ⟨g, ge, hG⟩ := g1 hg; subst ge; clear hg; have hg := hG; clear hG; rw [E_X13_takeOne_2]; unfold F_X13_takeOne_2
    rw [h.2.2.2.1, if_pos (by decide), h.2.2.1.1, nI_1]
    refine o_s (fun V v => ?_)
    have fv : Fr d7 S V := (Fr.refl S).sI v ⟨rfl, rfl⟩
    have hV := h.at fv (by rw [v, gI_sI, if_pos ⟨rfl, rfl⟩]) (wO_s h.2.1.1 h.2.2.1.2 (by omega))
    rw [hV.2.2.2.1, if_pos (by decide)]
    refine i_r ⟨?_, hV, d7_78 fv⟩
    rw [j2, j3, Nat.add_sub_cancel_left]
  · have hn : ¬ (20 ≤ wO tp n ∧ wO tp n ≤ 23) := fun hh => x2 (wO tp n - 20) (by omega) (by rw [hc _ (by omega), qW_w (by omega) (by omega)]; omega)
    rw [if_neg hn]
    refine o_f (by rw [x1]; decide) ?_
    refine o_V (M_wrong (k := 1) h (by omega)) ?_
    rintro T3 ⟨u1, u2⟩
    have hx := mf_n ho (by omega) (by omega) u1
    replace hg : 67 + 1 ≤ g := hg
    obtain ⟨g, ge, hG⟩ := g1 hg; subst ge; clear hg; have hg := hG; clear hG; rw [E_X13_takeOne_2]; unfold F_X13_takeOne_2
    rw [if_neg hx.p]
    refine o_s (fun V v => ?_)
    have fv := Fr_same v (by simp)
    rw [if_neg (hx.fr fv (fun d => d)).p]
    exact i_r ⟨rfl, by rw [fv.2 _ _ (fun d => d)]; exact u1, (d8_78 u2).tr (d0_a fv)⟩
theorem M_after0 {v w z : Int32} (h : MFt S x) (hg : 10 ≤ f) : zI (F_X13_takeAfter f 0 [.ref 186, .int v, .int w, .int z] S) (fun y T => y = 0 ∧ Fr d0 S T) := by
  replace hg : 9 + 1 ≤ f := hg
  obtain ⟨g, ge, hG⟩ := g1 hg; subst ge; clear hg; have hg := hG; clear hG; rw [E_X13_takeAfter_0]; unfold F_X13_takeAfter_0
  refine o_V (M_takeWord0 h (by omega)) (fun T1 t1 => ?_)
  refine o_I (M_takeNumber0 (h.fr t1 (fun d => d)) (by omega)) ?_
  rintro y T2 ⟨rfl, t2⟩
  rw [t2]
  exact i_r ⟨rfl, t1⟩
theorem M_after {i : Nat} (ho : tp.length ≤ 1000) (h : MTk S tp N n) (hi : i < 29) (hb : b < 10000) (hab : a ≤ b) (hg : 10 ≤ f) : zI (F_X13_takeAfter f 0 [.ref 186, .int (nI i), .int (nI a), .int (nI b)] S) (fun x T => eE (eb (xWrd tp n (cm i)) fun _ m => xNum tp m a b) (fun k m => x = 0 ∧ mE0 tp S T k m) (fun v m => x = nI v ∧ MTk T tp N m ∧ Fr d78 S T)) := by
  replace hg : 9 + 1 ≤ f := hg
  obtain ⟨g, ge, hG⟩ := g1 hg; subst ge; clear hg; have hg := hG; clear hG; rw [E_X13_takeAfter_0]; unfold F_X13_takeAfter_0
  refine o_V (M_wrd h hi (by omega)) (fun T1 t1 => ?_)
  have hE := xWrd_i (q := cm i) h.2.1.1 h.2.2.1.2
  rcases er : xWrd tp n (cm i) with ⟨e1, e2⟩ | ⟨c, m⟩
  · rw [er] at t1 hE
    have hx := mf_n ho hE.1.1 hE.1.2 t1.1
    refine o_I (M_takeNumber0 hx (by omega)) ?_
    rintro y T2 ⟨rfl, t2⟩
    rw [t2]
    exact i_r ⟨rfl, t1⟩
  · rw [er] at t1
    refine o_I (M_num ho t1.1 hb hab (by omega)) (fun x T2 hx => i_r ?_)
    rw [eb_ok]
    exact eE_m hx (fun k m hh => ⟨hh.1, hh.2.1, t1.2.tr hh.2.2⟩) (fun v m hh => ⟨hh.1, hh.2.1, t1.2.tr hh.2.2⟩)
theorem M_yard {told : Nat → Bool} (ho : tp.length ≤ 1000) (h : MTk S tp N n) (hb : b = 26 ∨ b = 34) (ht : ∀ y, y < 8 → (gI S 192 (70 + b + y) ≤ 0 ↔ ¬ told y = true)) (hg : 10 ≤ f) : zI (F_X13_yardHere f 0 [.ref 186, .int (nI b)] S) (fun x T => eE (eb (xNum tp n 0 7) fun y m => if told y = true then .error (3, n) else .ok (y, m)) (fun k m => (∃ j, j < 8 ∧ x = nI j) ∧ mE0 tp S T k m) (fun y m => (x = nI y ∧ y < 8) ∧ MTk T tp N m ∧ Fr d78 S T)) := by
  replace hg : 9 + 1 ≤ f := hg
  obtain ⟨g, ge, hG⟩ := g1 hg; subst ge; clear hg; have hg := hG; clear hG; rw [E_X13_yardHere_0]; unfold F_X13_yardHere_0
  have ret : ∀ (g : Nat) (v : Int32) (W : aS) (P : Int32 → aS → Prop), 1 ≤ g → P v W → zI (F_X13_yardHere g 1 [.int v] W) P := by
    intro g v W P hg hP
    obtain ⟨g, rfl, hg2⟩ := g1 (n := 0) (f := g) (by omega)
    rw [E_X13_yardHere_1]; unfold F_X13_yardHere_1
    exact i_r hP
  refine o_I (M_num (a := 0) (b := 7) ho h (by omega) (by omega) (by omega)) (fun x T1 hx => ?_)
  have hE := xNum_i (a := 0) (b := 7) h.2.1.1 h.2.2.1.2
  rcases er : xNum tp n 0 7 with ⟨e1, e2⟩ | ⟨y, m⟩
  · rw [er] at hx hE
    have hf := mf_n ho hE.1.1 hE.1.2 hx.2.1
    refine o_f hf.ne (ret _ _ _ _ (by omega) ⟨⟨0, by omega, by rw [hx.1]; rfl⟩, hx.2⟩)
  · rw [er] at hx hE
    obtain ⟨rfl, h1, f1⟩ := hx
    have e1 := hE.1.1
    have hy : y < 8 := by have := hE.2.2; omega
    subst e1
    refine o_t h1.2.2.2.1 ?_
    refine o_X (n := 70 + b + y) (by rw [show (70 : Int32) = nI 70 from rfl, nI_add, nI_add]) (by omega) ?_
    rw [h1.1.paths, f1.2 _ _ (by unfold d78; omega), eb_ok]
    by_cases c : told y = true
    · rw [if_pos c]
      refine o_f (fun hh => (ht y hy).mp hh c) ?_
      rw [h1.2.2.1.1, show nI (n + 1) - (1 : Int32) = nI n by rw [show (1 : Int32) = nI 1 from rfl, pk_sub (by omega)]; rfl]
      refine o_s (fun V v => ?_)
      have fv : Fr d7 T1 V := (Fr.refl T1).sI v ⟨rfl, rfl⟩
      have hV := h1.at fv (by rw [v, gI_sI, if_pos ⟨rfl, rfl⟩]) h.2.2.1.2
      refine o_V (M_wrong (k := 3) hV (by omega)) ?_
      rintro W ⟨w1, w2⟩
      exact ret _ _ _ _ (by omega) ⟨⟨y, hy, rfl⟩, w1, (f1.tr (d7_78 fv)).tr (d8_78 w2)⟩
    · rw [if_neg c]
      exact o_t ((ht y hy).mpr c) (ret _ _ _ _ (by omega) ⟨⟨rfl, hy⟩, h1, f1⟩)
end MP1

/-! the class's tape: the next token, its tests -/
abbrev dT : Nat → Nat → Prop := fun x k => x = 1 ∧ k ≠ 1 ∧ k ≠ 2
section CV
variable {S T : aS} {f i c : Nat} {tp l : List Nat}
theorem T_adv2 (hT : CTp S tp) (ho : okTp tp) (hr : gR S 1 0 = 2) (h3 : gI S 1 3 = nI i) (hi : i ≤ tp.length) (h6 : gR S 1 6 = 0) (h8 : gI S 1 8 = -1) (h9 : gI S 1 9 = -1) (hg : 3103 ≤ f) : zU (F_X8_advance f 2 [.ref 1] S) (fun U => CTk U tp i ∧ Fx dT S U) := by
  obtain ⟨g, ge, hG⟩ := g1 hg; subst ge; clear hg; have hg := hG; clear hG; rw [E_X8_advance_2]; unfold F_X8_advance_2
  have hl := ho.1
  rw [h3]
  refine o_s (fun S1 s1 => ?_)
  have f1 : Fx (fun x k => x = 1 ∧ k = 4) S S1 := (Fx.refl S).sI s1 (by omega)
  rw [f1.I (by omega), f1.I (by omega), h3, hT.1]
  have n9 : ∀ c, isS c = true → ¬ (-1 : Int32) = nI c := fun c hc e => nI_m1 (n := c) (by have := (isS_b hc).1; omega) e.symm
  have ez : (if nI i < nI tp.length then (0 : Int32) else (1 : Int32)) = (if tp.length ≤ i then 1 else 0) := by
    by_cases c : tp.length ≤ i
    · rw [if_pos c, if_neg (nI_nlt c (by omega))]
    · rw [if_neg c, if_pos (nI_lt (by omega) (by omega))]
  rw [ez]
  refine o_Z (by split <;> simp) ?_
  refine o_s (fun S2 s2 => ?_)
  have f2 : Fx (fun x k => x = 1 ∧ (k = 4 ∨ k = 5)) S S2 := (f1.mono (fun q k d => by omega)).sI s2 (by omega)
  have a4 : gI S2 1 4 = nI i := by rw [s2, gI_sI, if_neg (by omega), s1, gI_sI, if_pos ⟨rfl, rfl⟩]
  have a5 : gI S2 1 5 = (if tp.length ≤ i then 1 else 0) := by rw [s2, gI_sI, if_pos ⟨rfl, rfl⟩]
  have a3 : gI S2 1 3 = nI i := by rw [f2.I (by omega)]; exact h3
  have a6 : gR S2 1 6 = 0 := by rw [s2, s1]; exact h6
  have a8 : gI S2 1 8 = -1 := by rw [f2.I (by omega)]; exact h8
  have a9 : gI S2 1 9 = -1 := by rw [f2.I (by omega)]; exact h9
  have aT : CTp S2 tp := hT.x f2 (by refine ⟨?_, fun k => ?_⟩ <;> omega)
  have ar : gR S2 1 0 = 2 := by rw [f2.2 1 0 (by omega)]; exact hr
  have f2' : Fx dT S S2 := f2.mono (fun q k d => by unfold dT; omega)
  rw [a5]
  by_cases c0 : tp.length ≤ i
  · rw [if_pos c0] at a5 ⊢
    refine o_f (by decide) ?_
    have eK : tK tp i = (0, [], 0) := if_pos c0
    have eE : tE tp i = i := if_pos c0
    refine u_r ⟨?_, f2'⟩
    unfold CTk
    rw [eK, eE]
    refine ⟨⟨aT, ar, a3, a4⟩, a5, a6, fun h => absurd h (by simp), a8, fun h => absurd h (by simp), fun _ c hc => ?_⟩
    rw [a9]; exact n9 c hc
  rw [if_neg c0] at a5 ⊢
  refine o_t rfl ?_
  rw [a3]
  refine o_X rfl (show i < 1000 by omega) ?_
  rw [ar, aT.at (by omega)]
  refine o_I (T_isL (ho.c _) (by omega)) ?_
  rintro _ S2 ⟨rfl, rfl⟩
  by_cases cL : isL (cAt tp i) = true
  · rw [if_pos cL]
    refine o_f (by decide) ?_
    refine o_V (T_readWord aT ho ar a3 a4 (by omega) cL (by omega)) ?_
    rintro U ⟨u3, u6, u7, uf⟩
    have eE : tE tp i = en isL tp i := by unfold tE; rw [if_neg c0, if_pos cL]
    have uT : CTp U tp := aT.x uf (by refine ⟨?_, fun k => ?_⟩ <;> omega)
    have hfin : Fx dT S U := f2'.tr (uf.mono (fun q k d => by unfold dT; omega))
    replace hg : 100 + 1 ≤ g := by omega
    obtain ⟨g, ge, hG⟩ := g1 hg; subst ge; clear hg; have hg := hG; clear hG; rw [E_X8_advance_4]; unfold F_X8_advance_4
    refine u_r ⟨?_, hfin⟩
    unfold CTk
    have ur : gR U 1 0 = 2 := by rw [uf.2 1 0 (by omega)]; exact ar
    have u4 : gI U 1 4 = nI i := by rw [uf.I (by omega)]; exact a4
    have u5 : gI U 1 5 = 0 := by rw [uf.I (by omega)]; exact a5
    have u8 : gI U 1 8 = -1 := by rw [uf.I (by omega)]; exact a8
    have u9 : gI U 1 9 = -1 := by rw [uf.I (by omega)]; exact a9
    by_cases c8 : en isL tp i - i ≤ 8
    · have eK : tK tp i = (1, sl tp i (en isL tp i - i), 0) := by unfold tK; rw [if_neg c0, if_pos cL, eE, if_pos c8]
      rw [eK, eE]
      rw [if_pos c8] at u6
      refine ⟨⟨uT, ur, u3, u4⟩, u5, u6, fun _ => u7, u8, fun h => absurd h (by simp), fun _ c hc => ?_⟩
      rw [u9]; exact n9 c hc
    · have eK : tK tp i = (4, [], 0) := by unfold tK; rw [if_neg c0, if_pos cL, eE, if_neg c8]
      rw [eK, eE]
      rw [if_neg c8, a6] at u6
      refine ⟨⟨uT, ur, u3, u4⟩, u5, u6, fun h => absurd h (by simp), u8, fun h => absurd h (by simp), fun _ c hc => ?_⟩
      rw [u9]; exact n9 c hc
  rw [if_neg cL]
  refine o_t rfl ?_
  rw [a3]
  refine o_X rfl (show i < 1000 by omega) ?_
  rw [ar, aT.at (by omega)]
  refine o_I (T_isG (ho.c _) (by omega)) ?_
  rintro _ S2 ⟨rfl, rfl⟩
  by_cases cG : isG (cAt tp i) = true
  · rw [if_pos cG]
    refine o_f (by decide) ?_
    refine o_V (T_readNumber aT ho ar a3 a4 (by omega) cG (by omega)) ?_
    rintro U ⟨u3, u8, uf, u6⟩
    have eE : tE tp i = en isG tp i := by unfold tE; rw [if_neg c0, if_neg cL, if_pos cG]
    have uT : CTp U tp := aT.x uf (by refine ⟨?_, fun k => ?_⟩ <;> omega)
    have hfin : Fx dT S U := f2'.tr (uf.mono (fun q k d => by unfold dT; omega))
    replace hg : 100 + 1 ≤ g := by omega
    obtain ⟨g, ge, hG⟩ := g1 hg; subst ge; clear hg; have hg := hG; clear hG; rw [E_X8_advance_4]; unfold F_X8_advance_4
    refine u_r ⟨?_, hfin⟩
    unfold CTk
    have ur : gR U 1 0 = 2 := by rw [uf.2 1 0 (by omega)]; exact ar
    have u4 : gI U 1 4 = nI i := by rw [uf.I (by omega)]; exact a4
    have u5 : gI U 1 5 = 0 := by rw [uf.I (by omega)]; exact a5
    have u9 : gI U 1 9 = -1 := by rw [uf.I (by omega)]; exact a9
    rw [a6] at u6
    by_cases c8 : en isG tp i - i ≤ 4
    · have eK : tK tp i = (2, [], k10 (dg tp i (en isG tp i - i))) := by unfold tK; rw [if_neg c0, if_neg cL, if_pos cG, eE, if_pos c8]
      rw [eK, eE]
      rw [if_pos c8] at u8
      refine ⟨⟨uT, ur, u3, u4⟩, u5, u6, fun h => absurd h (by simp), u8, fun h => absurd h (by simp), fun _ c hc => ?_⟩
      rw [u9]; exact n9 c hc
    · have eK : tK tp i = (4, [], 0) := by unfold tK; rw [if_neg c0, if_neg cL, if_pos cG, eE, if_neg c8]
      rw [eK, eE]
      rw [if_neg c8, a8] at u8
      refine ⟨⟨uT, ur, u3, u4⟩, u5, u6, fun h => absurd h (by simp), u8, fun h => absurd h (by simp), fun _ c hc => ?_⟩
      rw [u9]; exact n9 c hc
  rw [if_neg cG]
  refine o_t rfl ?_
  rw [a3]
  refine o_X rfl (show i < 1000 by omega) ?_
  rw [ar, aT.at (by omega)]
  refine o_s (fun U1 v1 => ?_)
  have g1f : Fx (fun x k => x = 1 ∧ (k = 3 ∨ k = 9)) S2 U1 := (Fx.refl S2).sI v1 (by omega)
  have b3 : gI U1 1 3 = nI i := by rw [v1, gI_sI, if_neg (by omega)]; exact a3
  rw [b3, nI_1]
  refine o_s (fun U v2 => ?_)
  have uf : Fx (fun x k => x = 1 ∧ (k = 3 ∨ k = 9)) S2 U := g1f.sI v2 (by omega)
  have eE : tE tp i = i + 1 := by unfold tE; rw [if_neg c0, if_neg cL, if_neg cG]
  have uT : CTp U tp := aT.x uf (by refine ⟨?_, fun k => ?_⟩ <;> omega)
  have hfin : Fx dT S U := f2'.tr (uf.mono (fun q k d => by unfold dT; omega))
  replace hg : 100 + 1 ≤ g := by omega
  obtain ⟨g, ge, hG⟩ := g1 hg; subst ge; clear hg; have hg := hG; clear hG; rw [E_X8_advance_4]; unfold F_X8_advance_4
  refine u_r ⟨?_, hfin⟩
  unfold CTk
  have ur : gR U 1 0 = 2 := by rw [uf.2 1 0 (by omega)]; exact ar
  have u3 : gI U 1 3 = nI (i + 1) := by rw [v2, gI_sI, if_pos ⟨rfl, rfl⟩]
  have u4 : gI U 1 4 = nI i := by rw [uf.I (by omega)]; exact a4
  have u5 : gI U 1 5 = 0 := by rw [uf.I (by omega)]; exact a5
  have u8 : gI U 1 8 = -1 := by rw [uf.I (by omega)]; exact a8
  have u6 : gR U 1 6 = 0 := by rw [v2, v1]; exact a6
  have u9 : gI U 1 9 = nI (cAt tp i) := by rw [v2, gI_sI, if_neg (by omega), v1, gI_sI, if_pos ⟨rfl, rfl⟩]
  by_cases c8 : isS (cAt tp i) = true
  · have eK : tK tp i = (3, [], cAt tp i) := by unfold tK; rw [if_neg c0, if_neg cL, if_neg cG, if_pos c8]
    rw [eK, eE]
    exact ⟨⟨uT, ur, u3, u4⟩, u5, u6, fun h => absurd h (by simp), u8, fun _ => u9, fun h => absurd rfl h⟩
  · have eK : tK tp i = (4, [], 0) := by unfold tK; rw [if_neg c0, if_neg cL, if_neg cG, if_neg c8]
    rw [eK, eE]
    refine ⟨⟨uT, ur, u3, u4⟩, u5, u6, fun h => absurd h (by simp), u8, fun h => absurd h (by simp), fun _ c hc => ?_⟩
    rw [u9]
    refine nI_ne (fun e => c8 (by rw [e]; exact hc)) (by have := ho.c i; omega) (by have := (isS_b hc).1; omega)
theorem T_advance (hT : CTp S tp) (ho : okTp tp) (hr : gR S 1 0 = 2) (h3 : gI S 1 3 = nI i) (hi : i ≤ tp.length) (hg : 6200 ≤ f) : zU (F_X8_advance f 0 [.ref 1] S) (fun U => CTk U tp (en isB tp i) ∧ Fx dT S U) := by
  obtain ⟨g, ge, hG⟩ := g1 hg; subst ge; clear hg; have hg := hG; clear hG; rw [E_X8_advance_0]; unfold F_X8_advance_0
  have hl := ho.1
  refine o_sR (fun S1 s1 => ?_)
  refine o_s (fun S2 s2 => ?_)
  refine o_s (fun S3 s3 => ?_)
  have f3 : Fx (fun x k => x = 1 ∧ (k = 8 ∨ k = 9)) S S3 := (((Fx.refl S).sR s1).sI s2 (by omega)).sI s3 (by omega)
  obtain ⟨e, he⟩ : ∃ e, e = en isB tp i := ⟨_, rfl⟩
  have hb := en_b (p := isB) (tp := tp) (i := i) (by omega)
  have hin : ∀ k, i ≤ k → k < e → isB (cAt tp k) = true := fun k a b => en_in _ i k rfl a (by rw [← he]; exact b)
  have hout : e < tp.length → ¬ isB (cAt tp e) = true := fun h => by
    rw [he]; exact en_out _ i rfl (by omega) (by rw [← he]; exact h)
  rw [← he] at hb ⊢
  have a8 : gI S3 1 8 = -1 := by rw [s3, gI_sI, if_neg (by omega), s2, gI_sI, if_pos ⟨rfl, rfl⟩]
  have a9 : gI S3 1 9 = -1 := by rw [s3, gI_sI, if_pos ⟨rfl, rfl⟩]
  have a6 : gR S3 1 6 = 0 := by
    rw [s3, s2, s1]
    show gR (sR S 1 6 0) 1 6 = 0
    rw [gR_sR, if_pos ⟨rfl, rfl⟩]
  refine o_loop (F := fun f vs S => F_X8_advance f 1 vs S) (c := 2) (B := 3200) (y := e - i) (fun k vs T => vs = [.ref 1] ∧ gI T 1 3 = nI (i + k) ∧ Fx (fun x k => x = 1 ∧ (k = 3 ∨ k = 8 ∨ k = 9)) S T ∧ gR T 1 6 = 0 ∧ gI T 1 8 = -1 ∧ gI T 1 9 = -1) ?_ ?_ 0 _ S3 g (by omega) ⟨rfl, by rw [f3.I (by omega)]; exact h3, f3.mono (fun q k d => by omega), a6, a8, a9⟩ (by omega)
  · rintro k _ T g hk ⟨rfl, t3, tf, t6, t8, t9⟩ hg rk
    show zO (F_X8_advance g 1 _ _) _
    replace hg : 3200 + 1 + 1 ≤ g := hg
    obtain ⟨g, ge, hG⟩ := g1 hg; subst ge; clear hg; have hg := hG; clear hG; rw [E_X8_advance_1]; unfold F_X8_advance_1
    have cT := hT.x tf (by refine ⟨?_, fun k => ?_⟩ <;> omega)
    have hc := of_decide_eq_true (hin (i + k) (by omega) (by omega))
    have nxt : ∀ g', 3200 + 1 ≤ g' → g ≤ g' → zU (F_X8_advance g' 3 [.ref 1] T) (fun U => CTk U tp e ∧ Fx dT S U) := by
      intro g' hg hgg
      obtain ⟨g', rfl, hg'⟩ := g1 hg
      rw [E_X8_advance_3]; unfold F_X8_advance_3
      rw [t3, nI_1]
      refine o_s (fun U2 u2 => ?_)
      refine rk g' _ _ (by omega) ⟨rfl, by rw [u2, gI_sI, if_pos ⟨rfl, rfl⟩]; rfl, tf.sI u2 (by omega), by rw [u2]; exact t6, ?_, ?_⟩
      · rw [u2, gI_sI, if_neg (by omega)]; exact t8
      · rw [u2, gI_sI, if_neg (by omega)]; exact t9
    rw [cT.1, t3]
    refine o_f (nI_ge (by omega) (by omega)) ?_
    refine o_X rfl (show i + k < 1000 by omega) ?_
    rw [tf.2 1 0 (by omega), hr, cT.at (show i + k < tp.length by omega)]
    rcases hc with hc | hc
    · rw [hc]
      exact o_t rfl (nxt g hg (by omega))
    · rw [hc]
      refine o_f (by decide) ?_
      refine o_X rfl (show i + k < 1000 by omega) ?_
      rw [cT.at (show i + k < tp.length by omega), hc]
      exact o_t rfl (nxt g hg (by omega))
  · rintro _ T g ⟨rfl, t3, tf, t6, t8, t9⟩ hg
    show zO (F_X8_advance g 1 _ _) _
    replace hg : 3200 + 1 + 1 ≤ g := hg
    obtain ⟨g, ge, hG⟩ := g1 hg; subst ge; clear hg; have hg := hG; clear hG; rw [E_X8_advance_1]; unfold F_X8_advance_1
    have cT := hT.x tf (by refine ⟨?_, fun k => ?_⟩ <;> omega)
    rw [show i + (e - i) = e by omega] at t3
    have fin : zU (F_X8_advance g 2 [.ref 1] T) (fun U => CTk U tp e ∧ Fx dT S U) := by
      refine u_m (T_adv2 cT ho (by rw [tf.2 1 0 (by omega)]; exact hr) t3 hb.2 t6 t8 t9 (by omega)) (fun U ⟨u1, u2⟩ => ⟨u1, (tf.mono (fun q k d => by unfold dT; omega)).tr u2⟩)
    rw [cT.1, t3]
    by_cases c : e < tp.length
    · have hc := hout c
      unfold isB at hc
      rw [decide_eq_true_eq] at hc
      have hcc := ho.c e
      refine o_f (nI_ge c (by omega)) ?_
      refine o_X rfl (show e < 1000 by omega) ?_
      rw [tf.2 1 0 (by omega), hr, cT.at c]
      refine o_f (nI_ne (b := 10) (by omega) (by omega) (by omega)) ?_
      refine o_X rfl (show e < 1000 by omega) ?_
      rw [cT.at c]
      refine o_f (nI_ne (b := 32) (by omega) (by omega) (by omega)) ?_
      exact fin
    · refine o_t (nI_le (by omega) (by omega)) ?_
      exact fin
end CV

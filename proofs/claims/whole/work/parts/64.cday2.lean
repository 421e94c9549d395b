/-! the class reads a day: behind the act -/
section CD2
variable {S T : aS} {f n t k q a pn : Nat} {tp : List Nat} {nm : Nat → List Nat}
theorem T_behind (ho : okTp tp) (h : CTk S tp (tP tp n)) (hd : CDt S t k) (hk : k < 40) (ht : 10 ≤ t) (hm : CNm S q pn nm) (hp : pn ≤ 6) (ha : a ≤ 5) (h0 : gI S (t + 3) k = nI 0) (hg : 6400 ≤ f) : zI (F_X1_readBehind f 0 [.ref t, .int (nI a), .ref 1, .ref q] S) (dQr tp t k a S (dBe tp nm pn a n)) := by
  replace hg : 6399 + 1 ≤ f := hg
  obtain ⟨g, ge, hG⟩ := g1 hg; subst ge; clear hg; have hg := hG; clear hG; rw [E_X1_readBehind_0]; unfold F_X1_readBehind_0
  unfold dBe
  by_cases c5 : a = 5
  · rw [if_pos c5]
    refine o_t (by rw [c5]; rfl) ?_
    exact o_Z (Or.inr rfl) (i_r ⟨rfl, h, fun hh => absurd c5 hh, h0, Fx.refl S⟩)
  rw [if_neg c5]
  refine o_f (nI_ne (b := 5) c5 (by omega) (by omega)) ?_
  by_cases c0 : a = 0
  · rw [if_pos c0]
    refine o_t (by rw [c0]; rfl) ?_
    refine o_I (T_walker ho h hd hk ht hm hp (by omega)) ?_
    intro x T1 hx
    by_cases e : qA tp n = true
    · rw [if_pos e] at hx ⊢
      rcases eo : nmO nm (tk tp n).2.1 pn 0 with _ | i
      · rw [eo] at hx
        obtain ⟨rfl, x1, x2, x3⟩ := hx
        exact o_Z (Or.inl rfl) (i_r ⟨rfl, x1, x2, x3⟩)
      · rw [eo] at hx
        obtain ⟨rfl, x1, x2, x3⟩ := hx
        exact o_Z (Or.inr rfl) (i_r ⟨rfl, x1, fun _ => x2, by rw [x3.I (by omega)]; exact h0, x3.mono (fun q j d => by unfold dDy; omega)⟩)
    · rw [if_neg e] at hx ⊢
      obtain ⟨rfl, x1, x2, x3⟩ := hx
      exact o_Z (Or.inl rfl) (i_r ⟨rfl, x1, x2, x3⟩)
  rw [if_neg c0]
  refine o_f (nI_ne (b := 0) c0 (by omega) (by omega)) ?_
  refine o_I (T_num (a := 0) (b := 7) h (by omega) (by omega) (by omega)) ?_
  intro x T1 hx
  unfold stp at hx
  by_cases e : nW tp n 0 7 = 0
  · rw [if_pos e] at hx ⊢
    obtain ⟨rfl, t1⟩ := hx
    rw [t1]
    refine o_f (by decide) ?_
    rw [hd.2.2.2]
    refine o_X rfl hk ?_
    rw [hd.2.1, h.nv (nW_0 e).1]
    refine o_s (fun S1 s1 => ?_)
    have f1 : Fx (fun x j => (x = t + 2 ∧ j = k)) S S1 := (Fx.refl S).sI s1 (by omega)
    have h1 : CTk S1 tp (tP tp n) := h.x f1 ⟨fun j _ => by omega, fun j => by omega⟩ (by rw [s1]; rfl)
    refine o_V (T_next ho h1 (by omega)) ?_
    rintro U ⟨u1, u2⟩
    have fU : Fx (fun x j => (x = 1 ∧ j ≠ 1) ∨ (x = t + 2 ∧ j = k)) S U := (f1.mono (fun q j d => by omega)).tr (u2.mono (fun q j d => by unfold dT at d; omega))
    have e2 : gI U (t + 2) k = nI (tk tp n).2.2 := by rw [u2.I (by unfold dT; omega), s1, gI_sI, if_pos ⟨rfl, rfl⟩]
    have e3 : gI U (t + 3) k = nI 0 := by rw [fU.I (by omega)]; exact h0
    by_cases c2 : a = 2
    · rw [if_pos c2]
      refine o_t (by rw [c2]; rfl) ?_
      refine o_I (T_holds ho u1 (hd.x fU ht (by omega)) hk ht (by omega)) ?_
      intro x V hv
      by_cases r : nW tp (n + 1) 1 30 = 0
      · rw [if_pos r] at hv ⊢
        obtain ⟨rfl, v1, v2, v3⟩ := hv
        exact o_Z (Or.inr rfl) (i_r ⟨rfl, v1, fun _ => by rw [v3.I (by omega)]; exact e2, v2, (fU.mono (fun q j d => by unfold dDy; omega)).tr (v3.mono (fun q j d => by unfold dDy; omega))⟩)
      · rw [if_neg r] at hv ⊢
        obtain ⟨rfl, v1, v2, v3⟩ := hv
        exact o_Z (Or.inl rfl) (i_r ⟨rfl, v1, v2, (fU.mono (fun q j d => by unfold dDy; omega)).tr (dP_d v3)⟩)
    · rw [if_neg c2]
      refine o_f (nI_ne (b := 2) c2 (by omega) (by omega)) ?_
      replace hg : 6398 + 1 ≤ g := by omega
      obtain ⟨g, ge, hG⟩ := g1 hg; subst ge; clear hg; have hg := hG; clear hG; rw [E_X1_readBehind_1]; unfold F_X1_readBehind_1
      replace hg : 6397 + 1 ≤ g := by omega
      obtain ⟨g, ge, hG⟩ := g1 hg; subst ge; clear hg; have hg := hG; clear hG; rw [E_X1_readBehind_2]; unfold F_X1_readBehind_2
      exact o_Z (Or.inr rfl) (i_r ⟨rfl, u1, fun _ => e2, e3, fU.mono (fun q j d => by unfold dDy; omega)⟩)
  · rw [if_neg e] at hx ⊢
    obtain ⟨rfl, x1, x2, x3⟩ := hx
    refine o_t rfl ?_
    exact o_Z (Or.inl rfl) (i_r ⟨rfl, x1, x2, dP_d x3⟩)
end CD2

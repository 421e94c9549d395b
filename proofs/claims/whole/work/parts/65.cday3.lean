/-! the class reads a day: a line -/
abbrev dDl (t k : Nat) : Nat → Nat → Prop := fun x j => (x = 1 ∧ j ≠ 1) ∨ ((t + 1 ≤ x ∧ x ≤ t + 3) ∧ j = k) ∨ (x = t ∧ j = 3)
def dQl (tp : List Nat) (t k : Nat) (S : aS) (r : dR) (x : Int32) (T : aS) : Prop := match r with
  | .error e => x = 0 ∧ gI T 1 2 = nI (e.1 + 16 * tP tp e.2) ∧ CTp T tp ∧ Fx (dDl t k) S T
  | .ok y => x = 1 ∧ CTk T tp (tP tp y.2) ∧ CDt T t (k + 1) ∧ gI T (t + 1) k = nI y.1.1 ∧ (y.1.1 ≠ 5 → gI T (t + 2) k = nI y.1.2.1) ∧ gI T (t + 3) k = nI y.1.2.2 ∧ Fx (dDl t k) S T
section CD3
variable {S T : aS} {f n t k q a pn : Nat} {tp : List Nat} {nm : Nat → List Nat}
theorem dBe_1 {x : Nat × Nat × Nat} {m : Nat} (h : dBe tp nm pn a n = .ok (x, m)) : x.1 = a := by
  unfold dBe at h
  repeat' split at h
  all_goals first | (have h2 := Except.ok.inj h; have h3 := (Prod.mk.inj h2).1; rw [← h3]; done) | (have h2 := Except.ok.inj h; have h3 := (Prod.mk.inj h2).1; rw [← h3]; simp_all; done) | (exact absurd h (by simp))
theorem T_isAct (h : CTk S tp (tP tp n)) (hg : 1 ≤ f) : zI (F_X1_isAct f 0 [.ref (gR S 1 6)] S) (fun x T => x = (if qAct tp n = true then 1 else 0) ∧ T = S) := by
  obtain ⟨g, ge, hG⟩ := g1 hg; subst ge; clear hg; have hg := hG; clear hG; rw [E_X1_isAct_0]; unfold F_X1_isAct_0
  have e : (if gR S 1 6 = 14 then (1 : Int32) else if gR S 1 6 = 15 then (1 : Int32) else if gR S 1 6 = 16 then (1 : Int32) else if gR S 1 6 = 17 then (1 : Int32) else if gR S 1 6 = 18 then (1 : Int32) else if gR S 1 6 = 19 then (1 : Int32) else (0 : Int32)) = (if qAct tp n = true then 1 else 0) := by
    obtain ⟨_, _, h6, _⟩ := h
    rw [h6]
    unfold qAct
    simp only [Bool.and_eq_true, beq_iff_eq, decide_eq_true_eq]
    by_cases c : (tk tp n).1 = 1
    · rw [if_pos c]
      have hb := wdO_b (tk tp n).2.1
      have hd := co_dec (N := 31) (P := fun r => (if r = 14 then (1 : Int32) else if r = 15 then (1 : Int32) else if r = 16 then (1 : Int32) else if r = 17 then (1 : Int32) else if r = 18 then (1 : Int32) else if r = 19 then (1 : Int32) else (0 : Int32)) = (if 14 ≤ r ∧ r ≤ 19 then 1 else 0)) (by decide +kernel) hb.2
      rw [hd]
      exact if_iff ⟨fun h => ⟨c, h⟩, fun h => h.2⟩
    · rw [if_neg c, if_neg (show ¬ ((tk tp n).1 = 1 ∧ 14 ≤ wdO (tk tp n).2.1 ∧ wdO (tk tp n).2.1 ≤ 19) from fun h => c h.1)]
      rfl
  rw [e]
  exact o_Z (by split <;> simp) (i_r ⟨rfl, rfl⟩)
theorem act_z (h : CTk S tp (tP tp n)) (hq : qAct tp n = true) : zval (gR S 1 6) = nI (actN tp n) ∧ actN tp n ≤ 5 := by
  obtain ⟨_, _, h6, _⟩ := h
  unfold qAct at hq
  simp only [Bool.and_eq_true, beq_iff_eq, decide_eq_true_eq] at hq
  rw [h6, if_pos hq.1]
  unfold actN
  have hd := co_dec (N := 6) (P := fun r => zval (14 + r) = nI r) (by decide +kernel) (show wdO (tk tp n).2.1 - 14 < 6 by omega)
  rw [show 14 + (wdO (tk tp n).2.1 - 14) = wdO (tk tp n).2.1 by omega] at hd
  exact ⟨hd, by omega⟩
theorem T_dline (ho : okTp tp) (h : CTk S tp (tP tp n)) (hd : CDt S t k) (hk : k ≤ 40) (ht : 10 ≤ t) (hqt : q + 1 < t) (hm : CNm S q pn nm) (h10 : 2 ≤ q) (hp : pn ≤ 6) (hg : 6500 ≤ f) : zI (F_X1_readLine f 0 [.ref t, .ref 1, .ref q] S) (dQl tp t k S (dLn tp nm pn k n)) := by
  replace hg : 6499 + 1 ≤ f := hg
  obtain ⟨g, ge, hG⟩ := g1 hg; subst ge; clear hg; have hg := hG; clear hG; rw [E_X1_readLine_0]; unfold F_X1_readLine_0
  unfold dLn
  refine o_I (T_isAct h (by omega)) ?_
  rintro x T1 ⟨rfl, t1⟩
  rw [t1]
  by_cases qn : ¬ qAct tp n = true
  · have qa := qn
    rw [if_neg qa, if_neg qa]
    refine o_t rfl ?_
    refine o_I (T_fail (k := 1) h (by omega)) ?_
    rintro x U ⟨rfl, u1, u2, u3⟩
    exact o_Z (Or.inl rfl) (i_r ⟨rfl, u1, u2, u3.mono (fun q j d => by unfold dP at d; unfold dDl; omega)⟩)
  have qa : qAct tp n = true := Decidable.not_not.mp qn
  rw [if_pos qa, if_pos qa]
  refine o_f (by decide) ?_
  rw [hd.2.2.2]
  by_cases c40 : 40 ≤ k
  · refine o_f (nI_nlt (b := 40) c40 (by omega)) ?_
    rw [if_pos c40]
    refine o_I (T_fail (k := 5) h (by omega)) ?_
    rintro x U ⟨rfl, u1, u2, u3⟩
    exact o_Z (Or.inl rfl) (i_r ⟨rfl, u1, u2, u3.mono (fun q j d => by unfold dP at d; unfold dDl; omega)⟩)
  rw [if_neg c40]
  refine o_t (nI_lt (b := 40) (by omega) (by omega)) ?_
  obtain ⟨z1, z2⟩ := act_z h qa
  refine o_X rfl (show k < 40 by omega) ?_
  rw [hd.1, z1]
  refine o_s (fun S1 s1 => ?_)
  have f1 : Fx (fun x j => (t + 1 ≤ x ∧ x ≤ t + 3) ∧ j = k) S S1 := (Fx.refl S).sI s1 (by omega)
  have d1 := hd.x f1 ht (by omega)
  rw [d1.2.2.2]
  refine o_X rfl (show k < 40 by omega) ?_
  rw [d1.2.1]
  refine o_s (fun S2 s2 => ?_)
  have f2 := f1.sI s2 (by omega)
  have d2 := hd.x f2 ht (by omega)
  rw [d2.2.2.2]
  refine o_X rfl (show k < 40 by omega) ?_
  rw [d2.2.2.1]
  refine o_s (fun S3 s3 => ?_)
  have f3 := f2.sI s3 (by omega)
  have d3 := hd.x f3 ht (by omega)
  have h3 : CTk S3 tp (tP tp n) := h.x f3 ⟨fun j _ => by omega, fun j => by omega⟩ (by rw [s3, s2, s1]; rfl)
  have a1 : gI S3 (t + 1) k = nI (actN tp n) := by rw [s3, gI_sI, if_neg (by omega), s2, gI_sI, if_neg (by omega), s1, gI_sI, if_pos ⟨rfl, rfl⟩]
  have a3 : gI S3 (t + 3) k = nI 0 := by rw [s3, gI_sI, if_pos ⟨rfl, rfl⟩]; rfl
  refine o_V (T_next ho h3 (by omega)) ?_
  rintro U ⟨u1, u2⟩
  have dU := d3.x u2 ht (by unfold dT; omega)
  have fU : Fx (dDl t k) S U := (f3.mono (fun q j d => by unfold dDl; omega)).tr (u2.mono (fun q j d => by unfold dT at d; unfold dDl; omega))
  have mU : CNm U q pn nm := ⟨by rw [fU.2 _ _ (by omega)]; exact hm.1, by rw [fU.I (by unfold dDl; omega)]; exact hm.2.1, fun i hi => ⟨(hm.2.2 i hi).1, by rw [fU.J (by unfold dDl; omega)]; exact (hm.2.2 i hi).2⟩⟩
  have aU : gI U (t + 1) k = nI (actN tp n) := by rw [u2.I (by unfold dT; omega)]; exact a1
  rw [dU.2.2.2]
  refine o_X rfl (show k < 40 by omega) ?_
  rw [dU.1, aU]
  refine o_I (T_behind ho u1 dU (by omega) ht mU hp z2 (by rw [u2.I (by unfold dT; omega)]; exact a3) (by omega)) ?_
  intro x V hv
  have out : ∀ (g : Nat) (W : aS), 1 ≤ g → zI (F_X1_readLine g 1 [] W) (fun x Y => x = 0 ∧ Y = W) := by
    intro g W hg
    obtain ⟨g, rfl, hg2⟩ := g1 (n := 0) (f := g) (by omega)
    rw [E_X1_readLine_1]; unfold F_X1_readLine_1
    exact o_Z (Or.inl rfl) (i_r ⟨rfl, rfl⟩)
  have up : ∀ (A B : aS), Fx (dDy t k) A B → Fx (dDl t k) A B := fun A B hf => hf.mono (fun q j d => by unfold dDy at d; unfold dDl; omega)
  rcases eo : dBe tp nm pn (actN tp n) (n + 1) with ⟨e1, e2⟩ | ⟨y, m⟩
  · rw [eo] at hv
    obtain ⟨rfl, v1, v2, v3⟩ := hv
    refine o_t rfl ?_
    refine i_m (out g V (by omega)) (fun x Y hx => ⟨hx.1, ?_⟩)
    rw [hx.2]
    exact ⟨v1, v2, fU.tr (up _ _ v3)⟩
  · rw [eo] at hv
    obtain ⟨rfl, v1, v2, v3, v4⟩ := hv
    refine o_f (by decide) ?_
    refine o_I (T_passS (c := 59) ho v1 rfl (by omega)) ?_
    intro x W hw
    show zI _ (dQl tp t k S (if qS tp m 59 = true then .ok (y, m + 1) else .error (1, m)))
    have fV := fU.tr (up _ _ v4)
    by_cases s : qS tp m 59 = true
    · rw [if_pos s] at hw ⊢
      obtain ⟨rfl, w1, w2⟩ := hw
      refine o_f (by decide) ?_
      have dW := (dU.x v4 ht (by unfold dDy; omega)).x w2 ht (by unfold dT; omega)
      rw [dW.2.2.2, nI_1]
      refine o_s (fun Z z => ?_)
      have fZ : Fx (fun x j => x = t ∧ j = 3) W Z := (Fx.refl W).sI z (by omega)
      have fa : Fx (dDl t k) S Z := (fV.tr (w2.mono (fun q j d => by unfold dT at d; unfold dDl; omega))).tr (fZ.mono (fun q j d => by unfold dDl; omega))
      have hy := dBe_1 eo
      refine o_Z (Or.inr rfl) (i_r ⟨rfl, w1.x fZ ⟨fun j _ => by omega, fun j => by omega⟩ (by rw [z]; rfl), ⟨by rw [fZ.2 _ _ (by omega)]; exact dW.1, by rw [fZ.2 _ _ (by omega)]; exact dW.2.1, by rw [fZ.2 _ _ (by omega)]; exact dW.2.2.1, by rw [z, gI_sI, if_pos ⟨rfl, rfl⟩]⟩, ?_, ?_, ?_, fa⟩)
      · rw [fZ.I (by omega), w2.I (by unfold dT; omega), v4.I (by unfold dDy; omega), aU]
        show nI (actN tp n) = nI y.1
        rw [hy]
      · intro h5
        rw [fZ.I (by omega), w2.I (by unfold dT; omega)]
        exact v2 (fun hh => h5 (by show y.1 = 5; rw [hy]; exact hh))
      · rw [fZ.I (by omega), w2.I (by unfold dT; omega)]; exact v3
    · rw [if_neg s] at hw ⊢
      obtain ⟨rfl, w1, w2, w3⟩ := hw
      refine o_t rfl ?_
      refine i_m (out g W (by omega)) (fun x Y hx => ⟨hx.1, ?_⟩)
      rw [hx.2]
      exact ⟨w1, w2, fV.tr (w3.mono (fun q j d => by unfold dP at d; unfold dDl; omega))⟩
end CD3

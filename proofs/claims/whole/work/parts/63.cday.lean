/-! the class reads a day -/
abbrev dDy (t k : Nat) : Nat → Nat → Prop := fun x j => (x = 1 ∧ j ≠ 1) ∨ ((t + 2 ≤ x ∧ x ≤ t + 3) ∧ j = k)
/-- the class's day t, of which k lines are read -/
def CDt (S : aS) (t k : Nat) : Prop := gR S t 0 = t + 1 ∧ gR S t 1 = t + 2 ∧ gR S t 2 = t + 3 ∧ gI S t 3 = nI k
/-- the names of the plan at q -/
def CNm (S : aS) (q pn : Nat) (nm : Nat → List Nat) : Prop := gR S q 2 = q + 1 ∧ gI S q 1 = nI pn ∧ ∀ i, i < pn → okN (nm i) ∧ gJ S (q + 1) i = lN (k32 (nm i))
def dQr (tp : List Nat) (t k a : Nat) (S : aS) (r : dR) (x : Int32) (T : aS) : Prop := match r with
  | .error e => x = 0 ∧ gI T 1 2 = nI (e.1 + 16 * tP tp e.2) ∧ CTp T tp ∧ Fx (dDy t k) S T
  | .ok y => x = 1 ∧ CTk T tp (tP tp y.2) ∧ (a ≠ 5 → gI T (t + 2) k = nI y.1.2.1) ∧ gI T (t + 3) k = nI y.1.2.2 ∧ Fx (dDy t k) S T
section CD
variable {S T : aS} {f n t k q a pn : Nat} {tp : List Nat} {nm : Nat → List Nat} {D : Nat → Nat → Prop}
theorem CDt.x (h : CDt S t k) (hf : Fx D S T) (ht : 10 ≤ t) (hD : ¬ D t 3) : CDt T t k := ⟨by rw [hf.2 _ _ (by omega)]; exact h.1, by rw [hf.2 _ _ (by omega)]; exact h.2.1, by rw [hf.2 _ _ (by omega)]; exact h.2.2.1, by rw [hf.I hD]; exact h.2.2.2⟩
theorem T_holds (ho : okTp tp) (h : CTk S tp (tP tp n)) (hd : CDt S t k) (hk : k < 40) (ht : 10 ≤ t) (hg : 6300 ≤ f) : zI (F_X1_readHolds f 0 [.ref t, .ref 1] S) (fun x T => if nW tp n 1 30 = 0 then x = 1 ∧ CTk T tp (tP tp (n + 1)) ∧ gI T (t + 3) k = nI (tk tp n).2.2 ∧ Fx (fun x j => (x = 1 ∧ j ≠ 1) ∨ (x = t + 3 ∧ j = k)) S T else x = 0 ∧ gI T 1 2 = nI (nW tp n 1 30 + 16 * tP tp n) ∧ CTp T tp ∧ Fx dP S T) := by
  replace hg : 6299 + 1 ≤ f := hg
  obtain ⟨g, ge, hG⟩ := g1 hg; subst ge; clear hg; have hg := hG; clear hG; rw [E_X1_readHolds_0]; unfold F_X1_readHolds_0
  refine o_I (T_num (a := 1) (b := 30) h (by omega) (by omega) (by omega)) ?_
  intro x T1 hx
  unfold stp at hx
  by_cases e : nW tp n 1 30 = 0
  · rw [if_pos e] at hx
    obtain ⟨rfl, rfl⟩ := hx
    refine o_f (by decide) ?_
    rw [hd.2.2.2]
    refine o_X rfl hk ?_
    rw [hd.2.2.1, h.nv (nW_0 e).1]
    refine o_s (fun S1 s1 => ?_)
    have f1 : Fx (fun x j => (x = t + 3 ∧ j = k)) T1 S1 := (Fx.refl T1).sI s1 (by omega)
    have h1 : CTk S1 tp (tP tp n) := h.x f1 ⟨fun j _ => by omega, fun j => by omega⟩ (by rw [s1]; rfl)
    refine o_V (T_next ho h1 (by omega)) ?_
    rintro U ⟨u1, u2⟩
    refine o_Z (Or.inr rfl) (i_r ?_)
    rw [if_pos e]
    refine ⟨rfl, u1, ?_, (f1.mono (fun q j d => by omega)).tr (u2.mono (fun q j d => by unfold dT at d; omega))⟩
    rw [u2.I (by unfold dT; omega), s1, gI_sI, if_pos ⟨rfl, rfl⟩]
  · rw [if_neg e] at hx
    obtain ⟨rfl, x1, x2, x3⟩ := hx
    refine o_t rfl ?_
    refine o_Z (Or.inl rfl) (i_r ?_)
    rw [if_neg e]
    exact ⟨rfl, x1, x2, x3⟩
theorem dP_d (h : Fx dP S T) : Fx (dDy t k) S T := h.mono (fun q j d => by unfold dP at d; unfold dDy; omega)
theorem T_walker (ho : okTp tp) (h : CTk S tp (tP tp n)) (hd : CDt S t k) (hk : k < 40) (ht : 10 ≤ t) (hm : CNm S q pn nm) (hp : pn ≤ 6) (hg : 6300 ≤ f) : zI (F_X1_readWalker f 0 [.ref t, .ref 1, .ref q] S) (fun x T => match (if qA tp n = true then (match nmO nm (tk tp n).2.1 pn 0 with
    | none => .error (2, n)
    | some i => .ok ((0, i, 0), n + 1)) else .error (1, n) : dR) with
  | .error e => x = 0 ∧ gI T 1 2 = nI (e.1 + 16 * tP tp e.2) ∧ CTp T tp ∧ Fx (dDy t k) S T
  | .ok y => x = 1 ∧ CTk T tp (tP tp y.2) ∧ gI T (t + 2) k = nI y.1.2.1 ∧ Fx (fun x j => (x = 1 ∧ j ≠ 1) ∨ (x = t + 2 ∧ j = k)) S T) := by
  replace hg : 6299 + 1 ≤ f := hg
  obtain ⟨g, ge, hG⟩ := g1 hg; subst ge; clear hg; have hg := hG; clear hG; rw [E_X1_readWalker_0]; unfold F_X1_readWalker_0
  refine o_I (T_nameTok h (by omega)) ?_
  intro x T1 hx
  unfold stp at hx
  by_cases e : qA tp n = true
  · rw [if_pos e, if_pos rfl] at hx
    obtain ⟨rfl, t1⟩ := hx
    rw [t1]
    refine o_f (by decide) ?_
    have h1 : (tk tp n).1 = 1 := by unfold qA at e; simp at e; exact e.1
    rw [h.2.2.2.1 h1]
    refine o_I (T_numberOf (tk_1 h1) hp hm.1 hm.2.1 hm.2.2 (by omega)) ?_
    rintro x T2 ⟨hx, t2⟩
    rw [t2, if_pos e]
    rcases eo : nmO nm (tk tp n).2.1 pn 0 with _ | i
    · rw [show nmO nm (tK tp (tP tp n)).2.1 pn 0 = none from eo] at hx
      refine o_t hx ?_
      refine o_I (T_fail (k := 2) h (by omega)) ?_
      rintro x U ⟨rfl, u1, u2, u3⟩
      exact o_Z (Or.inl rfl) (i_r ⟨rfl, u1, u2, dP_d u3⟩)
    · rw [show nmO nm (tK tp (tP tp n)).2.1 pn 0 = some i from eo] at hx
      have hb := nmO_b pn 0 i eo
      have hx' : x = nI i := hx
      refine o_f (by rw [hx']; exact nI_m1 (by omega)) ?_
      rw [hd.2.2.2]
      refine o_X rfl hk ?_
      rw [hd.2.1, hx']
      refine o_s (fun S1 s1 => ?_)
      have f1 : Fx (fun x j => (x = t + 2 ∧ j = k)) S S1 := (Fx.refl S).sI s1 (by omega)
      have h1 : CTk S1 tp (tP tp n) := h.x f1 ⟨fun j _ => by omega, fun j => by omega⟩ (by rw [s1]; rfl)
      refine o_V (T_next ho h1 (by omega)) ?_
      rintro U ⟨u1, u2⟩
      refine o_Z (Or.inr rfl) (i_r ⟨rfl, u1, ?_, (f1.mono (fun q j d => by omega)).tr (u2.mono (fun q j d => by unfold dT at d; omega))⟩)
      rw [u2.I (by unfold dT; omega), s1, gI_sI, if_pos ⟨rfl, rfl⟩]
  · rw [if_neg e, if_neg (by decide)] at hx
    obtain ⟨rfl, x1, x2, x3⟩ := hx
    refine o_t rfl ?_
    rw [if_neg e]
    exact o_Z (Or.inl rfl) (i_r ⟨rfl, x1, x2, dP_d x3⟩)
end CD

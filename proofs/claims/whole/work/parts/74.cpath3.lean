/-! the class reads a path: persons -/
abbrev dPn (p i : Nat) : Nat → Nat → Prop := fun x k => (x = 1 ∧ k ≠ 1) ∨ ((p + 1 ≤ x ∧ x ≤ p + 4) ∧ k = i)
theorem eb_ok {α β : Type} {a : α} {m : Nat} {k : α → Nat → eR β} : eb (.ok (a, m)) k = k a m := rfl
theorem eb_er {α β : Type} {e : Nat × Nat} {k : α → Nat → eR β} : eb (.error e) k = .error e := rfl
section CQ3
variable {S T S1 : aS} {p f n : Nat} {Q : aQ} {D : Nat → Nat → Prop} {tp : List Nat}
theorem CQs.per {l : List Nat} {k c b : Nat} (h : CQs S p Q) (h1 : gJ S (p + 1) (pN Q.1) = lN (k32 l)) (h2 : gI S (p + 2) (pN Q.1) = nI k) (h3 : gI S (p + 3) (pN Q.1) = nI c) (h4 : gI S (p + 4) (pN Q.1) = nI b) (e : S1 = sI S p 1 (nI (pN Q.1 + 1))) : CQs S1 p (nQ Q l k c b) := by
  obtain ⟨⟨hr, hi, hp', hy, hw, hd, ht⟩, ⟨hn2, hn⟩, h14, h15⟩ := h
  have o : ∀ {x j : Nat}, ¬ (x = p ∧ j = 1) → gI S1 x j = gI S x j := fun h => by rw [e, gI_sI, if_neg h]
  have r : ∀ x k, gR S1 x k = gR S x k := fun x k => by rw [e]; rfl
  have jj : ∀ x k, gJ S1 x k = gJ S x k := fun x k => by rw [e]; rfl
  refine ⟨⟨by simp only [r]; exact hr, ?_, fun i hi => ?_, fun j hj => ?_, fun j hj => ?_, ?_, ?_⟩, ⟨by rw [r]; exact hn2, fun i hi => ?_⟩, by rw [o (by omega)]; exact h14, by rw [o (by omega)]; exact h15⟩
  · refine ⟨?_, by rw [e, gI_sI, if_pos ⟨rfl, rfl⟩]; rfl, ?_, ?_, ?_⟩ <;> rw [o (by omega)]
    · exact hi.1
    · exact hi.2.2.1
    · exact hi.2.2.2.1
    · exact hi.2.2.2.2
  · have hi' : i < pN Q.1 + 1 := hi
    show gI S1 (p + 2) i = nI (tS (tS (tS (pT Q.1) 0 (pN Q.1) k) 1 (pN Q.1) c) 2 (pN Q.1) b 0 i) ∧ gI S1 (p + 3) i = nI (tS (tS (tS (pT Q.1) 0 (pN Q.1) k) 1 (pN Q.1) c) 2 (pN Q.1) b 1 i) ∧ gI S1 (p + 4) i = nI (tS (tS (tS (pT Q.1) 0 (pN Q.1) k) 1 (pN Q.1) c) 2 (pN Q.1) b 2 i)
    rw [o (by omega), o (by omega), o (by omega), tS_ne (by omega), tS_ne (by omega), tS_ne (a := 2) (x := 1) (by omega)]
    by_cases ei : i = pN Q.1
    · rw [ei, tS_eq, tS_eq, tS_eq]; exact ⟨h2, h3, h4⟩
    · rw [tS_ne (by omega), tS_ne (by omega), tS_ne (by omega), tS_ne (by omega), tS_ne (by omega), tS_ne (by omega)]; exact hp' i (by omega)
  · rw [nQ_T (by omega), nQ_T (by omega), o (by omega), o (by omega)]; exact hy j hj
  · rw [nQ_T (by omega), o (by omega)]; exact hw j hj
  · exact ⟨by rw [r, r, r]; exact hd.1, by rw [o (by omega)]; exact hd.2.1, fun k hk => by rw [o (by omega)]; exact hd.2.2 k hk⟩
  · exact ⟨by rw [r, r, r]; exact ht.1, by rw [o (by omega)]; exact ht.2.1, fun k hk => by rw [o (by omega)]; exact ht.2.2 k hk⟩
  · have hi' : i < pN Q.1 + 1 := hi
    show gJ S1 (p + 1) i = lN (k32 (up1 Q.2.1 (pN Q.1) l i))
    rw [jj, up1_at]
    by_cases ei : i = pN Q.1
    · rw [if_pos ei, ei]; exact h1
    · rw [if_neg ei]; exact hn i (by omega)
theorem T_kind (h : CTk S tp (tP tp n)) (hg : 1 ≤ f) : zI (F_X6_isKind f 0 [.ref (gR S 1 6)] S) (fun x T => x = (if 20 ≤ wO tp n ∧ wO tp n ≤ 23 then 1 else 0) ∧ T = S) := by
  obtain ⟨g, ge, hG⟩ := g1 hg; subst ge; clear hg; have hg := hG; clear hG; rw [E_X6_isKind_0]; unfold F_X6_isKind_0
  rw [h.wo]
  have hd := co_dec (N := 31) (P := fun r => (if r = 20 then (1 : Int32) else if r = 21 then (1 : Int32) else if r = 22 then (1 : Int32) else if r = 23 then (1 : Int32) else (0 : Int32)) = (if 20 ≤ r ∧ r ≤ 23 then 1 else 0)) (by decide +kernel) (wO_b (tp := tp) (n := n))
  rw [hd]
  exact o_Z (by split <;> simp) (i_r ⟨rfl, rfl⟩)
theorem T_person (ho : okTp tp) (h : CTk S tp (tP tp n)) (hq : CQs S p Q) (hI : QI Q) (h6 : pN Q.1 < 6) (hp : 3 ≤ p) (hp2 : p ≤ 19) (hg : 6501 ≤ f) : zI (F_X6_readPerson f 0 [.ref p, .ref 1] S) (fun x T => eE (xPer tp Q n) (cX tp p S x T) (cY tp p S x T)) := by
  replace hg : 6500 + 1 ≤ f := hg
  obtain ⟨g, ge, hG⟩ := g1 hg; subst ge; clear hg; have hg := hG; clear hG; rw [E_X6_readPerson_0]; unfold F_X6_readPerson_0
  have out1 : ∀ {g : Nat} {W : aS}, 1 ≤ g → zI (F_X6_readPerson g 1 [] W) (fun x Y => x = 0 ∧ Y = W) := by
    intro g W hg
    obtain ⟨g, rfl, hg2⟩ := g1 (n := 0) (f := g) (by omega)
    rw [E_X6_readPerson_1]; unfold F_X6_readPerson_1
    exact o_Z (Or.inl rfl) (i_r ⟨rfl, rfl⟩)
  have out2 : ∀ {g : Nat} {W : aS}, 1 ≤ g → zI (F_X6_readPerson g 2 [] W) (fun x Y => x = 0 ∧ Y = W) := by
    intro g W hg
    obtain ⟨g, rfl, hg2⟩ := g1 (n := 0) (f := g) (by omega)
    rw [E_X6_readPerson_2]; unfold F_X6_readPerson_2
    exact o_Z (Or.inl rfl) (i_r ⟨rfl, rfl⟩)
  have cq : ∀ {U : aS}, Fx (dPn p (pN Q.1)) S U → CQs U p Q := fun hf => hq.g hf hp (fun x k h => by unfold dPn; omega)
  have up : ∀ {A B : aS}, Fx (dPn p (pN Q.1)) A B → Fx (dPt p) A B := fun hf => hf.mono (fun x k d => by unfold dPn at d; unfold dPt; omega)
  have un : ∀ {A B : aS}, Fx dT A B → Fx (dPn p (pN Q.1)) A B := fun hf => hf.mono (fun x k d => by unfold dT at d; unfold dPn; omega)
  unfold xPer
  refine o_I (T_nameTok h (by omega)) ?_
  intro x T1 hx
  unfold stp at hx
  by_cases e : qA tp n = true
  rotate_left
  · rw [if_neg e, if_neg (by decide)] at hx
    obtain ⟨rfl, x1, x2, x3⟩ := hx
    have ex : xNam tp Q n = .error (1, n) := if_neg e
    rw [ex]
    exact o_t rfl (o_Z (Or.inl rfl) (i_r ⟨rfl, x1, x2, dP_t x3⟩))
  rw [if_pos e, if_pos rfl] at hx
  obtain ⟨rfl, t1⟩ := hx
  rw [t1]
  refine o_f (by decide) ?_
  have h1 : (tk tp n).1 = 1 := by unfold qA at e; simp at e; exact e.1
  rw [h.2.2.2.1 h1]
  refine o_I (T_numberOf (tk_1 h1) (show pN Q.1 ≤ 6 by omega) hq.r.1 hq.ints.2.1 (fun i hi => ⟨(hI.1.2 i hi).1, hq.2.1.2 i hi⟩) (by omega)) ?_
  rintro x T2 ⟨hx, t2⟩
  rw [t2]
  rcases eo : nmO Q.2.1 (tk tp n).2.1 (pN Q.1) 0 with _ | i
  rotate_left
  · rw [show nmO Q.2.1 (tK tp (tP tp n)).2.1 (pN Q.1) 0 = some i from eo] at hx
    have hb := nmO_b _ 0 i eo
    have hx' : x = nI i := hx
    refine o_f (by rw [hx']; exact nI_m1 (by omega)) ?_
    have ex : xNam tp Q n = .error (3, n) := by unfold xNam; rw [if_pos e, eo, if_neg (by simp)]
    rw [ex]
    refine o_I (T_fail (k := 3) h (by omega)) ?_
    rintro x U ⟨rfl, u1, u2, u3⟩
    exact o_Z (Or.inl rfl) (i_r ⟨rfl, u1, u2, dP_t u3⟩)
  rw [show nmO Q.2.1 (tK tp (tP tp n)).2.1 (pN Q.1) 0 = none from eo] at hx
  refine o_t hx ?_
  have ex : xNam tp Q n = .ok ((tk tp n).2.1, n + 1) := by unfold xNam; rw [if_pos e, eo, if_pos rfl]
  rw [ex, eb_ok]
  rw [hq.ints.2.1]
  refine o_X rfl h6 ?_
  rw [hq.r.1, h.2.2.2.1 h1]
  refine o_sJ (fun S1 s1 => ?_)
  have f1 : Fx (fun x k => x = p + 1 ∧ k = pN Q.1) S S1 := (Fx.refl S).sJ s1 ⟨rfl, rfl⟩
  have j1 : gJ S1 (p + 1) (pN Q.1) = lN (k32 (tk tp n).2.1) := by rw [s1, gJ_sJ, if_pos ⟨rfl, rfl⟩]
  refine o_V (T_next ho (h.x f1 ⟨fun j _ => by omega, fun j => by omega⟩ (by rw [s1]; rfl)) (by omega)) ?_
  rintro U ⟨u1, u2⟩
  have fU : Fx (dPn p (pN Q.1)) S U := (f1.mono (fun x k d => by unfold dPn; omega)).tr (un u2)
  have j2 : gJ U (p + 1) (pN Q.1) = lN (k32 (tk tp n).2.1) := by rw [u2.J (by unfold dT; omega)]; exact j1
  refine o_I (T_kind u1 (by omega)) ?_
  rintro x T3 ⟨rfl, t3⟩
  rw [t3]
  by_cases k : 20 ≤ wO tp (n + 1) ∧ wO tp (n + 1) ≤ 23
  rotate_left
  · have ek : xKnd tp (n + 1) = .error (1, n + 1) := if_neg k
    rw [ek, if_neg k]
    refine o_t rfl ?_
    refine o_I (T_fail (k := 1) u1 (by omega)) ?_
    rintro x V ⟨rfl, v1, v2, v3⟩
    exact o_Z (Or.inl rfl) (i_r ⟨rfl, v1, v2, (up fU).tr (dP_t v3)⟩)
  have ek : xKnd tp (n + 1) = .ok (wO tp (n + 1) - 20, n + 1 + 1) := if_pos k
  rw [ek, if_pos k, eb_ok]
  refine o_f (by decide) ?_
  rw [(cq fU).ints.2.1]
  refine o_X rfl h6 ?_
  have zk : zval (gR U 1 6) = nI (wO tp (n + 1) - 20) := by
    rw [u1.wo]
    have hd := co_dec (N := 4) (P := fun r => zval (20 + r) = nI r) (by decide +kernel) (show wO tp (n + 1) - 20 < 4 by omega)
    rw [show 20 + (wO tp (n + 1) - 20) = wO tp (n + 1) by omega] at hd
    exact hd
  rw [(cq fU).r.2.1, zk]
  refine o_s (fun S2 s2 => ?_)
  have f2 : Fx (fun x k => x = p + 2 ∧ k = pN Q.1) U S2 := (Fx.refl U).sI s2 ⟨rfl, rfl⟩
  refine o_V (T_next ho (u1.x f2 ⟨fun j _ => by omega, fun j => by omega⟩ (by rw [s2]; rfl)) (by omega)) ?_
  rintro V ⟨v1, v2⟩
  have fV : Fx (dPn p (pN Q.1)) S V := (fU.tr (f2.mono (fun x k d => by unfold dPn; omega))).tr (un v2)
  have j3 : gJ V (p + 1) (pN Q.1) = lN (k32 (tk tp n).2.1) := by rw [v2.J (by unfold dT; omega), f2.J (by omega)]; exact j2
  have i3 : gI V (p + 2) (pN Q.1) = nI (wO tp (n + 1) - 20) := by rw [v2.I (by unfold dT; omega), s2, gI_sI, if_pos ⟨rfl, rfl⟩]
  refine o_I (T_passW (q := 9) ho v1 (by omega) (by omega) (by omega)) ?_
  intro x W hw
  unfold stp at hw
  by_cases w : qW tp (n + 2) 9 = true
  rotate_left
  · rw [if_neg w, if_neg (by decide)] at hw
    obtain ⟨rfl, w1, w2, w3⟩ := hw
    have ew : xWrd tp (n + 2) 9 = .error (1, n + 2) := if_neg w
    rw [ew]
    refine o_t rfl (i_m (out1 (by omega)) ?_)
    rintro x Y ⟨rfl, y⟩
    rw [y]
    exact ⟨rfl, w1, w2, (up fV).tr (dP_t w3)⟩
  rw [if_pos w, if_pos rfl] at hw
  obtain ⟨rfl, w1, w2⟩ := hw
  have ew : xWrd tp (n + 2) 9 = .ok ((), n + 2 + 1) := if_pos w
  rw [ew, eb_ok]
  refine o_f (by decide) ?_
  have fW : Fx (dPn p (pN Q.1)) S W := fV.tr (un w2)
  refine o_I (T_num (n := n + 3) (a := 0) (b := 9) w1 (by omega) (by omega) (by omega)) ?_
  intro x T4 hx
  unfold stp at hx
  by_cases z : nW tp (n + 3) 0 9 = 0
  rotate_left
  · rw [if_neg z] at hx
    obtain ⟨rfl, x1, x2, x3⟩ := hx
    have ez : xNum tp (n + 3) 0 9 = .error (nW tp (n + 3) 0 9, n + 3) := if_neg z
    rw [ez]
    refine o_t rfl (i_m (out1 (by omega)) ?_)
    rintro x Y ⟨rfl, y⟩
    rw [y]
    exact ⟨rfl, x1, x2, (up fW).tr (dP_t x3)⟩
  rw [if_pos z] at hx
  obtain ⟨rfl, t4⟩ := hx
  rw [t4]
  have ez : xNum tp (n + 3) 0 9 = .ok ((tk tp (n + 3)).2.2, n + 3 + 1) := if_pos z
  rw [ez, eb_ok]
  refine o_f (by decide) ?_
  rw [(cq fW).ints.2.1]
  refine o_X rfl h6 ?_
  rw [(cq fW).r.2.2.1, CTk.nv (n := n + 3) w1 (nW_0 z).1]
  refine o_s (fun S3 s3 => ?_)
  have f3 : Fx (fun x k => x = p + 3 ∧ k = pN Q.1) W S3 := (Fx.refl W).sI s3 ⟨rfl, rfl⟩
  refine o_V (T_next (n := n + 3) ho (w1.x f3 ⟨fun j _ => by omega, fun j => by omega⟩ (by rw [s3]; rfl)) (by omega)) ?_
  rintro Y ⟨y1, y2⟩
  have fY : Fx (dPn p (pN Q.1)) S Y := (fW.tr (f3.mono (fun x k d => by unfold dPn; omega))).tr (un y2)
  have j4 : gJ Y (p + 1) (pN Q.1) = lN (k32 (tk tp n).2.1) := by rw [y2.J (by unfold dT; omega), f3.J (by omega), w2.J (by unfold dT; omega)]; exact j3
  have i4 : gI Y (p + 2) (pN Q.1) = nI (wO tp (n + 1) - 20) := by rw [y2.I (by unfold dT; omega), f3.I (by omega), w2.I (by unfold dT; omega)]; exact i3
  have i5 : gI Y (p + 3) (pN Q.1) = nI (tk tp (n + 3)).2.2 := by rw [y2.I (by unfold dT; omega), s3, gI_sI, if_pos ⟨rfl, rfl⟩]
  refine o_I (T_passW (n := n + 4) (q := 10) ho y1 (by omega) (by omega) (by omega)) ?_
  intro x A ha
  unfold stp at ha
  by_cases w' : qW tp (n + 4) 10 = true
  rotate_left
  · rw [if_neg w', if_neg (by decide)] at ha
    obtain ⟨rfl, a1, a2, a3⟩ := ha
    have ew' : xWrd tp (n + 4) 10 = .error (1, n + 4) := if_neg w'
    rw [ew']
    refine o_t rfl (i_m (out2 (by omega)) ?_)
    rintro x B ⟨rfl, b⟩
    rw [b]
    exact ⟨rfl, a1, a2, (up fY).tr (dP_t a3)⟩
  rw [if_pos w', if_pos rfl] at ha
  obtain ⟨rfl, a1, a2⟩ := ha
  have ew' : xWrd tp (n + 4) 10 = .ok ((), n + 4 + 1) := if_pos w'
  rw [ew', eb_ok]
  refine o_f (by decide) ?_
  have fA : Fx (dPn p (pN Q.1)) S A := fY.tr (un a2)
  refine o_I (T_num (n := n + 5) (a := 0) (b := 9) a1 (by omega) (by omega) (by omega)) ?_
  intro x T5 hx
  unfold stp at hx
  by_cases z' : nW tp (n + 5) 0 9 = 0
  rotate_left
  · rw [if_neg z'] at hx
    obtain ⟨rfl, x1, x2, x3⟩ := hx
    have ez' : xNum tp (n + 5) 0 9 = .error (nW tp (n + 5) 0 9, n + 5) := if_neg z'
    rw [ez']
    refine o_t rfl (i_m (out2 (by omega)) ?_)
    rintro x B ⟨rfl, b⟩
    rw [b]
    exact ⟨rfl, x1, x2, (up fA).tr (dP_t x3)⟩
  rw [if_pos z'] at hx
  obtain ⟨rfl, t5⟩ := hx
  rw [t5]
  have ez' : xNum tp (n + 5) 0 9 = .ok ((tk tp (n + 5)).2.2, n + 5 + 1) := if_pos z'
  rw [ez']
  refine o_f (by decide) ?_
  rw [(cq fA).ints.2.1]
  refine o_X rfl h6 ?_
  rw [(cq fA).r.2.2.2.1, CTk.nv (n := n + 5) a1 (nW_0 z').1]
  refine o_s (fun S4 s4 => ?_)
  have f4 : Fx (fun x k => x = p + 4 ∧ k = pN Q.1) A S4 := (Fx.refl A).sI s4 ⟨rfl, rfl⟩
  refine o_V (T_next (n := n + 5) ho (a1.x f4 ⟨fun j _ => by omega, fun j => by omega⟩ (by rw [s4]; rfl)) (by omega)) ?_
  rintro B ⟨b1, b2⟩
  have fB : Fx (dPn p (pN Q.1)) S B := (fA.tr (f4.mono (fun x k d => by unfold dPn; omega))).tr (un b2)
  rw [(cq fB).ints.2.1, nI_1]
  refine o_s (fun S5 s5 => ?_)
  have f5 : Fx (fun x k => x = p ∧ k = 1) B S5 := (Fx.refl B).sI s5 ⟨rfl, rfl⟩
  refine o_Z (Or.inr rfl) (i_r ⟨rfl, b1.x f5 ⟨fun j _ => by omega, fun j => by omega⟩ (by rw [s5]; rfl), (cq fB).per ?_ ?_ ?_ ?_ s5, (up fB).tr (f5.mono (fun x k d => by unfold dPt; omega))⟩)
  · rw [b2.J (by unfold dT; omega), f4.J (by omega), a2.J (by unfold dT; omega)]; exact j4
  · rw [b2.I (by unfold dT; omega), f4.I (by omega), a2.I (by unfold dT; omega)]; exact i4
  · rw [b2.I (by unfold dT; omega), f4.I (by omega), a2.I (by unfold dT; omega)]; exact i5
  · rw [b2.I (by unfold dT; omega), s4, gI_sI, if_pos ⟨rfl, rfl⟩]
end CQ3

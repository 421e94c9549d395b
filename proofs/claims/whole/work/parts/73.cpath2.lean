/-! the class reads a path: bins, heaps, winds -/
section CQ2
variable {S T S1 : aS} {p f n : Nat} {Q : aQ} {D : Nat → Nat → Prop} {tp : List Nat}
theorem CTk.wo (h : CTk S tp (tP tp n)) : gR S 1 6 = wO tp n := h.2.2.1
theorem wO_b : wO tp n < 31 := by
  unfold wO
  split
  · exact (wdO_b _).2
  · omega
theorem CQs.r (h : CQs S p Q) : gR S p 2 = p + 1 ∧ gR S p 3 = p + 2 ∧ gR S p 4 = p + 3 ∧ gR S p 5 = p + 4 ∧ gR S p 6 = p + 5 ∧ gR S p 7 = p + 6 ∧ gR S p 8 = p + 7 ∧ gR S p 12 = p + 8 ∧ gR S p 13 = p + 12 := ⟨h.2.1.1, h.1.1⟩
theorem CQs.tab {a y v : Nat} (h : CQs S p Q) (e : S1 = sI S (p + 2 + a) y (nI v)) (ha : a = 3 ∨ a = 4) : CQs S1 p (tQ Q a y v) := by
  obtain ⟨⟨hr, hi, hp', hy, hw, hd, ht⟩, ⟨hn2, hn⟩, h14, h15⟩ := h
  have o : ∀ {x k : Nat}, ¬ (x = p + 2 + a ∧ k = y) → gI S1 x k = gI S x k := fun h => by rw [e, gI_sI, if_neg h]
  have r : ∀ x k, gR S1 x k = gR S x k := fun x k => by rw [e]; rfl
  have jj : ∀ x k, gJ S1 x k = gJ S x k := fun x k => by rw [e]; rfl
  refine ⟨⟨by simp only [r]; exact hr, ?_, fun i hi => ?_, fun k hk => ?_, fun k hk => ?_, ?_, ?_⟩, ⟨by rw [r]; exact hn2, fun i hi => by rw [jj]; exact hn i hi⟩, by rw [o (by omega)]; exact h14, by rw [o (by omega)]; exact h15⟩
  · rw [o (by omega), o (by omega), o (by omega), o (by omega), o (by omega)]; exact hi
  · show gI S1 (p + 2) i = nI (tS (pT Q.1) a y v 0 i) ∧ gI S1 (p + 3) i = nI (tS (pT Q.1) a y v 1 i) ∧ gI S1 (p + 4) i = nI (tS (pT Q.1) a y v 2 i)
    rw [o (by omega), o (by omega), o (by omega), tS_ne (by omega), tS_ne (by omega), tS_ne (by omega)]; exact hp' i hi
  · show gI S1 (p + 5) k = nI (tS (pT Q.1) a y v 3 k) ∧ gI S1 (p + 6) k = nI (tS (pT Q.1) a y v 4 k)
    have key : ∀ b, b = 3 ∨ b = 4 → gI S (p + 2 + b) k = nI (pT Q.1 b k) → gI S1 (p + 2 + b) k = nI (tS (pT Q.1) a y v b k) := by
      intro b hb hh
      by_cases c : b = a ∧ k = y
      · rw [c.1, c.2, tS_eq, e, gI_sI, if_pos ⟨rfl, rfl⟩]
      · rw [tS_ne c, o (by omega)]; exact hh
    exact ⟨key 3 (Or.inl rfl) (hy k hk).1, key 4 (Or.inr rfl) (hy k hk).2⟩
  · show gI S1 (p + 7) k = nI (tS (pT Q.1) a y v 5 k)
    rw [o (by omega), tS_ne (by omega)]; exact hw k hk
  · exact ⟨by rw [r, r, r]; exact hd.1, by rw [o (by omega)]; exact hd.2.1, fun k hk => by rw [o (by omega)]; exact hd.2.2 k hk⟩
  · exact ⟨by rw [r, r, r]; exact ht.1, by rw [o (by omega)]; exact ht.2.1, fun k hk => by rw [o (by omega)]; exact ht.2.2 k hk⟩
def gQ (Q : aQ) (y : Nat) : aQ := (Q.1, Q.2.1, Q.2.2.1, up1 Q.2.2.2 y true)
theorem CQs.told {v : Nat} (h : CQs S p Q) (hv : v < 8) (e : S1 = sI S p 15 (nI (bs Q.2.2.2 8) ||| nI (2 ^ v))) (hp : 3 ≤ p) : CQs S1 p (gQ Q v) := by
  obtain ⟨i1, i2, i3, i4, i5, i6, i7⟩ := h.ints
  refine h.o e hp ⟨rfl, rfl, rfl, rfl, rfl⟩ (fun k hk => ?_)
  rcases hk with rfl | rfl | rfl | rfl | rfl | rfl | rfl
  · exact i1
  · exact i2
  · exact i3
  · exact i4
  · exact i5
  · exact i6
  · show nI (bs Q.2.2.2 8) ||| nI (2 ^ v) = nI (bs (up1 Q.2.2.2 v true) 8)
    rw [nI_or, bs_set hv]
theorem sh_1 {y : Nat} (hy : y < 8) : (1 : Int32) <<< (nI y &&& 31) = nI (2 ^ y) := co_dec (N := 8) (P := fun y => (1 : Int32) <<< (nI y &&& 31) = nI (2 ^ y)) (by decide +kernel) hy
theorem dP_t (h : Fx dP S T) : Fx (dPt p) S T := h.mono (fun q j d => by unfold dP at d; unfold dPt; omega)
theorem dT_t (h : Fx dT S T) : Fx (dPt p) S T := h.mono (fun q j d => by unfold dT at d; unfold dPt; omega)
theorem T_bin (ho : okTp tp) (h : CTk S tp (tP tp n)) (hq : CQs S p Q) (hI : QI Q) (hp : 3 ≤ p) (hp2 : p ≤ 19) (hg : 6401 ≤ f) : zI (F_X6_readBin f 0 [.ref p, .ref 1] S) (fun x T => eE (xBin tp Q n) (cX tp p S x T) (cY tp p S x T)) := by
  replace hg : 6400 + 1 ≤ f := hg
  obtain ⟨g, ge, hG⟩ := g1 hg; subst ge; clear hg; have hg := hG; clear hG; rw [E_X6_readBin_0]; unfold F_X6_readBin_0
  have out : ∀ {g : Nat} {W : aS}, 1 ≤ g → zI (F_X6_readBin g 1 [] W) (fun x Y => x = 0 ∧ Y = W) := by
    intro g W hg
    obtain ⟨g, rfl, hg2⟩ := g1 (n := 0) (f := g) (by omega)
    rw [E_X6_readBin_1]; unfold F_X6_readBin_1
    exact o_Z (Or.inl rfl) (i_r ⟨rfl, rfl⟩)
  unfold xBin
  refine o_I (T_num (a := 0) (b := 7) h (by omega) (by omega) (by omega)) ?_
  intro x T1 hx
  unfold stp at hx
  by_cases e : nW tp n 0 7 = 0
  · rw [if_pos e] at hx
    obtain ⟨rfl, t1⟩ := hx
    rw [t1]
    have ex : xNum tp n 0 7 = .ok ((tk tp n).2.2, n + 1) := if_pos e
    rw [ex]
    obtain ⟨n1, n2, n3⟩ := nW_0 e
    refine o_f (by decide) ?_
    rw [h.nv n1]
    refine o_X rfl (show (tk tp n).2.2 < 8 by omega) ?_
    rw [hq.r.2.2.2.2.1, (hq.1.2.2.2.1 _ (show (tk tp n).2.2 < 8 by omega)).1]
    have hb := (hI.1.1.2.2.1 (tk tp n).2.2 (by omega)).1
    by_cases c : 0 < pT Q.1 3 (tk tp n).2.2
    · refine o_f (nI_ge (b := pT Q.1 3 (tk tp n).2.2) (a := 0) c (by omega)) ?_
      refine o_I (T_fail (k := 3) h (by omega)) ?_
      rintro x U ⟨rfl, u1, u2, u3⟩
      refine o_Z (Or.inl rfl) (i_r ?_)
      show eE (if 0 < pT Q.1 3 (tk tp n).2.2 then _ else _) _ _
      rw [if_pos c]
      exact ⟨rfl, u1, u2, dP_t u3⟩
    · refine o_t (nI_le (b := 0) (by omega) (by omega)) ?_
      refine o_V (T_next ho h (by omega)) ?_
      rintro U ⟨u1, u2⟩
      have qU := hq.t u2 hp
      refine o_I (T_passW (q := 12) ho u1 (by omega) (by omega) (by omega)) ?_
      intro x V hv
      unfold stp at hv
      show zI _ (fun x T => eE (if 0 < pT Q.1 3 (tk tp n).2.2 then _ else eb (xWrd tp (n + 1) 12) fun _ m => eb (xNum tp m 1 30) fun v m => .ok (tQ Q 3 (tk tp n).2.2 v, m)) (cX tp p S x T) (cY tp p S x T))
      rw [if_neg c]
      by_cases w : qW tp (n + 1) 12 = true
      · rw [if_pos w, if_pos rfl] at hv
        obtain ⟨rfl, v1, v2⟩ := hv
        have ew : xWrd tp (n + 1) 12 = .ok ((), n + 1 + 1) := if_pos w
        rw [ew]
        refine o_f (by decide) ?_
        refine o_I (T_num (a := 1) (b := 30) v1 (by omega) (by omega) (by omega)) ?_
        intro x W hw
        unfold stp at hw
        show zI _ (fun x T => eE (eb (xNum tp (n + 1 + 1) 1 30) fun v m => .ok (tQ Q 3 (tk tp n).2.2 v, m)) (cX tp p S x T) (cY tp p S x T))
        have qV := qU.t v2 hp
        unfold xNum
        by_cases z : nW tp (n + 1 + 1) 1 30 = 0
        · rw [if_pos z] at hw ⊢
          obtain ⟨rfl, w1⟩ := hw
          rw [w1]
          refine o_f (by decide) ?_
          refine o_X rfl (show (tk tp n).2.2 < 8 by omega) ?_
          rw [qV.r.2.2.2.2.1, v1.nv (nW_0 z).1]
          refine o_s (fun S1 s1 => ?_)
          have f1 : Fx (fun x k => x = p + 5) V S1 := (Fx.refl V).sI s1 rfl
          refine o_V (T_next ho (v1.x f1 ⟨fun j _ => by omega, fun j => by omega⟩ (by rw [s1]; rfl)) (by omega)) ?_
          rintro Y ⟨y1, y2⟩
          refine o_Z (Or.inr rfl) (i_r ⟨rfl, y1, (qV.tab (a := 3) s1 (Or.inl rfl)).t y2 hp, (((dT_t u2).tr (dT_t v2)).tr (f1.mono (fun q j d => by unfold dPt; omega))).tr (dT_t y2)⟩)
        · rw [if_neg z] at hw ⊢
          obtain ⟨rfl, w1, w2, w3⟩ := hw
          refine o_t rfl (i_m (out (by omega)) ?_)
          rintro x Y ⟨rfl, y⟩
          rw [y]
          exact ⟨rfl, w1, w2, ((dT_t u2).tr (dT_t v2)).tr (dP_t w3)⟩
      · rw [if_neg w, if_neg (by decide)] at hv
        obtain ⟨rfl, v1, v2, v3⟩ := hv
        have ew : xWrd tp (n + 1) 12 = .error (1, n + 1) := if_neg w
        rw [ew]
        refine o_t rfl (i_m (out (by omega)) ?_)
        rintro x Y ⟨rfl, y⟩
        rw [y]
        exact ⟨rfl, v1, v2, (dT_t u2).tr (dP_t v3)⟩
  · rw [if_neg e] at hx
    obtain ⟨rfl, x1, x2, x3⟩ := hx
    have ex : xNum tp n 0 7 = .error (nW tp n 0 7, n) := if_neg e
    rw [ex]
    exact o_t rfl (o_Z (Or.inl rfl) (i_r ⟨rfl, x1, x2, dP_t x3⟩))
theorem T_heap (ho : okTp tp) (h : CTk S tp (tP tp n)) (hq : CQs S p Q) (hp : 3 ≤ p) (hp2 : p ≤ 19) (hg : 6401 ≤ f) : zI (F_X6_readHeap f 0 [.ref p, .ref 1] S) (fun x T => eE (xHea tp Q n) (cX tp p S x T) (cY tp p S x T)) := by
  replace hg : 6400 + 1 ≤ f := hg
  obtain ⟨g, ge, hG⟩ := g1 hg; subst ge; clear hg; have hg := hG; clear hG; rw [E_X6_readHeap_0]; unfold F_X6_readHeap_0
  unfold xHea
  refine o_I (T_num (a := 0) (b := 7) h (by omega) (by omega) (by omega)) ?_
  intro x T1 hx
  unfold stp at hx
  by_cases e : nW tp n 0 7 = 0
  · rw [if_pos e] at hx
    obtain ⟨rfl, t1⟩ := hx
    rw [t1]
    have ex : xNum tp n 0 7 = .ok ((tk tp n).2.2, n + 1) := if_pos e
    rw [ex]
    obtain ⟨n1, n2, n3⟩ := nW_0 e
    refine o_f (by decide) ?_
    rw [h.nv n1, sh_1 (show (tk tp n).2.2 < 8 by omega), hq.2.2.2]
    rw [show nI (bs Q.2.2.2 8) &&& nI (2 ^ (tk tp n).2.2) = nI (if Q.2.2.2 (tk tp n).2.2 then 2 ^ (tk tp n).2.2 else 0) by rw [nI_and, bs_and (show (tk tp n).2.2 < 8 by omega)]]
    show zI _ (fun x T => eE (if Q.2.2.2 (tk tp n).2.2 = true then _ else eb (xNum tp (n + 1) 0 99) fun v m => .ok (hQ Q (tk tp n).2.2 v, m)) (cX tp p S x T) (cY tp p S x T))
    by_cases c : Q.2.2.2 (tk tp n).2.2 = true
    · rw [if_pos c, if_pos c]
      have h2 : 0 < 2 ^ (tk tp n).2.2 := Nat.pos_of_ne_zero (by simp)
      have h3 : 2 ^ (tk tp n).2.2 < 2 ^ 8 := Nat.pow_lt_pow_right (by omega) (by omega)
      refine o_f (nI_ne (b := 0) (by omega) (by omega) (by omega)) ?_
      refine o_I (T_fail (k := 3) h (by omega)) ?_
      rintro x U ⟨rfl, u1, u2, u3⟩
      exact o_Z (Or.inl rfl) (i_r ⟨rfl, u1, u2, dP_t u3⟩)
    · rw [if_neg c, if_neg c]
      refine o_t rfl ?_
      refine o_s (fun S1 s1 => ?_)
      have f1 : Fx (fun x k => x = p ∧ k = 15) S S1 := (Fx.refl S).sI s1 ⟨rfl, rfl⟩
      have q1 := hq.told (by omega) s1 hp
      refine o_V (T_next ho (h.x f1 ⟨fun j _ => by omega, fun j => by omega⟩ (by rw [s1]; rfl)) (by omega)) ?_
      rintro U ⟨u1, u2⟩
      have qU := q1.t u2 hp
      have fU : Fx (dPt p) S U := (f1.mono (fun q j d => by unfold dPt; omega)).tr (dT_t u2)
      refine o_I (T_num (a := 0) (b := 99) u1 (by omega) (by omega) (by omega)) ?_
      intro x W hw
      unfold stp at hw
      unfold xNum
      by_cases z : nW tp (n + 1) 0 99 = 0
      · rw [if_pos z] at hw ⊢
        obtain ⟨rfl, w1⟩ := hw
        rw [w1]
        refine o_f (by decide) ?_
        refine o_X rfl (show (tk tp n).2.2 < 8 by omega) ?_
        rw [qU.r.2.2.2.2.2.1, u1.nv (nW_0 z).1]
        refine o_s (fun S2 s2 => ?_)
        have f2 : Fx (fun x k => x = p + 6) U S2 := (Fx.refl U).sI s2 rfl
        refine o_V (T_next ho (u1.x f2 ⟨fun j _ => by omega, fun j => by omega⟩ (by rw [s2]; rfl)) (by omega)) ?_
        rintro Y ⟨y1, y2⟩
        exact o_Z (Or.inr rfl) (i_r ⟨rfl, y1, (qU.tab (a := 4) s2 (Or.inr rfl)).t y2 hp, (fU.tr (f2.mono (fun q j d => by unfold dPt; omega))).tr (dT_t y2)⟩)
      · rw [if_neg z] at hw ⊢
        obtain ⟨rfl, w1, w2, w3⟩ := hw
        exact o_t rfl (o_Z (Or.inl rfl) (i_r ⟨rfl, w1, w2, fU.tr (dP_t w3)⟩))
  · rw [if_neg e] at hx
    obtain ⟨rfl, x1, x2, x3⟩ := hx
    have ex : xNum tp n 0 7 = .error (nW tp n 0 7, n) := if_neg e
    rw [ex]
    exact o_t rfl (o_Z (Or.inl rfl) (i_r ⟨rfl, x1, x2, dP_t x3⟩))
theorem CQs.wnd {k v : Nat} {W : Nat → Nat → Nat} {S2 : aS} (h : CQs S p (wQ Q k W)) (e1 : S1 = sI S (p + 7) k (nI v)) (e2 : S2 = sI S1 p 9 (nI (k + 1))) : CQs S2 p (wQ Q (k + 1) (tS W 5 k v)) := by
  obtain ⟨⟨hr, hi, hp', hy, hw, hd, ht⟩, ⟨hn2, hn⟩, h14, h15⟩ := h
  have o : ∀ {x j : Nat}, ¬ (x = p + 7 ∧ j = k) → ¬ (x = p ∧ j = 9) → gI S2 x j = gI S x j := fun h h2 => by rw [e2, gI_sI, if_neg h2, e1, gI_sI, if_neg h]
  have r : ∀ x j, gR S2 x j = gR S x j := fun x j => by rw [e2, gR_sI, e1, gR_sI]
  have jj : ∀ x j, gJ S2 x j = gJ S x j := fun x j => by rw [e2, gJ_sI, e1, gJ_sI]
  refine ⟨⟨by simp only [r]; exact hr, ?_, fun i hi => ?_, fun j hj => ?_, fun j hj => ?_, ?_, ?_⟩, ⟨by rw [r]; exact hn2, fun i hi => by rw [jj]; exact hn i hi⟩, by rw [o (by omega) (by omega)]; exact h14, by rw [o (by omega) (by omega)]; exact h15⟩
  · refine ⟨?_, ?_, by rw [e2, gI_sI, if_pos ⟨rfl, rfl⟩]; rfl, ?_, ?_⟩ <;> rw [o (by omega) (by omega)]
    · exact hi.1
    · exact hi.2.1
    · exact hi.2.2.2.1
    · exact hi.2.2.2.2
  · show gI S2 (p + 2) i = nI (tS W 5 k v 0 i) ∧ gI S2 (p + 3) i = nI (tS W 5 k v 1 i) ∧ gI S2 (p + 4) i = nI (tS W 5 k v 2 i)
    rw [o (by omega) (by omega), o (by omega) (by omega), o (by omega) (by omega), tS_ne (by omega), tS_ne (by omega), tS_ne (by omega)]; exact hp' i hi
  · show gI S2 (p + 5) j = nI (tS W 5 k v 3 j) ∧ gI S2 (p + 6) j = nI (tS W 5 k v 4 j)
    rw [o (by omega) (by omega), o (by omega) (by omega), tS_ne (by omega), tS_ne (by omega)]; exact hy j hj
  · show gI S2 (p + 7) j = nI (tS W 5 k v 5 j)
    have hj' : j < k + 1 := hj
    by_cases c : j = k
    · rw [c, tS_eq, e2, gI_sI, if_neg (by omega), e1, gI_sI, if_pos ⟨rfl, rfl⟩]
    · rw [tS_ne (by omega), o (by omega) (by omega)]; exact hw j (by show j < k; omega)
  · exact ⟨by rw [r, r, r]; exact hd.1, by rw [o (by omega) (by omega)]; exact hd.2.1, fun k hk => by rw [o (by omega) (by omega)]; exact hd.2.2 k hk⟩
  · exact ⟨by rw [r, r, r]; exact ht.1, by rw [o (by omega) (by omega)]; exact ht.2.1, fun k hk => by rw [o (by omega) (by omega)]; exact ht.2.2 k hk⟩
theorem T_wnd (ho : okTp tp) (hp : 3 ≤ p) (hp2 : p ≤ 19) : ∀ (φ k : Nat) (W : Nat → Nat → Nat) (n f : Nat) (S : aS), k ≤ 12 → 13 ≤ φ + k → 6300 + 3 * φ ≤ f → CTk S tp (tP tp n) → CQs S p (wQ Q k W) → zI (F_X6_readWinds f 1 [.ref p, .ref 1, .int (nI k)] S) (fun x T => eE (eb (xWn tp φ k W n) fun x m => .ok (wQ Q x.1 x.2, m)) (cX tp p S x T) (cY tp p S x T))
  | 0, k, W, n, f, S, hk, hf, _, _, _ => by omega
  | φ + 1, k, W, n, f, S, hk, hf, hg, h, hq => by
    replace hg : (6302 + 3 * φ) + 1 ≤ f := by omega
    obtain ⟨g, ge, hG⟩ := g1 hg; subst ge; clear hg; have hg := hG; clear hG; rw [E_X6_readWinds_1]; unfold F_X6_readWinds_1
    refine o_f (show ¬ (12 : Int32) < nI k from nI_nlt (a := 12) hk (by omega)) ?_
    have go : ∀ g, 6302 + 3 * φ ≤ g → (k = 0 ∨ qN tp n = true) → zI (F_X6_readWinds g 3 [.ref p, .ref 1, .int (nI k)] S) (fun x T => eE (eb (xWn tp (φ + 1) k W n) fun x m => .ok (wQ Q x.1 x.2, m)) (cX tp p S x T) (cY tp p S x T)) := by
      intro g hg hc
      obtain ⟨g, rfl, hg2⟩ := g1 (n := 6301 + 3 * φ) (f := g) (by omega)
      rw [E_X6_readWinds_3]; unfold F_X6_readWinds_3
      unfold xWn
      rw [if_pos hc]
      refine o_I (T_num (a := 0) (b := 2) h (by omega) (by omega) (by omega)) ?_
      intro x T1 hx
      unfold stp at hx
      by_cases e : nW tp n 0 2 = 0
      · rw [if_pos e] at hx
        obtain ⟨rfl, t1⟩ := hx
        rw [t1]
        have ex : xNum tp n 0 2 = .ok ((tk tp n).2.2, n + 1) := if_pos e
        rw [ex]
        show zI _ (fun x T => eE (eb (if 12 ≤ k then .error (5, n) else xWn tp φ (k + 1) (tS W 5 k (tk tp n).2.2) (n + 1)) fun x m => .ok (wQ Q x.1 x.2, m)) (cX tp p S x T) (cY tp p S x T))
        refine o_f (by decide) ?_
        rw [hq.ints.2.2.1]
        by_cases c : 12 ≤ k
        · rw [if_pos c]
          refine o_f (show ¬ nI k < (12 : Int32) from nI_nlt (b := 12) c (by omega)) ?_
          refine o_I (T_fail (k := 5) h (by omega)) ?_
          rintro x U ⟨rfl, u1, u2, u3⟩
          exact o_Z (Or.inl rfl) (i_r ⟨rfl, u1, u2, dP_t u3⟩)
        · rw [if_neg c]
          refine o_t (show nI k < (12 : Int32) from nI_lt (b := 12) (by omega) (by omega)) ?_
          refine o_X (n := k) rfl (by omega) ?_
          rw [hq.r.2.2.2.2.2.2.1, h.nv (nW_0 e).1]
          refine o_s (fun S1 s1 => ?_)
          rw [show gI S1 p 9 = nI k by rw [s1, gI_sI, if_neg (by omega)]; exact hq.ints.2.2.1, nI_1]
          refine o_s (fun S2 s2 => ?_)
          have q2 := hq.wnd s1 s2
          have f2 : Fx (dPt p) S S2 := ((Fx.refl S).sI s1 (by unfold dPt; omega)).sI s2 (by unfold dPt; omega)
          have f2' : Fx (fun x k => x = p ∨ x = p + 7) S S2 := ((Fx.refl S).sI s1 (by omega)).sI s2 (by omega)
          refine o_V (T_next ho (h.x f2' ⟨fun j _ => by omega, fun j => by omega⟩ (by rw [s2, s1]; rfl)) (by omega)) ?_
          rintro U ⟨u1, u2⟩
          refine i_m (T_wnd ho hp hp2 φ (k + 1) (tS W 5 k (tk tp n).2.2) (n + 1) g U (by omega) (by omega) (by omega) u1 (q2.t u2 hp)) (fun x V hv => ?_)
          exact eE_m hv (fun a b hh => ⟨hh.1, hh.2.1, hh.2.2.1, (f2.tr (dT_t u2)).tr hh.2.2.2⟩) (fun a b hh => ⟨hh.1, hh.2.1, hh.2.2.1, (f2.tr (dT_t u2)).tr hh.2.2.2⟩)
      · rw [if_neg e] at hx
        obtain ⟨rfl, x1, x2, x3⟩ := hx
        have ex : xNum tp n 0 2 = .error (nW tp n 0 2, n) := if_neg e
        rw [ex]
        exact o_t rfl (o_Z (Or.inl rfl) (i_r ⟨rfl, x1, x2, dP_t x3⟩))
    by_cases c : k = 0
    · refine o_t (by rw [c]; rfl) ?_
      exact go g hg (Or.inl c)
    · refine o_f (nI_ne (b := 0) c (by omega) (by omega)) ?_
      by_cases q : qN tp n = true
      · have hb : (tk tp n).2.2 < 10000 := tk_n (by unfold qN at q; simpa using q)
        refine o_f (by rw [h.nv q]; exact nI_m1 (by omega)) ?_
        exact go g hg (Or.inr q)
      · have q2 : ¬ (tk tp n).1 = 2 := by unfold qN at q; simpa using q
        refine o_t (by have := h.2.2.2.2.1; rw [this, if_neg q2]) ?_
        obtain ⟨g, rfl, hg2⟩ := g1 (n := 6301 + 3 * φ) (f := g) (by omega)
        rw [E_X6_readWinds_2]; unfold F_X6_readWinds_2
        unfold xWn
        rw [if_neg (show ¬ (k = 0 ∨ qN tp n = true) from fun h => h.elim c q)]
        exact o_Z (Or.inr rfl) (i_r ⟨rfl, h, hq, Fx.refl S⟩)
end CQ2

/-! the class reads an E: the walk -/
def lrk (lab : Nat) : Nat := if lab ≤ 4 then 5 - lab else 0
def lew (lab w : Nat) : Nat := 5 * (5 - w) + (if lab ≤ 4 then 5 - lab else if lab = 5 then 5 else if lab = 9 then 3 else 2)
def lar (l lab w v : Nat) : List Value := if lab ≤ 4 then [.ref l, .ref 1, .int (nI w)] else [.ref l, .ref 1, .int (nI w), .int (nI v)]
section CY
variable {l N : Nat} {tp : List Nat}
theorem pE_ok {r : pR} {c : List Int32} {m : Nat} {E : Nat → Nat → Prop} {K : List Int32 → Nat → Prop} (h : pE r E K) (e : r = .ok (c, m)) : K c m := by
  subst e; exact h
theorem CQ.b2 {S T : aS} {cs bs : List Int32} {r : pR} {k : List Int32 × Nat → pR} {a : aR} {K : Int32 → aS → aR} (h : zI a (CQ l tp T bs r)) (hf : Fx (dLw l) S T) (h0 : ∀ T, K 0 T = bZ 0 (some (some (.int 0), T))) (hk : ∀ c m U, r = .ok (c, m) → CTk U tp (tP tp m) → LwS U l (bs ++ c) → Fx (dLw l) S U → zI (K 1 U) (CQ l tp S cs (k (c, m)))) : zI (bI a K) (CQ l tp S cs (pb r k)) := by
  refine o_I h (fun x T hq => ?_)
  rcases r with ⟨e1, e2⟩ | ⟨c, m⟩
  · obtain ⟨rfl, q1, q2, q3⟩ := hq
    rw [h0]
    exact o_Z (Or.inl rfl) (i_r ⟨rfl, q1, q2, hf.tr q3⟩)
  · obtain ⟨rfl, q1, q2, q3⟩ := hq
    exact hk c m T rfl q1 q2 (hf.tr q3)
theorem T_fact {S : aS} {n f : Nat} (h : CTk S tp (tP tp n)) (hg : 1 ≤ f) : zI (F_X5_isFact f 0 [.ref (gR S 1 6)] S) (fun x T => x = (if qF tp n = true then 1 else 0) ∧ T = S) := by
  obtain ⟨g, ge, hG⟩ := g1 hg; subst ge; clear hg; have hg := hG; clear hG; rw [E_X5_isFact_0]; unfold F_X5_isFact_0
  have e : (if gR S 1 6 = 27 then (1 : Int32) else if gR S 1 6 = 28 then (1 : Int32) else if gR S 1 6 = 29 then (1 : Int32) else if gR S 1 6 = 30 then (1 : Int32) else (0 : Int32)) = (if qF tp n = true then 1 else 0) := by
    simp only [h.w (q := 27) (by omega) (by omega), h.w (q := 28) (by omega) (by omega), h.w (q := 29) (by omega) (by omega), h.w (q := 30) (by omega) (by omega)]
    unfold qF
    cases qW tp n 27 <;> cases qW tp n 28 <;> cases qW tp n 29 <;> cases qW tp n 30 <;> rfl
  rw [e]
  exact o_Z (by split <;> simp) (i_r ⟨rfl, rfl⟩)
theorem if_iff {p q : Prop} {_ : Decidable p} [Decidable q] {a b : Int32} (h : p ↔ q) : (if p then a else b) = (if q then a else b) := by
  by_cases c : q
  · rw [if_pos c, if_pos (h.mpr c)]
  · rw [if_neg c, if_neg (fun d => c (h.mp d))]
theorem T_gLaw (hN : nT tp N) (ho : okTp tp) (hl : 10 ≤ l) : ∀ (φ lab n w v e f : Nat) (S : aS) (cs : List Int32), okLb lab → 8 * (1001 - n) + lrk lab + 1 ≤ φ → 6300 + 4 * φ ≤ f → lew lab w ≤ e → n ≤ N → w ≤ 5 → v ≤ n → cs.length ≤ n → CTk S tp (tP tp n) → LwS S l cs → zI (F_gLaw f e lab (lar l lab w v) S) (CQ l tp S cs (pL tp φ lab n w)) := by
  intro φ
  induction φ with
  | zero => intro lab n w v e f S cs _ h; omega
  | succ φ ih =>
    intro lab n w v e f S cs hlb hφ hf he hn hw hv hcs hT hL
    have hN1 := hN.1
    have o : ∀ a, a ≤ 4 → okLb a := fun a h => Or.inl (by omega)
    obtain ⟨g, rfl, hg⟩ := g1 (n := 6303 + 4 * φ) (f := f) (by omega)
    clear hf
    rcases (show lab = 0 ∨ lab = 1 ∨ lab = 2 ∨ lab = 3 ∨ lab = 4 ∨ lab = 5 ∨ lab = 9 ∨ lab = 12 by unfold okLb at hlb; omega) with rfl | rfl | rfl | rfl | rfl | rfl | rfl | rfl
    · show zI (F_gLaw (g + 1) e 0 [.ref l, .ref 1, .int (nI w)] S) _
      rw [E_gLaw_0, pL_0]; unfold F_gLaw_0
      simp [lrk, lew] at hφ he
      obtain ⟨e1, rfl⟩ : ∃ e1, e = e1 + 1 := ⟨e - 1, by omega⟩
      refine o_dE rfl ?_
      refine CQ.b (ih 1 n w 0 e1 g S cs (o _ (by omega)) (by simp [lrk]; omega) (by omega) (by simp [lew]; omega) hn hw (by omega) hcs hT hL) (fun T => if_pos rfl) (fun c m T hr t1 t2 t3 => ?_)
      have hm := pE_ok (pL_len hN φ 1 n w (o _ (by omega)) hn) hr
      have := hm.2.2 (by omega)
      refine o_f (by decide) ?_
      refine CQ.a (ih 5 m w 0 (e1 + 1) g T (cs ++ c) (Or.inl (by omega)) (by simp [lrk]; omega) (by omega) (by simp [lew]; omega) hm.2.1 hw (by omega) (by rw [List.length_append]; omega) t1 t2) t3 (fun y m => rfl)
    · show zI (F_gLaw (g + 1) e 1 [.ref l, .ref 1, .int (nI w)] S) _
      rw [E_gLaw_1, pL_1]; unfold F_gLaw_1
      simp [lrk, lew] at hφ he
      obtain ⟨e1, rfl⟩ : ∃ e1, e = e1 + 1 := ⟨e - 1, by omega⟩
      refine o_dE rfl ?_
      refine CQ.b (ih 2 n w 0 e1 g S cs (o _ (by omega)) (by simp [lrk]; omega) (by omega) (by simp [lew]; omega) hn hw (by omega) hcs hT hL) (fun T => if_pos rfl) (fun c m T hr t1 t2 t3 => ?_)
      have hm := pE_ok (pL_len hN φ 2 n w (o _ (by omega)) hn) hr
      have hc1 := hm.2.2 (by omega)
      refine o_f (by decide) ?_
      have s60 : gI T 1 9 = (60 : Int32) ↔ qS tp m 60 = true := t1.s (c := 60) rfl
      have s61 : gI T 1 9 = (61 : Int32) ↔ qS tp m 61 = true := t1.s (c := 61) rfl
      have two : qS tp m 60 = true ∨ qS tp m 61 = true → zI (F_gLaw g (e1 + 1) 8 [.ref l, .ref 1, .int (nI w)] T) (CQ l tp S cs (pb (pL tp φ 2 (m + 1) w) fun y => .ok (c ++ (y.1 ++ [if qS tp m 60 = true then -8 else -9]), y.2))) := by
        intro hq
        have hm1 : m + 1 ≤ N := by rcases hq with h | h <;> exact qS.s hN hm.2.1 h
        obtain ⟨g, rfl, hg2⟩ := g1 (n := 6302 + 4 * φ) (f := g) (by omega)
        rw [E_gLaw_8]; unfold F_gLaw_8
        refine o_dE rfl ?_
        rw [if_iff s60]
        refine o_lI ?_
        refine o_V (T_next ho t1 (by omega)) ?_
        rintro T1 ⟨v1, v2⟩
        refine CQ.b2 (ih 2 (m + 1) w 0 e1 g T1 (cs ++ c) (o _ (by omega)) (by simp [lrk]; omega) (by omega) (by simp [lew]; omega) hm1 hw (by omega) (by rw [List.length_append]; omega) v1 (t2.t v2 hl)) (t3.tr v2.law) (fun T => if_pos rfl) (fun y m2 U hr2 u1 u2 u3 => ?_)
        have hm2 := pE_ok (pL_len hN φ 2 (m + 1) w (o _ (by omega)) hm1) hr2
        refine o_f (by decide) ?_
        refine o_V (T_ladd hl u2 u1 (by rw [List.length_append, List.length_append]; omega) (by omega)) ?_
        rintro U2 ⟨w1, w2, w3⟩
        refine o_Z (Or.inr rfl) (i_r ⟨rfl, w2, ?_, u3.tr w3⟩)
        rw [List.append_assoc, List.append_assoc] at w1
        exact w1
      show zI (if gI T 1 9 = (60 : Int32) then F_gLaw g (e1 + 1) 8 [.ref l, .ref 1, .int (nI w)] T else _) (CQ l tp S cs (if qS tp m 60 = true ∨ qS tp m 61 = true then pb (pL tp φ 2 (m + 1) w) fun y => .ok (c ++ (y.1 ++ [if qS tp m 60 = true then -8 else -9]), y.2) else .ok (c, m)))
      by_cases h60 : qS tp m 60 = true
      · refine o_t (s60.mpr h60) ?_
        rw [if_pos (Or.inl h60)]
        exact two (Or.inl h60)
      refine o_f (fun h => h60 (s60.mp h)) ?_
      by_cases h61 : qS tp m 61 = true
      · refine o_t (s61.mpr h61) ?_
        rw [if_pos (Or.inr h61)]
        exact two (Or.inr h61)
      refine o_f (fun h => h61 (s61.mp h)) ?_
      rw [if_neg (fun h => h.elim h60 h61)]
      exact o_Z (Or.inr rfl) (i_r ⟨rfl, t1, t2, t3⟩)
    · show zI (F_gLaw (g + 1) e 2 [.ref l, .ref 1, .int (nI w)] S) _
      rw [E_gLaw_2, pL_2]; unfold F_gLaw_2
      simp [lrk, lew] at hφ he
      obtain ⟨e1, rfl⟩ : ∃ e1, e = e1 + 1 := ⟨e - 1, by omega⟩
      refine o_dE rfl ?_
      refine CQ.b (ih 3 n w 0 e1 g S cs (o _ (by omega)) (by simp [lrk]; omega) (by omega) (by simp [lew]; omega) hn hw (by omega) hcs hT hL) (fun T => if_pos rfl) (fun c m T hr t1 t2 t3 => ?_)
      have hm := pE_ok (pL_len hN φ 3 n w (o _ (by omega)) hn) hr
      have := hm.2.2 (by omega)
      refine o_f (by decide) ?_
      refine CQ.a (ih 9 m w 0 (e1 + 1) g T (cs ++ c) (Or.inr (Or.inl rfl)) (by simp [lrk]; omega) (by omega) (by simp [lew]; omega) hm.2.1 hw (by omega) (by rw [List.length_append]; omega) t1 t2) t3 (fun y m => rfl)
    · show zI (F_gLaw (g + 1) e 3 [.ref l, .ref 1, .int (nI w)] S) _
      rw [E_gLaw_3, pL_3]; unfold F_gLaw_3
      simp [lrk, lew] at hφ he
      obtain ⟨e1, rfl⟩ : ∃ e1, e = e1 + 1 := ⟨e - 1, by omega⟩
      refine o_dE rfl ?_
      refine CQ.b (ih 4 n w 0 e1 g S cs (o _ (by omega)) (by simp [lrk]; omega) (by omega) (by simp [lew]; omega) hn hw (by omega) hcs hT hL) (fun T => if_pos rfl) (fun c m T hr t1 t2 t3 => ?_)
      have hm := pE_ok (pL_len hN φ 4 n w (o _ (by omega)) hn) hr
      have := hm.2.2 (by omega)
      refine o_f (by decide) ?_
      refine CQ.a (ih 12 m w 0 (e1 + 1) g T (cs ++ c) (Or.inr (Or.inr rfl)) (by simp [lrk]; omega) (by omega) (by simp [lew]; omega) hm.2.1 hw (by omega) (by rw [List.length_append]; omega) t1 t2) t3 (fun y m => rfl)
    · show zI (F_gLaw (g + 1) e 4 [.ref l, .ref 1, .int (nI w)] S) _
      rw [E_gLaw_4, pL_4]; unfold F_gLaw_4
      simp [lrk, lew] at hφ he
      obtain ⟨e1, rfl⟩ : ∃ e1, e = e1 + 1 := ⟨e - 1, by omega⟩
      have s40 : gI S 1 9 = (40 : Int32) ↔ qS tp n 40 = true := hT.s (c := 40) rfl
      have s24 : gR S 1 6 = 24 ↔ qW tp n 24 = true := hT.w (q := 24) (by omega) (by omega)
      have s8 := hT.num
      have p15 : ∀ (g : Nat) (y : Int32), 6300 + 4 * φ + 1 ≤ g → y = (if qN tp n = true ∨ qF tp n = true then 1 else 0) → (qN tp n = true ∨ qF tp n = true ∨ qW tp n 24 = true ∨ qS tp n 40 = true) → zI (F_gLaw g (e1 + 1) 15 [.ref l, .ref 1, .int (nI w), .int y] S) (CQ l tp S cs (if 5 ≤ w then .error (5, n) else if qN tp n = true then .ok ([nI (tk tp n).2.2], n + 1) else if qF tp n = true then .ok ([zval (wdO (tk tp n).2.1)], n + 1) else if qS tp n 40 = true then pb (pL tp φ 0 (n + 1) (w + 1)) fun x => if qS tp x.2 41 = true then .ok (x.1, x.2 + 1) else .error (1, x.2) else pb (pL tp φ 4 (n + 1) (w + 1)) fun x => .ok (x.1 ++ [-5], x.2))) := by
        intro g y hg hy hq
        have hn1 : n + 1 ≤ N := by
          rcases hq with h | h | h | h
          · exact qN.s hN hn h
          · exact qF.s hN hn h
          · exact qW.s hN hn h
          · exact qS.s hN hn h
        obtain ⟨g, rfl, hg2⟩ := g1 hg
        rw [E_gLaw_15]; unfold F_gLaw_15
        refine o_dE rfl ?_
        by_cases hw5 : 5 ≤ w
        · refine o_f (nI_nlt (b := 5) hw5 (by omega)) ?_
          rw [if_pos hw5]
          refine o_I (T_fail (k := 5) hT (by omega)) ?_
          rintro x U ⟨rfl, u1, u2, u3⟩
          exact o_Z (Or.inl rfl) (i_r ⟨rfl, u1, u2, u3.lp⟩)
        refine o_t (nI_lt (b := 5) (by omega) (by omega)) ?_
        rw [if_neg hw5]
        have leaf : ∀ s, (if gI S 1 8 = (-1 : Int32) then zval (gR S 1 6) else gI S 1 8) = s → zI (bV (F_X5_add g 0 [.ref l, .int (if gI S 1 8 = (-1 : Int32) then zval (gR S 1 6) else gI S 1 8)] S) fun S31 => bV (F_X8_advance g 0 [.ref 1] S31) fun S32 => bZ 1 (some (some (.int 1), S32))) (CQ l tp S cs (.ok ([s], n + 1))) := by
          intro s hs
          rw [hs]
          refine o_V (T_ladd hl hL hT (by omega) (by omega)) ?_
          rintro U1 ⟨u1, u2, u3⟩
          refine o_V (T_next ho u2 (by omega)) ?_
          rintro U2 ⟨x1, x2⟩
          exact o_Z (Or.inr rfl) (i_r ⟨rfl, x1, u1.t x2 hl, u3.tr x2.law⟩)
        by_cases hqn : qN tp n = true
        · rw [if_pos (Or.inl hqn)] at hy
          rw [if_pos hqn]
          refine o_f (by rw [hy]; decide) (leaf _ ?_)
          rw [if_neg (fun h => s8.mp h hqn)]
          exact hT.nv hqn
        rw [if_neg hqn]
        by_cases hqf : qF tp n = true
        · rw [if_pos (Or.inr hqf)] at hy
          rw [if_pos hqf]
          refine o_f (by rw [hy]; decide) (leaf _ ?_)
          rw [if_pos (s8.mpr hqn), hT.2.2.1, if_pos (qF_l hqf).1]
        rw [if_neg (fun h => h.elim hqn hqf)] at hy
        rw [if_neg hqf]
        refine o_t hy ?_
        rw [show (1 : Int32) = nI 1 from rfl, nI_add]
        by_cases h40 : qS tp n 40 = true
        · refine o_t (s40.mpr h40) ?_
          rw [if_pos h40]
          refine o_V (T_next ho hT (by omega)) ?_
          rintro T1 ⟨v1, v2⟩
          have ih2 := ih 0 (n + 1) (w + 1) 0 e1 g T1 cs (o _ (by omega)) (by simp [lrk]; omega) (by omega) (by simp [lew]; omega) hn1 (by omega) (by omega) (by omega) v1 (hL.t v2 hl)
          refine o_I ih2 (fun x T hq => ?_)
          rcases hr : pL tp φ 0 (n + 1) (w + 1) with ⟨a1, a2⟩ | ⟨c, m⟩
          · rw [hr] at hq
            obtain ⟨rfl, q1, q2, q3⟩ := hq
            refine o_t rfl ?_
            obtain ⟨g, rfl, hg3⟩ := g1 (n := 6200) (f := g) (by omega)
            rw [E_gLaw_17]; unfold F_gLaw_17
            obtain ⟨g, rfl, hg4⟩ := g1 (n := 6100) (f := g) (by omega)
            rw [E_gLaw_18]; unfold F_gLaw_18
            exact o_Z (Or.inl rfl) (i_r ⟨rfl, q1, q2, v2.law.tr q3⟩)
          · rw [hr] at hq
            obtain ⟨rfl, q1, q2, q3⟩ := hq
            refine o_f (by decide) ?_
            refine o_I (T_passS (c := 41) ho q1 rfl (by omega)) (fun x U hx => ?_)
            show zI _ (CQ l tp S cs (if qS tp m 41 = true then .ok (c, m + 1) else .error (1, m)))
            by_cases h41 : qS tp m 41 = true
            · rw [if_pos h41] at hx ⊢
              obtain ⟨rfl, x1, x2⟩ := hx
              exact o_Z (Or.inr rfl) (i_r ⟨rfl, x1, q2.t x2 hl, (v2.law.tr q3).tr x2.law⟩)
            · rw [if_neg h41] at hx ⊢
              obtain ⟨rfl, x1, x2, x3⟩ := hx
              exact o_Z (Or.inl rfl) (i_r ⟨rfl, x1, x2, (v2.law.tr q3).tr x3.lp⟩)
        refine o_f (fun h => h40 (s40.mp h)) ?_
        rw [if_neg h40]
        refine o_V (T_next ho hT (by omega)) ?_
        rintro T1 ⟨v1, v2⟩
        refine CQ.b2 (ih 4 (n + 1) (w + 1) 0 e1 g T1 cs (o _ (by omega)) (by simp [lrk]; omega) (by omega) (by simp [lew]; omega) hn1 (by omega) (by omega) (by omega) v1 (hL.t v2 hl)) v2.law (fun T => if_pos rfl) (fun c m U hr u1 u2 u3 => ?_)
        have hm := pE_ok (pL_len hN φ 4 (n + 1) (w + 1) (o _ (by omega)) hn1) hr
        refine o_f (by decide) ?_
        refine o_V (T_ladd hl u2 u1 (by rw [List.length_append]; omega) (by omega)) ?_
        rintro U2 ⟨w1, w2, w3⟩
        refine o_Z (Or.inr rfl) (i_r ⟨rfl, w2, ?_, u3.tr w3⟩)
        rw [List.append_assoc] at w1
        exact w1
      have bad : ∀ g, 1 ≤ g → ¬ (qN tp n = true ∨ qF tp n = true ∨ qW tp n 24 = true ∨ qS tp n 40 = true) → zI (bI (F_X8_fail g 0 [.ref 1, .int 1] S) fun x13 S13 => bZ x13 (some (some (.int x13), S13))) (CQ l tp S cs (if qN tp n = true ∨ qF tp n = true ∨ qW tp n 24 = true ∨ qS tp n 40 = true then (if 5 ≤ w then .error (5, n) else if qN tp n = true then .ok ([nI (tk tp n).2.2], n + 1) else if qF tp n = true then .ok ([zval (wdO (tk tp n).2.1)], n + 1) else if qS tp n 40 = true then pb (pL tp φ 0 (n + 1) (w + 1)) fun x => if qS tp x.2 41 = true then .ok (x.1, x.2 + 1) else .error (1, x.2) else pb (pL tp φ 4 (n + 1) (w + 1)) fun x => .ok (x.1 ++ [-5], x.2)) else .error (1, n))) := by
        intro g hg hnq
        rw [if_neg hnq]
        refine o_I (T_fail (k := 1) hT hg) ?_
        rintro x U ⟨rfl, u1, u2, u3⟩
        exact o_Z (Or.inl rfl) (i_r ⟨rfl, u1, u2, u3.lp⟩)
      by_cases hqn : qN tp n = true
      · refine o_f (fun h => s8.mp h hqn) ?_
        obtain ⟨g, rfl, hg2⟩ := g1 (n := 6302 + 4 * φ) (f := g) (by omega)
        rw [E_gLaw_14]; unfold F_gLaw_14
        obtain ⟨g, rfl, hg3⟩ := g1 (n := 6301 + 4 * φ) (f := g) (by omega)
        rw [E_gLaw_16]; unfold F_gLaw_16
        refine o_f (by decide) ?_
        rw [if_pos (Or.inl hqn)]
        exact p15 g 1 (by omega) (by rw [if_pos (Or.inl hqn)]) (Or.inl hqn)
      refine o_t (s8.mpr hqn) ?_
      refine o_I (T_fact hT (by omega)) ?_
      rintro _ S ⟨rfl, rfl⟩
      by_cases hqf : qF tp n = true
      · rw [if_pos hqf, if_pos (Or.inr (Or.inl hqf))]
        refine o_lI ?_
        refine o_f (by decide) ?_
        exact p15 g _ (by omega) (by rw [if_pos (Or.inr hqf)]; rfl) (Or.inr (Or.inl hqf))
      rw [if_neg hqf]
      refine o_lI ?_
      refine o_t rfl ?_
      by_cases h24 : qW tp n 24 = true
      · refine o_t (s24.mpr h24) ?_
        rw [if_pos (Or.inr (Or.inr (Or.inl h24)))]
        exact p15 g _ (by omega) (by rw [if_pos rfl, if_neg (fun h => h.elim hqn hqf)]) (Or.inr (Or.inr (Or.inl h24)))
      refine o_f (fun h => h24 (s24.mp h)) ?_
      by_cases h40 : qS tp n 40 = true
      · refine o_t (s40.mpr h40) ?_
        rw [if_pos (Or.inr (Or.inr (Or.inr h40)))]
        exact p15 g _ (by omega) (by rw [if_pos rfl, if_neg (fun h => h.elim hqn hqf)]) (Or.inr (Or.inr (Or.inr h40)))
      refine o_f (fun h => h40 (s40.mp h)) ?_
      exact bad g (by omega) (fun h => by rcases h with h | h | h | h <;> contradiction)
    · show zI (F_gLaw (g + 1) e 5 [.ref l, .ref 1, .int (nI w), .int (nI v)] S) _
      rw [E_gLaw_5, pL_5]; unfold F_gLaw_5
      simp [lrk, lew] at hφ he
      obtain ⟨e1, rfl⟩ : ∃ e1, e = e1 + 1 := ⟨e - 1, by omega⟩
      have sa : gR S 1 6 = 25 ↔ qW tp n 25 = true := hT.w (q := 25) (by omega) (by omega)
      have sb : gR S 1 6 = 26 ↔ qW tp n 26 = true := hT.w (q := 26) (by omega) (by omega)
      have out : zI (F_gLaw g (e1 + 1) 6 [] S) (CQ l tp S cs (.ok ([], n))) := by
        obtain ⟨g, rfl, hg2⟩ := g1 (n := 6302 + 4 * φ) (f := g) (by omega)
        rw [E_gLaw_6]; unfold F_gLaw_6
        exact o_Z (Or.inr rfl) (i_r ⟨rfl, hT, by rw [List.append_nil]; exact hL, Fx.refl S⟩)
      have two : qW tp n 25 = true ∨ qW tp n 26 = true → zI (F_gLaw g (e1 + 1) 7 [.ref l, .ref 1, .int (nI w), .int (nI v)] S) (CQ l tp S cs (pb (pL tp φ 1 (n + 1) w) fun x => pb (pL tp φ 5 x.2 w) fun y => .ok (x.1 ++ ((if qW tp n 25 = true then -6 else -7) :: y.1), y.2))) := by
        intro hq
        have hn1 : n + 1 ≤ N := by rcases hq with h | h <;> exact qW.s hN hn h
        obtain ⟨g, rfl, hg2⟩ := g1 (n := 6302 + 4 * φ) (f := g) (by omega)
        rw [E_gLaw_7]; unfold F_gLaw_7
        refine o_dE rfl ?_
        have ez : zval (gR S 1 6) = (if qW tp n 25 = true then (-6 : Int32) else -7) := by
          by_cases c : qW tp n 25 = true
          · rw [if_pos c, sa.mpr c]; rfl
          · rw [if_neg c, sb.mpr (hq.resolve_left c)]; rfl
        rw [ez]
        refine o_V (T_next ho hT (by omega)) ?_
        rintro T1 ⟨v1, v2⟩
        refine CQ.b2 (ih 1 (n + 1) w 0 e1 g T1 cs (o _ (by omega)) (by simp [lrk]; omega) (by omega) (by simp [lew]; omega) hn1 hw (by omega) (by omega) v1 (hL.t v2 hl)) v2.law (fun T => if_pos rfl) (fun c m U hr u1 u2 u3 => ?_)
        have hm := pE_ok (pL_len hN φ 1 (n + 1) w (o _ (by omega)) hn1) hr
        refine o_f (by decide) ?_
        refine o_V (T_ladd hl u2 u1 (by rw [List.length_append]; omega) (by omega)) ?_
        rintro U2 ⟨w1, w2, w3⟩
        rw [nI_1]
        rw [List.append_assoc] at w1
        refine CQ.a (ih 5 m w (v + 1) (e1 + 1) g U2 _ (Or.inl (by omega)) (by simp [lrk]; omega) (by omega) (by simp [lew]; omega) hm.2.1 hw (by omega) (by rw [List.length_append, List.length_append, List.length_singleton]; omega) w2 w1) (u3.tr w3) (fun y m => by simp)
      refine o_if (fun h => ?_) (fun h1000 => ?_)
      · rw [show (1000 : Int32) = nI 1000 from rfl, nI_leI (by omega) (by omega)] at h
        have hnq : ∀ c, ¬ qW tp n c = true := fun c hc => by have := qW.s hN hn hc; omega
        rw [if_neg (fun h => h.elim (hnq _) (hnq _))]
        exact out
      by_cases ha : qW tp n 25 = true
      · refine o_t (sa.mpr ha) ?_
        rw [if_pos (Or.inl ha)]
        exact two (Or.inl ha)
      refine o_f (fun h => ha (sa.mp h)) ?_
      by_cases hb : qW tp n 26 = true
      · refine o_t (sb.mpr hb) ?_
        rw [if_pos (Or.inr hb)]
        exact two (Or.inr hb)
      refine o_f (fun h => hb (sb.mp h)) ?_
      rw [if_neg (fun h => h.elim ha hb)]
      exact out
    · show zI (F_gLaw (g + 1) e 9 [.ref l, .ref 1, .int (nI w), .int (nI v)] S) _
      rw [E_gLaw_9, pL_9]; unfold F_gLaw_9
      simp [lrk, lew] at hφ he
      obtain ⟨e1, rfl⟩ : ∃ e1, e = e1 + 1 := ⟨e - 1, by omega⟩
      have sa : gI S 1 9 = (43 : Int32) ↔ qS tp n 43 = true := hT.s (c := 43) rfl
      have sb : gI S 1 9 = (45 : Int32) ↔ qS tp n 45 = true := hT.s (c := 45) rfl
      have out : zI (F_gLaw g (e1 + 1) 10 [] S) (CQ l tp S cs (.ok ([], n))) := by
        obtain ⟨g, rfl, hg2⟩ := g1 (n := 6302 + 4 * φ) (f := g) (by omega)
        rw [E_gLaw_10]; unfold F_gLaw_10
        exact o_Z (Or.inr rfl) (i_r ⟨rfl, hT, by rw [List.append_nil]; exact hL, Fx.refl S⟩)
      have two : qS tp n 43 = true ∨ qS tp n 45 = true → zI (F_gLaw g (e1 + 1) 11 [.ref l, .ref 1, .int (nI w), .int (nI v)] S) (CQ l tp S cs (pb (pL tp φ 3 (n + 1) w) fun x => pb (pL tp φ 9 x.2 w) fun y => .ok (x.1 ++ ((if qS tp n 43 = true then -10 else -11) :: y.1), y.2))) := by
        intro hq
        have hn1 : n + 1 ≤ N := by rcases hq with h | h <;> exact qS.s hN hn h
        obtain ⟨g, rfl, hg2⟩ := g1 (n := 6302 + 4 * φ) (f := g) (by omega)
        rw [E_gLaw_11]; unfold F_gLaw_11
        refine o_dE rfl ?_
        rw [if_iff sa]
        refine o_lI ?_
        refine o_V (T_next ho hT (by omega)) ?_
        rintro T1 ⟨v1, v2⟩
        refine CQ.b2 (ih 3 (n + 1) w 0 e1 g T1 cs (o _ (by omega)) (by simp [lrk]; omega) (by omega) (by simp [lew]; omega) hn1 hw (by omega) (by omega) v1 (hL.t v2 hl)) v2.law (fun T => if_pos rfl) (fun c m U hr u1 u2 u3 => ?_)
        have hm := pE_ok (pL_len hN φ 3 (n + 1) w (o _ (by omega)) hn1) hr
        refine o_f (by decide) ?_
        refine o_V (T_ladd hl u2 u1 (by rw [List.length_append]; omega) (by omega)) ?_
        rintro U2 ⟨w1, w2, w3⟩
        rw [nI_1]
        rw [List.append_assoc] at w1
        refine CQ.a (ih 9 m w (v + 1) (e1 + 1) g U2 _ (Or.inr (Or.inl rfl)) (by simp [lrk]; omega) (by omega) (by simp [lew]; omega) hm.2.1 hw (by omega) (by rw [List.length_append, List.length_append, List.length_singleton]; omega) w2 w1) (u3.tr w3) (fun y m => by simp)
      refine o_if (fun h => ?_) (fun h1000 => ?_)
      · rw [show (1000 : Int32) = nI 1000 from rfl, nI_leI (by omega) (by omega)] at h
        have hnq : ∀ c, ¬ qS tp n c = true := fun c hc => by have := qS.s hN hn hc; omega
        rw [if_neg (fun h => h.elim (hnq _) (hnq _))]
        exact out
      by_cases ha : qS tp n 43 = true
      · refine o_t (sa.mpr ha) ?_
        rw [if_pos (Or.inl ha)]
        exact two (Or.inl ha)
      refine o_f (fun h => ha (sa.mp h)) ?_
      by_cases hb : qS tp n 45 = true
      · refine o_t (sb.mpr hb) ?_
        rw [if_pos (Or.inr hb)]
        exact two (Or.inr hb)
      refine o_f (fun h => hb (sb.mp h)) ?_
      rw [if_neg (fun h => h.elim ha hb)]
      exact out
    · show zI (F_gLaw (g + 1) e 12 [.ref l, .ref 1, .int (nI w), .int (nI v)] S) _
      rw [E_gLaw_12, pL_12]; unfold F_gLaw_12
      simp [lrk, lew] at hφ he
      obtain ⟨e1, rfl⟩ : ∃ e1, e = e1 + 1 := ⟨e - 1, by omega⟩
      refine o_dE rfl ?_
      have sa : gI S 1 9 = (42 : Int32) ↔ qS tp n 42 = true := hT.s (c := 42) rfl
      have out : zI (F_gLaw g (e1 + 1) 13 [] S) (CQ l tp S cs (.ok ([], n))) := by
        obtain ⟨g, rfl, hg2⟩ := g1 (n := 6302 + 4 * φ) (f := g) (by omega)
        rw [E_gLaw_13]; unfold F_gLaw_13
        exact o_Z (Or.inr rfl) (i_r ⟨rfl, hT, by rw [List.append_nil]; exact hL, Fx.refl S⟩)
      refine o_if (fun h => ?_) (fun h1000 => ?_)
      · rw [show (1000 : Int32) = nI 1000 from rfl, nI_leI (by omega) (by omega)] at h
        have hnq : ∀ c, ¬ qS tp n c = true := fun c hc => by have := qS.s hN hn hc; omega
        rw [if_neg (hnq _)]
        exact out
      by_cases ha : qS tp n 42 = true
      · refine o_t (sa.mpr ha) ?_
        rw [if_pos ha]
        have hn1 : n + 1 ≤ N := qS.s hN hn ha
        refine o_V (T_next ho hT (by omega)) ?_
        rintro T1 ⟨v1, v2⟩
        refine CQ.b2 (ih 4 (n + 1) w 0 e1 g T1 cs (o _ (by omega)) (by simp [lrk]; omega) (by omega) (by simp [lew]; omega) hn1 hw (by omega) (by omega) v1 (hL.t v2 hl)) v2.law (fun T => if_pos rfl) (fun c m U hr u1 u2 u3 => ?_)
        have hm := pE_ok (pL_len hN φ 4 (n + 1) w (o _ (by omega)) hn1) hr
        refine o_f (by decide) ?_
        refine o_V (T_ladd hl u2 u1 (by rw [List.length_append]; omega) (by omega)) ?_
        rintro U2 ⟨w1, w2, w3⟩
        rw [nI_1]
        rw [List.append_assoc] at w1
        refine CQ.a (ih 12 m w (v + 1) (e1 + 1) g U2 _ (Or.inr (Or.inr rfl)) (by simp [lrk]; omega) (by omega) (by simp [lew]; omega) hm.2.1 hw (by omega) (by rw [List.length_append, List.length_append, List.length_singleton]; omega) w2 w1) (u3.tr w3) (fun y m => by simp)
      refine o_f (fun h => ha (sa.mp h)) ?_
      rw [if_neg ha]
      exact out
end CY

/-! the reference reads a path: winds, laws -/
abbrev dWn : Nat → Nat → Prop := fun x k => (x = 186 ∧ (k = 7 ∨ k = 8)) ∨ (x = 192 ∧ (k = 72 ∨ 112 ≤ k))
section MP5
variable {S T U : aS} {f n x N a b c : Nat} {tp : List Nat} {D : Nat → Nat → Prop} {R : Nat → Prop} {Q Q2 : aQ}
theorem wn2 {v : Int32} (hR : MR S) (hg : 2 ≤ f) : zU (F_X13_readWinds f 2 [.ref 186, .int v] S) (fun T => T = sI S 192 72 v) := by
  replace hg : 1 + 1 ≤ f := hg
  obtain ⟨g, ge, hG⟩ := g1 hg; subst ge; clear hg; have hg := hG; clear hG; rw [E_X13_readWinds_2]; unfold F_X13_readWinds_2
  refine o_X (n := 72) rfl (by omega) ?_
  rw [hR.paths]
  exact o_s (fun B b => u_r b)
theorem wn5 {v : Int32} {z : Nat} (hR : MR S) (h : MFt S z) (hg : 6 ≤ f) : zU (F_X13_readWinds f 5 [.ref 186, .int v] S) (fun T => gI T 186 8 = nI z ∧ Fr dWn S T) := by
  replace hg : 5 + 1 ≤ f := hg
  obtain ⟨g, ge, hG⟩ := g1 hg; subst ge; clear hg; have hg := hG; clear hG; rw [E_X13_readWinds_5]; unfold F_X13_readWinds_5
  replace hg : 4 + 1 ≤ g := hg
  obtain ⟨g, ge, hG⟩ := g1 hg; subst ge; clear hg; have hg := hG; clear hG; rw [E_X13_readWinds_1]; unfold F_X13_readWinds_1
  refine o_f h.ne ?_
  refine u_m (wn2 hR (by omega)) (fun T t => ⟨by rw [t, gI_sI, if_neg (by omega)]; exact h.1, (Fr.refl S).sI t (by unfold dWn; omega)⟩)
theorem M_wnd (ho : tp.length ≤ 1000) : ∀ (φ k : Nat) (W : Nat → Nat → Nat) (n f : Nat) (S : aS), k ≤ 12 → 13 ≤ φ + k → 20 + 5 * φ ≤ f → MTk S tp N n → (∀ i, i < k → gI S 192 (112 + i) = nI (W 5 i)) → zU (F_X13_readWinds f 1 [.ref 186, .int (nI k)] S) (fun T => eE (xWn tp φ k W n) (fun a m => gI T 186 8 = nI (a + 16 * tP tp m) ∧ Fr dWn S T) (fun x m => MTk T tp N m ∧ gI T 192 72 = nI x.1 ∧ (∀ i, i < x.1 → gI T 192 (112 + i) = nI (x.2 5 i)) ∧ Fr dWn S T))
  | 0, k, W, n, f, S, hk, hf, _, _, _ => by omega
  | φ + 1, k, W, n, f, S, hk, hf, hg, h, hw => by
    have u78 : ∀ {A B : aS}, Fr d78 A B → Fr dWn A B := fun hf => hf.mono (fun q k d => by unfold d78 at d; unfold dWn; omega)
    replace hg : (24 + 5 * φ) + 1 ≤ f := by omega
    obtain ⟨g, ge, hG⟩ := g1 hg; subst ge; clear hg; have hg := hG; clear hG; rw [E_X13_readWinds_1]; unfold F_X13_readWinds_1
    refine o_t h.2.2.2.1 ?_
    have go : ∀ g, 24 + 5 * φ ≤ g → (k = 0 ∨ qN tp n = true) → zU (F_X13_readWinds g 3 [.ref 186, .int (nI k)] S) (fun T => eE (xWn tp (φ + 1) k W n) (fun a m => gI T 186 8 = nI (a + 16 * tP tp m) ∧ Fr dWn S T) (fun x m => MTk T tp N m ∧ gI T 192 72 = nI x.1 ∧ (∀ i, i < x.1 → gI T 192 (112 + i) = nI (x.2 5 i)) ∧ Fr dWn S T)) := by
      intro g hg hc
      obtain ⟨g, rfl, hg2⟩ := g1 (n := 23 + 5 * φ) (f := g) (by omega)
      rw [E_X13_readWinds_3]; unfold F_X13_readWinds_3
      unfold xWn
      rw [if_pos hc]
      refine o_I (M_num (a := 0) (b := 2) ho h (by omega) (by omega) (by omega)) (fun x T1 hx => ?_)
      have hE := xNum_i (a := 0) (b := 2) h.2.1.1 h.2.2.1.2
      rcases er : xNum tp n 0 2 with ⟨e1, e2⟩ | ⟨vv, m⟩
      · rw [er] at hx hE
        obtain ⟨rfl, x1, x2⟩ := hx
        have hz := mf_n ho hE.1.1 hE.1.2 x1
        refine o_f hz.ne ?_
        obtain ⟨g, rfl, hg2⟩ := g1 (n := 22 + 5 * φ) (f := g) (by omega)
        rw [E_X13_readWinds_4]; unfold F_X13_readWinds_4
        refine o_f hz.ne ?_
        exact u_m (wn5 (h.1.fr x2) hz (by omega)) (fun T t => ⟨t.1, (u78 x2).tr t.2⟩)
      · rw [er] at hx hE
        obtain ⟨rfl, x1, x2⟩ := hx
        have m1 := hE.1.1
        subst m1
        rw [eb_ok]
        refine o_t x1.2.2.2.1 ?_
        by_cases c : 12 ≤ k
        · rw [if_pos c]
          refine o_t (by rw [show k = 12 by omega]; rfl) ?_
          rw [x1.2.2.1.1, show nI (n + 1) - (1 : Int32) = nI n by rw [show (1 : Int32) = nI 1 from rfl, pk_sub (by omega)]; rfl]
          refine o_s (fun V v => ?_)
          have fv : Fr d7 T1 V := (Fr.refl T1).sI v ⟨rfl, rfl⟩
          have hV := x1.at fv (by rw [v, gI_sI, if_pos ⟨rfl, rfl⟩]) h.2.2.1.2
          refine o_V (M_wrong (k := 5) hV (by omega)) ?_
          rintro Y ⟨w1, w2⟩
          refine u_m (wn5 (hV.1.fr w2) (mf_n ho (by omega) (by omega) w1) (by omega)) (fun T t => ⟨t.1, (((u78 x2).tr (u78 (d7_78 fv))).tr (u78 (d8_78 w2))).tr t.2⟩)
        · rw [if_neg c]
          refine o_f (nI_ne (b := 12) (by omega) (by omega) (by omega)) ?_
          obtain ⟨g, rfl, hg2⟩ := g1 (n := 22 + 5 * φ) (f := g) (by omega)
          rw [E_X13_readWinds_4]; unfold F_X13_readWinds_4
          refine o_t x1.2.2.2.1 ?_
          refine o_X (n := 112 + k) (nA2' rfl) (by omega) ?_
          rw [x1.1.paths, nI_1]
          refine o_s (fun V v => ?_)
          have fv : Fr dWn T1 V := (Fr.refl T1).sI v (by unfold dWn; omega)
          obtain ⟨g, rfl, hg2⟩ := g1 (n := 21 + 5 * φ) (f := g) (by omega)
          rw [E_X13_readWinds_5]; unfold F_X13_readWinds_5
          refine u_m (M_wnd ho φ (k + 1) (tS W 5 k vv) (n + 1) g V (by omega) (by omega) (by omega) (x1.s192 v) (fun i hi => ?_)) (fun T t => ?_)
          · rw [v, gI_sI]
            by_cases ci : i = k
            · rw [if_pos ⟨rfl, by rw [ci]⟩, ci, tS_eq]
            · rw [if_neg (by omega), tS_ne (by omega), x2.2 _ _ (by unfold d78; omega)]; exact hw i (by omega)
          · have fa := (u78 x2).tr fv
            exact eE_m t (fun a m hh => ⟨hh.1, fa.tr hh.2⟩) (fun x m hh => ⟨hh.1, hh.2.1, hh.2.2.1, fa.tr hh.2.2.2⟩)
    by_cases c : k = 0
    · exact o_t (by rw [c]; rfl) (go g (by omega) (Or.inl c))
    · refine o_f (nI_ne (b := 0) c (by omega) (by omega)) ?_
      rw [h.2.2.1.1]
      refine o_X rfl h.lt ?_
      rw [h.1.sort, h.tk.1]
      by_cases q : qN tp n = true
      · have q2 : (tk tp n).1 = 2 := by unfold qN at q; simpa using q
        exact o_t (by rw [q2]; rfl) (go g (by omega) (Or.inr q))
      · have q2 : ¬ (tk tp n).1 = 2 := by unfold qN at q; simpa using q
        refine o_f (nI_ne (b := 2) q2 (by have := tk_5 (tp := tp) (n := n); omega) (by omega)) ?_
        unfold xWn
        rw [if_neg (show ¬ (k = 0 ∨ qN tp n = true) from fun h => h.elim c q)]
        refine u_m (wn2 h.1 (by omega)) (fun T t => ⟨h.s192 t, by rw [t, gI_sI, if_pos ⟨rfl, rfl⟩], fun i hi => ?_, (Fr.refl S).sI t (by unfold dWn; omega)⟩)
        rw [t, gI_sI, if_neg (by omega)]
        exact hw i hi
theorem MQs.wnd {k : Nat} {W : Nat → Nat → Nat} (h : MQs S Q c) (h6 : pN Q.1 ≤ 6) (hf : Fr dWn S T) (h1 : 1 ≤ k) (h2 : gI T 192 72 = nI k) (h3 : ∀ i, i < k → gI T 192 (112 + i) = nI (W 5 i)) (hW : ∀ a i, a ≠ 5 → W a i = pT Q.1 a i) : MQs T (wQ Q k W) c := by
  have o : ∀ {x j : Nat}, ¬ dWn x j → gI T x j = gI S x j := fun h => hf.2 _ _ h
  obtain ⟨⟨a1, a2, a3⟩, _, a5, a6⟩ := id h.1
  refine ⟨h.1.up (fun x k a b c => o (by unfold dWn; omega)) ⟨o (by unfold dWn; omega), o (by unfold dWn; omega), o (by unfold dWn; omega)⟩ ⟨rfl, rfl⟩ ?_ (fun i hi => ?_) (fun j hj => ?_) ⟨?_, fun i hi => ?_⟩ ?_, Or.inr ⟨h1, h2, h3⟩⟩
  · rw [o (by unfold dWn; omega), o (by unfold dWn; omega), o (by unfold dWn; omega), o (by unfold dWn; omega)]; exact a1
  · have hi' : i < pN Q.1 := hi
    show gI T 192 (78 + 3 * i) = nI (W 0 i) ∧ gI T 192 (78 + 3 * i + 1) = nI (W 1 i) ∧ gI T 192 (78 + 3 * i + 2) = nI (W 2 i)
    rw [o (by unfold dWn; omega), o (by unfold dWn; omega), o (by unfold dWn; omega), hW _ _ (by omega), hW _ _ (by omega), hW _ _ (by omega)]; exact a2 i hi
  · show gI T 192 (96 + j) = nI (W 3 j) ∧ gI T 192 (104 + j) = if Q.2.2.2 j = true then nI (W 4 j + 1) else 0
    rw [o (by unfold dWn; omega), o (by unfold dWn; omega), hW _ _ (by omega), hW _ _ (by omega)]; exact a3 j hj
  · rw [o (by unfold dWn; omega)]; exact a5.1
  · rw [hf.J]; exact a5.2 i hi
  · rw [o (by unfold dWn; omega)]; exact a6
theorem M_winds (ho : tp.length ≤ 1000) (h : MTk S tp N n) (hq : MQs S Q c) (hc : c ≤ n) (hI : QI Q) (hg : 100 ≤ f) : zU (F_X13_readWinds f 0 [.ref 186] S) (fun T => eE (eb (xWn tp 13 0 (pT Q.1) n) fun x m => .ok (wQ Q x.1 x.2, m)) (mX tp S T) (mY tp N S T)) := by
  replace hg : 99 + 1 ≤ f := hg
  obtain ⟨g, ge, hG⟩ := g1 hg; subst ge; clear hg; have hg := hG; clear hG; rw [E_X13_readWinds_0]; unfold F_X13_readWinds_0
  refine u_m (M_wnd ho 13 0 (pT Q.1) n g S (by omega) (by omega) (by omega) h (fun i hi => absurd hi (by omega))) (fun T t => ?_)
  have up : Fr dWn S T → Fg dPm nR S T := fun hf => hf.g.mono (fun q k d => by unfold dWn at d; unfold dPm; omega) (fun _ d => d)
  have hE := xWn_i h.2.1.1 13 0 (pT Q.1) n h.2.2.1.2 (by omega) (by omega) (fun i hi => absurd hi (by omega))
  have h1 := xWn_1 (tp := tp) 12 0 (pT Q.1) n
  rcases er : xWn tp 13 0 (pT Q.1) n with e | ⟨x, m⟩
  · rw [er] at t
    exact ⟨t.1, up t.2⟩
  · rw [er] at t hE h1
    obtain ⟨t1, t2, t3, t4⟩ := t
    exact ⟨t1, ⟨c, by have := hE.1.1; omega, hq.wnd hI.1.1.1.2.2.1 t4 h1 t2 t3 (fun a i ha => hE.2.2.2.2 a i ha)⟩, up t4⟩
theorem MQs.law {d : Nat} {cs : List Int32} (h : MQs S Q c) (h12 : pW Q.1 ≤ 12) (h6 : pN Q.1 ≤ 6) (hd : d = 75 ∨ d = 76) (hf : Fr (fun x k => (x = 192 ∧ k = d) ∨ (x = 186 ∧ (k = 7 ∨ k = 8 ∨ k = 13)) ∨ ((x = 193 ∨ x = 194) ∧ 1100 + c ≤ k)) S T) (h1 : gI T 192 d = nI c) (h2 : gI T 186 13 = nI (c + cs.length + 1)) (h3 : gI T 193 (1100 + (c + cs.length)) = 0) (h4 : ∀ k, k < cs.length → crl (gI T 193 (1100 + (c + k))) (gI T 194 (1100 + (c + k))) (cs.getD k 0)) : MQs T (if d = 75 then lD Q cs else lT Q cs) (c + cs.length + 1) := by
  have o : ∀ {x j : Nat}, ¬ ((x = 192 ∧ j = d) ∨ (x = 186 ∧ (j = 7 ∨ j = 8 ∨ j = 13)) ∨ ((x = 193 ∨ x = 194) ∧ 1100 + c ≤ j)) → gI T x j = gI S x j := fun h => hf.2 _ _ h
  obtain ⟨⟨a1, a2, a3⟩, ⟨l1, l2, l3⟩, a5, a6⟩ := h.1
  have new : MLr T (nI c) (some cs) (c + cs.length + 1) := Or.inr ⟨cs, c, rfl, rfl, by omega, h3, h4⟩
  have old : ∀ {x : Int32} {o' : Option (List Int32)}, MLr S x o' c → MLr T x o' (c + cs.length + 1) := fun hh => hh.g (by omega) (fun x k a b c => o (by omega))
  have gen : ∀ Q2 : aQ, (pY Q2.1 = pY Q.1 ∧ pN Q2.1 = pN Q.1 ∧ pPe Q2.1 = pPe Q.1 ∧ pDe Q2.1 = pDe Q.1) → pT Q2.1 = pT Q.1 → pW Q2.1 = pW Q.1 → Q2.2 = Q.2 → MLr T (gI T 192 75) (pDr Q2.1) (c + cs.length + 1) → MLr T (gI T 192 76) (pTk Q2.1) (c + cs.length + 1) → MQs T Q2 (c + cs.length + 1) := by
    intro Q2 e1 e2 e3 e4 m1 m2
    refine ⟨⟨⟨?_, fun i hi => ?_, fun k hk => ?_⟩, ⟨m1, m2, h2⟩, ⟨?_, fun i hi => ?_⟩, ?_⟩, ?_⟩
    · rw [o (by omega), o (by omega), o (by omega), o (by omega), e1.1, e1.2.1, e1.2.2.1, e1.2.2.2]; exact a1
    · rw [e1.2.1] at hi
      rw [o (by omega), o (by omega), o (by omega), e2]; exact a2 i hi
    · rw [o (by omega), o (by omega), e2, e4]; exact a3 k hk
    · rw [o (by omega), e1.2.1]; exact a5.1
    · rw [e1.2.1] at hi
      rw [hf.J, e4]; exact a5.2 i hi
    · rw [o (by omega), e4]; exact a6
    · have hw := h.2.g (T := T) (fun k hk => o (by omega)) h12
      unfold MQw at hw ⊢
      rw [e3, e2]; exact hw
  rcases hd with rfl | rfl
  · rw [if_pos rfl]
    exact gen _ ⟨rfl, rfl, rfl, rfl⟩ rfl rfl rfl (by rw [h1]; exact new) (by rw [o (by omega)]; exact old l2)
  · rw [if_neg (by decide)]
    exact gen _ ⟨rfl, rfl, rfl, rfl⟩ rfl rfl rfl (by rw [o (by omega)]; exact old l1) (by rw [h1]; exact new)
theorem M_law {d : Nat} (ho : tp.length ≤ 1000) (h : MTk S tp N n) (hq : MQs S Q c) (hc : c + 1 ≤ n) (hI : QI Q) (hd : d = 75 ∨ d = 76) (e1 : U = sI S 192 d (nI c)) (hg : 36200 ≤ f) : zU (bV (F_X13_whole f 0 [.ref 186, .int 0] U) fun S34 => bV (F_X13_emit f 0 [.ref 186, .int 0, .int 0] S34) fun S35 => F_X13_readOnce f 4 [] S35) (fun T => eE (eb (xLaw tp n) fun cs m => .ok (if d = 75 then lD Q cs else lT Q cs, m)) (mX tp S T) (mY tp N S T)) := by
  have h12 := hI.1.1.1.2.2.2.1
  have h6 := hI.1.1.1.2.2.1
  have hN := h.2.1.1
  have hU := h.s192 e1
  have fU : Fr (fun x k => x = 192 ∧ k = d) S U := (Fr.refl S).sI e1 ⟨rfl, rfl⟩
  have ret : ∀ (A : aS) (P : aS → Prop), P A → zU (F_X13_readOnce f 4 [] A) P := by
    intro A P hP
    obtain ⟨g, rfl, hg2⟩ := g1 (n := 36199) (f := f) (by omega)
    rw [E_X13_readOnce_4]; unfold F_X13_readOnce_4
    exact u_r hP
  have key := T_gExp (N := N) ho 9000 0 n 0 40 f U c 1 [] (Or.inl (by omega)) (by have : lrk 0 = 5 := rfl; omega) (by omega) (by decide) (by omega) (by simp; omega) hU ⟨by rw [fU.2 _ _ (by omega)]; exact hq.1.2.1.2.2, fun k hk => absurd hk (by simp)⟩
  refine o_V key (fun A ha => ?_)
  unfold xLaw
  unfold MQr at ha
  have hL := pL_len hN 9000 0 n 0 (Or.inl (by omega)) h.2.2.1.2
  have upj : ∀ {A B : aS}, Fr (dEj c) A B → Fg dPm nR A B := fun hf => hf.g.mono (fun q k d => by unfold dEj at d; unfold dPm; omega) (fun _ d => d)
  have fU' : Fg dPm nR S U := g192 e1 (by omega)
  rcases er : pL tp 9000 0 n 0 with e | ⟨cs, m⟩
  · rw [er] at ha
    have ha' : mEr U tp N 1 c A e.1 e.2 := ha
    refine o_V (em0 (p := 0) hU.1 ha' hN.1 (by omega)) (fun B hb => ret B _ ?_)
    obtain ⟨b1, b2, b3, b4⟩ := hb
    exact ⟨b2, fU'.tr (upj b4)⟩
  · rw [er] at ha hL
    obtain ⟨a1, a2, a3⟩ := ha
    have l1 : n + cs.length ≤ m := hL.1
    have l2 : m ≤ N := hL.2.1
    have hN1 := hN.1
    have a2 : MLc A c cs := by have := a2; rw [List.nil_append] at this; exact this
    refine o_V (M_emit (j := c + cs.length) a1.1 a2.1 (by omega) (by omega)) ?_
    rintro B ⟨b1, b2, b3, b4⟩
    refine ret B _ ⟨a1.em b4, ⟨c + cs.length + 1, by omega, hq.law h12 h6 hd ?_ ?_ b1 b2 (fun k hk => ?_)⟩, (fU'.tr (upj a3)).tr (b4.g.mono (fun q k d => by unfold dPm; omega) (fun _ d => d))⟩
    · exact ((fU.mono (fun q k d => by omega)).tr (a3.mono (fun q k d => by unfold dEj at d; omega))).tr (b4.mono (fun q k d => by omega))
    · rw [b4.2 _ _ (by omega), a3.2 _ _ (by unfold dEj; omega), e1, gI_sI, if_pos ⟨rfl, rfl⟩]
    · have hk' : k < cs.length := hk
      rw [b4.2 _ _ (by omega), b4.2 _ _ (by omega)]; exact a2.2 k hk
end MP5

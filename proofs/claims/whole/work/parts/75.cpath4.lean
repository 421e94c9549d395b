/-! the class reads a path: laws, lines, all -/
section CQ4
variable {S T S1 : aS} {p f n N : Nat} {Q : aQ} {D : Nat → Nat → Prop} {tp : List Nat}
theorem CQs.law {cs : List Int32} {d : Nat} (h : CQs S p Q) (hd : d = 8 ∨ d = 12) (hf : Fx (dLw (p + d)) S T) (hl : LwS T (p + d) cs) (hp : 3 ≤ p) : CQs T p (if d = 8 then lD Q cs else lT Q cs) := by
  obtain ⟨⟨hr, hi, hp', hy, hw, hd', ht⟩, ⟨hn2, hn⟩, h14, h15⟩ := h
  have e : ∀ {x k : Nat}, x ≠ 1 → ¬ (x = p + d ∧ k = 1) → x ≠ p + d + 1 → gI T x k = gI S x k := fun a b c => hf.I (by unfold dLw; omega)
  have er : ∀ {x k : Nat}, 3 ≤ x → gR T x k = gR S x k := fun h => hf.2 _ _ (by omega)
  have ej : ∀ {x k : Nat}, x ≠ 1 → ¬ (x = p + d ∧ k = 1) → x ≠ p + d + 1 → gJ T x k = gJ S x k := fun a b c => hf.J (by unfold dLw; omega)
  have new : (gR S (p + d) 0 = p + d + 1 ∧ gR S (p + d) 2 = p + d + 2 ∧ gR S (p + d) 3 = p + d + 3) → CL T (p + d) (some cs) := fun hh => ⟨by rw [er (by omega), er (by omega), er (by omega)]; exact hh, hl.2.1, hl.2.2⟩
  have old : ∀ (l : Nat) (o : Option (List Int32)), l ≠ 1 → 3 ≤ l → l ≠ p + d → l + 1 ≠ p + d → l ≠ p + d + 1 → l + 1 ≠ p + d + 1 → CL S l o → CL T l o := fun l o h0 h1 h2 h3 h4 h5 hc => ⟨by rw [er h1, er h1, er h1]; exact hc.1, by rw [e h0 (by omega) h4]; exact hc.2.1, fun k hk => by rw [e (by omega) (by omega) h5]; exact hc.2.2 k hk⟩
  have gen : ∀ Q2 : aQ, (pY Q2.1 = pY Q.1 ∧ pN Q2.1 = pN Q.1 ∧ pW Q2.1 = pW Q.1) → pT Q2.1 = pT Q.1 → (pPe Q2.1 = pPe Q.1 ∧ pDe Q2.1 = pDe Q.1) → Q2.2 = Q.2 → CL T (p + 8) (pDr Q2.1) → CL T (p + 12) (pTk Q2.1) → CQs T p Q2 := by
    intro Q2 e1 e2 e3 e4 hD hT
    refine ⟨⟨?_, ?_, fun i hi => ?_, fun k hk => ?_, fun k hk => ?_, hD, hT⟩, ⟨by rw [er hp]; exact hn2, fun i hi => ?_⟩, ?_, ?_⟩
    · simp only [er hp]; exact hr
    · rw [e (by omega) (by omega) (by omega), e (by omega) (by omega) (by omega), e (by omega) (by omega) (by omega), e (by omega) (by omega) (by omega), e (by omega) (by omega) (by omega), e1.1, e1.2.1, e1.2.2, e3.1, e3.2]; exact hi
    · rw [e1.2.1] at hi
      rw [e (by omega) (by omega) (by omega), e (by omega) (by omega) (by omega), e (by omega) (by omega) (by omega), e2]; exact hp' i hi
    · rw [e (by omega) (by omega) (by omega), e (by omega) (by omega) (by omega), e2]; exact hy k hk
    · rw [e1.2.2] at hk
      rw [e (by omega) (by omega) (by omega), e2]; exact hw k hk
    · rw [e1.2.1] at hi
      rw [ej (by omega) (by omega) (by omega), e4]; exact hn i hi
    · rw [e (by omega) (by omega) (by omega), e4]; exact h14
    · rw [e (by omega) (by omega) (by omega), e4]; exact h15
  rcases hd with rfl | rfl
  · rw [if_pos rfl]
    exact gen _ ⟨rfl, rfl, rfl⟩ rfl ⟨rfl, rfl⟩ rfl (new hd'.1) (old _ _ (by omega) (by omega) (by omega) (by omega) (by omega) (by omega) ht)
  · rw [if_neg (by decide)]
    exact gen _ ⟨rfl, rfl, rfl⟩ rfl ⟨rfl, rfl⟩ rfl (old _ _ (by omega) (by omega) (by omega) (by omega) (by omega) (by omega) hd') (new ht.1)
theorem T_law {d : Nat} (ho : okTp tp) (hN : nT tp N) (hn : n ≤ N) (h : CTk S tp (tP tp n)) (hq : CQs S p Q) (hd : d = 8 ∨ d = 12) (h0 : (if d = 8 then pDr Q.1 else pTk Q.1) = none) (hp : 3 ≤ p) (hp2 : p ≤ 19) (hg : 42300 ≤ f) : zI (F_X5_readTests f 0 [.ref (p + d), .ref 1, .int 0] S) (fun x T => eE (eb (xLaw tp n) fun c m => .ok (if d = 8 then lD Q c else lT Q c, m)) (cX tp p S x T) (cY tp p S x T)) := by
  have hl : LwS S (p + d) [] := by
    obtain ⟨⟨_, _, _, _, _, hd', ht⟩, _⟩ := hq
    rcases hd with rfl | rfl
    · rw [if_pos rfl] at h0
      rw [h0] at hd'
      exact ⟨hd'.1.1, hd'.2.1, fun k hk => absurd hk (by simp)⟩
    · rw [if_neg (by decide)] at h0
      rw [h0] at ht
      exact ⟨ht.1.1, ht.2.1, fun k hk => absurd hk (by simp)⟩
  have key := T_gLaw hN ho (l := p + d) (by omega) 9000 0 n 0 0 40 f S [] (Or.inl (by omega)) (by have : lrk 0 = 5 := rfl; omega) (by omega) (by decide) hn (by omega) (by omega) (by simp) h hl
  refine i_m key (fun x T hx => ?_)
  have up : Fx (dLw (p + d)) S T → Fx (dPt p) S T := fun hf => hf.mono (fun q j dd => by unfold dLw at dd; unfold dPt; omega)
  unfold xLaw
  unfold CQ at hx
  rcases er : pL tp 9000 0 n 0 with e | ⟨c, m⟩
  · rw [er] at hx
    obtain ⟨x1, x2, x3, x4⟩ := hx
    exact ⟨x1, x2, x3, up x4⟩
  · rw [er] at hx
    obtain ⟨x1, x2, x3, x4⟩ := hx
    exact ⟨x1, x2, hq.law hd x4 x3 hp, up x4⟩
theorem T_pbehind {w : Nat} (ho : okTp tp) (hN : nT tp N) (hn : n ≤ N) (h : CTk S tp (tP tp n)) (hq : CQs S p Q) (hJ : QJ w Q) (hw : (2 ≤ w ∧ w ≤ 7) ∨ w = 8 ∨ w = 11 ∨ w = 13) (hp : 3 ≤ p) (hp2 : p ≤ 19) (hg : 42301 ≤ f) : zI (F_X6_readBehind f 0 [.ref p, .ref w, .ref 1] S) (fun x T => eE (xBe tp Q w n) (cX tp p S x T) (cY tp p S x T)) := by
  have hI := hJ.i
  replace hg : 42300 + 1 ≤ f := hg
  obtain ⟨g, ge, hG⟩ := g1 hg; subst ge; clear hg; have hg := hG; clear hG; rw [E_X6_readBehind_0]; unfold F_X6_readBehind_0
  refine o_X (n := w) rfl (by omega) ?_
  have z01 : ∀ {r : eR aQ} {x : Int32} {U : aS}, eE r (cX tp p S x U) (cY tp p S x U) → x = 0 ∨ x = 1 := by
    intro r x U h
    rcases r with e | y
    · exact Or.inl h.1
    · exact Or.inr h.1
  have ret : ∀ {a : aR} {r : eR aQ}, zI a (fun x T => eE r (cX tp p S x T) (cY tp p S x T)) → zI (bI a fun x3 S3 => bZ x3 (some (some (.int x3), S3))) (fun x T => eE r (cX tp p S x T) (cY tp p S x T)) := by
    intro a r ha
    refine o_I ha (fun x U hx => o_Z (z01 hx) (i_r hx))
  rcases (show w = 2 ∨ w = 3 ∨ w = 4 ∨ w = 5 ∨ w = 6 ∨ w = 7 ∨ w = 8 ∨ w = 11 ∨ w = 13 by omega) with rfl | rfl | rfl | rfl | rfl | rfl | rfl | rfl | rfl
  · exact o_t rfl (ret (T_yards ho h hq hp hp2 (by omega)))
  · refine o_f (by decide) (o_f (by decide) (o_f (by decide) (o_f (by decide) (o_t rfl (ret ?_)))))
    show zI _ (fun x T => eE (eb (xWn tp 13 0 (pT Q.1) n) fun x m => .ok (wQ Q x.1 x.2, m)) (cX tp p S x T) (cY tp p S x T))
    replace hg : 42299 + 1 ≤ g := hg
    obtain ⟨g, ge, hG⟩ := g1 hg; subst ge; clear hg; have hg := hG; clear hG; rw [E_X6_readWinds_0]; unfold F_X6_readWinds_0
    have h0 : pW Q.1 = 0 := hJ.1.2.1 (Or.inr rfl)
    have q0 : CQs S p (wQ Q 0 (pT Q.1)) := by
      have : wQ Q 0 (pT Q.1) = Q := by
        obtain ⟨⟨⟨y, i, w⟩, t, r⟩, q⟩ := Q
        have h0' : w = 0 := h0
        rw [h0']; rfl
      rw [this]; exact hq
    exact T_wnd ho hp hp2 13 0 (pT Q.1) n g S (by omega) (by omega) (by omega) h q0
  · exact o_f (by decide) (o_f (by decide) (o_f (by decide) (o_f (by decide) (o_f (by decide) (o_t rfl (ret (T_pence ho h hq hp hp2 (by omega))))))))
  · exact o_f (by decide) (o_f (by decide) (o_f (by decide) (o_f (by decide) (o_f (by decide) (o_f (by decide) (o_t rfl (ret (T_depo ho h hq hp hp2 (by omega)))))))))
  · refine o_f (by decide) (o_f (by decide) (o_f (by decide) (o_f (by decide) (o_f (by decide) (o_f (by decide) (o_f (by decide) (o_t rfl (ret ?_))))))))
    rw [hq.r.2.2.2.2.2.2.2.1]
    exact T_law (d := 8) ho hN hn h hq (Or.inl rfl) (hJ.1.2.2.1 (Or.inr rfl)) hp hp2 (by omega)
  · refine o_f (by decide) (o_f (by decide) (o_f (by decide) (o_f (by decide) (o_f (by decide) (o_f (by decide) (o_f (by decide) (o_f (by decide) (ret ?_))))))))
    rw [hq.r.2.2.2.2.2.2.2.2]
    exact T_law (d := 12) ho hN hn h hq (Or.inr rfl) (hJ.1.2.2.2.1 (Or.inr rfl)) hp hp2 (by omega)
  · exact o_f (by decide) (o_t rfl (ret (T_person ho h hq hI (hJ.1.1.2.1 rfl) hp hp2 (by omega))))
  · exact o_f (by decide) (o_f (by decide) (o_t rfl (ret (T_bin ho h hq hI hp hp2 (by omega)))))
  · exact o_f (by decide) (o_f (by decide) (o_f (by decide) (o_t rfl (ret (T_heap ho h hq hp hp2 (by omega))))))
theorem T_once (h : CTk S tp (tP tp n)) (hg : 1 ≤ f) : zI (F_X6_isToldOnce f 0 [.ref (gR S 1 6)] S) (fun x T => x = (if 2 ≤ wO tp n ∧ wO tp n ≤ 7 then 1 else 0) ∧ T = S) := by
  obtain ⟨g, ge, hG⟩ := g1 hg; subst ge; clear hg; have hg := hG; clear hG; rw [E_X6_isToldOnce_0]; unfold F_X6_isToldOnce_0
  rw [h.wo]
  have hd := co_dec (N := 31) (P := fun r => (if r = 2 then (1 : Int32) else if r = 3 then (1 : Int32) else if r = 4 then (1 : Int32) else if r = 5 then (1 : Int32) else if r = 6 then (1 : Int32) else if r = 7 then (1 : Int32) else (0 : Int32)) = (if 2 ≤ r ∧ r ≤ 7 then 1 else 0)) (by decide +kernel) (wO_b (tp := tp) (n := n))
  rw [hd]
  exact o_Z (by split <;> simp) (i_r ⟨rfl, rfl⟩)
theorem T_pline (ho : okTp tp) (hN : nT tp N) (hn : n ≤ N) (h : CTk S tp (tP tp n)) (hq : CQs S p Q) (hI : QI Q) (hp : 3 ≤ p) (hp2 : p ≤ 19) (hg : 42310 ≤ f) : zI (F_X6_readLine f 0 [.ref p, .ref 1] S) (fun x T => eE (xLn tp Q n) (cX tp p S x T) (cY tp p S x T)) := by
  replace hg : 42309 + 1 ≤ f := hg
  obtain ⟨g, ge, hG⟩ := g1 hg; subst ge; clear hg; have hg := hG; clear hG; rw [E_X6_readLine_0]; unfold F_X6_readLine_0
  have hH := xHd_i hN hn hI
  -- from the word on
  have go : ∀ (g : Nat) (U : aS) (Q1 : aQ), 42308 ≤ g → xHd tp Q n = .ok (Q1, n + 1) → CTk U tp (tP tp n) → CQs U p Q1 → Fx (dPt p) S U → zI (F_X6_readLine g 1 [.ref p, .ref 1, .ref (wO tp n)] U) (fun x T => eE (xLn tp Q n) (cX tp p S x T) (cY tp p S x T)) := by
    intro g U Q1 hg eh hU qU fU
    rw [eh] at hH
    obtain ⟨⟨_, k1⟩, k2, k3⟩ := hH
    obtain ⟨g, rfl, hg2⟩ := g1 (n := 42307) (f := g) (by omega)
    rw [E_X6_readLine_1]; unfold F_X6_readLine_1
    unfold xLn
    rw [eh, eb_ok]
    refine o_V (T_next ho hU (by omega)) ?_
    rintro V ⟨v1, v2⟩
    have fV := fU.tr (dT_t (p := p) v2)
    refine o_I (T_pbehind ho hN k1 v1 (qU.t v2 hp) k2 k3 hp hp2 (by omega)) ?_
    intro x W hw
    rcases eb1 : xBe tp Q1 (wO tp n) (n + 1) with e | ⟨Q2, m⟩
    · rw [eb1] at hw
      obtain ⟨rfl, w1, w2, w3⟩ := hw
      refine o_t rfl ?_
      obtain ⟨g, rfl, hg2⟩ := g1 (n := 42306) (f := g) (by omega)
      rw [E_X6_readLine_2]; unfold F_X6_readLine_2
      obtain ⟨g, rfl, hg2⟩ := g1 (n := 42305) (f := g) (by omega)
      rw [E_X6_readLine_3]; unfold F_X6_readLine_3
      exact o_Z (Or.inl rfl) (i_r ⟨rfl, w1, w2, fV.tr w3⟩)
    · rw [eb1] at hw
      obtain ⟨rfl, w1, w2, w3⟩ := hw
      rw [eb_ok]
      refine o_f (by decide) ?_
      refine o_I (T_passS (c := 59) ho w1 rfl (by omega)) ?_
      intro x Y hy
      unfold xSem
      by_cases s : qS tp m 59 = true
      · rw [if_pos s] at hy ⊢
        obtain ⟨rfl, y1, y2⟩ := hy
        rw [if_neg (by decide)]
        exact o_Z (Or.inr rfl) (i_r ⟨rfl, y1, w2.t y2 hp, (fV.tr w3).tr (dT_t y2)⟩)
      · rw [if_neg s] at hy ⊢
        obtain ⟨rfl, y1, y2, y3⟩ := hy
        rw [if_pos rfl]
        exact o_Z (Or.inl rfl) (i_r ⟨rfl, y1, y2, (fV.tr w3).tr (dP_t y3)⟩)
  have bad : ∀ (k : Nat) (x : Int32) (U : aS), xHd tp Q n = .error (k, n) → x = 0 → gI U 1 2 = nI (k + 16 * tP tp n) → CTp U tp → Fx dP S U → zI (bZ x (some (some (.int x), U))) (fun x T => eE (xLn tp Q n) (cX tp p S x T) (cY tp p S x T)) := by
    intro k x U eh e0 u1 u2 u3
    rw [e0]
    refine o_Z (Or.inl rfl) (i_r ?_)
    unfold xLn
    rw [eh, eb_er]
    exact ⟨rfl, u1, u2, dP_t u3⟩
  refine o_I (T_once h (by omega)) ?_
  rintro x T1 ⟨rfl, t1⟩
  rw [t1, h.wo]
  by_cases c : 2 ≤ wO tp n ∧ wO tp n ≤ 7
  · rw [if_pos c]
    refine o_f (by decide) ?_
    have hz : zval (wO tp n) = nI (2 ^ (wO tp n - 2)) := by
      have hd := co_dec (N := 6) (P := fun r => zval (2 + r) = nI (2 ^ r)) (by decide +kernel) (show wO tp n - 2 < 6 by omega)
      rw [show 2 + (wO tp n - 2) = wO tp n by omega] at hd
      exact hd
    rw [hz, hq.ints.2.2.2.2.2.1]
    rw [show nI (bs Q.2.2.1 6) &&& nI (2 ^ (wO tp n - 2)) = nI (if Q.2.2.1 (wO tp n - 2) then 2 ^ (wO tp n - 2) else 0) by rw [nI_and, bs_and (show wO tp n - 2 < 6 by omega)]]
    by_cases o : Q.2.2.1 (wO tp n - 2) = true
    · rw [if_pos o]
      have h2 : 0 < 2 ^ (wO tp n - 2) := Nat.pos_of_ne_zero (by simp)
      have h3 : 2 ^ (wO tp n - 2) < 2 ^ 8 := Nat.pow_lt_pow_right (by omega) (by omega)
      refine o_f (nI_ne (b := 0) (by omega) (by omega) (by omega)) ?_
      refine o_I (T_fail (k := 3) h (by omega)) ?_
      rintro x U ⟨x0, u1, u2, u3⟩
      exact bad 3 x U (by unfold xHd; rw [if_pos c, if_pos o]) x0 u1 u2 u3
    · rw [if_neg o]
      refine o_t rfl ?_
      refine o_s (fun S1 s1 => ?_)
      have f1 : Fx (fun x k => x = p ∧ k = 14) S S1 := (Fx.refl S).sI s1 ⟨rfl, rfl⟩
      exact go g S1 _ (by omega) (by unfold xHd; rw [if_pos c, if_neg o]) (h.x f1 ⟨fun j _ => by omega, fun j => by omega⟩ (by rw [s1]; rfl)) (hq.onc (by omega) s1 hp) (f1.mono (fun q j d => by unfold dPt; omega))
  · rw [if_neg c]
    refine o_t rfl ?_
    by_cases c8 : wO tp n = 8
    · refine o_t c8 ?_
      rw [hq.ints.2.1]
      by_cases c6 : 6 ≤ pN Q.1
      · have hb := hI.1.1.1.2.2.1
        refine o_f (show ¬ nI (pN Q.1) < (6 : Int32) from nI_nlt (b := 6) c6 (by omega)) ?_
        refine o_I (T_fail (k := 5) h (by omega)) ?_
        rintro x U ⟨x0, u1, u2, u3⟩
        exact bad 5 x U (by unfold xHd; rw [if_neg c, if_pos c8, if_pos c6]) x0 u1 u2 u3
      · refine o_t (show nI (pN Q.1) < (6 : Int32) from nI_lt (b := 6) (by omega) (by omega)) ?_
        exact go g S Q (by omega) (by unfold xHd; rw [if_neg c, if_pos c8, if_neg c6]) h hq (Fx.refl S)
    · refine o_f c8 ?_
      by_cases c11 : wO tp n = 11
      · refine o_t c11 ?_
        exact go g S Q (by omega) (by unfold xHd; rw [if_neg c, if_neg c8, if_pos (Or.inl c11)]) h hq (Fx.refl S)
      · refine o_f c11 ?_
        by_cases c13 : wO tp n = 13
        · refine o_t c13 ?_
          exact go g S Q (by omega) (by unfold xHd; rw [if_neg c, if_neg c8, if_pos (Or.inr c13)]) h hq (Fx.refl S)
        · refine o_f c13 ?_
          refine o_I (T_fail (k := 1) h (by omega)) ?_
          rintro x U ⟨x0, u1, u2, u3⟩
          exact bad 1 x U (by unfold xHd; rw [if_neg c, if_neg c8, if_neg (show ¬ (wO tp n = 11 ∨ wO tp n = 13) from fun h => h.elim c11 c13)]) x0 u1 u2 u3
def cZ (tp : List Nat) (p : Nat) (S : aS) (r : eR aQ) (x : Int32) (T : aS) : Prop := eE r (fun k m => x = nI (k + 16 * tP tp m) ∧ CTp T tp ∧ Fx (dPt p) S T) (fun Q _ => x = 0 ∧ CTp T tp ∧ CQs T p Q ∧ Fx (dPt p) S T)
theorem T_pall (ho : okTp tp) (hN : nT tp N) (hp : 3 ≤ p) (hp2 : p ≤ 19) : ∀ (φ n v f : Nat) (S : aS) (Q : aQ), 1001 - n ≤ φ → 42311 + φ + 2 ≤ f → n ≤ N → v ≤ n → CTk S tp (tP tp n) → CQs S p Q → QI Q → zI (F_X6_read f 1 [.ref p, .ref 1, .int (nI v)] S) (cZ tp p S (xAl tp φ Q n))
  | 0, n, v, f, S, Q, hf, _, hn, _, _, _, _ => by have := hN.1; omega
  | φ + 1, n, v, f, S, Q, hf, hg, hn, hv, h, hq, hI => by
    have hN1 := hN.1
    replace hg : (42313 + φ) + 1 ≤ f := by omega
    obtain ⟨g, ge, hG⟩ := g1 hg; subst ge; clear hg; have hg := hG; clear hG; rw [E_X6_read_1]; unfold F_X6_read_1
    refine o_f (fun hh => ?_) ?_
    · rw [show (1000 : Int32) = nI 1000 from rfl, nI_ltI (by omega) (by omega)] at hh; omega
    refine o_I (T_atEnd h (by omega)) ?_
    rintro x T1 ⟨rfl, t1⟩
    rw [t1]
    unfold xAl
    by_cases c : (tk tp n).1 = 0
    · rw [if_pos c, if_pos c]
      refine o_f (by decide) ?_
      obtain ⟨g, rfl, hg2⟩ := g1 (n := 0) (f := g) (by omega)
      rw [E_X6_read_2]; unfold F_X6_read_2
      exact i_r ⟨rfl, h.1.1, hq, Fx.refl S⟩
    · rw [if_neg c, if_neg c]
      refine o_t rfl ?_
      refine o_I (T_pline ho hN hn h hq hI hp hp2 (by omega)) ?_
      intro x T2 hx
      have hL := xLn_i hN hn hI
      rcases eo : xLn tp Q n with e | ⟨Q2, m⟩
      · rw [eo] at hx
        obtain ⟨rfl, x1, x2, x3⟩ := hx
        exact o_t rfl (i_r ⟨x1, x2, x3⟩)
      · rw [eo] at hx hL
        obtain ⟨rfl, x1, x2, x3⟩ := hx
        obtain ⟨⟨l1, l2⟩, l3⟩ := hL
        refine o_f (by decide) ?_
        rw [nI_1, eb_ok]
        refine i_m (T_pall ho hN hp hp2 φ m (v + 1) g T2 Q2 (by omega) (by omega) l2 (by omega) x1 x2 l3) (fun z U hz => ?_)
        exact eE_m hz (fun a b hh => ⟨hh.1, hh.2.1, x3.tr hh.2.2⟩) (fun a b hh => ⟨hh.1, hh.2.1, hh.2.2.1, x3.tr hh.2.2.2⟩)
end CQ4

/-! laws are weighed, people walk: the class -/
theorem T_X5_valueOf {S : aS} {l f : Nat} {cs : List Int32} {a b c d : Int32} (h : CL S l (some cs)) (hw : LWF (some cs)) (hg : 3020 ≤ f) : zI (F_X5_valueOf f 0 [.ref l, .int a, .int b, .int c, .int d] S) (fun x S2 => x = evl cs a b c d ∧ Fr (dV l) S S2) := by
  obtain ⟨hr, hn, hs⟩ := h
  obtain ⟨hk0, hlen, hpos⟩ := hw cs rfl
  have hn : gI S l 1 = nI cs.length := hn
  have hs : ∀ k, k < cs.length → gI S (l + 1) k = cs.getD k 0 := hs
  obtain ⟨g, ge, hG⟩ := g1 hg; subst ge; clear hg; have hg := hG; clear hG
  rw [E_X5_valueOf_0]; unfold F_X5_valueOf_0
  refine o_X (n := 0) rfl (by omega) ?_
  rw [hr.2.2]
  refine o_s (fun S1 e1 => ?_)
  have f1 := (Fr.refl (D := dV l) S).sI e1 (Or.inr rfl)
  refine o_X (n := 1) rfl (by omega) ?_
  rw [f1.R, hr.2.2]
  refine o_s (fun S2 e2 => ?_)
  have f2 := f1.sI e2 (Or.inr rfl)
  refine o_X (n := 2) rfl (by omega) ?_
  rw [f2.R, hr.2.2]
  refine o_s (fun S3 e3 => ?_)
  have f3 := f2.sI e3 (Or.inr rfl)
  refine o_X (n := 3) rfl (by omega) ?_
  rw [f3.R, hr.2.2]
  refine o_s (fun S4 e4 => ?_)
  have f4 := f3.sI e4 (Or.inr rfl)
  have hfc : ∀ j, j < 4 → gI S4 (l + 3) j = fc4 a b c d j := by
    subst e4 e3 e2 e1
    intro j hj
    match j, hj with
    | 0, _ => simp [gI_sI, fc4]
    | 1, _ => simp [gI_sI, fc4]
    | 2, _ => simp [gI_sI, fc4]
    | 3, _ => simp [gI_sI, fc4]
  clear e1 e2 e3 e4 f1 f2 f3
  refine o_loop (F := fun f vs S => F_X5_valueOf f 1 vs S) (c := 3) (B := 3) (y := cs.length) (fun k vs T => ∃ x, x = rn (fc4 a b c d) (cs.take k) (0, fun _ => 0) ∧ vs = [.ref l, .int (nI x.1), .int (nI k)] ∧ cok (cs.drop k) x.1 ∧ x.1 ≤ 32 ∧ (∀ j, j < x.1 → gI T (l + 2) j = x.2 j) ∧ (∀ j, j < 4 → gI T (l + 3) j = fc4 a b c d j) ∧ Fr (dV l) S T) ?_ ?_ 0 _ _ g (by omega) ⟨_, rfl, rfl, hk0, Nat.zero_le _, fun j hj => absurd hj (Nat.not_lt_zero j), hfc, f4⟩ (by omega)
  · rintro k _ T g hk ⟨x, hx, rfl, hc, ht, hst, hf4, hf⟩ hg rec
    obtain ⟨g, ge, hG⟩ := g1 hg; subst ge; clear hg; have hg := hG; clear hG
    show zO (F_X5_valueOf (g + 1) 1 _ _) _
    rw [E_X5_valueOf_1]; unfold F_X5_valueOf_1
    rw [hf.2 l 1 (fun q => by unfold dV at q; omega), hn]
    refine o_f (nI_ge hk (by omega)) ?_
    refine o_X rfl (show k < 1000 by omega) ?_
    rw [hf.R l 0, hr.1, hf.2 (l + 1) k (fun q => by unfold dV at q; omega), hs k hk]
    have hd : cs.drop k = cs.getD k 0 :: cs.drop (k + 1) := by
      rw [List.drop_eq_getElem_cons hk, List.getD_eq_getElem?_getD, List.getElem?_eq_getElem hk]; rfl
    have htk : rn (fc4 a b c d) (cs.take (k + 1)) (0, fun _ => 0) = r1 (fc4 a b c d) x (cs.getD k 0) := by
      rw [hx]
      unfold rn
      rw [List.take_add_one, List.foldl_append, List.getD_eq_getElem?_getD, List.getElem?_eq_getElem hk]
      rfl
    generalize cs.getD k 0 = s at hd htk
    rw [hd] at hc
    unfold cok at hc
    unfold r1 at htk
    refine o_if (fun c1 => ?_) (fun c1 => ?_)
    · rw [if_pos c1] at hc htk
      refine o_if (fun c2 => ?_) (fun c2 => ?_)
      · rw [if_pos c2] at hc htk
        refine o_f (nI_nle (by omega) (by omega)) ?_
        obtain ⟨t, ht1⟩ : ∃ t, x.1 = t + 1 := ⟨x.1 - 1, by omega⟩
        rw [ht1, nI_pred]
        refine o_X rfl (show t < 32 by omega) ?_
        refine o_X rfl (show t < 32 by omega) ?_
        rw [hf.R l 2, hr.2.1, hst t (by omega)]
        refine o_s (fun T1 e1 => ?_)
        obtain ⟨g, ge, hG⟩ := g1 hg; subst ge; clear hg; have hg := hG; clear hG
        rw [E_X5_valueOf_2]; unfold F_X5_valueOf_2
        rw [ht1, show t + 1 - 1 = t by omega] at htk
        refine rec g _ _ (by omega) ⟨_, rfl, by rw [htk, nI_1], by rw [htk, ← ht1]; exact hc.2, by rw [htk]; show t + 1 ≤ 32; omega, fun j hj => ?_, fun j hj => ?_, hf.sI e1 (Or.inl rfl)⟩
        · rw [htk] at hj ⊢
          subst e1
          rw [gI_sI]
          show _ = up1 x.2 t _ j
          rw [up1_at]
          by_cases e : j = t
          · rw [if_pos ⟨rfl, e⟩, if_pos e]
          · rw [if_neg (fun q => e q.2), if_neg e]
            exact hst j (by have : j < t + 1 := hj; omega)
        · subst e1
          rw [gI_sI, if_neg (by omega)]
          exact hf4 j hj
      · rw [if_neg c2] at hc htk
        refine o_f (nI_ge (a := 1) (by omega) (by omega)) ?_
        obtain ⟨t, ht1⟩ : ∃ t, x.1 = t + 2 := ⟨x.1 - 2, by omega⟩
        rw [ht1, pk_m1, nI_pred]
        refine o_X rfl (show t < 32 by omega) ?_
        refine o_X rfl (show t + 1 < 32 by omega) ?_
        rw [hf.R l 2, hr.2.1, hst t (by omega), hst (t + 1) (by omega)]
        refine o_I (T_X5_joined (by omega)) ?_
        rintro _ _ ⟨rfl, rfl⟩
        refine o_X rfl (show t < 32 by omega) ?_
        refine o_s (fun T1 e1 => ?_)
        obtain ⟨g, ge, hG⟩ := g1 hg; subst ge; clear hg; have hg := hG; clear hG
        rw [E_X5_valueOf_2]; unfold F_X5_valueOf_2
        rw [ht1, show t + 2 - 1 = t + 1 by omega, show t + 2 - 2 = t by omega] at htk
        rw [ht1, show t + 2 - 1 = t + 1 by omega] at hc
        refine rec g _ _ (by omega) ⟨_, rfl, by rw [htk, nI_1], by rw [htk]; exact hc.2, by rw [htk]; show t + 1 ≤ 32; omega, fun j hj => ?_, fun j hj => ?_, hf.sI e1 (Or.inl rfl)⟩
        · rw [htk] at hj ⊢
          subst e1
          rw [gI_sI]
          show _ = up1 x.2 t _ j
          rw [up1_at]
          by_cases e : j = t
          · rw [if_pos ⟨rfl, e⟩, if_pos e]
          · rw [if_neg (fun q => e q.2), if_neg e]
            exact hst j (by have : j < t + 1 := hj; omega)
        · subst e1
          rw [gI_sI, if_neg (by omega)]
          exact hf4 j hj
    · rw [if_neg c1] at hc htk
      refine o_f (nI_ge (b := 32) hc.1 (by omega)) ?_
      have fin : ∀ (v : Int32) (g : Nat), 3 ≤ g → k + 1 ≤ cs.length → v = (if s < 0 then fc4 a b c d ((-1 : Int32) - s).toNatClampNeg else s) → (∀ g' vs' S', g ≤ g' + 2 → (∃ x, x = rn (fc4 a b c d) (cs.take (k + 1)) (0, fun _ => 0) ∧ vs' = [.ref l, .int (nI x.1), .int (nI (k + 1))] ∧ cok (cs.drop (k + 1)) x.1 ∧ x.1 ≤ 32 ∧ (∀ j, j < x.1 → gI S' (l + 2) j = x.2 j) ∧ (∀ j, j < 4 → gI S' (l + 3) j = fc4 a b c d j) ∧ Fr (dV l) S S') → zO (F_X5_valueOf g' 1 vs' S') (fun v S_1 => ∃ x, v = some (Value.int x) ∧ (fun x S2 => x = evl cs a b c d ∧ Fr (dV l) S S2) x S_1)) → zO (F_X5_valueOf g 3 [.ref l, .int (nI x.1), .int (nI k), .int v, .int (nI x.1), .ref (l + 2)] T) (fun v S_1 => ∃ x, v = some (Value.int x) ∧ (fun x S2 => x = evl cs a b c d ∧ Fr (dV l) S S2) x S_1) := by
        intro v g hg hkl hv rec
        rw [← hv] at htk
        obtain ⟨g, ge, hG⟩ := g1 hg; subst ge; clear hg; have hg := hG; clear hG
        rw [E_X5_valueOf_3]; unfold F_X5_valueOf_3
        refine o_X rfl hc.1 ?_
        refine o_s (fun T1 e1 => ?_)
        obtain ⟨g, ge, hG⟩ := g1 hg; subst ge; clear hg; have hg := hG; clear hG
        rw [E_X5_valueOf_2]; unfold F_X5_valueOf_2
        refine rec g _ _ (by omega) ⟨_, rfl, by rw [htk, nI_1, nI_1], by rw [htk]; exact hc.2, by rw [htk]; show x.1 + 1 ≤ 32; omega, fun j hj => ?_, fun j hj => ?_, hf.sI e1 (Or.inl rfl)⟩
        · rw [htk] at hj ⊢
          subst e1
          rw [gI_sI]
          show _ = up1 x.2 x.1 _ j
          rw [up1_at]
          by_cases e : j = x.1
          · rw [if_pos ⟨rfl, e⟩, if_pos e]
          · rw [if_neg (fun q => e q.2), if_neg e]
            exact hst j (by have : j < x.1 + 1 := hj; omega)
        · subst e1
          rw [gI_sI, if_neg (by omega)]
          exact hf4 j hj
      refine o_if (fun c3 => ?_) (fun c3 => ?_)
      · obtain ⟨j, hj, ej⟩ := step_neg c1 c3
        rw [ej]
        refine o_X rfl hj ?_
        rw [hf.R l 3, hr.2.2, hf.R l 2, hr.2.1]
        exact fin _ g (by omega) hk (by rw [if_pos c3, ej, nI_clamp (by omega)]; exact hf4 j hj) (fun g' vs' S' hg' => rec g' vs' S' (by omega))
      · rw [hf.R l 2, hr.2.1]
        exact fin _ g (by omega) hk (by rw [if_neg c3]) (fun g' vs' S' hg' => rec g' vs' S' (by omega))
  · rintro _ T g ⟨x, hx, rfl, hc, ht, hst, hf4, hf⟩ hg
    obtain ⟨g, ge, hG⟩ := g1 hg; subst ge; clear hg; have hg := hG; clear hG
    show zO (F_X5_valueOf (g + 1) 1 _ _) _
    rw [E_X5_valueOf_1]; unfold F_X5_valueOf_1
    rw [hf.2 l 1 (fun q => by unfold dV at q; omega), hn]
    refine o_t (nI_le (Nat.le_refl _) (by omega)) ?_
    refine o_X (n := 0) rfl (by omega) (i_r ⟨?_, hf⟩)
    rw [List.drop_length] at hc
    rw [hf.R l 2, hr.2.1, hst 0 hc, hx, List.take_length]
    rfl
def clN (hi : Nat) (v : Int32) : Nat := if v < 0 then 0 else if nI hi < v then hi else v.toNatClampNeg
theorem clN_le {hi : Nat} {v : Int32} (hh : hi < 2 ^ 31) : clN hi v ≤ hi := by
  unfold clN
  split
  · omega
  · rename_i h
    split
    · omega
    · rename_i h2
      obtain ⟨j, hj, rfl⟩ := nI_of h
      rw [nI_clamp hj]
      rw [nI_ltI hh hj] at h2
      omega
theorem clC {hi : Nat} {v : Int32} (hh : hi < 2 ^ 31) : (if (0 : Int32) < (if v < nI hi then v else nI hi) then (if v < nI hi then v else nI hi) else (0 : Int32)) = nI (clN hi v) := by
  unfold clN
  by_cases h : v < 0
  · rw [if_pos h]
    have h1 : v < nI hi := by
      rw [Int32.lt_iff_toInt_lt] at h ⊢
      rw [nI_toInt hh]
      have : (0 : Int32).toInt = 0 := rfl
      omega
    rw [if_pos h1, if_neg (fun c => by rw [Int32.lt_iff_toInt_lt] at h c; omega)]
    rfl
  · rw [if_neg h]
    obtain ⟨j, hj, rfl⟩ := nI_of h
    rw [nI_clamp hj]
    rw [nI_min hj hh]
    by_cases h2 : nI hi < nI j
    · rw [if_pos h2]
      rw [nI_ltI hh hj] at h2
      rw [Nat.min_eq_right (by omega)]
      by_cases h3 : 0 < hi
      · rw [if_pos (show (0 : Int32) < nI hi from nI_lt h3 hh)]
      · rw [show hi = 0 by omega]; rfl
    · rw [if_neg h2]
      rw [nI_ltI hh hj] at h2
      rw [Nat.min_eq_left (by omega)]
      by_cases h3 : 0 < j
      · rw [if_pos (show (0 : Int32) < nI j from nI_lt h3 hj)]
      · rw [show j = 0 by omega]; rfl
def CP (S : aS) (q : Nat) (P : aP) : Prop := (gR S q 3 = q + 2 ∧ gR S q 4 = q + 3 ∧ gR S q 5 = q + 4 ∧ gR S q 6 = q + 5 ∧ gR S q 7 = q + 6 ∧ gR S q 8 = q + 7 ∧ gR S q 12 = q + 8 ∧ gR S q 13 = q + 12) ∧ (gI S q 0 = nI (pY P) ∧ gI S q 1 = nI (pN P) ∧ gI S q 9 = nI (pW P) ∧ gI S q 10 = nI (pPe P) ∧ gI S q 11 = nI (pDe P)) ∧ (∀ i, i < pN P → gI S (q + 2) i = nI (pT P 0 i) ∧ gI S (q + 3) i = nI (pT P 1 i) ∧ gI S (q + 4) i = nI (pT P 2 i)) ∧ (∀ k, k < 8 → gI S (q + 5) k = nI (pT P 3 k) ∧ gI S (q + 6) k = nI (pT P 4 k)) ∧ (∀ k, k < pW P → gI S (q + 7) k = nI (pT P 5 k)) ∧ CL S (q + 8) (pDr P) ∧ CL S (q + 12) (pTk P)
def PI (P : aP) : Prop := (2 ≤ pY P ∧ pY P ≤ 8 ∧ pN P ≤ 6 ∧ pW P ≤ 12 ∧ pPe P ≤ 99 ∧ pDe P ≤ 9) ∧ (∀ i, i < pN P → pT P 0 i ≤ 3 ∧ pT P 1 i ≤ 9 ∧ pT P 2 i ≤ 9) ∧ (∀ k, k < 8 → pT P 3 k ≤ 30 ∧ pT P 4 k ≤ 99) ∧ (∀ k, k < pW P → pT P 5 k ≤ 2) ∧ LWF (pDr P) ∧ LWF (pTk P)
theorem CL.fr {S S1 : aS} {l : Nat} {o : Option (List Int32)} {D : Nat → Nat → Prop} (h : CL S l o) (hf : Fr D S S1) (hD : ∀ k, ¬ D l k ∧ ¬ D (l + 1) k) : CL S1 l o := by
  obtain ⟨hr, hn, hs⟩ := h
  refine ⟨by rw [hf.R, hf.R, hf.R]; exact hr, by rw [hf.2 _ _ (hD _).1]; exact hn, fun k hk => by rw [hf.2 _ _ (hD _).2]; exact hs k hk⟩
theorem CP.fr {S S1 : aS} {q : Nat} {P : aP} {D : Nat → Nat → Prop} (h : CP S q P) (hf : Fr D S S1) (hD : ∀ x k, q ≤ x → x ≤ q + 13 → x ≠ q + 10 → x ≠ q + 11 → ¬ D x k) : CP S1 q P := by
  obtain ⟨hr, hi, hp, hy, hw, hd, ht⟩ := h
  refine ⟨by simp only [hf.R]; exact hr, ?_, fun i hi => ?_, fun k hk => ?_, fun k hk => ?_, hd.fr hf (fun k => ⟨hD _ _ (by omega) (by omega) (by omega) (by omega), hD _ _ (by omega) (by omega) (by omega) (by omega)⟩), ht.fr hf (fun k => ⟨hD _ _ (by omega) (by omega) (by omega) (by omega), hD _ _ (by omega) (by omega) (by omega) (by omega)⟩)⟩
  · rw [hf.2 _ _ (hD _ _ (by omega) (by omega) (by omega) (by omega)), hf.2 _ _ (hD _ _ (by omega) (by omega) (by omega) (by omega)), hf.2 _ _ (hD _ _ (by omega) (by omega) (by omega) (by omega)), hf.2 _ _ (hD _ _ (by omega) (by omega) (by omega) (by omega)), hf.2 _ _ (hD _ _ (by omega) (by omega) (by omega) (by omega))]
    exact hi
  · rw [hf.2 _ _ (hD _ _ (by omega) (by omega) (by omega) (by omega)), hf.2 _ _ (hD _ _ (by omega) (by omega) (by omega) (by omega)), hf.2 _ _ (hD _ _ (by omega) (by omega) (by omega) (by omega))]
    exact hp i hi
  · rw [hf.2 _ _ (hD _ _ (by omega) (by omega) (by omega) (by omega)), hf.2 _ _ (hD _ _ (by omega) (by omega) (by omega) (by omega))]
    exact hy k hk
  · rw [hf.2 _ _ (hD _ _ (by omega) (by omega) (by omega) (by omega))]
    exact hw k hk
def wind (P : aP) (h : Nat) : Nat := if pW P = 0 then 0 else pT P 5 (h % pW P)
theorem T_X6_windOf {S : aS} {q f h : Nat} {P : aP} (hP : CP S q P) (hI : PI P) (hh : h < 2 ^ 31) (hg : 3 ≤ f) : zI (F_X6_windOf f 0 [.ref q, .int (nI h)] S) (fun x S2 => x = nI (wind P h) ∧ S2 = S) := by
  obtain ⟨g, ge, hG⟩ := g1 hg; subst ge; clear hg; have hg := hG; clear hG
  rw [E_X6_windOf_0]; unfold F_X6_windOf_0
  rw [hP.2.1.2.2.1]
  unfold wind
  have hw := hI.1.2.2.2.1
  by_cases e : pW P = 0
  · rw [e, if_pos rfl]
    refine o_t (by decide) ?_
    obtain ⟨g, ge, hG⟩ := g1 hg; subst ge; clear hg; have hg := hG; clear hG
    rw [E_X6_windOf_1]; unfold F_X6_windOf_1
    obtain ⟨g, ge, hG⟩ := g1 hg; subst ge; clear hg; have hg := hG; clear hG
    rw [E_X6_windOf_2]; unfold F_X6_windOf_2
    exact i_r ⟨rfl, rfl⟩
  · rw [if_neg e]
    refine o_f (nI_nle (by omega) (by omega)) ?_
    refine o_f (nI_pos hh) ?_
    refine o_N (nI_ne0 (by omega) (by omega)) ?_
    have hm := Nat.mod_lt h (show 0 < pW P by omega)
    rw [pk_rem hh (by omega) (by omega)]
    refine o_X rfl (show h % pW P < 12 by omega) ?_
    obtain ⟨g, ge, hG⟩ := g1 hg; subst ge; clear hg; have hg := hG; clear hG
    rw [E_X6_windOf_2]; unfold F_X6_windOf_2
    exact i_r ⟨by rw [hP.1.2.2.2.2.2.1, hP.2.2.2.2.1 _ hm], rfl⟩
theorem T_X6_hasPerson {S : aS} {q f k : Nat} {P : aP} (hP : CP S q P) (hI : PI P) (hk : k < pN P) (hg : 1 ≤ f) : zI (F_X6_hasPerson f 0 [.ref q, .int (nI k)] S) (fun x S2 => x = 1 ∧ S2 = S) := by
  obtain ⟨g, ge, hG⟩ := g1 hg; subst ge; clear hg; have hg := hG; clear hG
  rw [E_X6_hasPerson_0]; unfold F_X6_hasPerson_0
  have := hI.1.2.2.1
  rw [hP.2.1.2.1, in_ok hk (by omega)]
  exact o_Z (Or.inr rfl) (i_r ⟨rfl, rfl⟩)
theorem T_X6_hasPerson0 {S : aS} {q f : Nat} {x : Int32} {P : aP} (hP : CP S q P) (hx : oY (pN P) x) (hg : 1 ≤ f) : zI (F_X6_hasPerson f 0 [.ref q, .int x] S) (fun x S2 => x = 0 ∧ S2 = S) := by
  obtain ⟨g, ge, hG⟩ := g1 hg; subst ge; clear hg; have hg := hG; clear hG
  rw [E_X6_hasPerson_0]; unfold F_X6_hasPerson_0
  rw [hP.2.1.2.1, in_no hx]
  exact o_Z (Or.inl rfl) (i_r ⟨rfl, rfl⟩)
/-- what a walk on the lake p touches -/
abbrev dW (p : Nat) : Nat → Nat → Prop := fun x _ => (p ≤ x ∧ x ≤ p + 3) ∨ x = 122 ∨ x = 13 ∨ x = 14 ∨ x = 17 ∨ x = 18 ∨ x = 29 ∨ x = 30 ∨ x = 33 ∨ x = 34
abbrev dC : Nat → Nat → Prop := fun x _ => x = 13 ∨ x = 14 ∨ x = 17 ∨ x = 18 ∨ x = 29 ∨ x = 30 ∨ x = 33 ∨ x = 34
def tv (P : aP) (i : Nat) (L : Lk) : Nat := match pTk P with
  | none => pT P 2 i
  | some cs => clN 9 (evl cs (nI (tot (pY P) L)) (nI (near0 (pY P) L)) (nI (pT P 2 i)) (nI (pT P 1 i)))
def hab (kn ca heap nr hand : Nat) : Nat := if kn = 2 then (if heap = 0 then 0 else hand) else if heap ≤ (if kn = 1 then 9 else 4) then (if nr ≤ ca + (if kn = 1 then 2 else 0) then 0 else 1) else hand
def dv (P : aP) (i heap nr hand : Nat) : Nat := if hand = 0 then 0 else match pDr P with
  | none => hab (pT P 0 i) (pT P 1 i) heap nr hand
  | some cs => clN hand (evl cs (nI heap) (nI nr) (nI hand) (nI (pT P 1 i)))
theorem tv_le {P : aP} {i : Nat} {L : Lk} (hI : PI P) (hi : i < pN P) : tv P i L ≤ 9 := by
  unfold tv
  split
  · exact (hI.2.1 i hi).2.2
  · exact clN_le (by omega)
theorem dv_le {P : aP} {i heap nr hand : Nat} (hh : hand < 2 ^ 31) : dv P i heap nr hand ≤ hand := by
  unfold dv
  split
  · omega
  · split
    · unfold hab
      repeat' split
      all_goals omega
    · exact clN_le hh
theorem T_X5_isTold {S : aS} {l f : Nat} {o : Option (List Int32)} (h : CL S l o) (hw : LWF o) (hg : 1 ≤ f) : zI (F_X5_isTold f 0 [.ref l] S) (fun x S2 => x = (if o = none then 0 else 1) ∧ S2 = S) := by
  obtain ⟨g, ge, hG⟩ := g1 hg; subst ge; clear hg; have hg := hG; clear hG
  rw [E_X5_isTold_0]; unfold F_X5_isTold_0
  rw [h.2.1]
  cases o with
  | none => exact o_Z (Or.inl rfl) (i_r ⟨rfl, rfl⟩)
  | some cs =>
    have := hw cs rfl
    show zO (bZ (if nI cs.length ≤ (0 : Int32) then _ else _) _) _
    rw [if_neg (nI_nle (by omega) (by omega))]
    refine o_Z (Or.inr rfl) (i_r ⟨?_, rfl⟩)
    show (if nI cs.length ≤ (0 : Int32) then (0 : Int32) else 1) = _
    rw [if_neg (nI_nle (by omega) (by omega)), if_neg (by simp)]
theorem T_X6_takenBy {S : aS} {q p d f i B : Nat} {P : aP} {L : Lk} (hP : CP S q P) (hq : q = 3 ∨ q = 19) (hI : PI P) (hL : LA S p (pY P) d L) (hB : LI B L) (hi : i < pN P) (hg : 3030 ≤ f) : zI (F_X6_takenBy f 0 [.ref q, .int (nI i), .ref p] S) (fun x S2 => x = nI (tv P i L) ∧ Fr dC S S2) := by
  obtain ⟨g, ge, hG⟩ := g1 hg; subst ge; clear hg; have hg := hG; clear hG
  rw [E_X6_takenBy_0]; unfold F_X6_takenBy_0
  have hn := hI.1.2.2.1
  have ht := hP.2.2.2.2.2.2
  rw [hP.1.2.2.2.2.2.2.2]
  refine o_I (T_X5_isTold ht hI.2.2.2.2.2 (by omega)) ?_
  rintro _ _ ⟨rfl, rfl⟩
  cases e : pTk P with
  | none =>
    refine o_t (if_pos rfl) ?_
    refine o_X rfl (show i < 6 by omega) (i_r ⟨?_, Fr.refl _⟩)
    rw [hP.1.2.2.1, (hP.2.2.1 i hi).2.2]
    unfold tv
    rw [e]
  | some cs =>
    refine o_f (by rw [if_neg (by simp)]; decide) ?_
    refine o_I (T_X4_total hL hI.1.2.1 (by omega)) ?_
    rintro _ _ ⟨rfl, rfl⟩
    refine o_I (T_X4_open (k := 0) hL hB hI.1.2.1 (by omega) (by omega)) ?_
    rintro _ _ ⟨rfl, rfl⟩
    refine o_X rfl (show i < 6 by omega) ?_
    refine o_X rfl (show i < 6 by omega) ?_
    rw [e] at ht
    have hw := hI.2.2.2.2.2
    rw [e] at hw
    rw [hP.1.2.2.2.2.2.2.2]
    refine o_I (T_X5_valueOf ht hw (by omega)) ?_
    rintro _ S2 ⟨rfl, hf⟩
    refine i_r ⟨?_, hf.mono (fun x k h => by rcases h with h | h <;> omega)⟩
    rw [hP.1.2.2.1, hP.1.2.1, (hP.2.2.1 i hi).2.2, (hP.2.2.1 i hi).2.1, show (9 : Int32) = nI 9 from rfl, clC (by omega)]
    unfold tv
    rw [e]
    rfl
theorem T_X6_habit {S : aS} {q f i heap nr hand : Nat} {P : aP} (hP : CP S q P) (hI : PI P) (hi : i < pN P) (hh : heap < 2 ^ 31) (hr : nr < 2 ^ 31) (hg : 1 ≤ f) : zI (F_X6_droppedByHabit f 0 [.ref q, .int (nI i), .int (nI heap), .int (nI nr), .int (nI hand)] S) (fun x S2 => x = nI (hab (pT P 0 i) (pT P 1 i) heap nr hand) ∧ S2 = S) := by
  obtain ⟨g, ge, hG⟩ := g1 hg; subst ge; clear hg; have hg := hG; clear hG
  rw [E_X6_droppedByHabit_0]; unfold F_X6_droppedByHabit_0
  have hn := hI.1.2.2.1
  have hb := hI.2.1 i hi
  refine o_X rfl (show i < 6 by omega) ?_
  rw [hP.1.1, (hP.2.2.1 i hi).1]
  unfold hab
  refine o_if (fun c => ?_) (fun c => ?_)
  · rw [show (2 : Int32) = nI 2 from rfl, nI_eq (by omega) (by omega)] at c
    rw [if_pos c]
    refine i_r ⟨?_, rfl⟩
    by_cases e : heap = 0
    · rw [if_pos e, e]; rfl
    · rw [if_neg e, if_neg (nI_nle (by omega) hh)]
  · rw [show (2 : Int32) = nI 2 from rfl, nI_eq (by omega) (by omega)] at c
    rw [if_neg c]
    refine o_X rfl (show i < 6 by omega) ?_
    rw [(hP.2.2.1 i hi).1]
    refine o_lI ?_
    rw [hP.1.2.1]
    by_cases e : pT P 0 i = 1
    · rw [e, if_pos (show nI 1 = (1 : Int32) from rfl)]
      simp only [if_true]
      rw [if_neg (show ¬ (1 : Int32) = 0 by decide), if_neg (show ¬ (1 : Int32) = 0 by decide)]
      refine o_if (fun c => ?_) (fun c => ?_)
      · rw [show (9 : Int32) = nI 9 from rfl, nI_leI hh (by omega)] at c
        rw [if_pos c]
        refine o_X rfl (show i < 6 by omega) (i_r ⟨?_, rfl⟩)
        rw [(hP.2.2.1 i hi).2.1, show (2 : Int32) = nI 2 from rfl, nI_add]
        by_cases e2 : nr ≤ pT P 1 i + 2
        · rw [if_pos (nI_le e2 (by omega)), if_pos e2]; rfl
        · rw [if_neg (nI_ge (by omega) hr), if_neg e2]; rfl
      · rw [show (9 : Int32) = nI 9 from rfl, nI_leI hh (by omega)] at c
        rw [if_neg c]
        exact i_r ⟨rfl, rfl⟩
    · rw [if_neg (show ¬ nI (pT P 0 i) = (1 : Int32) from nI_ne (b := 1) e (by omega) (by omega)), if_neg e, if_neg e]
      rw [if_pos (show (0 : Int32) = 0 from rfl), if_pos (show (0 : Int32) = 0 from rfl)]
      refine o_if (fun c => ?_) (fun c => ?_)
      · rw [show (4 : Int32) = nI 4 from rfl, nI_leI hh (by omega)] at c
        rw [if_pos c]
        refine o_X rfl (show i < 6 by omega) (i_r ⟨?_, rfl⟩)
        rw [(hP.2.2.1 i hi).2.1, show (0 : Int32) = nI 0 from rfl, nI_add]
        by_cases e2 : nr ≤ pT P 1 i + 0
        · rw [if_pos (nI_le e2 (by omega)), if_pos e2]
        · rw [if_neg (nI_ge (by omega) hr), if_neg e2]; rfl
      · rw [show (4 : Int32) = nI 4 from rfl, nI_leI hh (by omega)] at c
        rw [if_neg c]
        exact i_r ⟨rfl, rfl⟩
theorem T_X6_droppedBy {S : aS} {q f i heap nr hand : Nat} {P : aP} (hP : CP S q P) (hq : q = 3 ∨ q = 19) (hI : PI P) (hi : i < pN P) (hh : heap < 2 ^ 31) (hr : nr < 2 ^ 31) (hd : hand < 2 ^ 31) (hg : 3030 ≤ f) : zI (F_X6_droppedBy f 0 [.ref q, .int (nI i), .int (nI heap), .int (nI nr), .int (nI hand)] S) (fun x S2 => x = nI (dv P i heap nr hand) ∧ Fr dC S S2) := by
  obtain ⟨g, ge, hG⟩ := g1 hg; subst ge; clear hg; have hg := hG; clear hG
  rw [E_X6_droppedBy_0]; unfold F_X6_droppedBy_0
  have hn := hI.1.2.2.1
  have ht := hP.2.2.2.2.2.1
  unfold dv
  refine o_if (fun c => ?_) (fun c => ?_)
  · rw [show (0 : Int32) = nI 0 from rfl, nI_ltI (by omega) hd] at c
    rw [if_neg (by omega), hP.1.2.2.2.2.2.2.1]
    refine o_I (T_X5_isTold ht hI.2.2.2.2.1 (by omega)) ?_
    rintro _ _ ⟨rfl, rfl⟩
    cases e : pDr P with
    | none =>
      refine o_t (if_pos rfl) ?_
      refine o_I (T_X6_habit hP hI hi hh hr (by omega)) ?_
      rintro _ _ ⟨rfl, rfl⟩
      exact i_r ⟨rfl, Fr.refl _⟩
    | some cs =>
      refine o_f (by rw [if_neg (by simp)]; decide) ?_
      refine o_X rfl (show i < 6 by omega) ?_
      rw [e] at ht
      have hw := hI.2.2.2.2.1
      rw [e] at hw
      rw [hP.1.2.2.2.2.2.2.1]
      refine o_I (T_X5_valueOf ht hw (by omega)) ?_
      rintro _ S2 ⟨rfl, hf⟩
      refine i_r ⟨?_, hf.mono (fun x k h => by rcases h with h | h <;> omega)⟩
      rw [hP.1.2.1, (hP.2.2.1 i hi).2.1, clC hd]
  · rw [show (0 : Int32) = nI 0 from rfl, nI_ltI (by omega) hd] at c
    rw [if_pos (by omega)]
    exact i_r ⟨rfl, Fr.refl _⟩

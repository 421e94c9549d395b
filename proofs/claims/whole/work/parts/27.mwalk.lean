/-! the reference: walks and hours -/
theorem clM {hi : Nat} {v : Int32} (hh : hi < 2 ^ 31) : (if (0 : Int32) ≤ v then if v ≤ nI hi then v else nI hi else (0 : Int32)) = nI (clN hi v) := by
  unfold clN
  by_cases h : v < 0
  · rw [if_pos h, if_neg (fun c => absurd h (Int32.not_lt.mpr c))]
    rfl
  · rw [if_neg h, if_pos (Int32.not_lt.mp h)]
    obtain ⟨j, hj, rfl⟩ := nI_of h
    rw [nI_clamp hj]
    by_cases h2 : nI hi < nI j
    · rw [if_pos h2, if_neg (Int32.not_le.mpr h2)]
    · rw [if_neg h2, if_pos (Int32.not_lt.mp h2)]
theorem clN_id {hi n : Nat} (h : n ≤ hi) (hh : hi < 2 ^ 31) : clN hi (nI n) = n := by
  unfold clN
  rw [if_neg (nI_pos (by omega)), if_neg (nI_nlt (by omega) (by omega)), nI_clamp (by omega)]
abbrev dF : Nat → Nat → Prop := fun q _ => q = 198 ∨ q = 199
section MW
variable {S : aS} {f b i k d hand : Nat} {P : aP} {L : Lk} {B : Nat}
theorem T_X13_takesOf (h : MM S P) (hI : PI P) (hA : MA S b L) (hB : LI B L) (hb : b ≤ 792) (hi : i < pN P) (hg : 4200 ≤ f) : zI (F_X13_takesOf f 0 [.ref 186, .int (nI b), .int (nI i)] S) (fun x T => x = nI (tv P i L) ∧ Fr dF S T) := by
  have hp := hI.2.1 i hi
  obtain ⟨g, ge, hG⟩ := g1 hg; subst ge; clear hg; have hg := hG; clear hG; rw [E_X13_takesOf_0]; unfold F_X13_takesOf_0
  refine o_I (T_X13_lyingIn h hI hA hb (by omega)) ?_
  rintro _ S ⟨rfl, rfl⟩
  refine o_X (n := 0) rfl (by omega) ?_
  rw [h.1.facts]
  refine o_s (fun S1 e1 => ?_)
  have f1 := (Fr.refl (D := dF) S).sI e1 (Or.inl rfl)
  have m1 := h.fr f1 (fun q k _ _ h => by omega)
  have a1 := hA.fr f1 (fun k _ _ h => by omega)
  refine o_I (T_X13_near0 m1 hI a1 hB hb (by omega)) ?_
  rintro _ S1 ⟨rfl, rfl⟩
  refine o_X (n := 1) rfl (by omega) ?_
  rw [m1.1.facts]
  refine o_s (fun S2 e2 => ?_)
  have f2 := f1.sI e2 (Or.inl rfl)
  have m2 := h.fr f2 (fun q k _ _ h => by omega)
  refine o_I (T_X13_personOf (j := 2) m2 hI hi (by omega) (by omega)) ?_
  rintro _ S2 ⟨rfl, rfl⟩
  refine o_X (n := 2) rfl (by omega) ?_
  rw [m2.1.facts]
  refine o_s (fun S3 e3 => ?_)
  have f3 := f2.sI e3 (Or.inl rfl)
  have m3 := h.fr f3 (fun q k _ _ h => by omega)
  refine o_I (T_X13_personOf (j := 1) m3 hI hi (by omega) (by omega)) ?_
  rintro _ S3 ⟨rfl, rfl⟩
  refine o_X (n := 3) rfl (by omega) ?_
  rw [m3.1.facts]
  refine o_s (fun S4 e4 => ?_)
  have f4 := f3.sI e4 (Or.inl rfl)
  have m4 := h.fr f4 (fun q k _ _ h => by omega)
  have fc : gI S4 198 0 = nI (tot (pY P) L) ∧ gI S4 198 1 = nI (near0 (pY P) L) ∧ gI S4 198 2 = nI (pT P 2 i) ∧ gI S4 198 3 = nI (pT P 1 i) := by
    subst e4 e3 e2 e1
    simp [gI_sI]
  refine o_X (n := 6) rfl (by omega) ?_
  rw [m4.1.paths, m4.1.facts]
  have fin : ∀ (g : Nat) (v : Int32) (T : aS), 1 ≤ g → nI (clN 9 v) = nI (tv P i L) → Fr dF S T → zI (F_X13_takesOf g 1 [.int v] T) (fun x T => x = nI (tv P i L) ∧ Fr dF S T) := by
    intro g v T hg hv hf
    obtain ⟨g, ge, hG⟩ := g1 hg; subst ge; clear hg; have hg := hG; clear hG; rw [E_X13_takesOf_1]; unfold F_X13_takesOf_1
    refine i_r ⟨?_, hf⟩
    rw [← hv, ← clM (by omega)]
    rfl
  rcases m4.2.2.2.2.2.2 with ⟨e, ex⟩ | ⟨cs, j, e, ex, hl⟩
  · rw [ex]
    refine o_f (by decide) ?_
    refine o_X (n := 2) rfl (by omega) ?_
    refine fin g _ _ (by omega) ?_ f4
    rw [fc.2.2.1, clN_id hp.2.2 (by omega)]
    unfold tv
    rw [e]
  · rw [ex]
    refine o_t (nI_pos' (by have := hl.1; omega)) ?_
    refine o_X (n := 6) rfl (by omega) ?_
    rw [ex]
    have hw := hI.2.2.2.2.2
    rw [e] at hw
    refine o_I (T_X13_worthAt m4.1 hw hl (by omega)) ?_
    rintro _ T ⟨rfl, hf⟩
    refine fin g _ _ (by omega) ?_ (f4.tr (hf.mono (fun q k h => Or.inr h)))
    rw [fc.1, fc.2.1, fc.2.2.1, fc.2.2.2]
    unfold tv
    rw [e]
theorem T_X13_dropsOf {heap : Nat} (h : MM S P) (hI : PI P) (hA : MA S b L) (hB : LI B L) (hb : b ≤ 792) (hi : i < pN P) (hk : k < 8) (hh : heap ≤ 999) (hd : hand ≤ 9) (hg : 4200 ≤ f) : zI (F_X13_dropsOf f 0 [.ref 186, .int (nI b), .int (nI i), .int (nI k), .int (nI heap), .int (nI hand)] S) (fun x T => x = nI (dv P i heap (near (pY P) L k) hand) ∧ Fr dF S T) := by
  have hp := hI.2.1 i hi
  have hnr := near_le (L := L) (k := k) hI.1.2.1
  obtain ⟨g, ge, hG⟩ := g1 hg; subst ge; clear hg; have hg := hG; clear hG; rw [E_X13_dropsOf_0]; unfold F_X13_dropsOf_0
  refine o_I (T_X13_nearOf h hI hA hB hb hk (by omega)) ?_
  rintro _ S ⟨rfl, rfl⟩
  generalize near (pY P) L k = nr at hnr ⊢
  refine o_I (T_X13_personOf (j := 1) h hI hi (by omega) (by omega)) ?_
  rintro _ S ⟨rfl, rfl⟩
  refine o_I (T_X13_personOf (j := 0) h hI hi (by omega) (by omega)) ?_
  rintro _ S ⟨rfl, rfl⟩
  refine o_X (n := 5) rfl (by omega) ?_
  rw [h.1.paths, h.1.facts]
  rcases h.2.2.2.2.2.1 with ⟨e, ex⟩ | ⟨cs, j, e, ex, hl⟩
  · rw [ex]
    refine o_t (by decide) (i_r ⟨?_, Fr.refl _⟩)
    rw [clM (by omega)]
    apply congrArg nI
    unfold dv
    rw [e]
    have key : (if nI (pT P 0 i) = (2 : Int32) then if nI heap ≤ (0 : Int32) then (0 : Int32) else nI hand else if nI (pT P 0 i) = (1 : Int32) then if nI heap ≤ (9 : Int32) then if nI (pT P 0 i) = (1 : Int32) then if nI nr ≤ nI (pT P 1 i) + (2 : Int32) then (0 : Int32) else (1 : Int32) else if nI nr ≤ nI (pT P 1 i) then (0 : Int32) else (1 : Int32) else nI hand else if nI heap ≤ (4 : Int32) then if nI (pT P 0 i) = (1 : Int32) then if nI nr ≤ nI (pT P 1 i) + (2 : Int32) then (0 : Int32) else (1 : Int32) else if nI nr ≤ nI (pT P 1 i) then (0 : Int32) else (1 : Int32) else nI hand) = nI (hab (pT P 0 i) (pT P 1 i) heap nr hand) := by
      unfold hab
      rw [show (2 : Int32) = nI 2 from rfl, show (0 : Int32) = nI 0 from rfl, show (1 : Int32) = nI 1 from rfl, show (9 : Int32) = nI 9 from rfl, show (4 : Int32) = nI 4 from rfl, nI_add]
      simp only [nI_eq (show pT P 0 i < 2 ^ 31 by omega) (show 2 < 2 ^ 31 by omega), nI_eq (show pT P 0 i < 2 ^ 31 by omega) (show 1 < 2 ^ 31 by omega), nI_leI (show heap < 2 ^ 31 by omega) (show 0 < 2 ^ 31 by omega), nI_leI (show heap < 2 ^ 31 by omega) (show 9 < 2 ^ 31 by omega), nI_leI (show heap < 2 ^ 31 by omega) (show 4 < 2 ^ 31 by omega), nI_leI (show nr < 2 ^ 31 by omega) (show pT P 1 i < 2 ^ 31 by omega), nI_leI (show nr < 2 ^ 31 by omega) (show pT P 1 i + 2 < 2 ^ 31 by omega), Nat.le_zero]
      by_cases c2 : pT P 0 i = 2
      · simp only [if_pos c2]
        split <;> rfl
      · simp only [if_neg c2]
        by_cases c1 : pT P 0 i = 1
        · simp only [if_pos c1]
          repeat' split
          all_goals rfl
        · simp only [if_neg c1, Nat.add_zero]
          repeat' split
          all_goals rfl
    rw [key]
    by_cases e0 : hand = 0
    · rw [if_pos e0]
      unfold clN
      split
      · rfl
      · split
        · exact e0
        · rename_i h1 h2
          have hb : hab (pT P 0 i) (pT P 1 i) heap nr hand ≤ 1 := by
            unfold hab
            repeat' split
            all_goals omega
          rw [nI_ltI (by omega) (by omega)] at h2
          rw [nI_clamp (by omega)]
          omega
    · rw [if_neg e0]
      refine clN_id ?_ (by omega)
      unfold hab
      repeat' split
      all_goals omega
  · rw [ex]
    refine o_f (nI_pos (by have := hl.1; omega)) ?_
    refine o_X (n := 0) rfl (by omega) ?_
    refine o_s (fun S1 e1 => ?_)
    have f1 := (Fr.refl (D := dF) S).sI e1 (Or.inl rfl)
    refine o_X (n := 1) rfl (by omega) ?_
    rw [(h.1.fr f1).facts]
    refine o_s (fun S2 e2 => ?_)
    have f2 := f1.sI e2 (Or.inl rfl)
    refine o_X (n := 2) rfl (by omega) ?_
    rw [(h.1.fr f2).facts]
    refine o_s (fun S3 e3 => ?_)
    have f3 := f2.sI e3 (Or.inl rfl)
    refine o_X (n := 3) rfl (by omega) ?_
    rw [(h.1.fr f3).facts]
    refine o_s (fun S4 e4 => ?_)
    have f4 := f3.sI e4 (Or.inl rfl)
    have m4 := h.fr f4 (fun q k _ _ h => by omega)
    have fc : gI S4 198 0 = nI heap ∧ gI S4 198 1 = nI nr ∧ gI S4 198 2 = nI hand ∧ gI S4 198 3 = nI (pT P 1 i) := by
      subst e4 e3 e2 e1
      simp [gI_sI]
    refine o_X (n := 5) rfl (by omega) ?_
    rw [m4.1.paths, f4.2 _ _ (by omega), ex]
    have hw := hI.2.2.2.2.1
    rw [e] at hw
    refine o_I (T_X13_worthAt m4.1 hw (hl.fr f4 (fun q k _ _ h => by omega)) (by omega)) ?_
    rintro _ T ⟨rfl, hf⟩
    obtain ⟨g, ge, hG⟩ := g1 hg; subst ge; clear hg; have hg := hG; clear hG; rw [E_X13_dropsOf_1]; unfold F_X13_dropsOf_1
    refine i_r ⟨?_, f4.tr (hf.mono (fun q k h => Or.inr h))⟩
    rw [clM (by omega), fc.1, fc.2.1, fc.2.2.1, fc.2.2.2]
    apply congrArg nI
    unfold dv
    rw [e]
    by_cases e0 : hand = 0
    · rw [if_pos e0, e0]
      have := clN_le (hi := 0) (v := evl cs (nI heap) (nI nr) (nI 0) (nI (pT P 1 i))) (by omega)
      omega
    · rw [if_neg e0]
/-- the deposit of now: the told one, or the tried one -/
def DN (S : aS) (P : aP) (d : Nat) : Prop := ((gI S 186 25 < 0 ∧ d = pDe P) ∨ gI S 186 25 = nI d) ∧ d ≤ 9
theorem T_X13_depositNow (h : MM S P) (hd : DN S P d) (hg : 2 ≤ f) : zI (F_X13_depositNow f 0 [.ref 186] S) (fun x T => x = nI d ∧ T = S) := by
  obtain ⟨g, ge, hG⟩ := g1 hg; subst ge; clear hg; have hg := hG; clear hG; rw [E_X13_depositNow_0]; unfold F_X13_depositNow_0
  rcases hd.1 with ⟨c, e⟩ | c
  · refine o_t c ?_
    refine o_X (n := 4) rfl (by omega) ?_
    obtain ⟨g, ge, hG⟩ := g1 hg; subst ge; clear hg; have hg := hG; clear hG; rw [E_X13_depositNow_1]; unfold F_X13_depositNow_1
    rw [h.1.paths, e]
    exact i_r ⟨h.2.1.2.2.2, rfl⟩
  · rw [c]
    refine o_f (nI_pos (by have := hd.2; omega)) ?_
    obtain ⟨g, ge, hG⟩ := g1 hg; subst ge; clear hg; have hg := hG; clear hG; rw [E_X13_depositNow_1]; unfold F_X13_depositNow_1
    exact i_r ⟨rfl, rfl⟩
abbrev dX (b : Nat) : Nat → Nat → Prop := fun q k => (q = 200 ∧ b ≤ k ∧ k < b + 28) ∨ q = 198 ∨ q = 199 ∨ (q = 186 ∧ 26 ≤ k ∧ k ≤ 28)
theorem DN.fr {T : aS} {D : Nat → Nat → Prop} (h : DN S P d) (hf : Fr D S T) (hD : ¬ D 186 25) : DN T P d := by
  unfold DN
  rw [hf.2 _ _ hD]
  exact h
theorem wN_c (P : aP) (i d : Nat) (L : Lk) {j : Nat} (hj : j < 4) : ∀ k, (wN P i d L k).1 j = L j
  | 0 => rfl
  | k + 1 => by
    show wL3 P i d k _ _ j = _
    rw [wL3_n (by omega), wL2_n (by omega), wL1_n (by omega)]
    exact wN_c P i d L hj k
/-- what the reference keeps of a walk -/
def WM (S : aS) (x : wS) : Prop := gI S 186 26 = nI x.2.2.2.1 ∧ gI S 186 27 = nI x.2.1.2 ∧ gI S 186 28 = nI x.2.2.2.2
theorem LI_u2 {v : Nat} (h : LI B L) : LI B (up1 L 2 v) := by
  refine ⟨by rw [up1_at, if_neg (by omega)]; exact h.1, fun k hk => ?_⟩
  rw [up1_at, if_neg (by omega), up1_at, if_neg (by omega), up1_at, if_neg (by omega)]
  exact h.2 k hk
theorem T_X13_walks (h : MM S P) (hI : PI P) (hA : MA S b L) (hB : LI B L) (hb : b ≤ 792) (hi : i < pN P) (hd : DN S P d) (hg : 4400 ≤ f) : zI (F_X13_walks f 0 [.ref 186, .int (nI b), .int (nI i)] S) (fun x T => x = nI (wE P i d L).2.1.1 ∧ MA T b (wk P i d L) ∧ WM T (wE P i d L) ∧ Fr (dX b) S T) := by
  have hn := hI.1.2.2.1
  have hy := hI.1.2.1
  have hd9 := hd.2
  have mm : ∀ T, Fr (dX b) S T → MM T P := fun T hf => h.fr hf (fun x k h1 h2 h3 => by omega)
  obtain ⟨g, ge, hG⟩ := g1 hg; subst ge; clear hg; have hg := hG; clear hG; rw [E_X13_walks_0]; unfold F_X13_walks_0
  refine o_I (T_X13_takesOf h hI hA hB hb hi (by omega)) ?_
  rintro _ S0 ⟨rfl, f0⟩
  refine o_s (fun S1 e1 => ?_)
  refine o_s (fun S2 e2 => ?_)
  refine o_s (fun S3 e3 => ?_)
  have f3 : Fr (dX b) S S3 := (((f0.mono (fun q k h => by unfold dX; omega)).sI e1 (by omega)).sI e2 (by omega)).sI e3 (by omega)
  have a3 : MA S3 b L := hA.fr (D := fun q _ => q = 198 ∨ q = 199 ∨ q = 186) ((((f0.mono (fun q k h => by omega)).sI e1 (by omega)).sI e2 (by omega)).sI e3 (by omega)) (fun k _ _ h => by omega)
  have w3 : WM S3 (wN P i d L 0) := by
    subst e3 e2 e1
    unfold WM
    simp [gI_sI, wN]
    rfl
  clear e1 e2 e3 f0
  have u0 : up1 (wN P i d L 0).1 2 (L 2 + (wN P i d L 0).2.2.1) = L := by
    show up1 L 2 (L 2 + 0) = L
    rw [Nat.add_zero, up1_self]
  refine o_loop (F := fun f vs S => F_X13_walks f 1 vs S) (c := 4) (B := 4250) (y := (pY) P) (fun k vs T => vs = [.ref 186, .int (nI b), .int (nI i), .int (nI (wN P i d L k).2.1.1), .int (nI k)] ∧ MA T b (up1 (wN P i d L k).1 2 (L 2 + (wN P i d L k).2.2.1)) ∧ WM T (wN P i d L k) ∧ Fr (dX b) S T) ?_ ?_ 0 _ _ g (by omega) ⟨rfl, by rw [u0]; exact a3, w3, f3⟩ (by omega)
  · rintro k _ T g hk ⟨rfl, hT, hw, hf⟩ hg rk
    obtain ⟨i1, i2, i3⟩ := wN_i (d := d) hI hi hB k (by omega)
    have ht := tv_le (P := P) (i := i) (L := L) hI hi
    simp only [wN] at rk
    generalize wN P i d L k = x at hT hw i1 i2 i3 rk
    have hk3 := hI.2.1 i hi
    have hb9 := i1.2 k (by omega)
    have mT := mm T hf
    show zO (F_X13_walks g 1 _ _) _
    obtain ⟨g, ge, hG⟩ := g1 hg; subst ge; clear hg; have hg := hG; clear hG; rw [E_X13_walks_1]; unfold F_X13_walks_1
    refine o_I (T_X13_yards mT (by omega)) ?_
    rintro _ T ⟨rfl, rfl⟩
    refine o_f (nI_ge hk (by omega)) ?_
    refine o_I (T_X13_personOf (j := 0) mT hI hi (by omega) (by omega)) ?_
    rintro _ T ⟨rfl, rfl⟩
    refine o_ifI (k := fun v T => F_X13_walks g 2 [.ref 186, .int (nI b), .int (nI i), .int (nI x.2.1.1), .int (nI k), .int v] T) (fun v T2 => v = nI (if pT P 0 i = 3 then d else 0) ∧ T2 = T) (fun c => ?_) (fun c => ?_) ?_
    · rw [show (3 : Int32) = nI 3 from rfl, nI_eq (by omega) (by omega)] at c
      rw [if_pos c]
      exact T_X13_depositNow mT (hd.fr hf (by omega)) (by omega)
    · rw [show (3 : Int32) = nI 3 from rfl, nI_eq (by omega) (by omega)] at c
      rw [if_neg c]
      exact ⟨rfl, rfl⟩
    rintro _ T ⟨rfl, rfl⟩
    show zO (F_X13_walks g 2 _ _) _
    have hl : ∀ j, 4 ≤ j → j < 28 → gI T 200 (b + j) = nI (x.1 j) := fun j h1 h2 => by rw [hT j h2, up1_at, if_neg (by omega)]
    obtain ⟨g, ge, hG⟩ := g1 hg; subst ge; clear hg; have hg := hG; clear hG; rw [E_X13_walks_2]; unfold F_X13_walks_2
    refine o_X (nA3 (n := 4) rfl) (by omega) ?_
    rw [mT.1.state, hl (4 + k) (by omega) (by omega)]
    have hup : wUp P i d k x.1 = if (if pT P 0 i = 3 then d else 0) ≤ x.1 (4 + k) then (if pT P 0 i = 3 then d else 0) else x.1 (4 + k) := by
      unfold wUp
      repeat' split
      all_goals omega
    have d9 : (if pT P 0 i = 3 then d else 0) ≤ 9 := by split <;> omega
    refine o_e (r2 := F_X13_walks g 3 [.ref 186, .int (nI b), .int (nI i), .int (nI x.2.1.1), .int (nI k), .int (nI (wUp P i d k x.1))] T) ?_ ?_
    · rw [hup]
      by_cases c : (if pT P 0 i = 3 then d else 0) ≤ x.1 (4 + k)
      · rw [if_pos (nI_le c (by omega)), if_pos c]
      · rw [if_neg (nI_ge (by omega) (by omega)), if_neg c]
        refine (bX_ok (nA3 (n := 4) rfl) (by omega)).trans ?_
        rw [hl (4 + k) (by omega) (by omega)]
    have u1 : wUp P i d k x.1 ≤ x.1 (4 + k) := by
      unfold wUp
      split <;> omega
    obtain ⟨g, ge, hG⟩ := g1 hg; subst ge; clear hg; have hg := hG; clear hG; rw [E_X13_walks_3]; unfold F_X13_walks_3
    refine o_X (nA3 (n := 4) rfl) (by omega) ?_
    refine o_X (nA3 (n := 4) rfl) (by omega) ?_
    rw [mT.1.state, hl (4 + k) (by omega) (by omega), pk_sub u1]
    refine o_s (fun T1 e1 => ?_)
    have t1 := hT.s (k := 4 + k) e1
    have k1 := hf.sI e1 (by omega)
    have m1 := mm T1 k1
    refine o_X (nA2 (n := 2) rfl) (by omega) ?_
    refine o_X (nA2 (n := 2) rfl) (by omega) ?_
    rw [m1.1.state, t1 2 (by omega), up1_at, if_neg (by omega), up1_at, if_pos rfl, nI_add]
    refine o_s (fun T2 e2 => ?_)
    have t2 := t1.s (k := 2) e2
    have g2 := k1.sI e2 (by omega)
    have m2 := mm T2 g2
    have t2 : MA T2 b (up1 (wL1 P i d k x.1) 2 (L 2 + (x.2.2.1 + wUp P i d k x.1))) := by
      refine t2.cg (fun j hj => ?_)
      unfold wL1
      simp only [up1_at]
      repeat' split
      all_goals omega
    have l2 : ∀ j, 4 ≤ j → j < 28 → gI T2 200 (b + j) = nI (wL1 P i d k x.1 j) := fun j h1 h2 => by rw [t2 j h2, up1_at, if_neg (by omega)]
    refine o_X (nA3 (n := 12) rfl) (by omega) ?_
    refine o_X (nA3 (n := 20) rfl) (by omega) ?_
    rw [m2.1.state, l2 (12 + k) (by omega) (by omega), l2 (20 + k) (by omega) (by omega), wL1_n (by omega), wL1_n (by omega), pk_sub hb9.2.1]
    refine o_lI ?_
    have ein : (if nI (x.1 (12 + k) - x.1 (20 + k)) ≤ nI x.2.1.1 then nI (x.1 (12 + k) - x.1 (20 + k)) else nI x.2.1.1) = nI (wIn k x.2.1.1 x.1) := nI_minle (by omega) (by omega)
    rw [ein]
    refine o_X (nA3 (n := 20) rfl) (by omega) ?_
    refine o_X (nA3 (n := 20) rfl) (by omega) ?_
    rw [l2 (20 + k) (by omega) (by omega), wL1_n (by omega), nI_add]
    refine o_s (fun T3 e3 => ?_)
    have t3 := t2.s (k := 20 + k) e3
    have g3 := g2.sI e3 (by omega)
    have m3 := mm T3 g3
    have t3 : MA T3 b (up1 (wL2 P i d k x.2.1.1 x.1) 2 (L 2 + (x.2.2.1 + wUp P i d k x.1))) := by
      refine t3.cg (fun j hj => ?_)
      unfold wL2
      simp only [up1_at]
      repeat' split
      all_goals omega
    have l3 : ∀ j, 4 ≤ j → j < 28 → gI T3 200 (b + j) = nI (wL2 P i d k x.2.1.1 x.1 j) := fun j h1 h2 => by rw [t3 j h2, up1_at, if_neg (by omega)]
    have i2' : LI B (wL2 P i d k x.2.1.1 x.1) := by
      refine ⟨by rw [wL2_n (by omega), wL1_n (by omega)]; exact i1.1, fun j hj => ?_⟩
      have hb := i1.2 j hj
      rw [wL2_n (j := 4 + j) (by omega), wL2_n (j := 12 + j) (by omega), wL1_n (j := 12 + j) (by omega)]
      refine ⟨?_, ?_, hb.2.2⟩
      · by_cases e : j = k
        · subst e; rw [wL1_s]; omega
        · rw [wL1_n (by omega)]; exact hb.1
      · by_cases e : j = k
        · subst e
          rw [wL2_s]
          unfold wIn
          omega
        · rw [wL2_n (by omega), wL1_n (by omega)]; exact hb.2.1
    refine o_X (nA3 (n := 4) rfl) (by omega) ?_
    rw [m3.1.state, l3 (4 + k) (by omega) (by omega), wL2_n (by omega), wL1_s, pk_sub wIn_le]
    have a1 := wIn_le (k := k) (hand := x.2.1.1) (L := x.1)
    refine o_I (T_X13_dropsOf m3 hI t3 (LI_u2 i2') hb hi (by omega) (by omega) (by omega) (by omega)) ?_
    rintro _ T4 ⟨rfl, f4⟩
    have efa : dv P i (x.1 (4 + k) - wUp P i d k x.1) (near (pY P) (up1 (wL2 P i d k x.2.1.1 x.1) 2 (L 2 + (x.2.2.1 + wUp P i d k x.1))) k) (x.2.1.1 - wIn k x.2.1.1 x.1) = wFa P i d k x.2.1.1 x.1 := by
      unfold wFa
      rw [near_cg (M := wL2 P i d k x.2.1.1 x.1) (fun z hz => by rw [up1_at, if_neg (by omega), up1_at, if_neg (by omega)]; exact ⟨rfl, rfl⟩)]
    rw [efa]
    have t4 := t3.fr f4 (fun k _ _ h => by omega)
    have g4 : Fr (dX b) S T4 := g3.tr (f4.mono (fun q k h => by unfold dX; omega))
    have m4 := mm T4 g4
    have l4 : ∀ j, 4 ≤ j → j < 28 → gI T4 200 (b + j) = nI (wL2 P i d k x.2.1.1 x.1 j) := fun j h1 h2 => by rw [t4 j h2, up1_at, if_neg (by omega)]
    have a2 := wFa_le (P := P) (i := i) (d := d) (k := k) (hand := x.2.1.1) (L := x.1) (by omega)
    refine o_X (nA3 (n := 4) rfl) (by omega) ?_
    rw [m4.1.state, l4 (4 + k) (by omega) (by omega), wL2_n (by omega), wL1_s, nI_add, pk_sub (by omega), nA3 (n := 4) (c := 4) rfl]
    refine o_e (r2 := F_X13_walks g 4 [.ref 186, .int (nI b), .int (nI i), .int (nI (x.2.1.1 - wIn k x.2.1.1 x.1 - wFa P i d k x.2.1.1 x.1)), .int (nI k), .int (nI (wIn k x.2.1.1 x.1)), .int (nI (wFa P i d k x.2.1.1 x.1)), .int (nI (min 999 (x.1 (4 + k) - wUp P i d k x.1 + wFa P i d k x.2.1.1 x.1))), .int (nI (b + (4 + k))), .ref 200] T4) ?_ ?_
    · by_cases c : x.1 (4 + k) - wUp P i d k x.1 + wFa P i d k x.2.1.1 x.1 ≤ 999
      · rw [if_pos (show _ ≤ (999 : Int32) from nI_le (b := 999) c (by omega))]
        refine (bX_ok rfl (by omega)).trans ?_
        rw [l4 (4 + k) (by omega) (by omega), wL2_n (by omega), wL1_s, nI_add, Nat.min_eq_right c]
      · rw [if_neg (show ¬ nI (x.1 (4 + k) - wUp P i d k x.1 + wFa P i d k x.2.1.1 x.1) ≤ (999 : Int32) from nI_ge (a := 999) (by omega) (by omega)), Nat.min_eq_left (by omega)]
        rfl
    obtain ⟨g, ge, hG⟩ := g1 hg; subst ge; clear hg; have hg := hG; clear hG; rw [E_X13_walks_4]; unfold F_X13_walks_4
    refine o_X rfl (by omega) ?_
    refine o_s (fun T5 e5 => ?_)
    have t5 := t4.s (k := 4 + k) e5
    have g5 := g4.sI e5 (by omega)
    refine o_s (fun T6 e6 => ?_)
    refine o_s (fun T7 e7 => ?_)
    refine o_s (fun T8 e8 => ?_)
    have t8 : MA T8 b _ := t5.fr (D := fun q _ => q = 186) ((((Fr.refl _).sI e6 rfl).sI e7 rfl).sI e8 rfl) (fun k _ _ h => by omega)
    have o8 : ∀ j, gI T5 186 j = gI T 186 j := fun j => by
      subst e5
      rw [gI_sI, if_neg (by omega), f4.2 _ _ (by omega)]
      subst e3 e2 e1
      rw [gI_sI, if_neg (by omega), gI_sI, if_neg (by omega), gI_sI, if_neg (by omega)]
    refine rk g _ _ (by omega) ⟨?_, t8.cg (fun j hj => ?_), ?_, ((g5.sI e6 (by omega)).sI e7 (by omega)).sI e8 (by omega)⟩
    · rw [nI_1]
      rfl
    · show up1 (up1 (wL2 P i d k x.2.1.1 x.1) 2 _) (4 + k) _ j = up1 (wL3 P i d k x.2.1.1 x.1) 2 _ j
      rw [up1_at, up1_at, up1_at]
      by_cases c : j = 4 + k
      · rw [if_pos c, if_neg (by omega), c, wL3_s]
      · rw [if_neg c]
        by_cases c2 : j = 2
        · rw [if_pos c2, if_pos c2]
          rfl
        · rw [if_neg c2, if_neg c2, wL3_n c]
    · have hif : (if nI (x.2.1.1 - wIn k x.2.1.1 x.1 - wFa P i d k x.2.1.1 x.1) ≤ (0 : Int32) then (0 : Int32) else 1) = nI (if x.2.1.1 - wIn k x.2.1.1 x.1 - wFa P i d k x.2.1.1 x.1 = 0 then 0 else 1) := by
        by_cases e : x.2.1.1 - wIn k x.2.1.1 x.1 - wFa P i d k x.2.1.1 x.1 = 0
        · rw [if_pos e, e]; rfl
        · rw [if_neg e, if_neg (nI_nle (by omega) (by omega))]; rfl
      rw [hif] at e8
      refine ⟨?_, ?_, ?_⟩
      · subst e8 e7 e6
        rw [gI_sI, if_neg (by omega), gI_sI, if_neg (by omega), gI_sI, if_pos ⟨rfl, rfl⟩, o8, hw.1, nI_add]
        rfl
      · subst e8 e7 e6
        rw [gI_sI, if_neg (by omega), gI_sI, if_pos ⟨rfl, rfl⟩, gI_sI, if_neg (by omega), o8, hw.2.1, nI_add]
        rfl
      · subst e8 e7 e6
        rw [gI_sI, if_pos ⟨rfl, rfl⟩, gI_sI, if_neg (by omega), gI_sI, if_neg (by omega), o8, hw.2.2, nI_add]
        rfl
  · rintro _ T g ⟨rfl, hT, hw, hf⟩ hg
    have mT := mm T hf
    have c1 := wN_c P i d L (j := 1) (by omega) (pY P)
    have c2 := wN_c P i d L (j := 2) (by omega) (pY P)
    show zO (F_X13_walks g 1 _ _) _
    obtain ⟨g, ge, hG⟩ := g1 hg; subst ge; clear hg; have hg := hG; clear hG; rw [E_X13_walks_1]; unfold F_X13_walks_1
    refine o_I (T_X13_yards mT (by omega)) ?_
    rintro _ T ⟨rfl, rfl⟩
    refine o_t (nI_le (Nat.le_refl _) (by omega)) ?_
    refine o_X (nA2 (n := 1) rfl) (by omega) ?_
    refine o_X (nA2 (n := 1) rfl) (by omega) ?_
    rw [mT.1.state, hT 1 (by omega), up1_at, if_neg (by omega), nI_add]
    refine o_s (fun T1 e1 => ?_)
    refine i_r ⟨rfl, (hT.s (k := 1) e1).cg (fun j hj => ?_), ?_, hf.sI e1 (by omega)⟩
    · unfold wk wE
      simp only [up1_at]
      by_cases d2 : j = 2
      · rw [if_neg (by omega), if_pos d2, if_pos d2, c2]
      · rw [if_neg d2, if_neg d2]
    · subst e1
      unfold WM
      rw [gI_sI, if_neg (by omega), gI_sI, if_neg (by omega), gI_sI, if_neg (by omega)]
      exact hw
end MW

/-! weeks by draws: both sides -/
/-- a loop within another: its end knows how much fuel is gone -/
theorem o_loopT {F : Nat → List Value → aS → aR} {c B y G : Nat} {Q : Option Value → aS → Prop} (I : Nat → List Value → aS → Prop)
    (step : ∀ k vs S g, k < y → I k vs S → B + c ≤ g → (∀ g' vs' S', g ≤ g' + c → I (k + 1) vs' S' → zO (F g' vs' S') Q) → zO (F g vs S) Q)
    (last : ∀ vs S g, I y vs S → B + c ≤ g → G ≤ g + c * y → zO (F g vs S) Q) (vs : List Value) (S : aS) (h0 : I 0 vs S) (hG : B + c * (y + 1) ≤ G) : zO (F G vs S) Q := by
  have key : ∀ j k vs S g, k + j = y → I k vs S → B + c * (j + 1) ≤ g → G ≤ g + c * k → zO (F g vs S) Q := by
    intro j
    induction j with
    | zero =>
      intro k vs S g hk h hg hgg
      have : k = y := by omega
      subst this
      exact last vs S g h (by simpa using hg) hgg
    | succ j ih =>
      intro k vs S g hk h hg hgg
      rw [Nat.mul_succ] at hg
      refine step k vs S g (by omega) h (by have := Nat.zero_le (c * (j + 1)); omega) (fun g' vs' S' hg' h' => ?_)
      exact ih (k + 1) vs' S' g' (by omega) h' (by omega) (by rw [Nat.mul_succ]; omega)
  exact key y 0 vs S G (by omega) h0 hG (by omega)
def dr (g : Nat) : Nat := (g * 1103515245 + 12345) % 2147483648
def dw (m g : Nat) : Nat := g / 65536 % m
theorem dr_lt (g : Nat) : dr g < 2147483648 := Nat.mod_lt _ (by omega)
def w3 (P : aP) (x : Lk × Nat) : Nat → Lk × Nat
  | 0 => x
  | j + 1 => (wk P (dw (pN P) (dr (w3 P x j).2)) (pDe P) (w3 P x j).1, dr (w3 P x j).2)
def wkB (P : aP) (x : Lk × Nat) : Lk × Nat := if pN P = 0 then x else w3 P x 3
def wkH (P : aP) (x : Lk × Nat) : Lk × Nat := (hrL P (if dw 5 (dr (wkB P x).2) = 0 then empTo (wkB P x).1 (pPe P) (pY P) else (wkB P x).1), dr (wkB P x).2)
def wkN (P : aP) (x : Lk × Nat) : Nat → Lk × Nat
  | 0 => x
  | k + 1 => wkH P (wkN P x k)
theorem empTo_LI {B pe : Nat} {L : Lk} (h : LI B L) : ∀ k, k ≤ 8 → LI B (empTo L pe k)
  | 0, _ => h
  | k + 1, hk => by
    show LI B (if _ then _ else _)
    split
    · exact empTo_LI h k (by omega)
    · exact empB_LI (empTo_LI h k (by omega)) (by omega)
theorem w3_i {P : aP} {B : Nat} {x : Lk × Nat} (hI : PI P) (hn : 0 < pN P) (h : LI B x.1) (hx : x.2 < 2147483648) : ∀ j, LI B (w3 P x j).1 ∧ (w3 P x j).2 < 2147483648
  | 0 => ⟨h, hx⟩
  | j + 1 => ⟨wk_LI hI (Nat.mod_lt _ hn) (w3_i hI hn h hx j).1, dr_lt _⟩
theorem wkB_i {P : aP} {B : Nat} {x : Lk × Nat} (hI : PI P) (h : LI B x.1) (hx : x.2 < 2147483648) : LI B (wkB P x).1 ∧ (wkB P x).2 < 2147483648 := by
  unfold wkB
  split
  · exact ⟨h, hx⟩
  · exact w3_i hI (by omega) h hx 3
theorem wkN_i {P : aP} {B : Nat} {x : Lk × Nat} (hI : PI P) (h : LI B x.1) (hx : x.2 < 2147483648) : ∀ k, LI (B + k) (wkN P x k).1 ∧ (wkN P x k).2 < 2147483648
  | 0 => ⟨h, hx⟩
  | k + 1 => by
    obtain ⟨h1, h2⟩ := wkN_i hI h hx k
    obtain ⟨h3, h4⟩ := wkB_i hI h1 h2
    refine ⟨?_, dr_lt _⟩
    show LI (B + (k + 1)) (hrL P (if _ then _ else _))
    refine hrL_LI (B := B + k) ?_ hI.1.2.1
    split
    · exact empTo_LI h3 _ hI.1.2.1
    · exact h3
theorem o_R {r : aR} {k : Nat → aS → aR} {Q : Option Value → aS → Prop} {Pp : Nat → aS → Prop} (h : zO r (fun v S => ∃ x, v = some (.ref x) ∧ Pp x S)) (hk : ∀ x S, Pp x S → zO (k x S) Q) : zO (bR r k) Q := by
  obtain ⟨v, S, e, x, rfl, p⟩ := h
  rw [e]
  exact hk x S p
theorem drJ {g : Nat} (hg : g < 2147483648) : (lN g * (1103515245 : Int64) + (12345 : Int64)) - (lN g * (1103515245 : Int64) + (12345 : Int64)) / (2147483648 : Int64) * (2147483648 : Int64) = lN (dr g) := by
  rw [show (1103515245 : Int64) = lN 1103515245 from rfl, show (12345 : Int64) = lN 12345 from rfl, show (2147483648 : Int64) = lN 2147483648 from rfl, lN_mul, lN_add, pk_lRem (by omega) (by omega) (by omega)]
  rfl
theorem dwJ {g m : Nat} (hg : g < 2147483648) (h0 : 0 < m) (hm : m < 2 ^ 31) : Int64.toInt32 ((lN g / (65536 : Int64)) - (lN g / (65536 : Int64)) / (lN m) * (lN m)) = nI (dw m g) := by
  have h1 : g / 65536 ≤ g := Nat.div_le_self _ _
  rw [show (65536 : Int64) = lN 65536 from rfl, pk_lDiv (by omega) (by omega) (by omega), pk_lRem (by omega) h0 (by omega), lN_i]
  rfl
section PW
variable {S T : aS} {A : aA} {q f n B : Nat} {P : aP} {L M : Lk}
theorem T_X9_draw {g0 m : Nat} (hJ : gJ S 117 4 = lN g0) (h0 : g0 < 2147483648) (hm : 0 < m) (hm2 : m < 2 ^ 31) (hg : 2 ≤ f) : zI (F_X9_draw f 0 [.ref 117, .int (nI m)] S) (fun x T => x = nI (dw m (dr g0)) ∧ T = sJ S 117 4 (lN (dr g0))) := by
  obtain ⟨g, ge, hG⟩ := g1 hg; subst ge; clear hg; have hg := hG; clear hG; rw [E_X9_draw_0]; unfold F_X9_draw_0
  rw [hJ, drJ h0]
  refine o_sJ (fun S1 e1 => ?_)
  refine o_f (nI_nle hm hm2) ?_
  have g1' : gJ S1 117 4 = lN (dr g0) := by subst e1; rw [gJ_sJ, if_pos ⟨rfl, rfl⟩]
  rw [nI_l hm2, g1']
  refine o_NL (fun h => ?_) ?_
  · have := (pk_lEQ (a := m) (b := 0) (by omega) (by omega)).mp h
    omega
  obtain ⟨g, ge, hG⟩ := g1 hg; subst ge; clear hg; have hg := hG; clear hG; rw [E_X9_draw_1]; unfold F_X9_draw_1
  rw [dwJ (dr_lt _) hm hm2]
  exact i_r ⟨rfl, e1⟩
theorem T_X13_draw {g0 m : Nat} (hJ : gJ S 186 35 = lN g0) (h0 : g0 < 2147483648) (hm : 0 < m) (hm2 : m < 2 ^ 31) (hg : 2 ≤ f) : zI (F_X13_draw f 0 [.ref 186, .int (nI m)] S) (fun x T => x = nI (dw m (dr g0)) ∧ T = sJ S 186 35 (lN (dr g0))) := by
  obtain ⟨g, ge, hG⟩ := g1 hg; subst ge; clear hg; have hg := hG; clear hG; rw [E_X13_draw_0]; unfold F_X13_draw_0
  rw [hJ, drJ h0]
  refine o_sJ (fun S1 e1 => ?_)
  have g1' : gJ S1 186 35 = lN (dr g0) := by subst e1; rw [gJ_sJ, if_pos ⟨rfl, rfl⟩]
  rw [nI_l hm2, g1']
  refine o_NL (fun h => ?_) ?_
  · have := (pk_lEQ (a := m) (b := 0) (by omega) (by omega)).mp h
    omega
  rw [dwJ (dr_lt _) hm hm2]
  exact i_r ⟨rfl, e1⟩
abbrev noR : Nat → Prop := fun _ => False
theorem T_X9_afterWeeks {seed hours : Nat} (hX : CX S q P) (hL : LA S 43 (pY P) (pDe P) L) (hB : LI B L) (hBB : B < 2 ^ 29) (hs : seed < 2147483648) (hh : hours ≤ 99) (hg : 6000 ≤ f) : zO (F_X9_afterWeeks f 0 [.ref 117, .int (nI seed), .int (nI hours)] S) (fun v T => ∃ x, v = some (.ref x) ∧ (x = 118 ∧ LA T 118 (pY P) (pDe P) (wkN P (L, seed) hours).1 ∧ Fg dJ noR S T)) := by
  have hy := hX.pi.1.2.1
  have hn := hX.pi.1.2.2.1
  have hd9 := hX.pi.1.2.2.2.2.2
  have xx : ∀ T, Fg dJ noR S T → CX T q P := fun T hf => hX.fg hf (fun x k d => by unfold dJ at d; unfold dN; omega) (fun x _ h => h)
  obtain ⟨g, ge, hG⟩ := g1 hg; subst ge; clear hg; have hg := hG; clear hG; rw [E_X9_afterWeeks_0]; unfold F_X9_afterWeeks_0
  rw [hX.t0, hX.t1, nI_l hs]
  refine o_V (T_now hX hL lk118 (by omega) (by omega)) ?_
  rintro S1 ⟨h1, h1n, x1, f1⟩
  refine o_sJ (fun S2 e2 => ?_)
  have f2 : Fg dJ noR S S2 := (f1.g.mono (fun x k d => by unfold dL at d; unfold dJ; omega) (fun _ h => h)).sJ e2 (by unfold dJ; omega)
  have h2 : LA S2 118 (pY P) (pDe P) L := h1.fg ((Fg.refl (D := fun x _ => x = 117) (R := noR) S1).sJ e2 rfl) (fun x k a b c => by omega) id
  have j2 : gJ S2 117 4 = lN seed := by subst e2; rw [gJ_sJ, if_pos ⟨rfl, rfl⟩]
  refine o_loop (F := fun f vs S => F_X9_afterWeeks f 1 vs S) (c := 10) (B := 4300) (y := hours) (fun k vs T => vs = [.ref 117, .int (nI hours), .int (nI k)] ∧ LA T 118 (pY P) (pDe P) (wkN P (L, seed) k).1 ∧ gJ T 117 4 = lN (wkN P (L, seed) k).2 ∧ Fg dJ noR S T) ?_ ?_ 0 _ S2 g (by omega) ⟨rfl, h2, j2, f2⟩ (by omega)
  · rintro k _ U g hk ⟨rfl, hU, jU, hf⟩ hg rk
    obtain ⟨i1, i2⟩ := wkN_i (x := (L, seed)) hX.pi hB hs k
    simp only [wkN] at rk
    generalize wkN P (L, seed) k = x at hU jU i1 i2 rk
    have xU := xx U hf
    -- behind the walks
    have tail : ∀ (V : aS) (g' : Nat), 4300 ≤ g' → g ≤ g' + 8 → LA V 118 (pY P) (pDe P) (wkB P x).1 → gJ V 117 4 = lN (wkB P x).2 → Fg dJ noR S V → zO (F_X9_afterWeeks g' 2 [.ref 117, .int (nI hours), .int (nI k)] V) (fun v T => ∃ x, v = some (.ref x) ∧ (x = 118 ∧ LA T 118 (pY P) (pDe P) (wkN P (L, seed) hours).1 ∧ Fg dJ noR S T)) := by
      intro V g' hg hgg hV jV hfV
      obtain ⟨b1, b2⟩ := wkB_i hX.pi i1 i2
      unfold wkH at rk
      generalize wkB P x = y at hV jV b1 b2 rk
      have xV := xx V hfV
      obtain ⟨g', rfl, hg⟩ := g1 (n := 4299) (f := g') (by omega)
      rw [E_X9_afterWeeks_2]; unfold F_X9_afterWeeks_2
      refine o_I (T_X9_draw (m := 5) jV b2 (by omega) (by omega) (by omega)) ?_
      rintro _ V1 ⟨rfl, v1⟩
      have k1 : Fg (fun x _ => x = 117) noR V V1 := (Fg.refl _).sJ v1 rfl
      have hV1 := hV.fg k1 (fun x k a b c => by omega) id
      have jV1 : gJ V1 117 4 = lN (dr y.2) := by subst v1; rw [gJ_sJ, if_pos ⟨rfl, rfl⟩]
      have ff1 : Fg dJ noR S V1 := hfV.tr (k1.mono (fun x k d => by unfold dJ; omega) (fun _ h => h))
      have xV1 := xx V1 ff1
      rw [xV1.t1, xV1.t3, xV1.cp.2.1.2.2.2.1]
      have hdw : dw 5 (dr y.2) < 5 := Nat.mod_lt _ (by omega)
      refine o_ifV (fun W => LA W 118 (pY P) (pDe P) (if dw 5 (dr y.2) = 0 then empTo y.1 (pPe P) (pY P) else y.1) ∧ gJ W 117 4 = lN (dr y.2) ∧ Fg dJ noR S W) (fun c => ?_) (fun c => ?_) ?_
      · have c : dw 5 (dr y.2) = 0 := (nI_eq (b := 0) (by omega) (by omega)).mp c
        rw [if_pos c]
        refine u_m (T_X4_emptyBins hV1 b1 hy (by omega)) ?_
        rintro W ⟨w1, w2⟩
        exact ⟨w1, by rw [w2.J]; exact jV1, ff1.tr (w2.g.mono (fun x k d => by unfold dL at d; unfold dJ; omega) (fun _ h => h))⟩
      · have c : ¬ dw 5 (dr y.2) = 0 := fun h => c (by rw [h]; rfl)
        rw [if_neg c]
        exact ⟨hV1, jV1, ff1⟩
      rintro W ⟨w1, w2, w3'⟩
      have b3 : LI (B + k) (if dw 5 (dr y.2) = 0 then empTo y.1 (pPe P) (pY P) else y.1) := by
        split
        · exact empTo_LI b1 _ hy
        · exact b1
      have xW := xx W w3'
      obtain ⟨g', rfl, hg⟩ := g1 (n := 4298) (f := g') (by omega)
      rw [E_X9_afterWeeks_4]; unfold F_X9_afterWeeks_4
      rw [xW.t1, xW.t3]
      refine o_I (T_X4_passHour w1 xW.cp hX.pi b3 (by omega) (by omega)) ?_
      rintro _ W2 ⟨rfl, z1, z2⟩
      exact rk g' _ _ (by omega) ⟨by rw [nI_1], z1, by rw [z2.J]; exact w2, w3'.tr (z2.g.mono (fun x k d => by unfold dL at d; unfold dJ; omega) (fun _ h => h))⟩
    show zO (F_X9_afterWeeks g 1 _ _) _
    replace hg : 4308 + 1 ≤ g := by omega
    obtain ⟨g, ge, hG⟩ := g1 hg; subst ge; clear hg; have hg := hG; clear hG; rw [E_X9_afterWeeks_1]; unfold F_X9_afterWeeks_1
    refine o_f (nI_ge hk (by omega)) ?_
    rw [xU.t3, xU.cp.2.1.2.1]
    by_cases c0 : pN P = 0
    · rw [c0]
      refine o_t (by decide) ?_
      have e : wkB P x = x := if_pos c0
      exact tail U g (by omega) (by omega) (by rw [e]; exact hU) (by rw [e]; exact jU) hf
    · refine o_f (nI_nle (by omega) (by omega)) ?_
      have eB : wkB P x = w3 P x 3 := if_neg c0
      rw [eB] at tail
      refine o_loopT (F := fun f vs S => F_X9_afterWeeks f 3 vs S) (c := 1) (B := 4301) (y := 3) (fun j vs T => vs = [.ref 117, .int (nI hours), .int (nI k), .int (nI j)] ∧ LA T 118 (pY P) (pDe P) (w3 P x j).1 ∧ gJ T 117 4 = lN (w3 P x j).2 ∧ Fg dJ noR S T) ?_ ?_ _ U ⟨rfl, hU, jU, hf⟩ (by omega)
      · rintro j _ V g hj ⟨rfl, hV, jV, hf⟩ hg rk2
        obtain ⟨b1, b2⟩ := w3_i hX.pi (by omega) i1 i2 j
        simp only [w3] at rk2
        generalize w3 P x j = y at hV jV b1 b2 rk2
        have xV := xx V hf
        show zO (F_X9_afterWeeks g 3 _ _) _
        obtain ⟨g, ge, hG⟩ := g1 hg; subst ge; clear hg; have hg := hG; clear hG; rw [E_X9_afterWeeks_3]; unfold F_X9_afterWeeks_3
        refine o_f (nI_ge (b := 3) hj (by omega)) ?_
        rw [xV.t3, xV.cp.2.1.2.1]
        refine o_I (T_X9_draw jV b2 (by omega) (by omega) (by omega)) ?_
        rintro _ V1 ⟨rfl, v1⟩
        have k1 : Fg (fun x _ => x = 117) noR V V1 := (Fg.refl _).sJ v1 rfl
        have hV1 := hV.fg k1 (fun x k a b c => by omega) id
        have jV1 : gJ V1 117 4 = lN (dr y.2) := by subst v1; rw [gJ_sJ, if_pos ⟨rfl, rfl⟩]
        have ff1 : Fg dJ noR S V1 := hf.tr (k1.mono (fun x k d => by unfold dJ; omega) (fun _ h => h))
        have xV1 := xx V1 ff1
        rw [xV1.t1]
        refine o_I (T_X9_walkOf xV1 hV1 b1 hd9 (Nat.mod_lt _ (by omega)) lk118 (by omega)) ?_
        rintro _ V2 ⟨rfl, z1, -, z2⟩
        exact rk2 g _ _ (by omega) ⟨by rw [nI_1], z1, by rw [z2.J]; exact jV1, ff1.tr (z2.g.mono dW_dJ (fun _ h => h))⟩
      · rintro _ V g' ⟨rfl, hV, jV, hf⟩ hg' hgg
        show zO (F_X9_afterWeeks g' 3 _ _) _
        obtain ⟨g', rfl, hg'⟩ := g1 (n := 4301) (f := g') (by omega)
        rw [E_X9_afterWeeks_3]; unfold F_X9_afterWeeks_3
        refine o_t (nI_le (a := 3) (b := 3) (by omega) (by omega)) ?_
        exact tail V g' (by omega) (by omega) hV jV hf
  · rintro _ U g ⟨rfl, hU, jU, hf⟩ hg
    show zO (F_X9_afterWeeks g 1 _ _) _
    obtain ⟨g, ge, hG⟩ := g1 hg; subst ge; clear hg; have hg := hG; clear hG; rw [E_X9_afterWeeks_1]; unfold F_X9_afterWeeks_1
    rw [(xx U hf).t1]
    exact o_t (nI_le (Nat.le_refl _) (by omega)) (o_r ⟨118, rfl, rfl, hU, hf⟩)
theorem B_weeks {a b c : Int32} (hg : 9000 ≤ f) (hn : n ≤ 512) : Both n (fun S => F_X12_weeks f 0 [.ref 0, .int a, .int b, .int c] S) (fun S => F_X13_weeks f 0 [.ref 186, .int a, .int b, .int c] S) := by
  refine Both.of (fun S T A hC hM hA => ?_)
  obtain ⟨q, ⟨hX, hb0, hL, hF⟩, ⟨hH, hMk⟩, h6, h7, h8⟩ := id hC
  have hB := hA.2.1.2.1
  have hy := hX.pi.1.2.1
  have hnp := hX.pi.1.2.2.1
  have mx := hM.x hA
  obtain ⟨T1, e1⟩ : ∃ T1, T1 = sI T 186 0 0 := ⟨_, rfl⟩
  have f1 := (Fr.refl (D := mJ) T).sI e1 (by unfold mJ; omega)
  have m1 := mx.j f1
  by_cases hw : wI a 0 9999 = 0 ∨ wI b 1 99 = 0 ∨ wI c 0 2 = 0
  · refine ⟨-1, A, hA.up (by omega), UC.of hC ?_, UM.of hM hA ?_⟩
    · have r1' : ∀ (U : aS) (g : Nat), 1 ≤ g → zI (F_X12_weeks g 1 [] U) (fun x V => x = -1 ∧ V = U) := by
        intro U g hg
        obtain ⟨g, ge, hG⟩ := g1 hg; subst ge; clear hg; have hg := hG; clear hG; rw [E_X12_weeks_1]; unfold F_X12_weeks_1
        exact i_r ⟨rfl, rfl⟩
      have hg2 : 8999 + 1 ≤ f := by omega
      clear hg
      have hg := hg2
      obtain ⟨g, ge, hG⟩ := g1 hg; subst ge; clear hg; have hg := hG; clear hG; rw [E_X12_weeks_0]; unfold F_X12_weeks_0
      refine i_m (P := fun x V => x = -1 ∧ V = S) ?_ (fun x V ⟨h1, h2⟩ => ⟨h1, by rw [h2]; exact Fr.refl _⟩)
      refine o_I (T_X12_isWithin (by omega)) ?_
      rintro _ S ⟨rfl, rfl⟩
      refine o_if (fun _ => r1' S g (by omega)) (fun n1 => ?_)
      refine o_I (T_X12_isWithin (by omega)) ?_
      rintro _ S ⟨rfl, rfl⟩
      refine o_if (fun _ => r1' S g (by omega)) (fun n2 => ?_)
      refine o_I (T_X12_isWithin (by omega)) ?_
      rintro _ S ⟨rfl, rfl⟩
      refine o_if (fun _ => r1' S g (by omega)) (fun n3 => ?_)
      rcases hw with h | h | h
      · exact absurd h n1
      · exact absurd h n2
      · exact absurd h n3
    · have r1' : ∀ (U : aS) (g : Nat), 1 ≤ g → zI (F_X13_weeks g 1 [] U) (fun x V => x = -1 ∧ V = U) := by
        intro U g hg
        obtain ⟨g, ge, hG⟩ := g1 hg; subst ge; clear hg; have hg := hG; clear hG; rw [E_X13_weeks_1]; unfold F_X13_weeks_1
        exact i_r ⟨rfl, rfl⟩
      obtain ⟨g, ge, hG⟩ := g1 hg; subst ge; clear hg; have hg := hG; clear hG; rw [E_X13_weeks_0]; unfold F_X13_weeks_0
      rw [← e1]
      show zO (bI _ _) _
      refine i_m (P := fun x V => x = -1 ∧ V = T1) ?_ (fun x V ⟨h1, h2⟩ => ⟨h1, by rw [h2]; exact f1⟩)
      refine o_I (T_X13_within (by omega)) ?_
      rintro _ T1 ⟨rfl, rfl⟩
      refine o_if (fun _ => r1' T1 g (by omega)) (fun n1 => ?_)
      refine o_I (T_X13_within (by omega)) ?_
      rintro _ T1 ⟨rfl, rfl⟩
      refine o_if (fun _ => r1' T1 g (by omega)) (fun n2 => ?_)
      refine o_I (T_X13_within (by omega)) ?_
      rintro _ T1 ⟨rfl, rfl⟩
      refine o_if (fun _ => r1' T1 g (by omega)) (fun n3 => ?_)
      rcases hw with h | h | h
      · exact absurd h n1
      · exact absurd h n2
      · exact absurd h n3
  simp only [not_or] at hw
  obtain ⟨n1, n2, n3⟩ := hw
  obtain ⟨sd, -, hsd, rfl, -⟩ := (wI_n (a := a) (lo := 0) (hi := 9999) (by omega) (by omega)).resolve_left n1
  obtain ⟨hr, hr1, hr2, rfl, -⟩ := (wI_n (a := b) (lo := 1) (hi := 99) (by omega) (by omega)).resolve_left n2
  obtain ⟨j, -, hj, rfl, -⟩ := (wI_n (a := c) (lo := 0) (hi := 2) (by omega) (by omega)).resolve_left n3
  obtain ⟨W, eW⟩ : ∃ W, W = wkN (plA A) (lkA A, sd) hr := ⟨_, rfl⟩
  refine ⟨if j = 0 then nI (tot (pY (plA A)) W.1) else if j = 1 then nI (W.1 1) - nI (lkA A 1) else nI (W.1 3) - nI (lkA A 3), A, hA.up (by omega), ?_, ?_⟩
  · refine i_m (P := fun x V => x = (if j = 0 then nI (tot (pY (plA A)) W.1) else if j = 1 then nI (W.1 1) - nI (lkA A 1) else nI (W.1 3) - nI (lkA A 3)) ∧ Fg dJ noR S V) ?_ (fun x V ⟨h1, h2⟩ => ⟨h1, hC.fg h2 (fun x k d => Or.inl d) (fun x h => h.elim), h2.mono (fun x k d => by unfold dJ at d; omega) (fun x h => h.elim)⟩)
    obtain ⟨g, ge, hG⟩ := g1 hg; subst ge; clear hg; have hg := hG; clear hG; rw [E_X12_weeks_0]; unfold F_X12_weeks_0
    refine o_I (T_X12_isWithin (by omega)) ?_
    rintro _ S ⟨rfl, rfl⟩
    refine o_f n1 ?_
    refine o_I (T_X12_isWithin (by omega)) ?_
    rintro _ S ⟨rfl, rfl⟩
    refine o_f n2 ?_
    refine o_I (T_X12_isWithin (by omega)) ?_
    rintro _ S ⟨rfl, rfl⟩
    refine o_f n3 ?_
    rw [hX.c11]
    refine o_R (T_X9_afterWeeks hX hL hB (by omega) (show sd < 2147483648 by omega) hr2 (by omega)) ?_
    rintro _ S1 ⟨rfl, l1, f2⟩
    rw [← eW] at l1
    have x1 : CX S1 q (plA A) := hX.fg f2 (fun x k d => by unfold dJ at d; unfold dN; omega) (fun x _ h => h)
    have n1' := hL.fg f2 (fun x k a b d => by unfold dJ at d; omega) id
    rcases (show j = 0 ∨ j = 1 ∨ j = 2 by omega) with rfl | rfl | rfl
    · refine o_t rfl ?_
      refine o_I (T_X4_total l1 hy (by omega)) ?_
      rintro _ S1 ⟨rfl, rfl⟩
      exact i_r ⟨rfl, f2⟩
    · refine o_f (by decide) (i_r ⟨?_, f2⟩)
      rw [if_pos (show nI 1 = (1 : Int32) from rfl), x1.c5, show gI S1 118 5 = nI (W.1 1) from l1.c 1 (by omega), show gI S1 43 5 = nI (lkA A 1) from n1'.c 1 (by omega)]
      rfl
    · refine o_f (by decide) (i_r ⟨?_, f2⟩)
      rw [if_neg (show ¬ nI 2 = (1 : Int32) by decide), x1.c5, show gI S1 118 7 = nI (W.1 3) from l1.c 3 (by omega), show gI S1 43 7 = nI (lkA A 3) from n1'.c 3 (by omega)]
      rfl
  · refine i_m (P := fun x V => x = (if j = 0 then nI (tot (pY (plA A)) W.1) else if j = 1 then nI (W.1 1) - nI (lkA A 1) else nI (W.1 3) - nI (lkA A 3)) ∧ Fg mJ noR T V) ?_ (fun x V ⟨h1, h2⟩ => ⟨h1, hM.fg hA h2 (fun x k d => Or.inl d) (fun x h => h.elim), h2.mono (fun x k d => by unfold mJ at d; omega) (fun x h => h)⟩)
    have xx : ∀ U, Fg mJ noR T U → MX U (plA A) (lkA A) := fun U hf => ⟨mx.1.fg hf (fun q k a b d => by unfold mJ at d; omega) id, mx.2.1.fg hf (fun k a b d => by unfold mJ at d; omega), ⟨by have := mx.2.2.1.1; rw [hf.I (by unfold mJ; omega)]; exact this, mx.2.2.1.2⟩, mx.2.2.2⟩
    obtain ⟨g, ge, hG⟩ := g1 hg; subst ge; clear hg; have hg := hG; clear hG; rw [E_X13_weeks_0]; unfold F_X13_weeks_0
    rw [← e1]
    show zO (bI _ _) _
    refine o_I (T_X13_within (by omega)) ?_
    rintro _ T1 ⟨rfl, rfl⟩
    refine o_f n1 ?_
    refine o_I (T_X13_within (by omega)) ?_
    rintro _ T1 ⟨rfl, rfl⟩
    refine o_f n2 ?_
    refine o_I (T_X13_within (by omega)) ?_
    rintro _ T1 ⟨rfl, rfl⟩
    refine o_f n3 ?_
    refine o_V (T_X13_cp (a := 0) (b := 792) m1.1 m1.2.1 (by omega) (by omega) (by omega) (by omega)) ?_
    rintro T2 ⟨a2, -, -, f2⟩
    rw [nI_l (show sd < 2 ^ 31 by omega)]
    refine o_sJ (fun T3 e3 => ?_)
    have f3 : Fg mJ noR T T3 := ((f1.tr (f2.mono (dX_mJ (b := 792) (by omega)))).g).sJ e3 (by unfold mJ; omega)
    have a3 : MA T3 792 (lkA A) := a2.fg ((Fg.refl (D := fun x _ => x = 186) (R := noR) T2).sJ e3 rfl) (fun k a b c => by omega)
    have j3 : gJ T3 186 35 = lN sd := by subst e3; rw [gJ_sJ, if_pos ⟨rfl, rfl⟩]
    have r3 : ∀ (U : aS) (g : Nat) (v : Int32), 1 ≤ g → Fg mJ noR T U → zI (F_X13_weeks g 3 [.int v] U) (fun x V => x = v ∧ Fg mJ noR T V) := by
      intro U g v hg hf
      obtain ⟨g, ge, hG⟩ := g1 hg; subst ge; clear hg; have hg := hG; clear hG; rw [E_X13_weeks_3]; unfold F_X13_weeks_3
      exact i_r ⟨rfl, hf⟩
    refine o_loop (F := fun f vs S => F_X13_weeks f 2 vs S) (c := 32) (B := 4700) (y := hr) (fun k vs U => vs = [.ref 186, .int (nI hr), .int (nI j), .int (nI k)] ∧ MA U 792 (wkN (plA A) (lkA A, sd) k).1 ∧ gJ U 186 35 = lN (wkN (plA A) (lkA A, sd) k).2 ∧ Fg mJ noR T U) ?_ ?_ 0 _ T3 g (by omega) ⟨rfl, a3, j3, f3⟩ (by omega)
    · rintro k _ U g hk ⟨rfl, aU, jU, hf⟩ hg rk
      obtain ⟨i1, i2⟩ := wkN_i (x := (lkA A, sd)) hX.pi hB (show sd < 2147483648 by omega) k
      simp only [wkN] at rk
      generalize wkN (plA A) (lkA A, sd) k = x at aU jU i1 i2 rk
      have mU := xx U hf
      have tail : ∀ (V : aS) (g' : Nat), 4720 ≤ g' → g ≤ g' + 8 → MA V 792 (wkB (plA A) x).1 → gJ V 186 35 = lN (wkB (plA A) x).2 → Fg mJ noR T V → zI (F_X13_weeks g' 5 [.ref 186, .int (nI hr), .int (nI j), .int (nI k)] V) (fun x V => x = (if j = 0 then nI (tot (pY (plA A)) W.1) else if j = 1 then nI (W.1 1) - nI (lkA A 1) else nI (W.1 3) - nI (lkA A 3)) ∧ Fg mJ noR T V) := by
        intro V g' hg hgg hV jV hfV
        obtain ⟨b1, b2⟩ := wkB_i hX.pi i1 i2
        unfold wkH at rk
        generalize wkB (plA A) x = y at hV jV b1 b2 rk
        obtain ⟨g', rfl, hg⟩ := g1 (n := 4719) (f := g') (by omega)
        rw [E_X13_weeks_5]; unfold F_X13_weeks_5
        refine o_I (T_X13_draw (m := 5) jV b2 (by omega) (by omega) (by omega)) ?_
        rintro _ V1 ⟨rfl, v1⟩
        have k1 : Fg (fun x k => x = 186 ∧ k = 35) noR V V1 := (Fg.refl _).sJ v1 ⟨rfl, rfl⟩
        have hV1 := hV.fg k1 (fun k a b c => by omega)
        have jV1 : gJ V1 186 35 = lN (dr y.2) := by subst v1; rw [gJ_sJ, if_pos ⟨rfl, rfl⟩]
        have ff1 : Fg mJ noR T V1 := hfV.tr (k1.mono (fun x k d => by unfold mJ; omega) (fun _ h => h))
        have hdw : dw 5 (dr y.2) < 5 := Nat.mod_lt _ (by omega)
        refine o_lI ?_
        have ey : (if nI (dw 5 (dr y.2)) = (0 : Int32) then (1 : Int32) else 0) = if dw 5 (dr y.2) = 0 then 1 else 0 := by
          by_cases c : dw 5 (dr y.2) = 0
          · rw [if_pos c, c]; rfl
          · rw [if_neg c, if_neg (show ¬ nI (dw 5 (dr y.2)) = (0 : Int32) from nI_ne (b := 0) c (by omega) (by omega))]
        rw [ey]
        clear v1 k1 hV jV ey
        refine o_loopT (F := fun f vs S => F_X13_weeks f 6 vs S) (c := 2) (B := 4700) (y := pY (plA A)) (fun i vs V2 => vs = [.ref 186, .int (nI hr), .int (nI j), .int (nI k), .int (if dw 5 (dr y.2) = 0 then 1 else 0), .int (nI i)] ∧ MA V2 792 (if dw 5 (dr y.2) = 0 then empTo y.1 (pPe (plA A)) i else y.1) ∧ gJ V2 186 35 = lN (dr y.2) ∧ Fg mJ noR T V2) ?_ ?_ _ V1 ⟨rfl, by split <;> exact hV1, jV1, ff1⟩ (by omega)
        · rintro i _ V2 g2 hi ⟨rfl, aV, jV2, hf2⟩ hg2 rk2
          have mV := xx V2 hf2
          show zO (F_X13_weeks g2 6 _ _) _
          obtain ⟨g2, rfl, hg2⟩ := g1 (n := 4701) (f := g2) (by omega)
          rw [E_X13_weeks_6]; unfold F_X13_weeks_6
          refine o_I (T_X13_yards mV.1 (by omega)) ?_
          rintro _ V2 ⟨rfl, rfl⟩
          refine o_f (nI_ge hi (by omega)) ?_
          have nxt : ∀ (V3 : aS) (g3 : Nat), g2 ≤ g3 → MA V3 792 (if dw 5 (dr y.2) = 0 then empTo y.1 (pPe (plA A)) (i + 1) else y.1) → gJ V3 186 35 = lN (dr y.2) → Fg mJ noR T V3 → zI (F_X13_weeks g3 7 [.ref 186, .int (nI hr), .int (nI j), .int (nI k), .int (if dw 5 (dr y.2) = 0 then 1 else 0), .int (nI i)] V3) (fun x V => x = (if j = 0 then nI (tot (pY (plA A)) W.1) else if j = 1 then nI (W.1 1) - nI (lkA A 1) else nI (W.1 3) - nI (lkA A 3)) ∧ Fg mJ noR T V) := by
            intro V3 g3 hg3 q1 q2 q3
            obtain ⟨g3, rfl, hg4⟩ := g1 (n := 4700) (f := g3) (by omega)
            rw [E_X13_weeks_7]; unfold F_X13_weeks_7
            exact rk2 g3 _ _ (by omega) ⟨by rw [nI_1], q1, q2, q3⟩
          by_cases c : dw 5 (dr y.2) = 0
          · rw [if_pos c] at aV nxt ⊢
            rw [if_pos c] at nxt
            refine o_f (by decide) ?_
            refine o_I (T_X13_isBin (b := 792) mV.1.1 aV (empTo_LI b1 _ (by omega)) (by omega) (by omega) (by omega)) ?_
            rintro _ V2 ⟨rfl, rfl⟩
            have es : empTo y.1 (pPe (plA A)) (i + 1) = if empTo y.1 (pPe (plA A)) i (12 + i) = 0 then empTo y.1 (pPe (plA A)) i else empB (empTo y.1 (pPe (plA A)) i) i (pPe (plA A)) := rfl
            by_cases cz : empTo y.1 (pPe (plA A)) i (12 + i) = 0
            · rw [if_pos cz]
              rw [if_pos cz] at es
              refine o_t rfl ?_
              exact nxt V2 g2 (Nat.le_refl _) (by rw [es]; exact aV) jV2 hf2
            · rw [if_neg cz]
              rw [if_neg cz] at es
              refine o_f (by decide) ?_
              refine o_I (T_X13_empties (b := 792) mV.1 aV (by omega) (by omega) (by omega)) ?_
              rintro _ V3 ⟨rfl, p1, p2⟩
              exact nxt V3 g2 (Nat.le_refl _) (by rw [es]; exact p1) (by rw [p2.J]; exact jV2) (hf2.tr (p2.g.mono (dX_mJ (b := 792) (by omega)) (fun _ h => h)))
          · rw [if_neg c] at aV nxt ⊢
            rw [if_neg c] at nxt
            refine o_t rfl ?_
            exact nxt V2 g2 (Nat.le_refl _) aV jV2 hf2
        · rintro _ V2 g2 ⟨rfl, aV, jV2, hf2⟩ hg2 hgg2
          have mV := xx V2 hf2
          show zO (F_X13_weeks g2 6 _ _) _
          obtain ⟨g2, rfl, hg2⟩ := g1 (n := 4701) (f := g2) (by omega)
          rw [E_X13_weeks_6]; unfold F_X13_weeks_6
          refine o_I (T_X13_yards mV.1 (by omega)) ?_
          rintro _ V2 ⟨rfl, rfl⟩
          refine o_t (nI_le (Nat.le_refl _) (by omega)) ?_
          have b3 : LI (n + k) (if dw 5 (dr y.2) = 0 then empTo y.1 (pPe (plA A)) (pY (plA A)) else y.1) := by
            split
            · exact empTo_LI b1 _ hy
            · exact b1
          refine o_I (T_X13_passes (b := 792) mV.1 hX.pi aV b3 (by omega) (by omega) (by omega)) ?_
          rintro _ V3 ⟨rfl, p1, p2⟩
          exact rk g2 _ _ (by omega) ⟨by rw [nI_1], p1, by rw [p2.J]; exact jV2, hf2.tr (p2.g.mono (dP_mJ (b := 792) (by omega)) (fun _ h => h))⟩
      show zO (F_X13_weeks g 2 _ _) _
      replace hg : 4731 + 1 ≤ g := by omega
      obtain ⟨g, ge, hG⟩ := g1 hg; subst ge; clear hg; have hg := hG; clear hG; rw [E_X13_weeks_2]; unfold F_X13_weeks_2
      refine o_f (nI_ge hk (by omega)) ?_
      by_cases c0 : pN (plA A) = 0
      · have e : wkB (plA A) x = x := if_pos c0
        obtain ⟨g, ge, hG⟩ := g1 hg; subst ge; clear hg; have hg := hG; clear hG; rw [E_X13_weeks_4]; unfold F_X13_weeks_4
        refine o_f (by decide) ?_
        refine o_I (T_X13_people mU.1 (by omega)) ?_
        rintro _ U ⟨rfl, rfl⟩
        rw [c0]
        refine o_t (by decide) ?_
        exact tail U g (by omega) (by omega) (by rw [e]; exact aU) (by rw [e]; exact jU) hf
      · have eB : wkB (plA A) x = w3 (plA A) x 3 := if_neg c0
        rw [eB] at tail
        refine o_loopT (F := fun f vs S => F_X13_weeks f 4 vs S) (c := 1) (B := 4725) (y := 3) (fun i vs V => vs = [.ref 186, .int (nI hr), .int (nI j), .int (nI k), .int (nI i)] ∧ MA V 792 (w3 (plA A) x i).1 ∧ gJ V 186 35 = lN (w3 (plA A) x i).2 ∧ Fg mJ noR T V) ?_ ?_ _ U ⟨rfl, aU, jU, hf⟩ (by omega)
        · rintro i _ V g hi ⟨rfl, hV, jV, hf⟩ hg rk2
          obtain ⟨b1, b2⟩ := w3_i hX.pi (by omega) i1 i2 i
          simp only [w3] at rk2
          generalize w3 (plA A) x i = y at hV jV b1 b2 rk2
          have mV := xx V hf
          show zO (F_X13_weeks g 4 _ _) _
          obtain ⟨g, ge, hG⟩ := g1 hg; subst ge; clear hg; have hg := hG; clear hG; rw [E_X13_weeks_4]; unfold F_X13_weeks_4
          refine o_f (nI_ge (b := 3) hi (by omega)) ?_
          refine o_I (T_X13_people mV.1 (by omega)) ?_
          rintro _ V ⟨rfl, rfl⟩
          refine o_f (nI_nle (by omega) (by omega)) ?_
          refine o_I (T_X13_people mV.1 (by omega)) ?_
          rintro _ V ⟨rfl, rfl⟩
          refine o_I (T_X13_draw jV b2 (by omega) (by omega) (by omega)) ?_
          rintro _ V1 ⟨rfl, v1⟩
          have k1 : Fg (fun x k => x = 186 ∧ k = 35) noR V V1 := (Fg.refl _).sJ v1 ⟨rfl, rfl⟩
          have hV1 := hV.fg k1 (fun k a b c => by omega)
          have jV1 : gJ V1 186 35 = lN (dr y.2) := by subst v1; rw [gJ_sJ, if_pos ⟨rfl, rfl⟩]
          have ff1 : Fg mJ noR T V1 := hf.tr (k1.mono (fun x k d => by unfold mJ; omega) (fun _ h => h))
          have mV1 := xx V1 ff1
          refine o_I (T_X13_walks (b := 792) mV1.1 hX.pi hV1 b1 (by omega) (Nat.mod_lt _ (by omega)) mV1.2.2.1 (by omega)) ?_
          rintro _ V2 ⟨rfl, z1, -, z2⟩
          exact rk2 g _ _ (by omega) ⟨by rw [nI_1], z1, by rw [z2.J]; exact jV1, ff1.tr (z2.g.mono (dX_mJ (b := 792) (by omega)) (fun _ h => h))⟩
        · rintro _ V g' ⟨rfl, hV, jV, hf⟩ hg' hgg
          show zO (F_X13_weeks g' 4 _ _) _
          obtain ⟨g', rfl, hg'⟩ := g1 (n := 4725) (f := g') (by omega)
          rw [E_X13_weeks_4]; unfold F_X13_weeks_4
          refine o_t (nI_le (a := 3) (b := 3) (by omega) (by omega)) ?_
          exact tail V g' (by omega) (by omega) hV jV hf
    · rintro _ U g ⟨rfl, aU, jU, hf⟩ hg
      rw [← eW] at aU
      have mU := xx U hf
      show zO (F_X13_weeks g 2 _ _) _
      obtain ⟨g, ge, hG⟩ := g1 hg; subst ge; clear hg; have hg := hG; clear hG; rw [E_X13_weeks_2]; unfold F_X13_weeks_2
      refine o_t (nI_le (Nat.le_refl _) (by omega)) ?_
      rcases (show j = 0 ∨ j = 1 ∨ j = 2 by omega) with rfl | rfl | rfl
      · refine o_t rfl ?_
        refine o_I (T_X13_lyingIn (b := 792) mU.1 hX.pi aU (by omega) (by omega)) ?_
        rintro _ U ⟨rfl, rfl⟩
        exact r3 U g _ (by omega) hf
      · refine o_f (by decide) (o_t rfl ?_)
        refine o_X (n := 793) rfl (by omega) ?_
        refine o_X (n := 1) rfl (by omega) ?_
        rw [mU.1.1.state, show gI U 200 793 = nI (W.1 1) from aU 1 (by omega), mU.2.1.z (by omega)]
        exact r3 U g _ (by omega) hf
      · refine o_f (by decide) (o_f (by decide) ?_)
        refine o_X (n := 795) rfl (by omega) ?_
        refine o_X (n := 3) rfl (by omega) ?_
        rw [mU.1.1.state, show gI U 200 795 = nI (W.1 3) from aU 3 (by omega), mU.2.1.z (by omega)]
        exact r3 U g _ (by omega) hf
end PW

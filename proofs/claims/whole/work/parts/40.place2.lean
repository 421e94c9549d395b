/-! places and moves: both alike -/
section PL2
variable {S T : aS} {A : aA} {q f n B : Nat} {P : aP} {L M : Lk}
/-- what the reference holds of the best, behind s sets -/
def plM (P : aP) (L : Lk) (b m s : Nat) : Int32 × Int32 := if s = 0 then (-1, 0) else (nI (plN P L b m s).2, nI (plN P L b m s).1)
theorem T_X13_place {b m j : Nat} (h : MX S P L) (hB : LI B L) (hb : b ≤ 4) (hm : m ≤ 30) (hj : j ≤ 1) (hg : 18000 ≤ f) : zI (F_X13_place f 2 [.ref 186, .int (nI b), .int (nI m), .int (nI j), .int (-1), .int 0, .int 0] S) (fun x T => x = nI (if j = 0 then (plN P L b m (2 ^ pY P)).1 else (plN P L b m (2 ^ pY P)).2) ∧ Fr mJ S T) := by
  have hI := h.2.2.2
  have hy := hI.1.2.1
  have hp8 := pow8 hy
  obtain ⟨N, hN⟩ : ∃ N, N = 2 ^ pY P := ⟨_, rfl⟩
  have hN0 : 0 < N := by rw [hN]; exact Nat.two_pow_pos _
  rw [← hN] at hp8 ⊢
  refine o_loop (F := fun f vs S => F_X13_place f 2 vs S) (c := 50) (B := 4900) (y := N) (fun s vs T => vs = [.ref 186, .int (nI b), .int (nI m), .int (nI j), .int (plM P L b m s).1, .int (plM P L b m s).2, .int (nI s)] ∧ Fr mJ S T) ?_ ?_ 0 _ S f (by omega) ⟨rfl, Fr.refl S⟩ (by omega)
  · rintro s _ T g hs ⟨rfl, hf⟩ hg rec
    have mT := h.j hf
    obtain ⟨i1, i2⟩ := plN_i (b := b) hI hB hm s
    have hv := plV_le (s := s) hI hB hm
    have hpc : pc s ≤ 8 := cnt_le _ 8
    have e : plN P L b m (s + 1) = if okS L (pY P) b s then offS (plN P L b m s) (plV P L m s) s else plN P L b m s := rfl
    have eM : plM P L b m (s + 1) = (nI (plN P L b m (s + 1)).2, nI (plN P L b m (s + 1)).1) := if_neg (by omega)
    show zO (F_X13_place g 2 _ _) _
    replace hg : 4949 + 1 ≤ g := by omega
    obtain ⟨g, ge, hG⟩ := g1 hg; subst ge; clear hg; have hg := hG; clear hG; rw [E_X13_place_2]; unfold F_X13_place_2
    refine o_I (T_X13_yards mT.1 (by omega)) ?_
    rintro _ T ⟨rfl, rfl⟩
    rw [sh1 _ (by omega), ← hN]
    refine o_f (nI_ge hs (by omega)) ?_
    refine o_I (T_X13_bits (by omega) (by omega)) ?_
    rintro _ T ⟨rfl, rfl⟩
    -- the end of a step
    have r4 : ∀ (U : aS) (g2 : Nat), 4900 ≤ g2 → g ≤ g2 + 48 → Fr mJ S U → zI (F_X13_place g2 4 [.ref 186, .int (nI b), .int (nI m), .int (nI j), .int (plM P L b m (s + 1)).1, .int (plM P L b m (s + 1)).2, .int (nI s)] U) (fun x T => x = nI (if j = 0 then (plN P L b m N).1 else (plN P L b m N).2) ∧ Fr mJ S T) := by
      intro U g2 hg2 hgg hfU
      obtain ⟨g2, rfl, hg2⟩ := g1 (n := 4899) (f := g2) (by omega)
      rw [E_X13_place_4]; unfold F_X13_place_4
      exact rec g2 _ _ (by omega) ⟨by rw [nI_1], hfU⟩
    -- may it be
    have ew : (if nI b < nI (pc s) then (0 : Int32) else 1) = if decide (pc s ≤ b) then 1 else 0 := by
      by_cases c : pc s ≤ b
      · rw [if_neg (nI_nlt c (by omega)), decide_eq_true c]; rfl
      · rw [if_pos (nI_lt (by omega) (by omega)), decide_eq_false c]; rfl
    rw [ew]
    refine o_loopT (F := fun f vs S => F_X13_place f 3 vs S) (c := 3) (B := 4900) (y := pY P) (fun k vs U => ∃ w : Bool, vs = [.ref 186, .int (nI b), .int (nI m), .int (nI j), .int (plM P L b m s).1, .int (plM P L b m s).2, .int (nI s), .int (if w then 1 else 0), .int (nI k)] ∧ (w = true ↔ pc s ≤ b ∧ ∀ x, x < k → ¬ (s.testBit x = true ∧ L (12 + x) ≠ 0)) ∧ Fr mJ S U) ?_ ?_ _ T ⟨_, rfl, by simp, hf⟩ (by omega)
    · rintro k _ U g2 hk ⟨w, rfl, hw, hfU⟩ hg2 rk2
      have mU := h.j hfU
      show zO (F_X13_place g2 3 _ _) _
      obtain ⟨g2, rfl, hg2⟩ := g1 (n := 4902) (f := g2) (by omega)
      rw [E_X13_place_3]; unfold F_X13_place_3
      refine o_I (T_X13_yards mU.1 (by omega)) ?_
      rintro _ U ⟨rfl, rfl⟩
      refine o_f (nI_ge hk (by omega)) ?_
      have r11 : ∀ (g3 : Nat) (w2 : Bool), g2 ≤ g3 + 1 → (w2 = true ↔ pc s ≤ b ∧ ∀ x, x < k + 1 → ¬ (s.testBit x = true ∧ L (12 + x) ≠ 0)) → zI (F_X13_place g3 11 [.ref 186, .int (nI b), .int (nI m), .int (nI j), .int (plM P L b m s).1, .int (plM P L b m s).2, .int (nI s), .int (nI k), .int (if w2 then 1 else 0)] U) (fun x T => x = nI (if j = 0 then (plN P L b m N).1 else (plN P L b m N).2) ∧ Fr mJ S T) := by
        intro g3 w2 hg3 hw2
        obtain ⟨g3, rfl, hg4⟩ := g1 (n := 4900) (f := g3) (by omega)
        rw [E_X13_place_11]; unfold F_X13_place_11
        exact rk2 g3 _ _ (by omega) ⟨w2, by rw [nI_1], hw2, hfU⟩
      cases w with
      | false =>
        refine o_t rfl ?_
        obtain ⟨g2, rfl, hg2⟩ := g1 (n := 4901) (f := g2) (by omega)
        rw [E_X13_place_6]; unfold F_X13_place_6
        refine r11 g2 false (by omega) ⟨fun h => (by cases h), fun h => ?_⟩
        exact absurd (hw.mpr ⟨h.1, fun x hx => h.2 x (by omega)⟩) (by decide)
      | true =>
        have hw1 := hw.mp rfl
        refine o_f (by decide) ?_
        refine o_if (fun c => ?_) (fun c => ?_)
        · rw [bitI0 (by omega) (by omega)] at c
          obtain ⟨g2, rfl, hg2⟩ := g1 (n := 4901) (f := g2) (by omega)
          rw [E_X13_place_7]; unfold F_X13_place_7
          refine r11 g2 true (by omega) ⟨fun _ => ⟨hw1.1, fun x hx hh => ?_⟩, fun _ => rfl⟩
          by_cases ex : x = k
          · rw [ex, c] at hh; exact absurd hh.1 (by decide)
          · exact hw1.2 x (by omega) hh
        · rw [bitI0 (by omega) (by omega)] at c
          refine o_I (T_X13_isBin (b := 0) mU.1.1 mU.2.1 hB (by omega) (by omega) (by omega)) ?_
          rintro _ U ⟨rfl, rfl⟩
          refine o_lI ?_
          have e2 : (if (if L (12 + k) = 0 then (0 : Int32) else 1) = 0 then (1 : Int32) else 0) = if decide (L (12 + k) = 0) then 1 else 0 := by
            by_cases z : L (12 + k) = 0
            · rw [if_pos z, decide_eq_true z]; rfl
            · rw [if_neg z, decide_eq_false z]; rfl
          rw [e2, nI_1]
          refine rk2 g2 _ _ (by omega) ⟨_, rfl, ⟨fun hh => ⟨hw1.1, fun x hx hx2 => ?_⟩, fun hh => ?_⟩, hfU⟩
          · by_cases ex : x = k
            · rw [ex] at hx2; exact hx2.2 (of_decide_eq_true hh)
            · exact hw1.2 x (by omega) hx2
          · apply decide_eq_true
            exact Classical.byContradiction (fun hz => hh.2 k (by omega) ⟨by simpa using c, hz⟩)
    · rintro _ U g2 ⟨w, rfl, hw, hfU⟩ hg2 hgg2
      have mU := h.j hfU
      have hwo : w = okS L (pY P) b s := by
        rw [Bool.eq_iff_iff, hw]
        unfold okS
        rw [Bool.and_eq_true, decide_eq_true_eq, decide_eq_true_eq]
      show zO (F_X13_place g2 3 _ _) _
      obtain ⟨g2, rfl, hg2⟩ := g1 (n := 4902) (f := g2) (by omega)
      rw [E_X13_place_3]; unfold F_X13_place_3
      refine o_I (T_X13_yards mU.1 (by omega)) ?_
      rintro _ U ⟨rfl, rfl⟩
      refine o_t (nI_le (Nat.le_refl _) (by omega)) ?_
      rw [hwo]
      by_cases hok : okS L (pY P) b s = true
      · rw [if_pos hok] at e ⊢
        refine o_f (by decide) ?_
        refine o_V (mU.cp (by omega)) ?_
        rintro U2 ⟨a2, m2, k2⟩
        have hc : ∀ k, k < pY P → ¬ (s.testBit k = true ∧ L (12 + k) ≠ 0) := by
          rw [← hwo] at hok
          exact (hw.mp hok).2
        have fU2 := hfU.tr k2
        refine o_loopT (F := fun f vs S => F_X13_place f 5 vs S) (c := 2) (B := 4800) (y := pY P) (fun k vs V => vs = [.ref 186, .int (nI b), .int (nI m), .int (nI j), .int (plM P L b m s).1, .int (plM P L b m s).2, .int (nI s), .int (nI k)] ∧ MA V 756 (plc L s m k) ∧ Fr mJ S V) ?_ ?_ _ U2 ⟨rfl, a2, fU2⟩ (by omega)
        · rintro k _ V g3 hk ⟨rfl, aV, hfV⟩ hg3 rk3
          have mV := h.j hfV
          show zO (F_X13_place g3 5 _ _) _
          obtain ⟨g3, rfl, hg3⟩ := g1 (n := 4801) (f := g3) (by omega)
          rw [E_X13_place_5]; unfold F_X13_place_5
          refine o_I (T_X13_yards mV.1 (by omega)) ?_
          rintro _ V ⟨rfl, rfl⟩
          refine o_f (nI_ge hk (by omega)) ?_
          rw [mV.1.1.state, nA2' (n := 768) (c := 768) rfl]
          have ep : plc L s m (k + 1) = if s.testBit k then setB (plc L s m k) k m else plc L s m k := rfl
          have hev : gI V 200 (768 + k) = nI (plc L s m k (12 + k)) := by have := aV (12 + k) (by omega); rw [← Nat.add_assoc] at this; exact this
          refine o_e (r2 := F_X13_place g3 10 [.ref 186, .int (nI b), .int (nI m), .int (nI j), .int (plM P L b m s).1, .int (plM P L b m s).2, .int (nI s), .int (nI k), .int (nI (if s.testBit k then m else plc L s m k (12 + k))), .int (nI (768 + k)), .ref 200] V) ?_ ?_
          · by_cases c : s.testBit k = true
            · rw [if_pos ((bitI1 (by omega) (by omega)).mpr c), if_pos c]
            · rw [if_neg (fun hh => c ((bitI1 (by omega) (by omega)).mp hh)), if_neg c]
              refine (bX_ok rfl (by omega)).trans ?_
              rw [hev]
          obtain ⟨g3, rfl, hg3⟩ := g1 (n := 4800) (f := g3) (by omega)
          rw [E_X13_place_10]; unfold F_X13_place_10
          refine o_X rfl (by omega) ?_
          refine o_s (fun V2 v2 => ?_)
          have aV2 : MA V2 756 (up1 (plc L s m k) (12 + k) (if s.testBit k then m else plc L s m k (12 + k))) := aV.s (k := 12 + k) (by rw [← Nat.add_assoc]; exact v2)
          refine rk3 g3 _ _ (by omega) ⟨by rw [nI_1], aV2.cg (fun x hx => ?_), hfV.sI v2 (by unfold mJ; omega)⟩
          rw [ep]
          by_cases c : s.testBit k = true
          · rw [if_pos c, if_pos c]
            unfold setB
            simp only [up1_at]
            by_cases c2 : x = 20 + k
            · rw [if_pos c2, if_neg (by omega), c2, (plc_hi k (Nat.le_refl _)).1]
              have hz : L (12 + k) = 0 := Classical.byContradiction (fun hz => hc k hk ⟨c, hz⟩)
              have := (hB.2 k (by omega)).2.1
              omega
            · rw [if_neg c2]
          · rw [if_neg c, if_neg c, up1_self]
        · rintro _ V g3 ⟨rfl, aV, hfV⟩ hg3 hgg3
          have mV := h.j hfV
          show zO (F_X13_place g3 5 _ _) _
          obtain ⟨g3, rfl, hg3⟩ := g1 (n := 4801) (f := g3) (by omega)
          rw [E_X13_place_5]; unfold F_X13_place_5
          refine o_I (T_X13_yards mV.1 (by omega)) ?_
          rintro _ V ⟨rfl, rfl⟩
          refine o_t (nI_le (Nat.le_refl _) (by omega)) ?_
          refine o_V (T_X13_all (b := 756) mV.1 hI aV (plc_LI hB hm _ hy) (by omega) mV.2.2.1 (by omega)) ?_
          rintro V2 ⟨aV2, k3⟩
          have fV2 := hfV.tr (k3.mono (dX_mJ (b := 756) (by omega)))
          have mV2 := h.j fV2
          refine o_I (T_X13_lyingIn (b := 756) mV2.1 hI aV2 (by omega) (by omega)) ?_
          rintro _ V2 ⟨rfl, rfl⟩
          have ev : tot (pY P) (awA P (pDe P) (plc L s m (pY P))) = plV P L m s := rfl
          rw [ev]
          have out : ∀ (g4 : Nat) (w : Int32), 4792 ≤ g4 → g ≤ g4 + 46 → (if w = 0 then (plM P L b m s).1 else nI s) = nI (plN P L b m (s + 1)).2 → (if w = 0 then (plM P L b m s).2 else nI (plV P L m s)) = nI (plN P L b m (s + 1)).1 → zI (F_X13_place g4 12 [.ref 186, .int (nI b), .int (nI m), .int (nI j), .int (plM P L b m s).1, .int (plM P L b m s).2, .int (nI s), .int (nI (plV P L m s)), .int w] V2) (fun x T => x = nI (if j = 0 then (plN P L b m N).1 else (plN P L b m N).2) ∧ Fr mJ S T) := by
            intro g4 w hg4 hgg4 o1 o2
            obtain ⟨g4, rfl, hg4⟩ := g1 (n := 4791) (f := g4) (by omega)
            rw [E_X13_place_12]; unfold F_X13_place_12
            rw [o1, o2]
            have := r4 V2 g4 (by omega) (by omega) fV2
            rw [eM] at this
            exact this
          by_cases hs0 : s = 0
          · subst hs0
            have p0 : plM P L b m 0 = (-1, 0) := rfl
            have n1 : plN P L b m (0 + 1) = (plV P L m 0, 0) := by
              rw [e]
              exact if_pos (Or.inl (show plV P L m 0 < 7993 by omega))
            rw [p0] at out ⊢
            refine o_t (by decide) ?_
            obtain ⟨g3, rfl, hg3⟩ := g1 (n := 4799) (f := g3) (by omega)
            rw [E_X13_place_8]; unfold F_X13_place_8
            exact out g3 1 (by omega) (by omega) (by rw [n1]; rfl) (by rw [n1]; rfl)
          · have p0 : plM P L b m s = (nI (plN P L b m s).2, nI (plN P L b m s).1) := if_neg hs0
            rw [p0] at out ⊢
            generalize plN P L b m s = x at i1 i2 e out
            have p2 : pc x.2 ≤ 8 := cnt_le _ 8
            refine o_f (nI_pos (by omega)) ?_
            refine o_if (fun c => ?_) (fun c => ?_)
            · rw [nI_ltI (by omega) (by omega)] at c
              have n1 : plN P L b m (s + 1) = (plV P L m s, s) := by
                rw [e]
                exact if_pos (Or.inl c)
              obtain ⟨g3, rfl, hg3⟩ := g1 (n := 4799) (f := g3) (by omega)
              rw [E_X13_place_8]; unfold F_X13_place_8
              exact out g3 1 (by omega) (by omega) (by rw [n1]; rfl) (by rw [n1]; rfl)
            · rw [nI_ltI (by omega) (by omega)] at c
              refine o_if (fun c2 => ?_) (fun c2 => ?_)
              · rw [nI_eq (by omega) (by omega)] at c2
                refine o_I (T_X13_bits (by omega) (by omega)) ?_
                rintro _ V2 ⟨rfl, rfl⟩
                refine o_I (T_X13_bits (by omega) (by omega)) ?_
                rintro _ V2 ⟨rfl, rfl⟩
                refine o_lI ?_
                refine o_lI ?_
                have fin := r4 V2 g3 (by omega) (by omega) fV2
                rw [eM] at fin
                by_cases c3 : pc s < pc x.2
                · have n1 : plN P L b m (s + 1) = (plV P L m s, s) := by
                    rw [e]
                    exact if_pos (Or.inr ⟨c2, Or.inl c3⟩)
                  rw [if_neg (nI_ge c3 (by omega)), if_neg (by decide), if_neg (by decide)]
                  rw [n1] at fin
                  exact fin
                · have n1 : plN P L b m (s + 1) = x := by
                    rw [e]
                    exact if_neg (by omega)
                  rw [if_pos (nI_le (by omega) (by omega)), if_pos rfl, if_pos rfl]
                  rw [n1] at fin
                  exact fin
              · rw [nI_eq (by omega) (by omega)] at c2
                have n1 : plN P L b m (s + 1) = x := by
                  rw [e]
                  exact if_neg (by omega)
                obtain ⟨g3, rfl, hg3⟩ := g1 (n := 4799) (f := g3) (by omega)
                rw [E_X13_place_9]; unfold F_X13_place_9
                exact out g3 0 (by omega) (by omega) (by rw [n1]; rfl) (by rw [n1]; rfl)
      · rw [if_neg hok] at e ⊢
        refine o_t rfl ?_
        have hs0 : s ≠ 0 := fun h0 => hok (by rw [h0]; exact okS_0)
        have := r4 U g2 (by omega) (by omega) hfU
        rw [eM, e] at this
        unfold plM
        rw [if_neg hs0]
        exact this
  · rintro _ T g ⟨rfl, hf⟩ hg
    have mT := h.j hf
    show zO (F_X13_place g 2 _ _) _
    obtain ⟨g, ge, hG⟩ := g1 hg; subst ge; clear hg; have hg := hG; clear hG; rw [E_X13_place_2]; unfold F_X13_place_2
    refine o_I (T_X13_yards mT.1 (by omega)) ?_
    rintro _ T ⟨rfl, rfl⟩
    rw [sh1 _ (by omega), ← hN]
    refine o_t (nI_le (Nat.le_refl _) (by omega)) (i_r ⟨?_, hf⟩)
    have p0 : plM P L b m N = (nI (plN P L b m N).2, nI (plN P L b m N).1) := if_neg (by omega)
    rw [p0]
    rcases (show j = 0 ∨ j = 1 by omega) with rfl | rfl
    · rfl
    · rfl
theorem B_place {a b c : Int32} (hg : 20000 ≤ f) : Both n (fun S => F_X12_place f 0 [.ref 0, .int a, .int b, .int c] S) (fun S => F_X13_place f 0 [.ref 186, .int a, .int b, .int c] S) := by
  refine Both.ro (fun S T A q hC hX hL hM hA hB hd => ?_)
  have mx := hM.x hA
  obtain ⟨T1, e1⟩ : ∃ T1, T1 = sI T 186 0 0 := ⟨_, rfl⟩
  have f1 := (Fr.refl (D := mJ) T).sI e1 (by unfold mJ; omega)
  have m1 := mx.j f1
  by_cases hw : wI a 0 4 = 0 ∨ wI b 1 30 = 0 ∨ wI c 0 1 = 0
  · refine ⟨-1, ?_, ?_⟩
    · have r1' : ∀ (U : aS) (g : Nat), 1 ≤ g → zI (F_X12_place g 1 [] U) (fun x V => x = -1 ∧ V = U) := by
        intro U g hg
        obtain ⟨g, ge, hG⟩ := g1 hg; subst ge; clear hg; have hg := hG; clear hG; rw [E_X12_place_1]; unfold F_X12_place_1
        exact i_r ⟨rfl, rfl⟩
      obtain ⟨g, ge, hG⟩ := g1 hg; subst ge; clear hg; have hg := hG; clear hG; rw [E_X12_place_0]; unfold F_X12_place_0
      refine i_m (P := fun x V => x = -1 ∧ V = S) ?_ (fun x V ⟨h1, h2⟩ => ⟨h1, by rw [h2]; exact Fr.refl _⟩)
      refine o_I (T_X12_isWithin (by omega)) ?_
      rintro _ S ⟨rfl, rfl⟩
      refine o_if (fun _ => r1' S g (by omega)) (fun n1 => ?_)
      refine o_I (T_X12_isWithin (by omega)) ?_
      rintro _ S ⟨rfl, rfl⟩
      refine o_if (fun _ => r1' S g (by omega)) (fun n2 => ?_)
      refine o_I (T_X12_isWithin (by omega)) ?_
      rintro _ S ⟨rfl, rfl⟩
      refine o_if (fun _ => r1' S g (by omega)) (fun n3 => ?_)
      rcases hw with h | h | h
      · exact absurd h n1
      · exact absurd h n2
      · exact absurd h n3
    · have r1' : ∀ (U : aS) (g : Nat), 1 ≤ g → zI (F_X13_place g 1 [] U) (fun x V => x = -1 ∧ V = U) := by
        intro U g hg
        obtain ⟨g, ge, hG⟩ := g1 hg; subst ge; clear hg; have hg := hG; clear hG; rw [E_X13_place_1]; unfold F_X13_place_1
        exact i_r ⟨rfl, rfl⟩
      obtain ⟨g, ge, hG⟩ := g1 hg; subst ge; clear hg; have hg := hG; clear hG; rw [E_X13_place_0]; unfold F_X13_place_0
      rw [← e1]
      show zO (bI _ _) _
      refine i_m (P := fun x V => x = -1 ∧ V = T1) ?_ (fun x V ⟨h1, h2⟩ => ⟨h1, by rw [h2]; exact f1⟩)
      refine o_I (T_X13_within (by omega)) ?_
      rintro _ T1 ⟨rfl, rfl⟩
      refine o_if (fun _ => r1' T1 g (by omega)) (fun n1 => ?_)
      refine o_I (T_X13_within (by omega)) ?_
      rintro _ T1 ⟨rfl, rfl⟩
      refine o_if (fun _ => r1' T1 g (by omega)) (fun n2 => ?_)
      refine o_I (T_X13_within (by omega)) ?_
      rintro _ T1 ⟨rfl, rfl⟩
      refine o_if (fun _ => r1' T1 g (by omega)) (fun n3 => ?_)
      rcases hw with h | h | h
      · exact absurd h n1
      · exact absurd h n2
      · exact absurd h n3
  simp only [not_or] at hw
  obtain ⟨n1, n2, n3⟩ := hw
  obtain ⟨i, -, hi, rfl, -⟩ := (wI_n (a := a) (lo := 0) (hi := 4) (by omega) (by omega)).resolve_left n1
  obtain ⟨m, hm1, hm, rfl, -⟩ := (wI_n (a := b) (lo := 1) (hi := 30) (by omega) (by omega)).resolve_left n2
  obtain ⟨j, -, hj, rfl, -⟩ := (wI_n (a := c) (lo := 0) (hi := 1) (by omega) (by omega)).resolve_left n3
  refine ⟨nI (if j = 0 then (plN (plA A) (lkA A) i m (2 ^ pY (plA A))).1 else (plN (plA A) (lkA A) i m (2 ^ pY (plA A))).2), ?_, ?_⟩
  · obtain ⟨g, ge, hG⟩ := g1 hg; subst ge; clear hg; have hg := hG; clear hG; rw [E_X12_place_0]; unfold F_X12_place_0
    refine o_I (T_X12_isWithin (by omega)) ?_
    rintro _ S ⟨rfl, rfl⟩
    refine o_f n1 ?_
    refine o_I (T_X12_isWithin (by omega)) ?_
    rintro _ S ⟨rfl, rfl⟩
    refine o_f n2 ?_
    refine o_I (T_X12_isWithin (by omega)) ?_
    rintro _ S ⟨rfl, rfl⟩
    refine o_f n3 ?_
    rw [hX.c12]
    refine o_V (T_X7_start hX hL (by omega)) ?_
    rintro S1 ⟨s7, s8, -, g1'⟩
    have x1 := hX.j g1'
    rw [x1.c12]
    refine o_V (T_X7_placeBins x1 (hL.j43 g1') hB s7 s8 hi hm (by omega)) ?_
    rintro S2 ⟨t7, t8, g2⟩
    refine i_r ⟨?_, g1'.tr g2⟩
    rw [(x1.j g2).c12, t7, t8]
    rcases (show j = 0 ∨ j = 1 by omega) with rfl | rfl
    · rfl
    · rfl
  · obtain ⟨g, ge, hG⟩ := g1 hg; subst ge; clear hg; have hg := hG; clear hG; rw [E_X13_place_0]; unfold F_X13_place_0
    rw [← e1]
    show zO (bI _ _) _
    refine o_I (T_X13_within (by omega)) ?_
    rintro _ T1 ⟨rfl, rfl⟩
    refine o_f n1 ?_
    refine o_I (T_X13_within (by omega)) ?_
    rintro _ T1 ⟨rfl, rfl⟩
    refine o_f n2 ?_
    refine o_I (T_X13_within (by omega)) ?_
    rintro _ T1 ⟨rfl, rfl⟩
    refine o_f n3 ?_
    refine i_m (T_X13_place m1 hB hi hm hj (by omega)) ?_
    rintro x U ⟨e, hf⟩
    exact ⟨e, f1.tr hf⟩
/-- a move -/
def mvV (P : aP) (L : Lk) (y z : Nat) : Nat := tot (pY P) (awA P (pDe P) (setB (setB L z (L (12 + y))) y 0))
def mvS (P : aP) (L : Lk) (y z : Nat) (x : Int32 × Nat) : Int32 × Nat := if L (12 + y) ≠ 0 ∧ L (12 + z) = 0 then (if mvV P L y z < x.2 then (nI (8 * y + z), mvV P L y z) else x) else x
def mvI (P : aP) (L : Lk) (y : Nat) (x : Int32 × Nat) : Nat → Int32 × Nat
  | 0 => x
  | z + 1 => mvS P L y z (mvI P L y x z)
def mvO (P : aP) (L : Lk) (x : Int32 × Nat) : Nat → Int32 × Nat
  | 0 => x
  | y + 1 => mvI P L y (mvO P L x y) (pY P)
theorem mvV_LI {y z : Nat} (hB : LI B L) (hy : y < 8) (hz : z < 8) : LI B (setB (setB L z (L (12 + y))) y 0) := setB_LI (setB_LI hB hz (hB.2 y hy).2.2) hy (by omega)
theorem mvV_le {y z : Nat} (hI : PI P) (hB : LI B L) (hy : y < 8) (hz : z < 8) : mvV P L y z ≤ 7992 := tot_le (awA_LI hI (mvV_LI hB hy hz)) hI.1.2.1
theorem mvI_le {y : Nat} {x : Int32 × Nat} (hx : x.2 ≤ 7992) : ∀ z, (mvI P L y x z).2 ≤ 7992
  | 0 => hx
  | z + 1 => by
    have ih := mvI_le (y := y) hx z
    show (mvS P L y z (mvI P L y x z)).2 ≤ 7992
    unfold mvS
    split
    · split
      · show mvV P L y z ≤ 7992
        omega
      · exact ih
    · exact ih
theorem mvO_le {x : Int32 × Nat} (hx : x.2 ≤ 7992) : ∀ y, (mvO P L x y).2 ≤ 7992
  | 0 => hx
  | y + 1 => mvI_le (mvO_le hx y) _
theorem T_X7_liesAfterMove {y z : Nat} (hX : CX S q P) (hL : LA S 43 (pY P) (pDe P) L) (hB : LI B L) (hy : y < 8) (hz : z < 8) (hg : 4300 ≤ f) : zI (F_X7_liesAfterMove f 0 [.ref 123, .int (nI y), .int (nI z)] S) (fun v T => v = nI (mvV P L y z) ∧ Fr (dW 138) S T) := by
  have hd9 := hX.pi.1.2.2.2.2.2
  have lk1 : lk 138 := lkd (show 1 < 7 by omega)
  obtain ⟨g, ge, hG⟩ := g1 hg; subst ge; clear hg; have hg := hG; clear hG; rw [E_X7_liesAfterMove_0]; unfold F_X7_liesAfterMove_0
  refine o_X (n := 1) rfl (by omega) ?_
  rw [hX.s3, hX.s0, hX.sd (show 1 < 7 by omega)]
  refine o_V (T_now hX hL lk1 (by omega) (by omega)) ?_
  rintro S1 ⟨l1, -, x1, f1⟩
  refine o_X rfl hy ?_
  rw [show gR S1 (134 + 4 * 1) 2 = 138 + 2 from l1.r2, l1.h y hy]
  refine o_V (T_X4_setBin (m := L (12 + y)) l1 hz (by omega)) ?_
  rintro S2 ⟨l2, f2⟩
  refine o_I (T_X4_takeBin l2 hy (by omega)) ?_
  rintro _ S3 ⟨-, l3, f3⟩
  have f3' := (f1.tr f2).tr f3
  have x3 := hX.l f3' lk1
  rw [x3.s1]
  refine o_V (T_X9_all x3 l3 (mvV_LI hB hy hz) hd9 lk1 (by omega)) ?_
  rintro S4 ⟨l4, f4⟩
  refine o_I (T_X4_total l4 hX.pi.1.2.1 (by omega)) ?_
  rintro _ S4 ⟨rfl, rfl⟩
  exact i_r ⟨rfl, f3'.lw f4⟩
theorem B_move (hg : 8000 ≤ f) : Both n (fun S => F_X12_move f 0 [.ref 0] S) (fun S => F_X13_move f 0 [.ref 186] S) := by
  refine Both.ro (fun S T A q hC hX hL hM hA hB hd => ?_)
  have mx := hM.x hA
  have hy := hX.pi.1.2.1
  have ht0 := tot_le (awA_LI (d := pDe (plA A)) hX.pi hB) hy
  generalize hP : plA A = P at hX hL mx hy ht0 hd
  generalize hLL : lkA A = L at hL mx ht0 hB
  obtain ⟨x0, ex0⟩ : ∃ x0 : Int32 × Nat, x0 = (-1, tot (pY P) (awA P (pDe P) L)) := ⟨_, rfl⟩
  have hx0 : x0.2 ≤ 7992 := by rw [ex0]; exact ht0
  refine ⟨(mvO P L x0 (pY P)).1, ?_, ?_⟩
  · obtain ⟨g, ge, hG⟩ := g1 hg; subst ge; clear hg; have hg := hG; clear hG; rw [E_X12_move_0]; unfold F_X12_move_0
    rw [hX.c12]
    refine o_I (P := fun v U => v = (mvO P L x0 (pY P)).1 ∧ Fr dJ S U) ?_ (fun v U ⟨e, hf⟩ => i_r ⟨e, hf⟩)
    obtain ⟨g, ge, hG⟩ := g1 hg; subst ge; clear hg; have hg := hG; clear hG; rw [E_X7_bestMove_0]; unfold F_X7_bestMove_0
    rw [hX.s1]
    refine o_I (T_X9_liesAfterAll hX hL hB hd (by omega)) ?_
    rintro _ S1 ⟨rfl, k1⟩
    rw [aw_m1 hX.pi]
    refine o_s (fun S2 e2 => ?_)
    have k2 : Fr dJ S S2 := (k1.mono dW_dJ).sI e2 (by unfold dJ; omega)
    have s7 : gI S2 123 7 = nI x0.2 := by subst e2; rw [gI_sI, if_pos ⟨rfl, rfl⟩, ex0]
    refine o_loop (F := fun f vs S => F_X7_bestMove f 1 vs S) (c := 30) (B := 4500) (y := (pY P)) (fun y vs U => vs = [.ref 123, .int (mvO P L x0 y).1, .int (nI y)] ∧ gI U 123 7 = nI (mvO P L x0 y).2 ∧ Fr dJ S U) ?_ ?_ 0 _ S2 g (by omega) ⟨by rw [show mvO P L x0 0 = x0 from rfl, ex0]; rfl, s7, k2⟩ (by omega)
    · rintro y _ U g hyy ⟨rfl, u7, hf⟩ hg rk
      have xU := hX.j hf
      have lU := hL.j43 hf
      have hle := mvO_le (P := P) (L := L) hx0 y
      simp only [mvO] at rk
      generalize mvO P L x0 y = x at u7 hle rk
      show zO (F_X7_bestMove g 1 _ _) _
      replace hg : 4529 + 1 ≤ g := by omega
      obtain ⟨g, ge, hG⟩ := g1 hg; subst ge; clear hg; have hg := hG; clear hG; rw [E_X7_bestMove_1]; unfold F_X7_bestMove_1
      rw [xU.s0, lU.yy]
      refine o_f (nI_ge hyy (by omega)) ?_
      refine o_loopT (F := fun f vs S => F_X7_bestMove f 2 vs S) (c := 2) (B := 4400) (y := pY P) (fun z vs V => vs = [.ref 123, .int (mvI P L y x z).1, .int (nI y), .int (nI z)] ∧ gI V 123 7 = nI (mvI P L y x z).2 ∧ Fr dJ S V) ?_ ?_ _ U ⟨rfl, u7, hf⟩ (by omega)
      · rintro z _ V g hz ⟨rfl, v7, hfV⟩ hg rk2
        have xV := hX.j hfV
        have lV := hL.j43 hfV
        have hle2 := mvI_le (P := P) (L := L) (y := y) hle z
        have hv := mvV_le (y := y) (z := z) hX.pi hB (by omega) (by omega)
        simp only [mvI] at rk2
        generalize mvI P L y x z = w at v7 hle2 rk2
        have nxt : ∀ (W : aS) (g3 : Nat), g ≤ g3 + 1 → gI W 123 7 = nI (mvS P L y z w).2 → Fr dJ S W → zI (F_X7_bestMove g3 3 [.ref 123, .int (mvS P L y z w).1, .int (nI y), .int (nI z)] W) (fun v U => v = (mvO P L x0 (pY P)).1 ∧ Fr dJ S U) := by
          intro W g3 hg3 w7 hfW
          obtain ⟨g3, rfl, hg4⟩ := g1 (n := 4400) (f := g3) (by omega)
          rw [E_X7_bestMove_3]; unfold F_X7_bestMove_3
          exact rk2 g3 _ _ (by omega) ⟨by rw [nI_1], w7, hfW⟩
        show zO (F_X7_bestMove g 2 _ _) _
        replace hg : 4401 + 1 ≤ g := by omega
        obtain ⟨g, ge, hG⟩ := g1 hg; subst ge; clear hg; have hg := hG; clear hG; rw [E_X7_bestMove_2]; unfold F_X7_bestMove_2
        rw [xV.s0, lV.yy]
        refine o_f (nI_ge hz (by omega)) ?_
        refine o_I (T_X4_hasBin lV hB hy hyy (by omega)) ?_
        rintro _ V ⟨rfl, rfl⟩
        by_cases c1 : L (12 + y) = 0
        · rw [if_pos c1]
          refine o_t rfl ?_
          have em : mvS P L y z w = w := if_neg (by omega)
          have := nxt V g (by omega) (by rw [em]; exact v7) hfV
          rw [em] at this
          exact this
        · rw [if_neg c1]
          refine o_f (by decide) ?_
          rw [xV.s0]
          refine o_I (T_X4_hasBin lV hB hy hz (by omega)) ?_
          rintro _ V ⟨rfl, rfl⟩
          by_cases c2 : L (12 + z) = 0
          · rw [if_pos c2]
            refine o_t rfl ?_
            refine o_I (T_X7_liesAfterMove xV lV hB (by omega) (by omega) (by omega)) ?_
            rintro _ V2 ⟨rfl, k3⟩
            have v7' : gI V2 123 7 = nI w.2 := by rw [k3.2 _ _ (by unfold dW; omega)]; exact v7
            have fV2 := hfV.tr (k3.mono (dWd_dJ (i := 1) (by omega)))
            rw [v7']
            refine o_if (fun c3 => ?_) (fun c3 => ?_)
            · rw [nI_leI (by omega) (by omega)] at c3
              have em : mvS P L y z w = w := by unfold mvS; rw [if_pos ⟨c1, c2⟩, if_neg (by omega)]
              have := nxt V2 g (by omega) (by rw [em]; exact v7') fV2
              rw [em] at this
              exact this
            · rw [nI_leI (by omega) (by omega)] at c3
              have em : mvS P L y z w = (nI (8 * y + z), mvV P L y z) := by unfold mvS; rw [if_pos ⟨c1, c2⟩, if_pos (by omega)]
              refine o_s (fun V3 e3 => ?_)
              have := nxt V3 g (by omega) (by rw [em]; subst e3; rw [gI_sI, if_pos ⟨rfl, rfl⟩]) (fV2.sI e3 (by unfold dJ; omega))
              rw [em] at this
              rw [show (8 : Int32) = nI 8 from rfl, pk_mul, nI_add]
              exact this
          · rw [if_neg c2]
            refine o_f (by decide) ?_
            have em : mvS P L y z w = w := if_neg (by omega)
            have := nxt V g (by omega) (by rw [em]; exact v7) hfV
            rw [em] at this
            exact this
      · rintro _ V g' ⟨rfl, v7, hfV⟩ hg' hgg
        have xV := hX.j hfV
        have lV := hL.j43 hfV
        show zO (F_X7_bestMove g' 2 _ _) _
        obtain ⟨g', rfl, hg'⟩ := g1 (n := 4401) (f := g') (by omega)
        rw [E_X7_bestMove_2]; unfold F_X7_bestMove_2
        rw [xV.s0, lV.yy]
        refine o_t (nI_le (Nat.le_refl _) (by omega)) ?_
        exact rk g' _ _ (by omega) ⟨by rw [nI_1], v7, hfV⟩
    · rintro _ U g ⟨rfl, u7, hf⟩ hg
      have xU := hX.j hf
      have lU := hL.j43 hf
      show zO (F_X7_bestMove g 1 _ _) _
      obtain ⟨g, ge, hG⟩ := g1 hg; subst ge; clear hg; have hg := hG; clear hG; rw [E_X7_bestMove_1]; unfold F_X7_bestMove_1
      rw [xU.s0, lU.yy]
      exact o_t (nI_le (Nat.le_refl _) (by omega)) (i_r ⟨rfl, hf⟩)
  · obtain ⟨g, ge, hG⟩ := g1 hg; subst ge; clear hg; have hg := hG; clear hG; rw [E_X13_move_0]; unfold F_X13_move_0
    refine o_s (fun T1 e1 => ?_)
    have f1 := (Fr.refl (D := mJ) T).sI e1 (by unfold mJ; omega)
    have m1 := mx.j f1
    refine o_V (m1.cp (by omega)) ?_
    rintro T2 ⟨a2, m2, f2⟩
    refine o_V (T_X13_all (b := 756) m2.1 hX.pi a2 hB (by omega) m2.2.2.1 (by omega)) ?_
    rintro T3 ⟨a3, f3⟩
    have f3 := (f1.tr f2).tr (f3.mono (dX_mJ (b := 756) (by omega)))
    refine o_I (T_X13_lyingIn (b := 756) (mx.j f3).1 hX.pi a3 (by omega) (by omega)) ?_
    rintro _ T3 ⟨rfl, rfl⟩
    refine o_loop (F := fun f vs S => F_X13_move f 1 vs S) (c := 30) (B := 4800) (y := (pY P)) (fun y vs U => vs = [.ref 186, .int (mvO P L x0 y).1, .int (nI (mvO P L x0 y).2), .int (nI y)] ∧ Fr mJ T U) ?_ ?_ 0 _ T3 g (by omega) ⟨by rw [show mvO P L x0 0 = x0 from rfl, ex0]; rfl, f3⟩ (by omega)
    · rintro y _ U g hyy ⟨rfl, hf⟩ hg rk
      have mU := mx.j hf
      have hle := mvO_le (P := P) (L := L) hx0 y
      simp only [mvO] at rk
      generalize mvO P L x0 y = x at hle rk
      show zO (F_X13_move g 1 _ _) _
      replace hg : 4829 + 1 ≤ g := by omega
      obtain ⟨g, ge, hG⟩ := g1 hg; subst ge; clear hg; have hg := hG; clear hG; rw [E_X13_move_1]; unfold F_X13_move_1
      refine o_I (T_X13_yards mU.1 (by omega)) ?_
      rintro _ U ⟨rfl, rfl⟩
      refine o_f (nI_ge hyy (by omega)) ?_
      refine o_loopT (F := fun f vs S => F_X13_move f 2 vs S) (c := 2) (B := 4700) (y := pY P) (fun z vs V => vs = [.ref 186, .int (mvI P L y x z).1, .int (nI (mvI P L y x z).2), .int (nI y), .int (nI z)] ∧ Fr mJ T V) ?_ ?_ _ U ⟨rfl, hf⟩ (by omega)
      · rintro z _ V g hz ⟨rfl, hfV⟩ hg rk2
        have mV := mx.j hfV
        have hle2 := mvI_le (P := P) (L := L) (y := y) hle z
        have hv := mvV_le (y := y) (z := z) hX.pi hB (by omega) (by omega)
        simp only [mvI] at rk2
        generalize mvI P L y x z = w at hle2 rk2
        have nxt : ∀ (W : aS) (g3 : Nat), g ≤ g3 + 1 → Fr mJ T W → zI (F_X13_move g3 3 [.ref 186, .int (mvS P L y z w).1, .int (nI (mvS P L y z w).2), .int (nI y), .int (nI z)] W) (fun x U => x = (mvO P L x0 (pY P)).1 ∧ Fr mJ T U) := by
          intro W g3 hg3 hfW
          obtain ⟨g3, rfl, hg4⟩ := g1 (n := 4700) (f := g3) (by omega)
          rw [E_X13_move_3]; unfold F_X13_move_3
          exact rk2 g3 _ _ (by omega) ⟨by rw [nI_1], hfW⟩
        show zO (F_X13_move g 2 _ _) _
        replace hg : 4701 + 1 ≤ g := by omega
        obtain ⟨g, ge, hG⟩ := g1 hg; subst ge; clear hg; have hg := hG; clear hG; rw [E_X13_move_2]; unfold F_X13_move_2
        refine o_I (T_X13_yards mV.1 (by omega)) ?_
        rintro _ V ⟨rfl, rfl⟩
        refine o_f (nI_ge hz (by omega)) ?_
        refine o_I (T_X13_isBin (b := 0) mV.1.1 mV.2.1 hB (by omega) (by omega) (by omega)) ?_
        rintro _ V ⟨rfl, rfl⟩
        by_cases c1 : L (12 + y) = 0
        · rw [if_pos c1]
          refine o_t rfl ?_
          have em : mvS P L y z w = w := if_neg (by omega)
          have := nxt V g (by omega) hfV
          rw [em] at this
          exact this
        · rw [if_neg c1]
          refine o_f (by decide) ?_
          refine o_I (T_X13_isBin (b := 0) mV.1.1 mV.2.1 hB (by omega) (by omega) (by omega)) ?_
          rintro _ V ⟨rfl, rfl⟩
          by_cases c2 : L (12 + z) = 0
          · rw [if_pos c2]
            refine o_t rfl ?_
            refine o_V (mV.cp (by omega)) ?_
            rintro V2 ⟨a4, m4, k4⟩
            refine o_I (T_X13_offs (b := 756) m4.1.1 a4 (by omega) (by omega) (by omega)) ?_
            rintro _ V3 ⟨-, a5, k5⟩
            have k5 := (hfV.tr k4).tr (k5.mono (dX_mJ (b := 756) (by omega)))
            have m5 := mx.j k5
            refine o_X (nA2' (n := 12) rfl) (by omega) ?_
            refine o_X (nA2' (n := 768) rfl) (by omega) ?_
            rw [m5.1.1.state, m5.2.1.z (k := 12 + y) (by omega)]
            refine o_s (fun V4 e4 => ?_)
            have a6 : MA V4 756 (up1 (setB L y 0) (12 + z) (L (12 + y))) := a5.s (k := 12 + z) (by rw [← Nat.add_assoc]; exact e4)
            have hbz := (hB.2 z (by omega)).2.1
            have a7 : MA V4 756 (setB (setB L z (L (12 + y))) y 0) := by
              refine a6.cg (fun i hi => ?_)
              unfold setB
              simp only [up1_at]
              by_cases d1 : i = 20 + y
              · rw [if_pos d1, if_neg (by omega), if_pos d1]
              · rw [if_neg d1]
                by_cases d2 : i = 12 + y
                · have : ¬ y = z := fun e => c1 (by rw [e]; exact c2)
                  rw [if_pos d2, if_neg (by omega), if_neg d1, if_pos d2]
                · rw [if_neg d2]
                  by_cases d3 : i = 12 + z
                  · rw [if_pos d3]
                    repeat' split
                    all_goals omega
                  · rw [if_neg d3, if_neg d1, if_neg d2]
                    by_cases d4 : i = 20 + z
                    · rw [if_pos d4, d4]; omega
                    · rw [if_neg d4]
            have k6 := k5.sI e4 (by unfold mJ; omega)
            have m6 := mx.j k6
            refine o_V (T_X13_all (b := 756) m6.1 hX.pi a7 (mvV_LI hB (by omega) (by omega)) (by omega) m6.2.2.1 (by omega)) ?_
            rintro V5 ⟨a8, k7⟩
            have k7 := k6.tr (k7.mono (dX_mJ (b := 756) (by omega)))
            have m7 := mx.j k7
            refine o_I (T_X13_lyingIn (b := 756) m7.1 hX.pi a8 (by omega) (by omega)) ?_
            rintro _ V5 ⟨rfl, rfl⟩
            have ev : tot (pY P) (awA P (pDe P) (setB (setB L z (L (12 + y))) y 0)) = mvV P L y z := rfl
            rw [ev, show (8 : Int32) = nI 8 from rfl, pk_mul, nI_add]
            have := nxt V5 g (by omega) k7
            by_cases c3 : mvV P L y z < w.2
            · have em : mvS P L y z w = (nI (8 * y + z), mvV P L y z) := by unfold mvS; rw [if_pos ⟨c1, c2⟩, if_pos c3]
              rw [if_neg (nI_ge c3 (by omega)), if_neg (nI_ge c3 (by omega))]
              rw [em] at this
              exact this
            · have em : mvS P L y z w = w := by unfold mvS; rw [if_pos ⟨c1, c2⟩, if_neg c3]
              rw [if_pos (nI_le (by omega) (by omega)), if_pos (nI_le (by omega) (by omega))]
              rw [em] at this
              exact this
          · rw [if_neg c2]
            refine o_f (by decide) ?_
            have em : mvS P L y z w = w := if_neg (by omega)
            have := nxt V g (by omega) hfV
            rw [em] at this
            exact this
      · rintro _ V g' ⟨rfl, hfV⟩ hg' hgg
        have mV := mx.j hfV
        show zO (F_X13_move g' 2 _ _) _
        obtain ⟨g', rfl, hg'⟩ := g1 (n := 4701) (f := g') (by omega)
        rw [E_X13_move_2]; unfold F_X13_move_2
        refine o_I (T_X13_yards mV.1 (by omega)) ?_
        rintro _ V ⟨rfl, rfl⟩
        refine o_t (nI_le (Nat.le_refl _) (by omega)) ?_
        exact rk g' _ _ (by omega) ⟨by rw [nI_1], hfV⟩
    · rintro _ U g ⟨rfl, hf⟩ hg
      have mU := mx.j hf
      show zO (F_X13_move g 1 _ _) _
      obtain ⟨g, ge, hG⟩ := g1 hg; subst ge; clear hg; have hg := hG; clear hG; rw [E_X13_move_1]; unfold F_X13_move_1
      refine o_I (T_X13_yards mU.1 (by omega)) ?_
      rintro _ U ⟨rfl, rfl⟩
      exact o_t (nI_le (Nat.le_refl _) (by omega)) (i_r ⟨rfl, hf⟩)
end PL2

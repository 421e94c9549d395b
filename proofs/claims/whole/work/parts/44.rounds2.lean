/-! rounds: both alike -/
def rdN (P : aP) (L : Lk) (h t : Nat) : Nat → Nat × Nat
  | 0 => (7993, 0)
  | s + 1 => if pc s ≤ t then offS (rdN P L h t s) (rdV P L h s) s else rdN P L h t s
theorem rdN_i {P : aP} {L : Lk} {B h t : Nat} (hI : PI P) (hB : LI B L) : ∀ s, (rdN P L h t s).1 ≤ 7993 ∧ (rdN P L h t s).2 ≤ s - 1
  | 0 => ⟨Nat.le_refl _, Nat.le_refl _⟩
  | s + 1 => by
    obtain ⟨h1, h2⟩ := rdN_i (h := h) (t := t) hI hB s
    have hv := rdV_le (h := h) (s := s) hI hB
    show (if _ then _ else _ : Nat × Nat).1 ≤ 7993 ∧ (if _ then _ else _ : Nat × Nat).2 ≤ s + 1 - 1
    split
    · unfold offS
      split
      · exact ⟨by show rdV P L h s ≤ 7993; omega, by show s ≤ _; omega⟩
      · exact ⟨h1, by omega⟩
    · exact ⟨h1, by omega⟩
theorem rdN_bt {P : aP} {L : Lk} {h t : Nat} : ∀ n, (∀ s, s < n → pc s ≤ t → ¬ bt (rdV P L h s, s) (rdN P L h t n)) ∧ (rdN P L h t n = (7993, 0) ∨ ∃ s, s < n ∧ pc s ≤ t ∧ rdN P L h t n = (rdV P L h s, s))
  | 0 => ⟨fun s hs => absurd hs (Nat.not_lt_zero s), Or.inl rfl⟩
  | n + 1 => by
    obtain ⟨h1, h2⟩ := rdN_bt (P := P) (L := L) (h := h) (t := t) n
    have e : rdN P L h t (n + 1) = if pc n ≤ t then offS (rdN P L h t n) (rdV P L h n) n else rdN P L h t n := rfl
    rw [e]
    by_cases c : pc n ≤ t
    · rw [if_pos c]
      obtain ⟨o1, o2, o3⟩ := offS_bt (rdN P L h t n) (rdV P L h n) n
      refine ⟨fun s hs hp => ?_, ?_⟩
      · by_cases e : s = n
        · rw [e]; exact o2
        · exact bt.tr o1 (h1 s (by omega) hp)
      · rcases o3 with e | e
        · rw [e]
          rcases h2 with h2 | ⟨s, a, b, h2⟩
          · exact Or.inl h2
          · exact Or.inr ⟨s, by omega, b, h2⟩
        · exact Or.inr ⟨n, by omega, c, e⟩
    · rw [if_neg c]
      refine ⟨fun s hs hp => ?_, ?_⟩
      · by_cases e : s = n
        · rw [e] at hp; exact absurd hp c
        · exact h1 s (by omega) hp
      · rcases h2 with h2 | ⟨s, a, b, h2⟩
        · exact Or.inl h2
        · exact Or.inr ⟨s, by omega, b, h2⟩
section RD2
variable {S T : aS} {A : aA} {q f n B : Nat} {P : aP} {L M : Lk}
def rdM (P : aP) (L : Lk) (h t s : Nat) : Int32 × Int32 := if s = 0 then (-1, 0) else (nI (rdN P L h t s).2, nI (rdN P L h t s).1)
theorem T_X13_lyingBehind {h s : Nat} (hX : MX S P L) (hB : LI B L) (hBB : B < 2 ^ 28) (hh : h ≤ 6) (hs : s < 256) (hg : 5200 ≤ f) : zI (F_X13_lyingBehind f 0 [.ref 186, .int (nI h), .int (nI s)] S) (fun x T => x = nI (rdV P L h s) ∧ Fr mJ S T) := by
  have hI := hX.2.2.2
  have hy := hI.1.2.1
  obtain ⟨g, ge, hG⟩ := g1 hg; subst ge; clear hg; have hg := hG; clear hG; rw [E_X13_lyingBehind_0]; unfold F_X13_lyingBehind_0
  refine o_V (hX.cp (by omega)) ?_
  rintro S1 ⟨a1, m1, f1⟩
  refine o_loop (F := fun f vs S => F_X13_lyingBehind f 1 vs S) (c := 20) (B := 4800) (y := h) (fun k vs T => vs = [.ref 186, .int (nI h), .int (nI s), .int (nI k)] ∧ MA T 756 (rdL P L s k) ∧ Fr mJ S T) ?_ ?_ 0 _ S1 g (by omega) ⟨rfl, a1, f1⟩ (by omega)
  · rintro k _ T g hk ⟨rfl, aT, hf⟩ hg rk
    have mT := hX.j hf
    have bk : LI (B + k) (rdL P L s k) := rdL_LI hI hB k
    simp only [rdL] at rk
    generalize rdL P L s k = M at aT bk rk
    have r3 : ∀ (U : aS) (g2 : Nat) (N : Lk), 4800 ≤ g2 → g ≤ g2 + 18 → MA U 756 N → LI (B + k) N → Fr mJ S U → N = (if s.testBit k then empZ (pY P) M else M) → zI (F_X13_lyingBehind g2 3 [.ref 186, .int (nI h), .int (nI s), .int (nI k)] U) (fun x T => x = nI (rdV P L h s) ∧ Fr mJ S T) := by
      intro U g2 N hg2 hgg aU bN hfU hN
      have mU := hX.j hfU
      obtain ⟨g2, rfl, hg2⟩ := g1 (n := 4799) (f := g2) (by omega)
      rw [E_X13_lyingBehind_3]; unfold F_X13_lyingBehind_3
      refine o_V (T_X13_all (b := 756) mU.1 hI aU bN (by omega) mU.2.2.1 (by omega)) ?_
      rintro U2 ⟨a2, k2⟩
      have k2 := hfU.tr (k2.mono (dX_mJ (b := 756) (by omega)))
      have m2 := hX.j k2
      refine o_I (T_X13_passes (b := 756) m2.1 hI a2 (awA_LI hI bN) (by omega) (by omega) (by omega)) ?_
      rintro _ U3 ⟨-, a3, k3⟩
      refine rk g2 _ _ (by omega) ⟨by rw [nI_1], ?_, k2.tr (k3.mono (dP_mJ (b := 756) (by omega)))⟩
      rw [← hN]
      exact a3
    show zO (F_X13_lyingBehind g 1 _ _) _
    replace hg : 4819 + 1 ≤ g := by omega
    obtain ⟨g, ge, hG⟩ := g1 hg; subst ge; clear hg; have hg := hG; clear hG; rw [E_X13_lyingBehind_1]; unfold F_X13_lyingBehind_1
    refine o_f (nI_ge hk (by omega)) ?_
    by_cases c : s.testBit k = true
    · refine o_loopT (F := fun f vs S => F_X13_lyingBehind f 2 vs S) (c := 1) (B := 4803) (y := pY P) (fun i vs U => vs = [.ref 186, .int (nI h), .int (nI s), .int (nI k), .int (nI i)] ∧ MA U 756 (empZ i M) ∧ Fr mJ S U) ?_ ?_ _ T ⟨rfl, aT.cg (fun j hj => by unfold empZ; rw [if_neg (by omega)]), hf⟩ (by omega)
      · rintro i _ U g2 hi ⟨rfl, aU, hfU⟩ hg2 rk2
        have mU := hX.j hfU
        show zO (F_X13_lyingBehind g2 2 _ _) _
        obtain ⟨g2, rfl, hg2⟩ := g1 (n := 4803) (f := g2) (by omega)
        rw [E_X13_lyingBehind_2]; unfold F_X13_lyingBehind_2
        refine o_I (T_X13_yards mU.1 (by omega)) ?_
        rintro _ U ⟨rfl, rfl⟩
        refine o_f (nI_ge hi (by omega)) ?_
        refine o_t ((bitI1 (by omega) (by omega)).mpr c) ?_
        refine o_X (nA2' (n := 776) rfl) (by omega) ?_
        rw [mU.1.1.state]
        refine o_s (fun U2 u2 => ?_)
        have a2 : MA U2 756 (up1 (empZ i M) (20 + i) 0) := aU.s (k := 20 + i) (v := 0) (by rw [← Nat.add_assoc]; exact u2)
        refine rk2 g2 _ _ (by omega) ⟨by rw [nI_1], a2.cg (fun j hj => ?_), hfU.sI u2 (by unfold mJ; omega)⟩
        rw [up1_at]
        unfold empZ
        by_cases e : j = 20 + i
        · rw [if_pos e, if_pos (by omega)]
        · rw [if_neg e]
          by_cases e2 : 20 ≤ j ∧ j < 20 + i
          · rw [if_pos e2, if_pos (by omega)]
          · rw [if_neg e2, if_neg (by omega)]
      · rintro _ U g2 ⟨rfl, aU, hfU⟩ hg2 hgg2
        have mU := hX.j hfU
        show zO (F_X13_lyingBehind g2 2 _ _) _
        obtain ⟨g2, rfl, hg2⟩ := g1 (n := 4803) (f := g2) (by omega)
        rw [E_X13_lyingBehind_2]; unfold F_X13_lyingBehind_2
        refine o_I (T_X13_yards mU.1 (by omega)) ?_
        rintro _ U ⟨rfl, rfl⟩
        refine o_t (nI_le (Nat.le_refl _) (by omega)) ?_
        exact r3 U g2 _ (by omega) (by omega) aU (empZ_LI bk hy) hfU (by rw [if_pos c])
    · obtain ⟨g2, rfl, hg2⟩ := g1 (n := 4818) (f := g) (by omega)
      rw [E_X13_lyingBehind_2]; unfold F_X13_lyingBehind_2
      refine o_I (T_X13_yards mT.1 (by omega)) ?_
      rintro _ T ⟨rfl, rfl⟩
      refine o_f (show ¬ nI (pY P) ≤ (0 : Int32) from nI_nle (by have := hI.1.1; omega) (by omega)) ?_
      refine o_f (fun hh => c ((bitI1 (by omega) (by omega)).mp hh)) ?_
      exact r3 T g2 _ (by omega) (by omega) aT bk hf (by rw [if_neg c])
  · rintro _ T g ⟨rfl, aT, hf⟩ hg
    have mT := hX.j hf
    show zO (F_X13_lyingBehind g 1 _ _) _
    obtain ⟨g, ge, hG⟩ := g1 hg; subst ge; clear hg; have hg := hG; clear hG; rw [E_X13_lyingBehind_1]; unfold F_X13_lyingBehind_1
    refine o_t (nI_le (Nat.le_refl _) (by omega)) ?_
    refine o_I (T_X13_lyingIn (b := 756) mT.1 hI aT (by omega) (by omega)) ?_
    rintro _ T ⟨rfl, rfl⟩
    exact i_r ⟨rfl, hf⟩
theorem T_X13_rounds {h t j : Nat} (hX : MX S P L) (hB : LI B L) (hBB : B < 2 ^ 28) (hh : h ≤ 6) (ht : t ≤ 6) (hj : j ≤ 1) (hg : 7000 ≤ f) : zI (F_X13_rounds f 2 [.ref 186, .int (nI h), .int (nI t), .int (nI j), .int (-1), .int 0, .int 0] S) (fun x T => x = nI (if j = 0 then (rdN P L h t (2 ^ h)).1 else (rdN P L h t (2 ^ h)).2) ∧ Fr mJ S T) := by
  have hI := hX.2.2.2
  have hp6 : 2 ^ h ≤ 64 := Nat.pow_le_pow_right (n := 2) (by omega) hh
  obtain ⟨N, hN⟩ : ∃ N, N = 2 ^ h := ⟨_, rfl⟩
  have hN0 : 0 < N := by rw [hN]; exact Nat.two_pow_pos _
  rw [← hN] at hp6 ⊢
  refine o_loop (F := fun f vs S => F_X13_rounds f 2 vs S) (c := 6) (B := 5300) (y := N) (fun s vs T => vs = [.ref 186, .int (nI h), .int (nI t), .int (nI j), .int (rdM P L h t s).1, .int (rdM P L h t s).2, .int (nI s)] ∧ Fr mJ S T) ?_ ?_ 0 _ S f (by omega) ⟨rfl, Fr.refl S⟩ (by omega)
  · rintro s _ T g hs ⟨rfl, hf⟩ hg rec
    have mT := hX.j hf
    obtain ⟨i1, i2⟩ := rdN_i (h := h) (t := t) hI hB s
    have hv := rdV_le (h := h) (s := s) hI hB
    have hpc : pc s ≤ 8 := cnt_le _ 8
    have e : rdN P L h t (s + 1) = if pc s ≤ t then offS (rdN P L h t s) (rdV P L h s) s else rdN P L h t s := rfl
    have eM : rdM P L h t (s + 1) = (nI (rdN P L h t (s + 1)).2, nI (rdN P L h t (s + 1)).1) := if_neg (by omega)
    show zO (F_X13_rounds g 2 _ _) _
    replace hg : 5305 + 1 ≤ g := by omega
    obtain ⟨g, ge, hG⟩ := g1 hg; subst ge; clear hg; have hg := hG; clear hG; rw [E_X13_rounds_2]; unfold F_X13_rounds_2
    rw [sh1 _ (by omega), ← hN]
    refine o_f (nI_ge hs (by omega)) ?_
    refine o_I (T_X13_bits (by omega) (by omega)) ?_
    rintro _ T ⟨rfl, rfl⟩
    have r4 : ∀ (U : aS) (g2 : Nat), 5300 ≤ g2 → g ≤ g2 + 4 → Fr mJ S U → zI (F_X13_rounds g2 3 [.ref 186, .int (nI h), .int (nI t), .int (nI j), .int (rdM P L h t (s + 1)).1, .int (rdM P L h t (s + 1)).2, .int (nI s)] U) (fun x T => x = nI (if j = 0 then (rdN P L h t N).1 else (rdN P L h t N).2) ∧ Fr mJ S T) := by
      intro U g2 hg2 hgg hfU
      obtain ⟨g2, rfl, hg2⟩ := g1 (n := 5299) (f := g2) (by omega)
      rw [E_X13_rounds_3]; unfold F_X13_rounds_3
      exact rec g2 _ _ (by omega) ⟨by rw [nI_1], hfU⟩
    refine o_if (fun c => ?_) (fun c => ?_)
    · rw [nI_ltI (by omega) (by omega)] at c
      rw [if_neg (by omega)] at e
      have hs0 : s ≠ 0 := fun h0 => by rw [h0, show pc 0 = 0 from rfl] at c; omega
      have := r4 T g (by omega) (by omega) hf
      rw [eM, e] at this
      unfold rdM
      rw [if_neg hs0]
      exact this
    · rw [nI_ltI (by omega) (by omega)] at c
      rw [if_pos (by omega)] at e
      refine o_I (T_X13_lyingBehind mT hB hBB hh (by omega) (by omega)) ?_
      rintro _ V2 ⟨rfl, k2⟩
      have fV2 := hf.tr k2
      have out : ∀ (g4 : Nat) (w : Int32), 5302 ≤ g4 → g ≤ g4 + 2 → (if w = 0 then (rdM P L h t s).1 else nI s) = nI (rdN P L h t (s + 1)).2 → (if w = 0 then (rdM P L h t s).2 else nI (rdV P L h s)) = nI (rdN P L h t (s + 1)).1 → zI (F_X13_rounds g4 6 [.ref 186, .int (nI h), .int (nI t), .int (nI j), .int (rdM P L h t s).1, .int (rdM P L h t s).2, .int (nI s), .int (nI (rdV P L h s)), .int w] V2) (fun x T => x = nI (if j = 0 then (rdN P L h t N).1 else (rdN P L h t N).2) ∧ Fr mJ S T) := by
        intro g4 w hg4 hgg4 o1 o2
        obtain ⟨g4, rfl, hg4⟩ := g1 (n := 5301) (f := g4) (by omega)
        rw [E_X13_rounds_6]; unfold F_X13_rounds_6
        rw [o1, o2]
        have := r4 V2 g4 (by omega) (by omega) fV2
        rw [eM] at this
        exact this
      by_cases hs0 : s = 0
      · subst hs0
        have p0 : rdM P L h t 0 = (-1, 0) := rfl
        have n1 : rdN P L h t (0 + 1) = (rdV P L h 0, 0) := by
          rw [e]
          exact if_pos (Or.inl (show rdV P L h 0 < 7993 by omega))
        rw [p0] at out ⊢
        refine o_t (by decide) ?_
        obtain ⟨g3, rfl, hg3⟩ := g1 (n := 5304) (f := g) (by omega)
        rw [E_X13_rounds_4]; unfold F_X13_rounds_4
        exact out g3 1 (by omega) (by omega) (by rw [n1]; rfl) (by rw [n1]; rfl)
      · have p0 : rdM P L h t s = (nI (rdN P L h t s).2, nI (rdN P L h t s).1) := if_neg hs0
        rw [p0] at out ⊢
        generalize rdN P L h t s = x at i1 i2 e out
        have p2 : pc x.2 ≤ 8 := cnt_le _ 8
        refine o_f (nI_pos (by omega)) ?_
        refine o_if (fun c => ?_) (fun c => ?_)
        · rw [nI_ltI (by omega) (by omega)] at c
          have n1 : rdN P L h t (s + 1) = (rdV P L h s, s) := by
            rw [e]
            exact if_pos (Or.inl c)
          obtain ⟨g3, rfl, hg3⟩ := g1 (n := 5304) (f := g) (by omega)
          rw [E_X13_rounds_4]; unfold F_X13_rounds_4
          exact out g3 1 (by omega) (by omega) (by rw [n1]; rfl) (by rw [n1]; rfl)
        · rw [nI_ltI (by omega) (by omega)] at c
          refine o_if (fun c2 => ?_) (fun c2 => ?_)
          · rw [nI_eq (by omega) (by omega)] at c2
            refine o_I (T_X13_bits (by omega) (by omega)) ?_
            rintro _ V2 ⟨rfl, rfl⟩
            refine o_I (T_X13_bits (by omega) (by omega)) ?_
            rintro _ V2 ⟨rfl, rfl⟩
            refine o_lI ?_
            refine o_lI ?_
            have fin := r4 V2 g (by omega) (by omega) fV2
            rw [eM] at fin
            by_cases c3 : pc s < pc x.2
            · have n1 : rdN P L h t (s + 1) = (rdV P L h s, s) := by
                rw [e]
                exact if_pos (Or.inr ⟨c2, Or.inl c3⟩)
              rw [if_neg (nI_ge c3 (by omega)), if_neg (by decide), if_neg (by decide)]
              rw [n1] at fin
              exact fin
            · have n1 : rdN P L h t (s + 1) = x := by
                rw [e]
                exact if_neg (by omega)
              rw [if_pos (nI_le (by omega) (by omega)), if_pos rfl, if_pos rfl]
              rw [n1] at fin
              exact fin
          · rw [nI_eq (by omega) (by omega)] at c2
            have n1 : rdN P L h t (s + 1) = x := by
              rw [e]
              exact if_neg (by omega)
            obtain ⟨g3, rfl, hg3⟩ := g1 (n := 5304) (f := g) (by omega)
            rw [E_X13_rounds_5]; unfold F_X13_rounds_5
            exact out g3 0 (by omega) (by omega) (by rw [n1]; rfl) (by rw [n1]; rfl)
  · rintro _ T g ⟨rfl, hf⟩ hg
    show zO (F_X13_rounds g 2 _ _) _
    obtain ⟨g, ge, hG⟩ := g1 hg; subst ge; clear hg; have hg := hG; clear hG; rw [E_X13_rounds_2]; unfold F_X13_rounds_2
    rw [sh1 _ (by omega), ← hN]
    refine o_t (nI_le (Nat.le_refl _) (by omega)) (i_r ⟨?_, hf⟩)
    have p0 : rdM P L h t N = (nI (rdN P L h t N).2, nI (rdN P L h t N).1) := if_neg (by omega)
    rw [p0]
    rcases (show j = 0 ∨ j = 1 by omega) with rfl | rfl
    · rfl
    · rfl
theorem B_rounds {a b c : Int32} (hg : 9000 ≤ f) (hn : n ≤ 512) : Both n (fun S => F_X12_rounds f 0 [.ref 0, .int a, .int b, .int c] S) (fun S => F_X13_rounds f 0 [.ref 186, .int a, .int b, .int c] S) := by
  refine Both.ro (fun S T A q hC hX hL hM hA hB hd => ?_)
  have mx := hM.x hA
  obtain ⟨T1, e1⟩ : ∃ T1, T1 = sI T 186 0 0 := ⟨_, rfl⟩
  have f1 := (Fr.refl (D := mJ) T).sI e1 (by unfold mJ; omega)
  have m1 := mx.j f1
  by_cases hw : wI a 1 6 = 0 ∨ wI b 0 6 = 0 ∨ wI c 0 1 = 0
  · refine ⟨-1, ?_, ?_⟩
    · have r1' : ∀ (U : aS) (g : Nat), 1 ≤ g → zI (F_X12_rounds g 1 [] U) (fun x V => x = -1 ∧ V = U) := by
        intro U g hg
        obtain ⟨g, ge, hG⟩ := g1 hg; subst ge; clear hg; have hg := hG; clear hG; rw [E_X12_rounds_1]; unfold F_X12_rounds_1
        exact i_r ⟨rfl, rfl⟩
      obtain ⟨g, ge, hG⟩ := g1 hg; subst ge; clear hg; have hg := hG; clear hG; rw [E_X12_rounds_0]; unfold F_X12_rounds_0
      refine i_m (P := fun x V => x = -1 ∧ V = S) ?_ (fun x V ⟨h1, h2⟩ => ⟨h1, by rw [h2]; exact Fr.refl _⟩)
      refine o_I (T_X12_isWithin (by omega)) ?_
      rintro _ S ⟨rfl, rfl⟩
      refine o_if (fun _ => r1' S g (by omega)) (fun n1 => ?_)
      refine o_I (T_X12_isWithin (by omega)) ?_
      rintro _ S ⟨rfl, rfl⟩
      refine o_if (fun _ => r1' S g (by omega)) (fun n2 => ?_)
      refine o_I (T_X12_isWithin (by omega)) ?_
      rintro _ S ⟨rfl, rfl⟩
      refine o_if (fun _ => r1' S g (by omega)) (fun n3 => ?_)
      rcases hw with h | h | h
      · exact absurd h n1
      · exact absurd h n2
      · exact absurd h n3
    · have r1' : ∀ (U : aS) (g : Nat), 1 ≤ g → zI (F_X13_rounds g 1 [] U) (fun x V => x = -1 ∧ V = U) := by
        intro U g hg
        obtain ⟨g, ge, hG⟩ := g1 hg; subst ge; clear hg; have hg := hG; clear hG; rw [E_X13_rounds_1]; unfold F_X13_rounds_1
        exact i_r ⟨rfl, rfl⟩
      obtain ⟨g, ge, hG⟩ := g1 hg; subst ge; clear hg; have hg := hG; clear hG; rw [E_X13_rounds_0]; unfold F_X13_rounds_0
      rw [← e1]
      show zO (bI _ _) _
      refine i_m (P := fun x V => x = -1 ∧ V = T1) ?_ (fun x V ⟨h1, h2⟩ => ⟨h1, by rw [h2]; exact f1⟩)
      refine o_I (T_X13_within (by omega)) ?_
      rintro _ T1 ⟨rfl, rfl⟩
      refine o_if (fun _ => r1' T1 g (by omega)) (fun n1 => ?_)
      refine o_I (T_X13_within (by omega)) ?_
      rintro _ T1 ⟨rfl, rfl⟩
      refine o_if (fun _ => r1' T1 g (by omega)) (fun n2 => ?_)
      refine o_I (T_X13_within (by omega)) ?_
      rintro _ T1 ⟨rfl, rfl⟩
      refine o_if (fun _ => r1' T1 g (by omega)) (fun n3 => ?_)
      rcases hw with h | h | h
      · exact absurd h n1
      · exact absurd h n2
      · exact absurd h n3
  simp only [not_or] at hw
  obtain ⟨n1, n2, n3⟩ := hw
  obtain ⟨h, hh1, hh, rfl, -⟩ := (wI_n (a := a) (lo := 1) (hi := 6) (by omega) (by omega)).resolve_left n1
  obtain ⟨t, ht1, ht, rfl, -⟩ := (wI_n (a := b) (lo := 0) (hi := 6) (by omega) (by omega)).resolve_left n2
  obtain ⟨j, -, hj, rfl, -⟩ := (wI_n (a := c) (lo := 0) (hi := 1) (by omega) (by omega)).resolve_left n3
  generalize hP : plA A = P at hX hL mx m1
  generalize hLL : lkA A = L at hL mx m1 hB
  refine ⟨nI (if j = 0 then (rdN P L h t (2 ^ h)).1 else (rdN P L h t (2 ^ h)).2), ?_, ?_⟩
  · obtain ⟨g, ge, hG⟩ := g1 hg; subst ge; clear hg; have hg := hG; clear hG; rw [E_X12_rounds_0]; unfold F_X12_rounds_0
    refine o_I (T_X12_isWithin (by omega)) ?_
    rintro _ S ⟨rfl, rfl⟩
    refine o_f n1 ?_
    refine o_I (T_X12_isWithin (by omega)) ?_
    rintro _ S ⟨rfl, rfl⟩
    refine o_f n2 ?_
    refine o_I (T_X12_isWithin (by omega)) ?_
    rintro _ S ⟨rfl, rfl⟩
    refine o_f n3 ?_
    rw [hX.c12]
    refine o_V (T_X7_start hX hL (by omega)) ?_
    rintro S1 ⟨s7, s8, l1, g1'⟩
    have x1 := hX.j g1'
    rw [x1.c12]
    refine o_V (T_gRnd (h := h) hX.pi hh hB (by omega) h 0 (by omega) t 0 (7993, 0) S1 10 g (by omega) (by omega) x1 ⟨L 3, ?_⟩ (by omega) ht s7 s8 (Nat.le_refl _) (by omega)) ?_
    · show LA S1 134 (pY P) (pDe P) (up1 L 3 (L 3))
      rw [up1_self]
      exact l1
    rintro S2 ⟨y, y7, y8, -, -, yx, yo, ya, g2⟩
    obtain ⟨b1, b2⟩ := rdN_bt (P := P) (L := L) (h := h) (t := t) (2 ^ h)
    have hp0 : 0 < 2 ^ h := Nat.two_pow_pos h
    have v0 : rdV P L h 0 ≤ 7992 := rdV_le hX.pi hB
    have s0 : sub 0 h t 0 0 := ⟨hp0, fun i hi => absurd hi (Nat.not_lt_zero i), by omega⟩
    have en : ∀ s, sub 0 h t 0 s ↔ s < 2 ^ h ∧ pc s ≤ t := fun s => ⟨fun ⟨h1, _, h3⟩ => ⟨h1, by rw [show pc 0 = 0 from rfl] at h3; omega⟩, fun ⟨h1, h3⟩ => ⟨h1, fun i hi => absurd hi (Nat.not_lt_zero i), by omega⟩⟩
    have nb : ∀ z : Nat × Nat, ¬ bt (rdV P L h 0, 0) z → z ≠ (7993, 0) := fun z hz e => hz (by rw [e]; exact Or.inl (show rdV P L h 0 < 7993 by omega))
    obtain ⟨s, hs, es⟩ := yo.resolve_left (nb y (ya 0 s0))
    obtain ⟨s', hs1, hs2, es'⟩ := b2.resolve_left (nb _ (b1 0 hp0 (by rw [show pc 0 = 0 from rfl]; omega)))
    have ey : y = rdN P L h t (2 ^ h) := by
      refine bt.tri ?_ ?_
      · rw [es]
        exact b1 s ((en s).mp hs).1 ((en s).mp hs).2
      · rw [es']
        exact ya s' ((en s').mpr ⟨hs1, hs2⟩)
    rw [← ey]
    have ff := g1'.tr (g2.mono dU_dJ)
    refine i_r ⟨?_, ff⟩
    rw [(hX.j ff).c12, y7, y8]
    rcases (show j = 0 ∨ j = 1 by omega) with rfl | rfl
    · rfl
    · rfl
  · obtain ⟨g, ge, hG⟩ := g1 hg; subst ge; clear hg; have hg := hG; clear hG; rw [E_X13_rounds_0]; unfold F_X13_rounds_0
    rw [← e1]
    show zO (bI _ _) _
    refine o_I (T_X13_within (by omega)) ?_
    rintro _ T1 ⟨rfl, rfl⟩
    refine o_f n1 ?_
    refine o_I (T_X13_within (by omega)) ?_
    rintro _ T1 ⟨rfl, rfl⟩
    refine o_f n2 ?_
    refine o_I (T_X13_within (by omega)) ?_
    rintro _ T1 ⟨rfl, rfl⟩
    refine o_f n3 ?_
    refine i_m (T_X13_rounds m1 hB (by omega) hh ht hj (by omega)) ?_
    rintro x U ⟨e, hf⟩
    exact ⟨e, f1.tr hf⟩
end RD2

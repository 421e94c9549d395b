/-! who was here, where to look: both sides -/
def chg (P : aP) (L : Lk) (p y : Nat) : Int32 := nI (wk P p (pDe P) L (4 + y)) - nI (L (4 + y))
def agr (P : aP) (L : Lk) (fd : aF) (p : Nat) : Bool := decide (∀ y, y < pY P → fd y ≠ -1000 → chg P L p y = fd y)
def alN (P : aP) (L : Lk) (fd : aF) (y p : Nat) : Nat := cnt (fun q => agr P L fd q && decide (chg P L q y = chg P L p y)) (pN P)
def moN (P : aP) (L : Lk) (fd : aF) (y : Nat) : Nat → Nat
  | 0 => 0
  | p + 1 => if agr P L fd p then max (moN P L fd y p) (alN P L fd y p) else moN P L fd y p
def loN (P : aP) (L : Lk) (fd : aF) : Nat → Int32 × Nat
  | 0 => (-1, cnt (agr P L fd) (pN P))
  | y + 1 => if moN P L fd y (pN P) < (loN P L fd y).2 then (nI y, moN P L fd y (pN P)) else loN P L fd y
theorem moN_le {P : aP} {L : Lk} {fd : aF} {y : Nat} : ∀ p, moN P L fd y p ≤ pN P
  | 0 => Nat.zero_le _
  | p + 1 => by
    have ih := moN_le (P := P) (L := L) (fd := fd) (y := y) p
    have := cnt_le (fun q => agr P L fd q && decide (chg P L q y = chg P L p y)) (pN P)
    show (if _ then _ else _) ≤ _
    split
    · unfold alN
      exact Nat.max_le.mpr ⟨ih, this⟩
    · exact ih
theorem loN_le {P : aP} {L : Lk} {fd : aF} : ∀ y, (loN P L fd y).2 ≤ pN P
  | 0 => cnt_le _ _
  | y + 1 => by
    have ih := loN_le (P := P) (L := L) (fd := fd) y
    show (if _ then _ else _ : Int32 × Nat).2 ≤ _
    split
    · exact moN_le _
    · exact ih
section WH
variable {S T : aS} {A : aA} {q f n B : Nat} {P : aP} {L M : Lk} {fd : aF}
theorem T_X7_tellChanges {p : Nat} (hX : CX S q P) (hL : LA S 43 (pY P) (pDe P) L) (hB : LI B L) (hp : p < pN P) (hg : 4200 ≤ f) : zU (F_X7_tellChanges f 0 [.ref 123, .int (nI p)] S) (fun T => (∀ y, y < pY P → gI T (128 + p) y = chg P L p y) ∧ Fr (fun x k => dW 138 x k ∨ x = 128 + p) S T) := by
  have hy := hX.pi.1.2.1
  have hn := hX.pi.1.2.2.1
  have hd9 := hX.pi.1.2.2.2.2.2
  have lk1 : lk 138 := lkd (show 1 < 7 by omega)
  obtain ⟨g, ge, hG⟩ := g1 hg; subst ge; clear hg; have hg := hG; clear hG; rw [E_X7_tellChanges_0]; unfold F_X7_tellChanges_0
  refine o_X (n := 1) rfl (by omega) ?_
  rw [hX.s3, hX.s0, hX.sd (show 1 < 7 by omega)]
  refine o_V (T_now hX hL lk1 (by omega) (by omega)) ?_
  rintro S1 ⟨l1, n1, x1, f1⟩
  rw [x1.s1]
  refine o_I (T_X9_walkOf x1 l1 hB hd9 hp lk1 (by omega)) ?_
  rintro _ S2 ⟨-, l2, -, f2⟩
  have ff : Fr (dW 138) S S2 := f1.lw f2
  have n2 := n1.fr f2 (fun x k a b d => by unfold dW at d; omega)
  refine o_loop (F := fun f vs S => F_X7_tellChanges f 1 vs S) (c := 1) (B := 2) (y := (pY P)) (fun y vs T => vs = [.ref 123, .int (nI p), .ref 138, .int (nI y)] ∧ (∀ j, j < y → gI T (128 + p) j = chg P L p j) ∧ Fr (fun x _ => x = 128 + p) S2 T) ?_ ?_ 0 _ S2 g (by omega) ⟨rfl, fun j hj => absurd hj (Nat.not_lt_zero j), Fr.refl _⟩ (by omega)
  · rintro y _ T g hyy ⟨rfl, hT, hf⟩ hg rec
    have xT := (hX.w ff lk1).fr hf (fun x k d => by unfold dN; omega)
    have lT := l2.fr hf (fun x k a b d => by omega)
    have nT := n2.fr hf (fun x k a b d => by omega)
    show zO (F_X7_tellChanges g 1 _ _) _
    obtain ⟨g, ge, hG⟩ := g1 hg; subst ge; clear hg; have hg := hG; clear hG; rw [E_X7_tellChanges_1]; unfold F_X7_tellChanges_1
    rw [xT.s0, nT.yy]
    refine o_f (nI_ge hyy (by omega)) ?_
    refine o_X rfl (show p < 6 by omega) ?_
    refine o_X rfl (show y < 8 by omega) ?_
    refine o_X rfl (show y < 8 by omega) ?_
    refine o_X rfl (show y < 8 by omega) ?_
    rw [xT.s6, xT.sc (show p < 6 by omega), lT.r1, nT.r1, lT.l y (by omega), nT.l y (by omega)]
    refine o_s (fun T1 e1 => ?_)
    refine rec g _ _ (by omega) ⟨by rw [nI_1], fun j hj => ?_, hf.sI e1 rfl⟩
    subst e1
    rw [gI_sI]
    by_cases e : j = y
    · rw [if_pos ⟨rfl, e⟩, e]; rfl
    · rw [if_neg (by omega)]
      exact hT j (by omega)
  · rintro _ T g ⟨rfl, hT, hf⟩ hg
    have xT := (hX.w ff lk1).fr hf (fun x k d => by unfold dN; omega)
    have nT := n2.fr hf (fun x k a b d => by omega)
    show zO (F_X7_tellChanges g 1 _ _) _
    obtain ⟨g, ge, hG⟩ := g1 hg; subst ge; clear hg; have hg := hG; clear hG; rw [E_X7_tellChanges_1]; unfold F_X7_tellChanges_1
    rw [xT.s0, nT.yy]
    exact o_t (nI_le (Nat.le_refl _) (by omega)) (u_r ⟨hT, (ff.mono (fun x k d => Or.inl d)).tr (hf.mono (fun x k d => Or.inr d))⟩)
theorem T_X2_agrees {p : Nat} (hX : CX S q P) (hF : CFd S 47 fd) (hc : ∀ y, y < pY P → gI S (128 + p) y = chg P L p y) (hg : 40 ≤ f) : zI (F_X2_agrees f 0 [.ref 47, .ref (128 + p), .int (nI (pY P))] S) (fun v T => v = (if agr P L fd p then 1 else 0) ∧ T = S) := by
  have hy := hX.pi.1.2.1
  have hbl := bs_lt (fun k => fd k != -1000) 8
  obtain ⟨g, ge, hG⟩ := g1 hg; subst ge; clear hg; have hg := hG; clear hG; rw [E_X2_agrees_0]; unfold F_X2_agrees_0
  refine o_loop (F := fun f vs S => F_X2_agrees f 1 vs S) (c := 2) (B := 3) (y := (pY P)) (fun y vs T => vs = [.ref 47, .ref (128 + p), .int (nI (pY P)), .int (nI y)] ∧ T = S ∧ ∀ j, j < y → fd j ≠ -1000 → chg P L p j = fd j) ?_ ?_ 0 _ S g (by omega) ⟨rfl, rfl, fun j hj => absurd hj (Nat.not_lt_zero j)⟩ (by omega)
  · rintro y _ S g hyy ⟨rfl, rfl, hj⟩ hg rec
    show zO (F_X2_agrees g 1 _ _) _
    replace hg : 3 + 1 + 1 ≤ g := by omega
    obtain ⟨g, ge, hG⟩ := g1 hg; subst ge; clear hg; have hg := hG; clear hG; rw [E_X2_agrees_1]; unfold F_X2_agrees_1
    refine o_f (nI_ge hyy (by omega)) ?_
    rw [hF.1]
    refine o_if (fun c => ?_) (fun c => ?_)
    · rw [bitA (by omega) (by omega), bs_tb, decide_eq_true (show y < 8 by omega), Bool.true_and] at c
      obtain ⟨g, ge, hG⟩ := g1 hg; subst ge; clear hg; have hg := hG; clear hG; rw [E_X2_agrees_2]; unfold F_X2_agrees_2
      refine rec g _ _ (by omega) ⟨by rw [nI_1], rfl, fun j hj2 hne => ?_⟩
      by_cases e : j = y
      · rw [e] at hne
        exact absurd (bne_iff_ne.mpr hne) (by rw [c]; decide)
      · exact hj j (by omega) hne
    · rw [bitA (by omega) (by omega), bs_tb, decide_eq_true (show y < 8 by omega), Bool.true_and, Bool.not_eq_false, bne_iff_ne] at c
      refine o_X rfl (show y < 8 by omega) ?_
      refine o_X rfl (show y < 8 by omega) ?_
      rw [hX.f0, hc y hyy, hF.2 y (by omega) c]
      refine o_if (fun c2 => ?_) (fun c2 => ?_)
      · obtain ⟨g, ge, hG⟩ := g1 hg; subst ge; clear hg; have hg := hG; clear hG; rw [E_X2_agrees_2]; unfold F_X2_agrees_2
        refine rec g _ _ (by omega) ⟨by rw [nI_1], rfl, fun j hj2 hne => ?_⟩
        by_cases e : j = y
        · rw [e]; exact c2
        · exact hj j (by omega) hne
      · refine o_Z (Or.inl rfl) (i_r ⟨?_, rfl⟩)
        have : agr P L fd p = false := decide_eq_false (fun h => c2 (h y hyy c))
        rw [this]
        rfl
  · rintro _ S g ⟨rfl, rfl, hj⟩ hg
    show zO (F_X2_agrees g 1 _ _) _
    obtain ⟨g, ge, hG⟩ := g1 hg; subst ge; clear hg; have hg := hG; clear hG; rw [E_X2_agrees_1]; unfold F_X2_agrees_1
    refine o_t (nI_le (Nat.le_refl _) (by omega)) (o_Z (Or.inr rfl) (i_r ⟨?_, rfl⟩))
    have : agr P L fd p = true := decide_eq_true hj
    rw [this]
    rfl
theorem T_X7_suspects (hX : CX S q P) (hL : LA S 43 (pY P) (pDe P) L) (hB : LI B L) (hF : CFd S 47 fd) (hg : 4400 ≤ f) : zI (F_X7_suspects f 0 [.ref 123, .ref 47] S) (fun v T => v = nI (bs (agr P L fd) (pN P)) ∧ (∀ p, p < pN P → ∀ y, y < pY P → gI T (128 + p) y = chg P L p y) ∧ Fr dJ S T) := by
  have hy := hX.pi.1.2.1
  have hn := hX.pi.1.2.2.1
  obtain ⟨g, ge, hG⟩ := g1 hg; subst ge; clear hg; have hg := hG; clear hG; rw [E_X7_suspects_0]; unfold F_X7_suspects_0
  refine o_loop (F := fun f vs S => F_X7_suspects f 1 vs S) (c := 1) (B := 4250) (y := (pN P)) (fun p vs T => vs = [.ref 123, .ref 47, .int (nI (bs (agr P L fd) p)), .int (nI p)] ∧ (∀ j, j < p → ∀ y, y < pY P → gI T (128 + j) y = chg P L j y) ∧ Fr dJ S T) ?_ ?_ 0 _ S g (by omega) ⟨rfl, fun j hj => absurd hj (Nat.not_lt_zero j), Fr.refl S⟩ (by omega)
  · rintro p _ T g hp ⟨rfl, hT, hf⟩ hg rec
    have xT := hX.j hf
    have lT := hL.j43 hf
    show zO (F_X7_suspects g 1 _ _) _
    obtain ⟨g, ge, hG⟩ := g1 hg; subst ge; clear hg; have hg := hG; clear hG; rw [E_X7_suspects_1]; unfold F_X7_suspects_1
    rw [xT.s2, xT.cp.2.1.2.1]
    refine o_f (nI_ge hp (by omega)) ?_
    refine o_V (T_X7_tellChanges xT lT hB hp (by omega)) ?_
    rintro T1 ⟨c1, k1⟩
    have ff := hf.tr (k1.mono (E := dJ) (fun x k d => by unfold dW at d; omega))
    have x1 := hX.j ff
    have l1 := hL.j43 ff
    have F1 : CFd T1 47 fd := hF.fg ff.g (fun k => ⟨by unfold dJ; omega, by unfold dJ; omega⟩)
    refine o_X rfl (show p < 6 by omega) ?_
    rw [x1.s6, x1.sc (show p < 6 by omega), x1.s0, l1.yy]
    refine o_I (T_X2_agrees x1 F1 c1 (by omega)) ?_
    rintro _ T1 ⟨rfl, rfl⟩
    refine o_lI ?_
    rw [bs_orI (agr P L fd) (by omega) (by cases agr P L fd p <;> simp)]
    refine rec g _ _ (by omega) ⟨by rw [nI_1], fun j hj y hyy => ?_, ff⟩
    by_cases e : j = p
    · rw [e]; exact c1 y hyy
    · rw [k1.2 _ _ (by unfold dW; omega)]
      exact hT j (by omega) y hyy
  · rintro _ T g ⟨rfl, hT, hf⟩ hg
    have xT := hX.j hf
    show zO (F_X7_suspects g 1 _ _) _
    obtain ⟨g, ge, hG⟩ := g1 hg; subst ge; clear hg; have hg := hG; clear hG; rw [E_X7_suspects_1]; unfold F_X7_suspects_1
    rw [xT.s2, xT.cp.2.1.2.1]
    exact o_t (nI_le (Nat.le_refl _) (by omega)) (i_r ⟨rfl, hT, hf⟩)
theorem bs_64 {g : Nat → Bool} {n : Nat} (hn : n ≤ 6) : bs g n < 64 := Nat.lt_of_lt_of_le (bs_lt g n) (Nat.pow_le_pow_right (n := 2) (by omega) hn)
theorem T_X7_mostAlike {y : Nat} (hX : CX S q P) (hc : ∀ p, p < pN P → ∀ y, y < pY P → gI S (128 + p) y = chg P L p y) (hyy : y < pY P) (hg : 200 ≤ f) : zI (F_X7_mostAlike f 0 [.ref 123, .int (nI y), .int (nI (bs (agr P L fd) (pN P)))] S) (fun v T => v = nI (moN P L fd y (pN P)) ∧ T = S) := by
  have hy := hX.pi.1.2.1
  have hn := hX.pi.1.2.2.1
  have h64 := bs_64 (g := agr P L fd) hn
  have tb : ∀ p, p < pN P → (nI (bs (agr P L fd) (pN P)) &&& ((1 : Int32) <<< (nI p &&& 31)) = (0 : Int32) ↔ agr P L fd p = false) := fun p hp => by
    rw [bitA (by omega) (by omega), bs_tb, decide_eq_true hp, Bool.true_and]
  obtain ⟨g, ge, hG⟩ := g1 hg; subst ge; clear hg; have hg := hG; clear hG; rw [E_X7_mostAlike_0]; unfold F_X7_mostAlike_0
  refine o_loop (F := fun f vs S => F_X7_mostAlike f 1 vs S) (c := 24) (B := 30) (y := (pN P)) (fun p vs T => vs = [.ref 123, .int (nI y), .int (nI (bs (agr P L fd) (pN P))), .int (nI (moN P L fd y p)), .int (nI p)] ∧ T = S) ?_ ?_ 0 _ S g (by omega) ⟨rfl, rfl⟩ (by omega)
  · rintro p _ S g hp ⟨rfl, rfl⟩ hg rk
    have hmo := moN_le (P := P) (L := L) (fd := fd) (y := y) p
    have hal := cnt_le (fun q => agr P L fd q && decide (chg P L q y = chg P L p y)) (pN P)
    simp only [moN] at rk
    generalize moN P L fd y p = mo at hmo rk
    show zO (F_X7_mostAlike g 1 _ _) _
    replace hg : 53 + 1 ≤ g := by omega
    obtain ⟨g, ge, hG⟩ := g1 hg; subst ge; clear hg; have hg := hG; clear hG; rw [E_X7_mostAlike_1]; unfold F_X7_mostAlike_1
    rw [hX.s2, hX.cp.2.1.2.1]
    refine o_f (nI_ge hp (by omega)) ?_
    refine o_loopT (F := fun f vs S => F_X7_mostAlike f 2 vs S) (c := 3) (B := 30) (y := pN P) (fun o vs T => vs = [.ref 123, .int (nI y), .int (nI (bs (agr P L fd) (pN P))), .int (nI mo), .int (nI p), .int (nI (if agr P L fd p then cnt (fun q => agr P L fd q && decide (chg P L q y = chg P L p y)) o else 0)), .int (nI o)] ∧ T = S) ?_ ?_ _ S ⟨by split <;> rfl, rfl⟩ (by omega)
    · rintro o _ S g ho ⟨rfl, rfl⟩ hg rk2
      show zO (F_X7_mostAlike g 2 _ _) _
      replace hg : 30 + 1 + 1 + 1 ≤ g := by omega
      obtain ⟨g, ge, hG⟩ := g1 hg; subst ge; clear hg; have hg := hG; clear hG; rw [E_X7_mostAlike_2]; unfold F_X7_mostAlike_2
      rw [hX.s2, hX.cp.2.1.2.1]
      refine o_f (nI_ge ho (by omega)) ?_
      refine o_lI ?_
      have es : cnt (fun q => agr P L fd q && decide (chg P L q y = chg P L p y)) (o + 1) = cnt (fun q => agr P L fd q && decide (chg P L q y = chg P L p y)) o + (if (agr P L fd o && decide (chg P L o y = chg P L p y)) then 1 else 0) := rfl
      by_cases hb : agr P L fd p = true ∧ agr P L fd o = true
      · have np : ¬ nI (bs (agr P L fd) (pN P)) &&& ((1 : Int32) <<< (nI p &&& 31)) = (0 : Int32) := fun h => by have := (tb p hp).mp h; rw [hb.1] at this; cases this
        have no : ¬ nI (bs (agr P L fd) (pN P)) &&& ((1 : Int32) <<< (nI o &&& 31)) = (0 : Int32) := fun h => by have := (tb o ho).mp h; rw [hb.2] at this; cases this
        rw [if_neg np, if_neg no]
        refine o_f (show ¬ (1 : Int32) = 0 by decide) ?_
        refine o_X rfl (show p < 6 by omega) ?_
        refine o_X rfl (show y < 8 by omega) ?_
        refine o_X rfl (show o < 6 by omega) ?_
        refine o_X rfl (show y < 8 by omega) ?_
        rw [hX.s6, hX.sc (show p < 6 by omega), hX.sc (show o < 6 by omega), hc p hp y hyy, hc o ho y hyy]
        refine o_lI ?_
        rw [if_pos hb.1]
        have e1 : (if chg P L p y = chg P L o y then (1 : Int32) else 0) = nI (if (agr P L fd o && decide (chg P L o y = chg P L p y)) then 1 else 0) := by
          rw [hb.2, Bool.true_and]
          by_cases c : chg P L p y = chg P L o y
          · rw [if_pos c, decide_eq_true c.symm]; rfl
          · rw [if_neg c, decide_eq_false (fun h => c h.symm)]; rfl
        rw [e1, nI_add, ← es]
        exact rk2 g _ _ (by omega) ⟨by rw [nI_1, if_pos hb.1], rfl⟩
      · have ey : (if nI (bs (agr P L fd) (pN P)) &&& ((1 : Int32) <<< (nI p &&& 31)) = (0 : Int32) then (0 : Int32) else if nI (bs (agr P L fd) (pN P)) &&& ((1 : Int32) <<< (nI o &&& 31)) = (0 : Int32) then (0 : Int32) else 1) = 0 := by
          by_cases c1 : agr P L fd p = false
          · rw [if_pos ((tb p hp).mpr c1)]
          · by_cases c2 : agr P L fd o = false
            · rw [if_neg (fun h => c1 ((tb p hp).mp h)), if_pos ((tb o ho).mpr c2)]
            · exact absurd ⟨by simpa using c1, by simpa using c2⟩ hb
        rw [ey]
        refine o_t rfl ?_
        obtain ⟨g, ge, hG⟩ := g1 hg; subst ge; clear hg; have hg := hG; clear hG; rw [E_X7_mostAlike_3]; unfold F_X7_mostAlike_3
        obtain ⟨g, ge, hG⟩ := g1 hg; subst ge; clear hg; have hg := hG; clear hG; rw [E_X7_mostAlike_4]; unfold F_X7_mostAlike_4
        refine rk2 g _ _ (by omega) ⟨?_, rfl⟩
        rw [nI_1]
        have e2 : nI (if agr P L fd p then cnt (fun q => agr P L fd q && decide (chg P L q y = chg P L p y)) o else 0) + 0 = nI (if agr P L fd p then cnt (fun q => agr P L fd q && decide (chg P L q y = chg P L p y)) (o + 1) else 0) := by
          rw [show (0 : Int32) = nI 0 from rfl, nI_add, Nat.add_zero]
          by_cases c1 : agr P L fd p = true
          · rw [if_pos c1, if_pos c1, es]
            have : agr P L fd o = false := by
              cases h : agr P L fd o
              · rfl
              · exact absurd ⟨c1, h⟩ hb
            rw [this]
            rfl
          · rw [if_neg c1, if_neg c1]
        rw [e2]
    · rintro _ S g' ⟨rfl, rfl⟩ hg' hgg
      show zO (F_X7_mostAlike g' 2 _ _) _
      obtain ⟨g', rfl, hg'⟩ := g1 (n := 30) (f := g') (by omega)
      rw [E_X7_mostAlike_2]; unfold F_X7_mostAlike_2
      rw [hX.s2, hX.cp.2.1.2.1]
      refine o_t (nI_le (Nat.le_refl _) (by omega)) ?_
      refine rk g' _ _ (by omega) ⟨?_, rfl⟩
      rw [nI_1]
      have ea : alN P L fd y p = cnt (fun q => agr P L fd q && decide (chg P L q y = chg P L p y)) (pN P) := rfl
      rw [ea]
      by_cases c1 : agr P L fd p = true
      · rw [if_pos c1, if_pos c1]
        by_cases c2 : mo < cnt (fun q => agr P L fd q && decide (chg P L q y = chg P L p y)) (pN P)
        · rw [if_pos (nI_lt c2 (by omega)), Nat.max_eq_right (by omega)]
        · rw [if_neg (nI_nlt (by omega) (by omega)), Nat.max_eq_left (by omega)]
      · rw [if_neg c1, if_neg c1, if_neg (show ¬ nI mo < nI 0 from nI_nlt (by omega) (by omega))]
  · rintro _ S g ⟨rfl, rfl⟩ hg
    show zO (F_X7_mostAlike g 1 _ _) _
    obtain ⟨g, ge, hG⟩ := g1 hg; subst ge; clear hg; have hg := hG; clear hG; rw [E_X7_mostAlike_1]; unfold F_X7_mostAlike_1
    rw [hX.s2, hX.cp.2.1.2.1]
    exact o_t (nI_le (Nat.le_refl _) (by omega)) (i_r ⟨rfl, rfl⟩)
theorem T_X7_yardThatParts (hX : CX S q P) (hL : LA S 43 (pY P) (pDe P) L) (hc : ∀ p, p < pN P → ∀ y, y < pY P → gI S (128 + p) y = chg P L p y) (hg : 400 ≤ f) : zI (F_X7_yardThatParts f 0 [.ref 123, .int (nI (bs (agr P L fd) (pN P)))] S) (fun v T => v = (loN P L fd (pY P)).1 ∧ T = S) := by
  have hy := hX.pi.1.2.1
  have hn := hX.pi.1.2.2.1
  have h64 := bs_64 (g := agr P L fd) hn
  obtain ⟨g, ge, hG⟩ := g1 hg; subst ge; clear hg; have hg := hG; clear hG; rw [E_X7_yardThatParts_0]; unfold F_X7_yardThatParts_0
  refine o_I (T_bitCount (by omega) (by omega)) ?_
  rintro _ S ⟨rfl, rfl⟩
  rw [pc_bs (by omega)]
  refine o_loop (F := fun f vs S => F_X7_yardThatParts f 1 vs S) (c := 1) (B := 230) (y := (pY P)) (fun y vs T => vs = [.ref 123, .int (nI (bs (agr P L fd) (pN P))), .int (loN P L fd y).1, .int (nI (loN P L fd y).2), .int (nI y)] ∧ T = S) ?_ ?_ 0 _ S g (by omega) ⟨rfl, rfl⟩ (by omega)
  · rintro y _ S g hyy ⟨rfl, rfl⟩ hg rk
    have hlo := loN_le (P := P) (L := L) (fd := fd) y
    have hmo := moN_le (P := P) (L := L) (fd := fd) (y := y) (pN P)
    simp only [loN] at rk
    generalize loN P L fd y = x at hlo rk
    show zO (F_X7_yardThatParts g 1 _ _) _
    obtain ⟨g, ge, hG⟩ := g1 hg; subst ge; clear hg; have hg := hG; clear hG; rw [E_X7_yardThatParts_1]; unfold F_X7_yardThatParts_1
    rw [hX.s0, hL.yy]
    refine o_f (nI_ge hyy (by omega)) ?_
    refine o_I (T_X7_mostAlike hX hc hyy (by omega)) ?_
    rintro _ S ⟨rfl, rfl⟩
    refine rk g _ _ (by omega) ⟨?_, rfl⟩
    rw [nI_1]
    by_cases c : moN P L fd y (pN P) < x.2
    · rw [if_neg (nI_ge c (by omega)), if_neg (nI_ge c (by omega)), if_pos c]
    · rw [if_pos (nI_le (by omega) (by omega)), if_pos (nI_le (by omega) (by omega)), if_neg c]
  · rintro _ S g ⟨rfl, rfl⟩ hg
    show zO (F_X7_yardThatParts g 1 _ _) _
    obtain ⟨g, ge, hG⟩ := g1 hg; subst ge; clear hg; have hg := hG; clear hG; rw [E_X7_yardThatParts_1]; unfold F_X7_yardThatParts_1
    rw [hX.s0, hL.yy]
    exact o_t (nI_le (Nat.le_refl _) (by omega)) (i_r ⟨rfl, rfl⟩)
theorem T_X13_whoNow (h : MX S P L) (hB : LI B L) (hF : MFd S 0 fd) (hg : 5500 ≤ f) : zI (F_X13_whoNow f 0 [.ref 186] S) (fun v T => v = nI (bs (agr P L fd) (pN P)) ∧ (∀ p, p < pN P → ∀ y, y < pY P → gI T 206 (8 * p + y) = chg P L p y) ∧ Fr mJ S T) := by
  have hI := h.2.2.2
  have hy := hI.1.2.1
  have hn := hI.1.2.2.1
  obtain ⟨g, ge, hG⟩ := g1 hg; subst ge; clear hg; have hg := hG; clear hG; rw [E_X13_whoNow_0]; unfold F_X13_whoNow_0
  refine o_loop (F := fun f vs S => F_X13_whoNow f 1 vs S) (c := 40) (B := 4700) (y := (pN P)) (fun p vs T => vs = [.ref 186, .int (nI (bs (agr P L fd) p)), .int (nI p)] ∧ (∀ j, j < p → ∀ y, y < pY P → gI T 206 (8 * j + y) = chg P L j y) ∧ Fr mJ S T) ?_ ?_ 0 _ S g (by omega) ⟨rfl, fun j hj => absurd hj (Nat.not_lt_zero j), Fr.refl S⟩ (by omega)
  · rintro p _ T g hp ⟨rfl, hT, hf⟩ hg rk
    have mT := h.j hf
    show zO (F_X13_whoNow g 1 _ _) _
    replace hg : 4739 + 1 ≤ g := by omega
    obtain ⟨g, ge, hG⟩ := g1 hg; subst ge; clear hg; have hg := hG; clear hG; rw [E_X13_whoNow_1]; unfold F_X13_whoNow_1
    refine o_I (T_X13_people mT.1 (by omega)) ?_
    rintro _ T ⟨rfl, rfl⟩
    refine o_f (nI_ge hp (by omega)) ?_
    refine o_V (T_X13_cp (a := 0) (b := 756) mT.1 mT.2.1 (by omega) (by omega) (by omega) (by omega)) ?_
    rintro T2 ⟨a2, -, -, k2⟩
    have m2 := mT.j (k2.mono (dX_mJ (b := 756) (by omega)))
    refine o_I (T_X13_walks (b := 756) m2.1 hI a2 hB (by omega) hp m2.2.2.1 (by omega)) ?_
    rintro _ T3 ⟨-, a3, -, k3⟩
    have t206 : ∀ i, gI T3 206 i = gI T 206 i := fun i => by
      rw [k3.2 _ _ (by unfold dX; omega), k2.2 _ _ (by unfold dX; omega)]
    have ff := hf.tr ((k2.mono (dX_mJ (b := 756) (by omega))).tr (k3.mono (dX_mJ (b := 756) (by omega))))
    refine o_loopT (F := fun f vs S => F_X13_whoNow f 2 vs S) (c := 3) (B := 4600) (y := pY P) (fun y vs U => ∃ w : Bool, vs = [.ref 186, .int (nI (bs (agr P L fd) p)), .int (nI p), .int (if w then 1 else 0), .int (nI y)] ∧ (w = true ↔ ∀ j, j < y → fd j ≠ -1000 → chg P L p j = fd j) ∧ (∀ j, j < y → gI U 206 (8 * p + j) = chg P L p j) ∧ Fr (fun x k => x = 206 ∧ 8 * p ≤ k) T3 U) ?_ ?_ _ T3 ⟨true, rfl, ⟨fun _ j hj => absurd hj (Nat.not_lt_zero j), fun _ => rfl⟩, fun j hj => absurd hj (Nat.not_lt_zero j), Fr.refl _⟩ (by omega)
    · rintro y _ U g2 hyy ⟨w, rfl, hw, hU, hfU⟩ hg2 rk2
      have fU := ff.tr (hfU.mono (E := mJ) (fun x k d => by omega))
      have mU := h.j fU
      have aU := a3.fr hfU (fun k a b d => by omega)
      have FU : MFd U 0 fd := hF.fg fU.g (fun k a b d => by unfold mJ at d; omega)
      show zO (F_X13_whoNow g2 2 _ _) _
      obtain ⟨g2, rfl, hg2⟩ := g1 (n := 4602) (f := g2) (by omega)
      rw [E_X13_whoNow_2]; unfold F_X13_whoNow_2
      refine o_I (T_X13_yards mU.1 (by omega)) ?_
      rintro _ U ⟨rfl, rfl⟩
      refine o_f (nI_ge hyy (by omega)) ?_
      refine o_X (nA2' (n := 760) rfl) (by omega) ?_
      refine o_X (nA2' (n := 4) rfl) (by omega) ?_
      have e8 : ((8 : Int32) * nI p) + nI y = nI (8 * p + y) := by rw [show (8 : Int32) = nI 8 from rfl, pk_mul, nI_add]
      refine o_X e8 (by omega) ?_
      have ev := aU (4 + y) (by omega)
      rw [← Nat.add_assoc] at ev
      rw [mU.1.1.state, mU.1.1.mores, ev, mU.2.1.z (k := 4 + y) (by omega)]
      refine o_s (fun U2 u2 => ?_)
      have k4 : Fr (fun x k => x = 206 ∧ 8 * p ≤ k) T3 U2 := hfU.sI u2 ⟨rfl, by omega⟩
      have fU2 := ff.tr (k4.mono (E := mJ) (fun x k d => by omega))
      have mU2 := h.j fU2
      have FU2 : MFd U2 0 fd := hF.fg fU2.g (fun k a b d => by unfold mJ at d; omega)
      have hU2 : ∀ j, j < y + 1 → gI U2 206 (8 * p + j) = chg P L p j := fun j hj => by
        subst u2
        rw [gI_sI]
        by_cases e : j = y
        · rw [if_pos ⟨rfl, by omega⟩, e]; rfl
        · rw [if_neg (by omega)]
          exact hU j (by omega)
      have r5 : ∀ (g3 : Nat) (w2 : Bool), g2 ≤ g3 + 1 → (w2 = true ↔ ∀ j, j < y + 1 → fd j ≠ -1000 → chg P L p j = fd j) → zI (F_X13_whoNow g3 5 [.ref 186, .int (nI (bs (agr P L fd) p)), .int (nI p), .int (nI y), .int (if w2 then 1 else 0)] U2) (fun v T => v = nI (bs (agr P L fd) (pN P)) ∧ (∀ p, p < pN P → ∀ y, y < pY P → gI T 206 (8 * p + y) = chg P L p y) ∧ Fr mJ S T) := by
        intro g3 w2 hg3 hw2
        obtain ⟨g3, rfl, hg4⟩ := g1 (n := 4600) (f := g3) (by omega)
        rw [E_X13_whoNow_5]; unfold F_X13_whoNow_5
        exact rk2 g3 _ _ (by omega) ⟨w2, by rw [nI_1], hw2, hU2, k4⟩
      have efd : gI U2 200 (28 + y) = fd y := by have := FU2 y (by omega); rw [Nat.zero_add] at this; exact this
      cases w with
      | false =>
        refine o_t rfl ?_
        obtain ⟨g2, rfl, hg2⟩ := g1 (n := 4601) (f := g2) (by omega)
        rw [E_X13_whoNow_3]; unfold F_X13_whoNow_3
        refine r5 g2 false (by omega) ⟨fun h => (by cases h), fun h => ?_⟩
        exact absurd (hw.mpr (fun j hj => h j (by omega))) (by decide)
      | true =>
        have hw1 := hw.mp rfl
        refine o_f (by decide) ?_
        refine o_X (nA2' (n := 28) rfl) (by omega) ?_
        rw [mU2.1.1.state, efd]
        refine o_if (fun c => ?_) (fun c => ?_)
        · obtain ⟨g2, rfl, hg2⟩ := g1 (n := 4601) (f := g2) (by omega)
          rw [E_X13_whoNow_4]; unfold F_X13_whoNow_4
          refine r5 g2 true (by omega) ⟨fun _ j hj hne => ?_, fun _ => rfl⟩
          by_cases e : j = y
          · rw [e] at hne; exact absurd c hne
          · exact hw1 j (by omega) hne
        · refine o_X (nA2' (n := 28) rfl) (by omega) ?_
          refine o_X e8 (by omega) ?_
          rw [efd, mU2.1.1.mores, hU2 y (by omega)]
          refine o_lI ?_
          have e2 : (if fd y = chg P L p y then (1 : Int32) else 0) = if decide (chg P L p y = fd y) then 1 else 0 := by
            by_cases z : fd y = chg P L p y
            · rw [if_pos z, decide_eq_true z.symm]; rfl
            · rw [if_neg z, decide_eq_false (fun h => z h.symm)]; rfl
          rw [e2]
          refine rk2 g2 _ _ (by omega) ⟨_, by rw [nI_1], ⟨fun hh j hj hne => ?_, fun hh => ?_⟩, hU2, k4⟩
          · by_cases e : j = y
            · rw [e]; exact of_decide_eq_true hh
            · exact hw1 j (by omega) hne
          · exact decide_eq_true (hh y (by omega) c)
    · rintro _ U g2 ⟨w, rfl, hw, hU, hfU⟩ hg2 hgg2
      have fU := ff.tr (hfU.mono (E := mJ) (fun x k d => by omega))
      have mU := h.j fU
      have hwa : w = agr P L fd p := by
        rw [Bool.eq_iff_iff, hw]
        exact decide_eq_true_iff.symm
      show zO (F_X13_whoNow g2 2 _ _) _
      obtain ⟨g2, rfl, hg2⟩ := g1 (n := 4602) (f := g2) (by omega)
      rw [E_X13_whoNow_2]; unfold F_X13_whoNow_2
      refine o_I (T_X13_yards mU.1 (by omega)) ?_
      rintro _ U ⟨rfl, rfl⟩
      refine o_t (nI_le (Nat.le_refl _) (by omega)) ?_
      refine o_lI ?_
      rw [hwa, bs_orI (agr P L fd) (by omega) (by cases agr P L fd p <;> simp)]
      refine rk g2 _ _ (by omega) ⟨by rw [nI_1], fun j hj y hyy => ?_, fU⟩
      by_cases e : j = p
      · rw [e]; exact hU y hyy
      · rw [hfU.2 _ _ (by omega), t206]
        exact hT j (by omega) y hyy
  · rintro _ T g ⟨rfl, hT, hf⟩ hg
    have mT := h.j hf
    show zO (F_X13_whoNow g 1 _ _) _
    obtain ⟨g, ge, hG⟩ := g1 hg; subst ge; clear hg; have hg := hG; clear hG; rw [E_X13_whoNow_1]; unfold F_X13_whoNow_1
    refine o_I (T_X13_people mT.1 (by omega)) ?_
    rintro _ T ⟨rfl, rfl⟩
    exact o_t (nI_le (Nat.le_refl _) (by omega)) (i_r ⟨rfl, hT, hf⟩)
theorem B_who (hg : 6000 ≤ f) : Both n (fun S => F_X12_who f 0 [.ref 0] S) (fun S => F_X13_who f 0 [.ref 186] S) := by
  refine Both.ro (fun S T A q hC hX hL hM hA hB hd => ?_)
  obtain ⟨q2, ⟨hX2, hb0, hL2, hF⟩, hr⟩ := id hC
  have mx := hM.x hA
  refine ⟨nI (bs (agr (plA A) (lkA A) (fdA A)) (pN (plA A))), ?_, ?_⟩
  · obtain ⟨g, ge, hG⟩ := g1 hg; subst ge; clear hg; have hg := hG; clear hG; rw [E_X12_who_0]; unfold F_X12_who_0
    rw [hX.c12, hX.c6]
    refine o_I (T_X7_suspects hX hL hB hF (by omega)) ?_
    rintro _ S1 ⟨rfl, -, f1⟩
    exact i_r ⟨rfl, f1⟩
  · obtain ⟨g, ge, hG⟩ := g1 hg; subst ge; clear hg; have hg := hG; clear hG; rw [E_X13_who_0]; unfold F_X13_who_0
    refine o_s (fun T1 e1 => ?_)
    have f1 := (Fr.refl (D := mJ) T).sI e1 (by unfold mJ; omega)
    have m1 := mx.j f1
    refine o_I (T_X13_whoNow m1 hB (hM.1.2.2.1.fg f1.g (fun k a b d => by unfold mJ at d; omega)) (by omega)) ?_
    rintro _ T2 ⟨rfl, -, f2⟩
    exact i_r ⟨rfl, f1.tr f2⟩
theorem B_look (hg : 6000 ≤ f) : Both n (fun S => F_X12_look f 0 [.ref 0] S) (fun S => F_X13_look f 0 [.ref 186] S) := by
  refine Both.ro (fun S T A q hC hX hL hM hA hB hd => ?_)
  obtain ⟨q2, ⟨hX2, hb0, hL2, hF⟩, hr⟩ := id hC
  have mx := hM.x hA
  have hy := hX.pi.1.2.1
  have hn := hX.pi.1.2.2.1
  have h64 := bs_64 (g := agr (plA A) (lkA A) (fdA A)) hn
  refine ⟨(loN (plA A) (lkA A) (fdA A) (pY (plA A))).1, ?_, ?_⟩
  · obtain ⟨g, ge, hG⟩ := g1 hg; subst ge; clear hg; have hg := hG; clear hG; rw [E_X12_look_0]; unfold F_X12_look_0
    rw [hX.c12, hX.c6]
    refine o_I (T_X7_suspects hX hL hB hF (by omega)) ?_
    rintro _ S1 ⟨rfl, c1, f1⟩
    refine o_I (T_X7_yardThatParts (hX.j f1) (hL.j43 f1) c1 (by omega)) ?_
    rintro _ S1 ⟨rfl, rfl⟩
    exact i_r ⟨rfl, f1⟩
  · obtain ⟨g, ge, hG⟩ := g1 hg; subst ge; clear hg; have hg := hG; clear hG; rw [E_X13_look_0]; unfold F_X13_look_0
    refine o_s (fun T1 e1 => ?_)
    have f1 := (Fr.refl (D := mJ) T).sI e1 (by unfold mJ; omega)
    have m1 := mx.j f1
    refine o_I (T_X13_whoNow m1 hB (hM.1.2.2.1.fg f1.g (fun k a b d => by unfold mJ at d; omega)) (by omega)) ?_
    rintro _ T2 ⟨rfl, c2, f2⟩
    have f2 := f1.tr f2
    have m2 := mx.j f2
    refine o_I (T_X13_bits (by omega) (by omega)) ?_
    rintro _ T2 ⟨rfl, rfl⟩
    rw [pc_bs (by omega)]
    generalize hP : plA A = P at *
    generalize hLL : lkA A = L at *
    generalize hfd : fdA A = fd at *
    have tb : ∀ p, p < pN P → ((nI (bs (agr P L fd) (pN P)) >>> (nI p &&& 31)) &&& (1 : Int32) = (1 : Int32) ↔ agr P L fd p = true) := fun p hp => by
      rw [bitI1 (by omega) (by omega), bs_tb, decide_eq_true hp, Bool.true_and]
    refine o_loop (F := fun f vs S => F_X13_look f 1 vs S) (c := 220) (B := 100) (y := (pY P)) (fun y vs U => vs = [.ref 186, .int (nI (bs (agr P L fd) (pN P))), .int (loN P L fd y).1, .int (nI (loN P L fd y).2), .int (nI y)] ∧ U = T2) ?_ ?_ 0 _ T2 g (by omega) ⟨rfl, rfl⟩ (by omega)
    · rintro y _ T2 g hyy ⟨rfl, rfl⟩ hg rk
      have hlo := loN_le (P := P) (L := L) (fd := fd) y
      simp only [loN] at rk
      generalize loN P L fd y = x at hlo rk
      show zO (F_X13_look g 1 _ _) _
      replace hg : 319 + 1 ≤ g := by omega
      obtain ⟨g, ge, hG⟩ := g1 hg; subst ge; clear hg; have hg := hG; clear hG; rw [E_X13_look_1]; unfold F_X13_look_1
      refine o_I (T_X13_yards m2.1 (by omega)) ?_
      rintro _ T2 ⟨rfl, rfl⟩
      refine o_f (nI_ge hyy (by omega)) ?_
      refine o_loopT (F := fun f vs S => F_X13_look f 2 vs S) (c := 30) (B := 100) (y := pN P) (fun p vs U => vs = [.ref 186, .int (nI (bs (agr P L fd) (pN P))), .int x.1, .int (nI x.2), .int (nI y), .int (nI (moN P L fd y p)), .int (nI p)] ∧ U = T2) ?_ ?_ _ T2 ⟨rfl, rfl⟩ (by omega)
      · rintro p _ T2 g hp ⟨rfl, rfl⟩ hg rk2
        have hmo := moN_le (P := P) (L := L) (fd := fd) (y := y) p
        have hal := cnt_le (fun q => agr P L fd q && decide (chg P L q y = chg P L p y)) (pN P)
        simp only [moN] at rk2
        generalize moN P L fd y p = mo at hmo rk2
        show zO (F_X13_look g 2 _ _) _
        replace hg : 129 + 1 ≤ g := by omega
        obtain ⟨g, ge, hG⟩ := g1 hg; subst ge; clear hg; have hg := hG; clear hG; rw [E_X13_look_2]; unfold F_X13_look_2
        refine o_I (T_X13_people m2.1 (by omega)) ?_
        rintro _ T2 ⟨rfl, rfl⟩
        refine o_f (nI_ge hp (by omega)) ?_
        refine o_loopT (F := fun f vs S => F_X13_look f 3 vs S) (c := 3) (B := 90) (y := pN P) (fun o vs U => vs = [.ref 186, .int (nI (bs (agr P L fd) (pN P))), .int x.1, .int (nI x.2), .int (nI y), .int (nI mo), .int (nI p), .int (nI (cnt (fun q => agr P L fd q && decide (chg P L q y = chg P L p y)) o)), .int (nI o)] ∧ U = T2) ?_ ?_ _ T2 ⟨rfl, rfl⟩ (by omega)
        · rintro o _ T2 g ho ⟨rfl, rfl⟩ hg rk3
          have es : cnt (fun q => agr P L fd q && decide (chg P L q y = chg P L p y)) (o + 1) = cnt (fun q => agr P L fd q && decide (chg P L q y = chg P L p y)) o + (if (agr P L fd o && decide (chg P L o y = chg P L p y)) then 1 else 0) := rfl
          show zO (F_X13_look g 3 _ _) _
          replace hg : 90 + 1 + 1 + 1 ≤ g := by omega
          obtain ⟨g, ge, hG⟩ := g1 hg; subst ge; clear hg; have hg := hG; clear hG; rw [E_X13_look_3]; unfold F_X13_look_3
          refine o_I (T_X13_people m2.1 (by omega)) ?_
          rintro _ T2 ⟨rfl, rfl⟩
          refine o_f (nI_ge ho (by omega)) ?_
          refine o_if (fun c => ?_) (fun c => ?_)
          · rw [tb o ho] at c
            have e8 : ∀ p, ((8 : Int32) * nI p) + nI y = nI (8 * p + y) := fun p => by rw [show (8 : Int32) = nI 8 from rfl, pk_mul, nI_add]
            refine o_X (e8 o) (by omega) ?_
            refine o_X (e8 p) (by omega) ?_
            rw [m2.1.1.mores, c2 o ho y hyy, c2 p hp y hyy]
            refine o_lI ?_
            have e1 : (if chg P L o y = chg P L p y then (1 : Int32) else 0) = nI (if (agr P L fd o && decide (chg P L o y = chg P L p y)) then 1 else 0) := by
              rw [c, Bool.true_and]
              by_cases z : chg P L o y = chg P L p y
              · rw [if_pos z, decide_eq_true z]; rfl
              · rw [if_neg z, decide_eq_false z]; rfl
            rw [e1, nI_add, ← es]
            exact rk3 g _ _ (by omega) ⟨by rw [nI_1], rfl⟩
          · rw [tb o ho] at c
            obtain ⟨g, ge, hG⟩ := g1 hg; subst ge; clear hg; have hg := hG; clear hG; rw [E_X13_look_4]; unfold F_X13_look_4
            obtain ⟨g, ge, hG⟩ := g1 hg; subst ge; clear hg; have hg := hG; clear hG; rw [E_X13_look_5]; unfold F_X13_look_5
            refine rk3 g _ _ (by omega) ⟨?_, rfl⟩
            rw [nI_1, es, show agr P L fd o = false by simpa using c, show (0 : Int32) = nI 0 from rfl, nI_add]
            rfl
        · rintro _ T2 g' ⟨rfl, rfl⟩ hg' hgg
          show zO (F_X13_look g' 3 _ _) _
          obtain ⟨g', rfl, hg'⟩ := g1 (n := 92) (f := g') (by omega)
          rw [E_X13_look_3]; unfold F_X13_look_3
          refine o_I (T_X13_people m2.1 (by omega)) ?_
          rintro _ T2 ⟨rfl, rfl⟩
          refine o_t (nI_le (Nat.le_refl _) (by omega)) ?_
          refine o_lI ?_
          refine rk2 g' _ _ (by omega) ⟨?_, rfl⟩
          rw [nI_1]
          have ea : alN P L fd y p = cnt (fun q => agr P L fd q && decide (chg P L q y = chg P L p y)) (pN P) := rfl
          rw [ea]
          by_cases c1 : agr P L fd p = true
          · rw [if_pos ((tb p hp).mpr c1), if_pos c1]
            by_cases c2 : mo < cnt (fun q => agr P L fd q && decide (chg P L q y = chg P L p y)) (pN P)
            · rw [if_neg (nI_ge c2 (by omega)), Nat.max_eq_right (by omega)]
            · rw [if_pos (nI_le (by omega) (by omega)), Nat.max_eq_left (by omega)]
          · rw [if_neg (fun h => c1 ((tb p hp).mp h)), if_neg c1]
      · rintro _ T2 g' ⟨rfl, rfl⟩ hg' hgg
        have hmo := moN_le (P := P) (L := L) (fd := fd) (y := y) (pN P)
        show zO (F_X13_look g' 2 _ _) _
        obtain ⟨g', rfl, hg'⟩ := g1 (n := 100) (f := g') (by omega)
        rw [E_X13_look_2]; unfold F_X13_look_2
        refine o_I (T_X13_people m2.1 (by omega)) ?_
        rintro _ T2 ⟨rfl, rfl⟩
        refine o_t (nI_le (Nat.le_refl _) (by omega)) ?_
        refine rk g' _ _ (by omega) ⟨?_, rfl⟩
        rw [nI_1]
        by_cases c : moN P L fd y (pN P) < x.2
        · rw [if_neg (nI_ge c (by omega)), if_neg (nI_ge c (by omega)), if_pos c]
        · rw [if_pos (nI_le (by omega) (by omega)), if_pos (nI_le (by omega) (by omega)), if_neg c]
    · rintro _ T2 g ⟨rfl, rfl⟩ hg
      show zO (F_X13_look g 1 _ _) _
      obtain ⟨g, ge, hG⟩ := g1 hg; subst ge; clear hg; have hg := hG; clear hG; rw [E_X13_look_1]; unfold F_X13_look_1
      refine o_I (T_X13_yards m2.1 (by omega)) ?_
      rintro _ T2 ⟨rfl, rfl⟩
      exact o_t (nI_le (Nat.le_refl _) (by omega)) (i_r ⟨rfl, f2⟩)
end WH

/-! the reference: all walk, hours, copies -/
theorem Int32_shr1 : ∀ k, k < 31 → ∀ n : Nat, n < 2 ^ 31 → nI n >>> (nI k &&& 31) = nI (n / 2 ^ k) := by
  intro k hk n hn
  refine pk_shrN hn _ k ?_
  exact co_dec (N := 31) (P := fun k => ((nI k &&& 31).toBitVec.smod 32).toNat = k) (by decide +kernel) hk
theorem bitI {n k : Nat} (hk : k < 31) (hn : n < 2 ^ 31) : (nI n >>> (nI k &&& 31)) &&& (1 : Int32) = nI (if n.testBit k then 1 else 0) := by
  have h1 : n / 2 ^ k ≤ n := Nat.div_le_self _ _
  rw [Int32_shr1 k hk n hn, pk_andN (by omega) 1 rfl]
  apply congrArg nI
  rw [Nat.testBit_eq_decide_div_mod_eq, Nat.pow_one]
  by_cases h : n / 2 ^ k % 2 = 1
  · rw [if_pos (decide_eq_true h)]
    exact h
  · rw [if_neg (by rw [decide_eq_false h]; decide)]
    have : n / 2 ^ k % 2 < 2 := Nat.mod_lt _ (by omega)
    omega
theorem bitI0 {n k : Nat} (hk : k < 31) (hn : n < 2 ^ 31) : (nI n >>> (nI k &&& 31)) &&& (1 : Int32) = (0 : Int32) ↔ n.testBit k = false := by
  rw [bitI hk hn]
  by_cases h : n.testBit k
  · rw [if_pos h, h]; decide
  · rw [if_neg h]
    simp at h
    rw [h]
    decide
theorem bitI1 {n k : Nat} (hk : k < 31) (hn : n < 2 ^ 31) : (nI n >>> (nI k &&& 31)) &&& (1 : Int32) = (1 : Int32) ↔ n.testBit k = true := by
  rw [bitI hk hn]
  by_cases h : n.testBit k
  · rw [if_pos h, h]; decide
  · rw [if_neg h]
    simp at h
    rw [h]
    decide
section MH
variable {S : aS} {f b i k d B : Nat} {P : aP} {L : Lk}
theorem MM.x {T : aS} (h : MM S P) (hf : Fr (dX b) S T) : MM T P := h.fr hf (fun x k h1 h2 h3 => by omega)
theorem T_X13_allWalk {n : Nat} (h : MM S P) (hI : PI P) (hA : MA S b L) (hB : LI B L) (hb : b ≤ 792) (hd : DN S P d) (hn : n < 2 ^ 31) (hg : 4500 ≤ f) : zU (F_X13_allWalk f 0 [.ref 186, .int (nI b), .int (nI n)] S) (fun T => MA T b (aw P d (fun k => n.testBit k) L (pN P)) ∧ Fr (dX b) S T) := by
  have hN := hI.1.2.2.1
  obtain ⟨g, ge, hG⟩ := g1 hg; subst ge; clear hg; have hg := hG; clear hG; rw [E_X13_allWalk_0]; unfold F_X13_allWalk_0
  refine o_loop (F := fun f vs S => F_X13_allWalk f 1 vs S) (c := 2) (B := 4410) (y := (pN) P) (fun k vs T => vs = [.ref 186, .int (nI b), .int (nI n), .int (nI k)] ∧ MA T b (aw P d (fun k => n.testBit k) L k) ∧ Fr (dX b) S T) ?_ ?_ 0 _ S g (by omega) ⟨rfl, hA, Fr.refl S⟩ (by omega)
  · rintro k _ T g hk ⟨rfl, hT, hf⟩ hg rec
    have mT := h.x hf
    show zO (F_X13_allWalk g 1 _ _) _
    obtain ⟨g, ge, hG⟩ := g1 hg; subst ge; clear hg; have hg := hG; clear hG; rw [E_X13_allWalk_1]; unfold F_X13_allWalk_1
    refine o_I (T_X13_people mT (by omega)) ?_
    rintro _ T ⟨rfl, rfl⟩
    refine o_f (nI_ge hk (by omega)) ?_
    have e : aw P d (fun k => n.testBit k) L (k + 1) = if n.testBit k then aw P d (fun k => n.testBit k) L k else wk P k d (aw P d (fun k => n.testBit k) L k) := rfl
    refine o_if (fun c => ?_) (fun c => ?_)
    · rw [bitI0 (by omega) hn] at c
      rw [if_neg (by rw [c]; decide)] at e
      refine o_I (T_X13_walks mT hI hT (aw_LI hI hB (by omega)) hb hk (hd.fr hf (by omega)) (by omega)) ?_
      rintro _ T2 ⟨-, h1, -, h3⟩
      obtain ⟨g, ge, hG⟩ := g1 hg; subst ge; clear hg; have hg := hG; clear hG; rw [E_X13_allWalk_2]; unfold F_X13_allWalk_2
      exact rec g _ _ (by omega) ⟨by rw [nI_1], by rw [e]; exact h1, hf.tr h3⟩
    · rw [bitI0 (by omega) hn] at c
      rw [if_pos (by simpa using c)] at e
      obtain ⟨g, ge, hG⟩ := g1 hg; subst ge; clear hg; have hg := hG; clear hG; rw [E_X13_allWalk_2]; unfold F_X13_allWalk_2
      exact rec g _ _ (by omega) ⟨by rw [nI_1], by rw [e]; exact hT, hf⟩
  · rintro _ T g ⟨rfl, hT, hf⟩ hg
    have mT := h.x hf
    show zO (F_X13_allWalk g 1 _ _) _
    obtain ⟨g, ge, hG⟩ := g1 hg; subst ge; clear hg; have hg := hG; clear hG; rw [E_X13_allWalk_1]; unfold F_X13_allWalk_1
    refine o_I (T_X13_people mT (by omega)) ?_
    rintro _ T ⟨rfl, rfl⟩
    exact o_t (nI_le (Nat.le_refl _) (by omega)) (u_r ⟨hT, hf⟩)
theorem T_X13_all (h : MM S P) (hI : PI P) (hA : MA S b L) (hB : LI B L) (hb : b ≤ 792) (hd : DN S P d) (hg : 4500 ≤ f) : zU (F_X13_allWalk f 0 [.ref 186, .int (nI b), .int 0] S) (fun T => MA T b (awA P d L) ∧ Fr (dX b) S T) := by
  have := T_X13_allWalk (n := 0) h hI hA hB hb hd (by omega) hg
  have e : aw P d (fun k => (0 : Nat).testBit k) L (pN P) = awA P d L := aw_cg (fun k hk => Nat.zero_testBit k)
  rw [e] at this
  exact this
theorem T_X13_copies {a c n : Nat} (h : MR S) (ha : a + n ≤ 828) (hc : c + n ≤ 828) (hac : a + n ≤ c ∨ c + n ≤ a ∨ n = 0) (hg : n + 2 ≤ f) : zU (F_X13_copies f 0 [.ref 186, .int (nI a), .int (nI c), .int (nI n)] S) (fun T => (∀ k, k < n → gI T 200 (c + k) = gI S 200 (a + k)) ∧ Fr (fun q k => q = 200 ∧ c ≤ k ∧ k < c + n) S T) := by
  obtain ⟨g, ge, hG⟩ := g1 hg; subst ge; clear hg; have hg := hG; clear hG; rw [E_X13_copies_0]; unfold F_X13_copies_0
  refine o_loop (F := fun f vs S => F_X13_copies f 1 vs S) (c := 1) (B := 0) (y := n) (fun k vs T => vs = [.ref 186, .int (nI a), .int (nI c), .int (nI n), .int (nI k)] ∧ (∀ j, j < k → gI T 200 (c + j) = gI S 200 (a + j)) ∧ Fr (fun q k => q = 200 ∧ c ≤ k ∧ k < c + n) S T) ?_ ?_ 0 _ S g (by omega) ⟨rfl, fun j hj => absurd hj (Nat.not_lt_zero j), Fr.refl S⟩ (by omega)
  · rintro k _ T g hk ⟨rfl, hT, hf⟩ hg rec
    have mT := h.fr hf
    show zO (F_X13_copies g 1 _ _) _
    obtain ⟨g, ge, hG⟩ := g1 hg; subst ge; clear hg; have hg := hG; clear hG; rw [E_X13_copies_1]; unfold F_X13_copies_1
    refine o_f (nI_ge hk (by omega)) ?_
    refine o_X (nI_add a k) (by omega) ?_
    refine o_X (nI_add c k) (by omega) ?_
    rw [mT.state]
    refine o_s (fun T1 e1 => ?_)
    refine rec g _ _ (by omega) ⟨by rw [nI_1], fun j hj => ?_, hf.sI e1 ⟨rfl, by omega, by omega⟩⟩
    subst e1
    rw [gI_sI]
    by_cases e : j = k
    · subst e
      rw [if_pos ⟨rfl, rfl⟩, hf.2 _ _ (by omega)]
    · rw [if_neg (by omega)]
      exact hT j (by omega)
  · rintro _ T g ⟨rfl, hT, hf⟩ hg
    show zO (F_X13_copies g 1 _ _) _
    obtain ⟨g, ge, hG⟩ := g1 hg; subst ge; clear hg; have hg := hG; clear hG; rw [E_X13_copies_1]; unfold F_X13_copies_1
    exact o_t (nI_le (Nat.le_refl _) (by omega)) (u_r ⟨hT, hf⟩)
/-- the state at a goes to b -/
theorem T_X13_cp {a : Nat} (h : MM S P) (hA : MA S a L) (ha : a ≤ 792) (hb : b ≤ 792) (hab : a + 28 ≤ b ∨ b + 28 ≤ a) (hg : 30 ≤ f) : zU (F_X13_copies f 0 [.ref 186, .int (nI a), .int (nI b), .int 28] S) (fun T => MA T b L ∧ MA T a L ∧ MM T P ∧ Fr (dX b) S T) := by
  refine u_m (T_X13_copies (a := a) (c := b) (n := 28) h.1 (by omega) (by omega) (by omega) hg) ?_
  rintro T ⟨h1, h2⟩
  have hf : Fr (dX b) S T := h2.mono (fun q k h => by unfold dX; omega)
  exact ⟨fun k hk => by rw [h1 k hk]; exact hA k hk, hA.fr hf (fun k h1 h2 h3 => by unfold dX at h3; omega), h.x hf, hf⟩
theorem T_X13_empties {k : Nat} (h : MM S P) (hA : MA S b L) (hb : b ≤ 792) (hk : k < 8) (hg : 1 ≤ f) : zI (F_X13_empties f 0 [.ref 186, .int (nI b), .int (nI k)] S) (fun x T => x = nI (L (20 + k)) ∧ MA T b (empB L k (pPe P)) ∧ Fr (dX b) S T) := by
  obtain ⟨g, ge, hG⟩ := g1 hg; subst ge; clear hg; have hg := hG; clear hG; rw [E_X13_empties_0]; unfold F_X13_empties_0
  refine o_X (nA3 (n := 20) rfl) (by omega) ?_
  refine o_X (nA3 (n := 20) rfl) (by omega) ?_
  rw [h.1.state]
  refine o_s (fun S1 e1 => ?_)
  have h1 := hA.s (k := 20 + k) (v := 0) e1
  have f1 := (Fr.refl (D := dX b) S).sI e1 (by omega)
  have m1 := h.x f1
  refine o_X (nA2 (n := 3) rfl) (by omega) ?_
  refine o_X (n := 3) rfl (by omega) ?_
  refine o_X (nA2 (n := 3) rfl) (by omega) ?_
  rw [m1.1.state, m1.1.paths, h1 3 (by omega), m1.2.1.2.2.1, nI_add]
  refine o_s (fun S2 e2 => ?_)
  refine i_r ⟨hA _ (by omega), (h1.s (k := 3) e2).cg (fun j hj => ?_), f1.sI e2 (by omega)⟩
  unfold empB
  simp only [up1_at]
  rw [if_neg (show ¬ 3 = 20 + k by omega)]
theorem T_X13_offs {k : Nat} (h : MR S) (hA : MA S b L) (hb : b ≤ 792) (hk : k < 8) (hg : 1 ≤ f) : zI (F_X13_offs f 0 [.ref 186, .int (nI b), .int (nI k)] S) (fun x T => x = nI (L (20 + k)) ∧ MA T b (setB L k 0) ∧ Fr (dX b) S T) := by
  obtain ⟨g, ge, hG⟩ := g1 hg; subst ge; clear hg; have hg := hG; clear hG; rw [E_X13_offs_0]; unfold F_X13_offs_0
  refine o_X (nA3 (n := 20) rfl) (by omega) ?_
  refine o_X (nA3 (n := 20) rfl) (by omega) ?_
  rw [h.state]
  refine o_s (fun S1 e1 => ?_)
  have h1 := hA.s (k := 20 + k) (v := 0) e1
  have f1 := (Fr.refl (D := dX b) S).sI e1 (by omega)
  refine o_X (nA3 (n := 12) rfl) (by omega) ?_
  rw [(h.fr f1).state]
  refine o_s (fun S2 e2 => ?_)
  refine i_r ⟨hA _ (by omega), (h1.s (k := 12 + k) (v := 0) e2).cg (fun j hj => ?_), f1.sI e2 (by omega)⟩
  unfold setB
  simp only [up1_at]
  repeat' split
  all_goals omega
/-- what the winds do, in the reference -/
theorem T_X13_passes (h : MM S P) (hI : PI P) (hA : MA S b L) (hB : LI B L) (hBB : B < 2 ^ 30) (hb : b ≤ 792) (hg : 100 ≤ f) : zI (F_X13_passes f 0 [.ref 186, .int (nI b)] S) (fun x T => x = nI (wind P (L 0)) ∧ MA T b (hrL P L) ∧ Fr (fun q k => dX b q k ∨ q = 202) S T) := by
  have hy := hI.1.2.1
  have hw := wind_le hI (L 0)
  have h0 := hB.1
  have mm : ∀ T, Fr (fun q k => dX b q k ∨ q = 202) S T → MM T P := fun T hf => h.fr hf (fun x k h1 h2 h3 => by unfold dX at h3; omega)
  obtain ⟨g, ge, hG⟩ := g1 hg; subst ge; clear hg; have hg := hG; clear hG; rw [E_X13_passes_0]; unfold F_X13_passes_0
  refine o_X (n := b) (by rw [show (0 : Int32) = nI 0 from rfl, nI_add, Nat.add_zero]) (by omega) ?_
  rw [h.1.state, show gI S 200 b = nI (L 0) from hA 0 (by omega)]
  refine o_I (T_X13_windOf h hI (by omega) (by omega)) ?_
  rintro _ S ⟨rfl, rfl⟩
  refine o_lI ?_
  generalize ew : wind P (L 0) = w at hw ⊢
  have eby : (if nI w = (1 : Int32) then (1 : Int32) else (-1 : Int32)) = if w = 1 then 1 else -1 := by
    by_cases e : w = 1
    · rw [if_pos e, e]; rfl
    · rw [if_neg e, if_neg (show ¬ nI w = (1 : Int32) from nI_ne (b := 1) e (by omega) (by omega))]
  rw [eby]
  generalize eb2 : (if w = 1 then (1 : Int32) else -1) = by_
  -- ahead
  have ahead : ∀ (T : aS) (g k : Nat), MM T P → k < pY P → 3 ≤ g → zI (F_X13_isYard g 0 [.ref 186, .int (nI k + by_)] T) (fun x T2 => x = (if (w = 1 ∧ k + 1 < pY P) ∨ (w ≠ 1 ∧ 0 < k) then 1 else 0) ∧ T2 = T) := by
    intro T g k mT hk hg
    subst eb2
    by_cases e : w = 1
    · rw [if_pos e, nI_1]
      by_cases e2 : k + 1 < pY P
      · rw [if_pos (Or.inl ⟨e, e2⟩)]
        exact T_X13_isYard mT hI e2 hg
      · rw [if_neg (by omega)]
        exact T_X13_isYard0 mT (Or.inr (nI_le (by omega) (by omega))) hg
    · rw [if_neg e]
      by_cases e2 : 0 < k
      · rw [if_pos (Or.inr ⟨e, e2⟩)]
        obtain ⟨j, rfl⟩ : ∃ j, k = j + 1 := ⟨k - 1, by omega⟩
        rw [pk_m1]
        exact T_X13_isYard mT hI (by omega) hg
      · rw [if_neg (by omega), show k = 0 by omega]
        exact T_X13_isYard0 mT (Or.inl (by decide)) hg
  have behind : ∀ (T : aS) (g k : Nat), MM T P → k < pY P → 3 ≤ g → zI (F_X13_isYard g 0 [.ref 186, .int (nI k - by_)] T) (fun x T2 => x = (if (w = 1 ∧ 0 < k) ∨ (w ≠ 1 ∧ k + 1 < pY P) then 1 else 0) ∧ T2 = T) := by
    intro T g k mT hk hg
    subst eb2
    by_cases e : w = 1
    · rw [if_pos e]
      by_cases e2 : 0 < k
      · rw [if_pos (Or.inl ⟨e, e2⟩)]
        obtain ⟨j, rfl⟩ : ∃ j, k = j + 1 := ⟨k - 1, by omega⟩
        rw [nI_pred]
        exact T_X13_isYard mT hI (by omega) hg
      · rw [if_neg (by omega), show k = 0 by omega]
        exact T_X13_isYard0 mT (Or.inl (by decide)) hg
    · rw [if_neg e, show nI k - (-1 : Int32) = nI k + 1 by rw [Int32.sub_eq_add_neg]; rfl, nI_1]
      by_cases e2 : k + 1 < pY P
      · rw [if_pos (Or.inr ⟨e, e2⟩)]
        exact T_X13_isYard mT hI e2 hg
      · rw [if_neg (by omega)]
        exact T_X13_isYard0 mT (Or.inr (nI_le (by omega) (by omega))) hg
  have o1 : ∀ k, k < pY P → outK w (pY P) L k ≤ L (4 + k) ∧ L (4 + k) ≤ 999 := fun k hk => ⟨outK_le, (hB.2 k (by omega)).1⟩
  -- the third loop
  have third : ∀ (T : aS) (g : Nat), 40 ≤ g → MA T b (fun j => if 4 ≤ j ∧ j < 4 + pY P then L j - outK w (pY P) L (j - 4) else L j) → (∀ k, k < pY P → gI T 202 k = nI (outK w (pY P) L k)) → Fr (fun q k => dX b q k ∨ q = 202) S T → zI (F_X13_passes g 5 [.ref 186, .int (nI b), .int (nI w), .int by_, .int 0] T) (fun x T => x = nI w ∧ MA T b (hrL P L) ∧ Fr (fun q k => dX b q k ∨ q = 202) S T) := by
    intro T g hg hA2 hbl hf
    refine o_loop (F := fun f vs S => F_X13_passes f 5 vs S) (c := 3) (B := 5) (y := (pY) P) (fun k vs T => vs = [.ref 186, .int (nI b), .int (nI w), .int by_, .int (nI k)] ∧ MA T b (fun j => if 4 ≤ j ∧ j < 4 + k then blK w (pY P) L (j - 4) else if 4 ≤ j ∧ j < 4 + pY P then L j - outK w (pY P) L (j - 4) else L j) ∧ (∀ k, k < pY P → gI T 202 k = nI (outK w (pY P) L k)) ∧ Fr (fun q k => dX b q k ∨ q = 202) S T) ?_ ?_ 0 _ T g (by omega) ⟨rfl, hA2.cg (fun j hj => (if_neg (show ¬ (4 ≤ j ∧ j < 4 + 0) by omega)).symm), hbl, hf⟩ (by omega)
    · rintro k _ T g hk ⟨rfl, hT, hbl, hf⟩ hg rec
      have mT := mm T hf
      have ob := o1 k hk
      have hin := inK_le (w := w) hB hy hk
      show zO (F_X13_passes g 5 _ _) _
      obtain ⟨g, ge, hG⟩ := g1 hg; subst ge; clear hg; have hg := hG; clear hG; rw [E_X13_passes_5]; unfold F_X13_passes_5
      refine o_I (T_X13_yards mT (by omega)) ?_
      rintro _ T ⟨rfl, rfl⟩
      refine o_f (nI_ge hk (by omega)) ?_
      refine o_I (behind T g k mT hk (by omega)) ?_
      rintro _ T ⟨rfl, rfl⟩
      refine o_e (r2 := F_X13_passes g 6 [.ref 186, .int (nI b), .int (nI w), .int by_, .int (nI k), .int (nI (inK w (pY P) L k))] T) ?_ ?_
      · by_cases c : (w = 1 ∧ 0 < k) ∨ (w ≠ 1 ∧ k + 1 < pY P)
        · rw [if_pos c, if_neg (by decide), mT.1.blown]
          subst eb2
          rcases c with ⟨c1, c2⟩ | ⟨c1, c2⟩
          · obtain ⟨j, rfl⟩ : ∃ j, k = j + 1 := ⟨k - 1, by omega⟩
            rw [if_pos c1, nI_pred]
            refine (bX_ok rfl (show j < 8 by omega)).trans ?_
            rw [hbl j (by omega)]
            have : inK w (pY P) L (j + 1) = outK w (pY P) L j := by
              unfold inK
              rw [if_pos c1, if_neg (by omega), c1]
              rfl
            rw [this]
          · rw [if_neg c1, show nI k - (-1 : Int32) = nI k + 1 by rw [Int32.sub_eq_add_neg]; rfl, nI_1]
            refine (bX_ok rfl (show k + 1 < 8 by omega)).trans ?_
            rw [hbl (k + 1) (by omega)]
            have : inK w (pY P) L k = outK w (pY P) L (k + 1) := by
              unfold inK
              rw [if_neg c1]
              by_cases w2 : w = 2
              · rw [if_pos w2, if_pos c2, w2]
              · rw [if_neg w2]
                unfold outK
                rw [if_neg c1, if_neg w2]
            rw [this]
        · rw [if_neg c, if_pos rfl]
          have : inK w (pY P) L k = 0 := by
            unfold inK
            by_cases c1 : w = 1
            · rw [if_pos c1, if_pos (by omega)]
            · rw [if_neg c1, if_neg (show ¬ k + 1 < pY P by omega)]
              split <;> rfl
          rw [this]
          rfl
      have hv : gI T 200 (b + (4 + k)) = nI (L (4 + k) - outK w (pY P) L k) := by
        rw [hT (4 + k) (by omega)]
        simp only []
        rw [if_neg (by omega), if_pos (by omega), show 4 + k - 4 = k by omega]
      obtain ⟨g, ge, hG⟩ := g1 hg; subst ge; clear hg; have hg := hG; clear hG; rw [E_X13_passes_6]; unfold F_X13_passes_6
      refine o_X (nA3 (n := 4) rfl) (by omega) ?_
      rw [mT.1.state, hv, nI_add, nA3 (n := 4) (c := 4) rfl]
      refine o_e (r2 := F_X13_passes g 7 [.ref 186, .int (nI b), .int (nI w), .int by_, .int (nI k), .int (nI (blK w (pY P) L k)), .int (nI (b + (4 + k))), .ref 200] T) ?_ ?_
      · unfold blK
        by_cases c : L (4 + k) - outK w (pY P) L k + inK w (pY P) L k ≤ 999
        · rw [if_pos (show _ ≤ (999 : Int32) from nI_le (b := 999) c (by omega))]
          refine (bX_ok rfl (by omega)).trans ?_
          rw [hv, nI_add, Nat.min_eq_right c]
        · rw [if_neg (show ¬ nI (L (4 + k) - outK w (pY P) L k + inK w (pY P) L k) ≤ (999 : Int32) from nI_ge (a := 999) (by omega) (by omega)), Nat.min_eq_left (by omega)]
          rfl
      obtain ⟨g, ge, hG⟩ := g1 hg; subst ge; clear hg; have hg := hG; clear hG; rw [E_X13_passes_7]; unfold F_X13_passes_7
      refine o_X rfl (by omega) ?_
      refine o_s (fun T1 e1 => ?_)
      refine rec g _ _ (by omega) ⟨by rw [nI_1], (hT.s (k := 4 + k) e1).cg (fun j hj => ?_), fun j hj => ?_, hf.sI e1 (Or.inl (Or.inl ⟨rfl, by omega, by omega⟩))⟩
      · rw [up1_at]
        by_cases c : j = 4 + k
        · rw [if_pos c, if_pos (by omega), c, show 4 + k - 4 = k by omega]
        · rw [if_neg c]
          by_cases c2 : 4 ≤ j ∧ j < 4 + k
          · rw [if_pos c2, if_pos (by omega)]
          · rw [if_neg c2, if_neg (show ¬ (4 ≤ j ∧ j < 4 + (k + 1)) by omega)]
      · subst e1
        rw [gI_sI, if_neg (by omega)]
        exact hbl j hj
    · rintro _ T g ⟨rfl, hT, hbl, hf⟩ hg
      have mT := mm T hf
      show zO (F_X13_passes g 5 _ _) _
      obtain ⟨g, ge, hG⟩ := g1 hg; subst ge; clear hg; have hg := hG; clear hG; rw [E_X13_passes_5]; unfold F_X13_passes_5
      refine o_I (T_X13_yards mT (by omega)) ?_
      rintro _ T ⟨rfl, rfl⟩
      refine o_t (nI_le (Nat.le_refl _) (by omega)) ?_
      have eb0 : nI b + (0 : Int32) = nI b := by rw [show (0 : Int32) = nI 0 from rfl, nI_add, Nat.add_zero]
      refine o_X eb0 (by omega) ?_
      refine o_X eb0 (by omega) ?_
      have e0 : gI T 200 b = nI (L 0) := by
        have := hT 0 (by omega)
        simp only [] at this
        rw [if_neg (by omega), if_neg (by omega)] at this
        exact this
      rw [mT.1.state, e0, nI_1]
      refine o_s (fun T1 e1 => ?_)
      refine i_r ⟨rfl, (hT.s (k := 0) e1).cg (fun j hj => ?_), hf.sI e1 (Or.inl (Or.inl ⟨rfl, by omega, by omega⟩))⟩
      unfold hrL
      rw [ew, up1_at, up1_at]
      by_cases c : j = 0
      · rw [if_pos c, if_pos c]
      · rw [if_neg c, if_neg c]
        unfold blU
        by_cases c2 : 4 ≤ j ∧ j < 4 + pY P
        · rw [if_pos c2, if_pos (by omega)]
        · rw [if_neg c2, if_neg c2, if_neg (by omega)]
  -- the second loop
  have second : ∀ (T : aS) (g : Nat), 60 ≤ g → MA T b L → (∀ k, k < pY P → gI T 202 k = nI (outK w (pY P) L k)) → Fr (fun q k => dX b q k ∨ q = 202) S T → zI (F_X13_passes g 2 [.ref 186, .int (nI b), .int (nI w), .int by_, .int 0] T) (fun x T => x = nI w ∧ MA T b (hrL P L) ∧ Fr (fun q k => dX b q k ∨ q = 202) S T) := by
    intro T g hg hA2 hbl hf
    refine o_loop (F := fun f vs S => F_X13_passes f 2 vs S) (c := 1) (B := 45) (y := (pY) P) (fun k vs T => vs = [.ref 186, .int (nI b), .int (nI w), .int by_, .int (nI k)] ∧ MA T b (fun j => if 4 ≤ j ∧ j < 4 + k then L j - outK w (pY P) L (j - 4) else L j) ∧ (∀ k, k < pY P → gI T 202 k = nI (outK w (pY P) L k)) ∧ Fr (fun q k => dX b q k ∨ q = 202) S T) ?_ ?_ 0 _ T g (by omega) ⟨rfl, hA2.cg (fun j hj => (if_neg (show ¬ (4 ≤ j ∧ j < 4 + 0) by omega)).symm), hbl, hf⟩ (by omega)
    · rintro k _ T g hk ⟨rfl, hT, hbl, hf⟩ hg rec
      have mT := mm T hf
      have ob := o1 k hk
      show zO (F_X13_passes g 2 _ _) _
      obtain ⟨g, ge, hG⟩ := g1 hg; subst ge; clear hg; have hg := hG; clear hG; rw [E_X13_passes_2]; unfold F_X13_passes_2
      refine o_I (T_X13_yards mT (by omega)) ?_
      rintro _ T ⟨rfl, rfl⟩
      refine o_f (nI_ge hk (by omega)) ?_
      refine o_X (nA3 (n := 4) rfl) (by omega) ?_
      refine o_X rfl (show k < 8 by omega) ?_
      refine o_X (nA3 (n := 4) rfl) (by omega) ?_
      have hv : gI T 200 (b + (4 + k)) = nI (L (4 + k)) := by
        rw [hT (4 + k) (by omega)]
        simp only []
        rw [if_neg (by omega)]
      rw [mT.1.state, mT.1.blown, hv, hbl k hk, pk_sub ob.1]
      refine o_s (fun T1 e1 => ?_)
      refine rec g _ _ (by omega) ⟨by rw [nI_1], (hT.s (k := 4 + k) e1).cg (fun j hj => ?_), fun j hj => ?_, hf.sI e1 (Or.inl (Or.inl ⟨rfl, by omega, by omega⟩))⟩
      · rw [up1_at]
        by_cases c : j = 4 + k
        · rw [if_pos c, if_pos (by omega), c, show 4 + k - 4 = k by omega]
        · rw [if_neg c]
          by_cases c2 : 4 ≤ j ∧ j < 4 + k
          · rw [if_pos c2, if_pos (by omega)]
          · rw [if_neg c2, if_neg (show ¬ (4 ≤ j ∧ j < 4 + (k + 1)) by omega)]
      · subst e1
        rw [gI_sI, if_neg (by omega)]
        exact hbl j hj
    · rintro _ T g ⟨rfl, hT, hbl, hf⟩ hg
      have mT := mm T hf
      show zO (F_X13_passes g 2 _ _) _
      obtain ⟨g, ge, hG⟩ := g1 hg; subst ge; clear hg; have hg := hG; clear hG; rw [E_X13_passes_2]; unfold F_X13_passes_2
      refine o_I (T_X13_yards mT (by omega)) ?_
      rintro _ T ⟨rfl, rfl⟩
      refine o_t (nI_le (Nat.le_refl _) (by omega)) ?_
      exact third T g (by omega) hT hbl hf
  -- the first loop
  refine o_loop (F := fun f vs S => F_X13_passes f 1 vs S) (c := 3) (B := 64) (y := (pY) P) (fun k vs T => vs = [.ref 186, .int (nI b), .int (nI w), .int by_, .int (nI k)] ∧ MA T b L ∧ (∀ j, j < k → gI T 202 j = nI (outK w (pY P) L j)) ∧ Fr (fun q k => dX b q k ∨ q = 202) S T) ?_ ?_ 0 _ S g (by omega) ⟨rfl, hA, fun j hj => absurd hj (Nat.not_lt_zero j), Fr.refl S⟩ (by omega)
  · rintro k _ T g hk ⟨rfl, hT, hbl, hf⟩ hg rec
    have mT := mm T hf
    have ob := o1 k hk
    show zO (F_X13_passes g 1 _ _) _
    obtain ⟨g, ge, hG⟩ := g1 hg; subst ge; clear hg; have hg := hG; clear hG; rw [E_X13_passes_1]; unfold F_X13_passes_1
    refine o_I (T_X13_yards mT (by omega)) ?_
    rintro _ T ⟨rfl, rfl⟩
    refine o_f (nI_ge hk (by omega)) ?_
    rw [mT.1.blown]
    have fin : ∀ g, 1 ≤ g → (∀ g' vs' S', g ≤ g' + 1 → vs' = [.ref 186, .int (nI b), .int (nI w), .int by_, .int (nI (k + 1))] ∧ MA S' b L ∧ (∀ j, j < k + 1 → gI S' 202 j = nI (outK w (pY P) L j)) ∧ Fr (fun q k => dX b q k ∨ q = 202) S S' → zO (F_X13_passes g' 1 vs' S') (fun v S_1 => ∃ x, v = some (Value.int x) ∧ (fun x T => x = nI w ∧ MA T b (hrL P L) ∧ Fr (fun q k => dX b q k ∨ q = 202) S T) x S_1)) → zI (F_X13_passes g 4 [.ref 186, .int (nI b), .int (nI w), .int by_, .int (nI k), .int (nI (outK w (pY P) L k)), .int (nI k), .ref 202] T) (fun x T => x = nI w ∧ MA T b (hrL P L) ∧ Fr (fun q k => dX b q k ∨ q = 202) S T) := by
      intro g hg rec
      obtain ⟨g, ge, hG⟩ := g1 hg; subst ge; clear hg; have hg := hG; clear hG; rw [E_X13_passes_4]; unfold F_X13_passes_4
      refine o_X rfl (show k < 8 by omega) ?_
      refine o_s (fun T1 e1 => ?_)
      refine rec g _ _ (by omega) ⟨by rw [nI_1], hT.fr ((Fr.refl (D := fun q _ => q = 202) T).sI e1 rfl) (fun k _ _ h => by omega), fun j hj => ?_, hf.sI e1 (Or.inr rfl)⟩
      subst e1
      rw [gI_sI]
      by_cases c : j = k
      · rw [if_pos ⟨rfl, c⟩, c]
      · rw [if_neg (by omega)]
        exact hbl j (by omega)
    by_cases w0 : w = 0
    · rw [w0]
      refine o_t (by decide) ?_
      rw [← show nI w = nI 0 by rw [w0]]
      have e : outK w (pY P) L k = 0 := by unfold outK; rw [if_neg (by omega), if_neg (by omega)]
      obtain ⟨g, ge, hG⟩ := g1 hg; subst ge; clear hg; have hg := hG; clear hG; rw [E_X13_passes_3]; unfold F_X13_passes_3
      have := fin g (by omega) (fun g' vs' S' hg' => rec g' vs' S' (by omega))
      rw [e] at this
      exact this
    · refine o_f (nI_nle (by omega) (by omega)) ?_
      refine o_I (ahead T g k mT hk (by omega)) ?_
      rintro _ T ⟨rfl, rfl⟩
      by_cases c : (w = 1 ∧ k + 1 < pY P) ∨ (w ≠ 1 ∧ 0 < k)
      · rw [if_pos c]
        refine o_f (by decide) ?_
        refine o_X (nA3 (n := 4) rfl) (by omega) ?_
        rw [mT.1.state, hT (4 + k) (by omega), show (2 : Int32) = nI 2 from rfl, pk_div (by omega) (by omega) (by omega)]
        have e : outK w (pY P) L k = L (4 + k) / 2 := by
          unfold outK
          rcases c with ⟨c1, c2⟩ | ⟨c1, c2⟩
          · rw [if_pos c1, if_pos c2]
          · rw [if_neg c1, if_pos (by omega), if_pos c2]
        have := fin g (by omega) (fun g' vs' S' hg' => rec g' vs' S' (by omega))
        rw [e] at this
        exact this
      · rw [if_neg c]
        refine o_t rfl ?_
        have e : outK w (pY P) L k = 0 := by
          unfold outK
          by_cases c1 : w = 1
          · rw [if_pos c1, if_neg (by omega)]
          · rw [if_neg c1, if_pos (by omega), if_neg (by omega)]
        obtain ⟨g, ge, hG⟩ := g1 hg; subst ge; clear hg; have hg := hG; clear hG; rw [E_X13_passes_3]; unfold F_X13_passes_3
        have := fin g (by omega) (fun g' vs' S' hg' => rec g' vs' S' (by omega))
        rw [e] at this
        exact this
  · rintro _ T g ⟨rfl, hT, hbl, hf⟩ hg
    have mT := mm T hf
    show zO (F_X13_passes g 1 _ _) _
    obtain ⟨g, ge, hG⟩ := g1 hg; subst ge; clear hg; have hg := hG; clear hG; rw [E_X13_passes_1]; unfold F_X13_passes_1
    refine o_I (T_X13_yards mT (by omega)) ?_
    rintro _ T ⟨rfl, rfl⟩
    refine o_t (nI_le (Nat.le_refl _) (by omega)) ?_
    exact second T g (by omega) hT hbl hf
end MH

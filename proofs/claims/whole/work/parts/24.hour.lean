/-! hours and walks: the class -/
def outK (w y : Nat) (L : Lk) (k : Nat) : Nat := if w = 1 then (if k + 1 < y then L (4 + k) / 2 else 0) else if w = 2 then (if 0 < k then L (4 + k) / 2 else 0) else 0
def inK (w y : Nat) (L : Lk) (k : Nat) : Nat := if w = 1 then (if k = 0 then 0 else outK 1 y L (k - 1)) else if w = 2 then (if k + 1 < y then outK 2 y L (k + 1) else 0) else 0
def blK (w y : Nat) (L : Lk) (k : Nat) : Nat := min 999 (L (4 + k) - outK w y L k + inK w y L k)
def blU (w y : Nat) (L : Lk) (a b : Nat) : Lk := fun j => if 4 + a ≤ j ∧ j < 4 + b then blK w y L (j - 4) else L j
theorem blU_in {w y a b k : Nat} {L : Lk} (h1 : a ≤ k) (h2 : k < b) : blU w y L a b (4 + k) = blK w y L k := by
  unfold blU
  rw [if_pos (by omega), show 4 + k - 4 = k by omega]
theorem blU_out {w y a b j : Nat} {L : Lk} (h : ¬ (4 + a ≤ j ∧ j < 4 + b)) : blU w y L a b j = L j := if_neg h
theorem bl_on {w y k : Nat} {L : Lk} (j : Nat) : drp (up1 (blU w y L 0 k) (4 + k) (L (4 + k) - outK w y L k)) k (inK w y L k) j = blU w y L 0 (k + 1) j := by
  unfold drp
  rw [up1_at, up1_at, up1_at, if_pos rfl]
  by_cases e : j = 4 + k
  · subst e
    rw [if_pos rfl, blU_in (by omega) (by omega)]
    rfl
  · rw [if_neg e, if_neg e]
    by_cases e2 : 4 + 0 ≤ j ∧ j < 4 + k
    · unfold blU
      rw [if_pos e2, if_pos (by omega)]
    · rw [blU_out e2, blU_out (by omega)]
theorem bl_back {w y k : Nat} {L : Lk} (hk : k < y) (j : Nat) : drp (up1 (blU w y L (k + 1) y) (4 + k) (L (4 + k) - outK w y L k)) k (inK w y L k) j = blU w y L k y j := by
  unfold drp
  rw [up1_at, up1_at, up1_at, if_pos rfl]
  by_cases e : j = 4 + k
  · subst e
    rw [if_pos rfl, blU_in (by omega) (by omega)]
    rfl
  · rw [if_neg e, if_neg e]
    by_cases e2 : 4 + (k + 1) ≤ j ∧ j < 4 + y
    · unfold blU
      rw [if_pos e2, if_pos (by omega)]
    · rw [blU_out e2, blU_out (by omega)]
theorem outK_le {w y k : Nat} {L : Lk} : outK w y L k ≤ L (4 + k) := by
  unfold outK
  repeat' split
  all_goals omega
theorem inK_le {w y k B : Nat} {L : Lk} (hI : LI B L) (hy : y ≤ 8) (hk : k < y) : inK w y L k ≤ 999 := by
  unfold inK
  split
  · split
    · omega
    · have := outK_le (w := 1) (y := y) (k := k - 1) (L := L)
      have := (hI.2 (k - 1) (by omega)).1
      omega
  · split
    · split
      · have := outK_le (w := 2) (y := y) (k := k + 1) (L := L)
        have := (hI.2 (k + 1) (by omega)).1
        omega
      · omega
    · omega
section X4
variable {S : aS} {p y d f B : Nat} {L : Lk}
theorem T_X4_blowOn (h : LA S p y d L) (hI : LI B L) (hy : 2 ≤ y ∧ y ≤ 8) (hg : 40 ≤ f) : zU (F_X4_blowOn f 0 [.ref p] S) (fun S2 => LA S2 p y d (blU 1 y L 0 y) ∧ Fr (dL p) S S2) := by
  obtain ⟨g, ge, hG⟩ := g1 hg; subst ge; clear hg; have hg := hG; clear hG; rw [E_X4_blowOn_0]; unfold F_X4_blowOn_0
  have b0 : blU 1 y L 0 0 = L := funext (fun j => blU_out (by omega))
  refine o_loop (F := fun f vs S => F_X4_blowOn f 1 vs S) (c := 2) (B := 2) (y := y) (fun k vs T => vs = [.ref p, .int (nI (inK 1 y L k)), .int (nI k)] ∧ LA T p y d (blU 1 y L 0 k) ∧ Fr (dL p) S T) ?_ ?_ 0 _ S g (by omega) ⟨rfl, by rw [b0]; exact h, Fr.refl S⟩ (by omega)
  · rintro k _ T g hk ⟨rfl, hT, hf⟩ hg rec
    have fin : ∀ (g : Nat), 2 ≤ g → (∀ g' vs' S', g ≤ g' + 1 → vs' = [.ref p, .int (nI (inK 1 y L (k + 1))), .int (nI (k + 1))] ∧ LA S' p y d (blU 1 y L 0 (k + 1)) ∧ Fr (dL p) S S' → zO (F_X4_blowOn g' 1 vs' S') (fun v S2 => v = none ∧ (LA S2 p y d (blU 1 y L 0 y) ∧ Fr (dL p) S S2))) → zU (F_X4_blowOn g 2 [.ref p, .int (nI (inK 1 y L k)), .int (nI k), .int (nI (outK 1 y L k))] T) (fun S2 => LA S2 p y d (blU 1 y L 0 y) ∧ Fr (dL p) S S2) := by
      intro g hg rec
      obtain ⟨g, ge, hG⟩ := g1 hg; subst ge; clear hg; have hg := hG; clear hG; rw [E_X4_blowOn_2]; unfold F_X4_blowOn_2
      refine o_X rfl (show k < 8 by omega) ?_
      refine o_X rfl (show k < 8 by omega) ?_
      have hb := hI.2 k (by omega)
      rw [hT.r1, hT.l k (by omega), blU_out (by omega), pk_sub outK_le]
      refine o_s (fun T1 e1 => ?_)
      have h1 := hT.sl (by omega) e1
      have hin := inK_le (w := 1) hI hy.2 hk
      refine o_V (T_X4_drop (v := inK 1 y L k) h1 (by omega) (by rw [up1_at, if_pos rfl]; omega) hg) ?_
      rintro T2 ⟨h2, f2⟩
      refine rec g _ _ (by omega) ⟨?_, h2.cg (fun j _ => bl_on j), (hf.sI e1 (by omega)).tr f2⟩
      rw [nI_1]
      have e : inK 1 y L (k + 1) = outK 1 y L k := by
        unfold inK
        rw [if_pos rfl, if_neg (by omega)]
        rfl
      rw [e]
    show zO (F_X4_blowOn g 1 _ _) _
    obtain ⟨g, ge, hG⟩ := g1 hg; subst ge; clear hg; have hg := hG; clear hG; rw [E_X4_blowOn_1]; unfold F_X4_blowOn_1
    rw [hT.yy]
    refine o_f (nI_ge hk (by omega)) ?_
    rw [show nI y - 1 = nI (y - 1) by rw [show (1 : Int32) = nI 1 from rfl, pk_sub (by omega)]]
    refine o_if (fun c => ?_) (fun c => ?_)
    · rw [nI_leI (by omega) (by omega)] at c
      have e : outK 1 y L k = 0 := by unfold outK; rw [if_pos rfl, if_neg (by omega)]
      have := fin g (by omega) (fun g' vs' S' hg' => rec g' vs' S' (by omega))
      rw [e] at this
      exact this
    · rw [nI_leI (by omega) (by omega)] at c
      refine o_X rfl (show k < 8 by omega) ?_
      have hb := hI.2 k (by omega)
      rw [hT.r1, hT.l k (by omega), blU_out (by omega), show (2 : Int32) = nI 2 from rfl, pk_div (by omega) (by omega) (by omega)]
      have e : outK 1 y L k = L (4 + k) / 2 := by unfold outK; rw [if_pos rfl, if_pos (by omega)]
      have := fin g (by omega) (fun g' vs' S' hg' => rec g' vs' S' (by omega))
      rw [e] at this
      exact this
  · rintro _ T g ⟨rfl, hT, hf⟩ hg
    show zO (F_X4_blowOn g 1 _ _) _
    obtain ⟨g, ge, hG⟩ := g1 hg; subst ge; clear hg; have hg := hG; clear hG; rw [E_X4_blowOn_1]; unfold F_X4_blowOn_1
    rw [hT.yy]
    exact o_t (nI_le (Nat.le_refl _) (by omega)) (u_r ⟨hT, hf⟩)
theorem T_X4_blowBack (h : LA S p y d L) (hI : LI B L) (hy : 2 ≤ y ∧ y ≤ 8) (hg : 40 ≤ f) : zU (F_X4_blowBack f 0 [.ref p] S) (fun S2 => LA S2 p y d (blU 2 y L 0 y) ∧ Fr (dL p) S S2) := by
  obtain ⟨g, ge, hG⟩ := g1 hg; subst ge; clear hg; have hg := hG; clear hG; rw [E_X4_blowBack_0]; unfold F_X4_blowBack_0
  have b0 : blU 2 y L y y = L := funext (fun j => blU_out (by omega))
  rw [h.yy]
  refine o_loopD (F := fun f vs S => F_X4_blowBack f 1 vs S) (c := 2) (B := 2) (fun k vs T => k ≤ y ∧ vs = [.ref p, .int (nI (if k = 0 then 0 else inK 2 y L (k - 1))), .int (nI k - 1)] ∧ LA T p y d (blU 2 y L k y) ∧ Fr (dL p) S T) ?_ ?_ y _ S g ⟨Nat.le_refl _, ?_, by rw [b0]; exact h, Fr.refl S⟩ (by omega)
  · rintro k _ T g ⟨hk, rfl, hT, hf⟩ hg rec
    have fin : ∀ (g : Nat), 2 ≤ g → (∀ g' vs' S', g ≤ g' + 1 → k ≤ y ∧ vs' = [.ref p, .int (nI (if k = 0 then 0 else inK 2 y L (k - 1))), .int (nI k - 1)] ∧ LA S' p y d (blU 2 y L k y) ∧ Fr (dL p) S S' → zO (F_X4_blowBack g' 1 vs' S') (fun v S2 => v = none ∧ (LA S2 p y d (blU 2 y L 0 y) ∧ Fr (dL p) S S2))) → zU (F_X4_blowBack g 2 [.ref p, .int (nI (inK 2 y L k)), .int (nI k), .int (nI (outK 2 y L k))] T) (fun S2 => LA S2 p y d (blU 2 y L 0 y) ∧ Fr (dL p) S S2) := by
      intro g hg rec
      obtain ⟨g, ge, hG⟩ := g1 hg; subst ge; clear hg; have hg := hG; clear hG; rw [E_X4_blowBack_2]; unfold F_X4_blowBack_2
      refine o_X rfl (show k < 8 by omega) ?_
      refine o_X rfl (show k < 8 by omega) ?_
      have hb := hI.2 k (by omega)
      rw [hT.r1, hT.l k (by omega), blU_out (by omega), pk_sub outK_le]
      refine o_s (fun T1 e1 => ?_)
      have h1 := hT.sl (by omega) e1
      have hin := inK_le (w := 2) hI hy.2 (show k < y by omega)
      refine o_V (T_X4_drop (v := inK 2 y L k) h1 (by omega) (by rw [up1_at, if_pos rfl]; omega) hg) ?_
      rintro T2 ⟨h2, f2⟩
      refine rec g _ _ (by omega) ⟨by omega, ?_, h2.cg (fun j _ => bl_back (by omega) j), (hf.sI e1 (by omega)).tr f2⟩
      rw [show nI k + (-1) = nI k - 1 by rw [Int32.sub_eq_add_neg]]
      have e : (if k = 0 then 0 else inK 2 y L (k - 1)) = outK 2 y L k := by
        by_cases e0 : k = 0
        · rw [if_pos e0, e0]; rfl
        · rw [if_neg e0]
          unfold inK
          rw [if_neg (by omega), if_pos rfl, if_pos (by omega), show k - 1 + 1 = k by omega]
      rw [e]
    show zO (F_X4_blowBack g 1 _ _) _
    rw [if_neg (by omega), show k + 1 - 1 = k by omega, nI_pred]
    obtain ⟨g, ge, hG⟩ := g1 hg; subst ge; clear hg; have hg := hG; clear hG; rw [E_X4_blowBack_1]; unfold F_X4_blowBack_1
    refine o_f (nI_pos (by omega)) ?_
    refine o_if (fun c => ?_) (fun c => ?_)
    · rw [show (0 : Int32) = nI 0 from rfl, nI_leI (by omega) (by omega)] at c
      have e : outK 2 y L k = 0 := by unfold outK; rw [if_neg (by omega), if_pos rfl, if_neg (by omega)]
      have := fin g (by omega) (fun g' vs' S' hg' => rec g' vs' S' (by omega))
      rw [e] at this
      exact this
    · rw [show (0 : Int32) = nI 0 from rfl, nI_leI (by omega) (by omega)] at c
      refine o_X rfl (show k < 8 by omega) ?_
      have hb := hI.2 k (by omega)
      rw [hT.r1, hT.l k (by omega), blU_out (by omega), show (2 : Int32) = nI 2 from rfl, pk_div (by omega) (by omega) (by omega)]
      have e : outK 2 y L k = L (4 + k) / 2 := by unfold outK; rw [if_neg (by omega), if_pos rfl, if_pos (by omega)]
      have := fin g (by omega) (fun g' vs' S' hg' => rec g' vs' S' (by omega))
      rw [e] at this
      exact this
  · rintro _ T g ⟨hk, rfl, hT, hf⟩ hg
    show zO (F_X4_blowBack g 1 _ _) _
    obtain ⟨g, ge, hG⟩ := g1 hg; subst ge; clear hg; have hg := hG; clear hG; rw [E_X4_blowBack_1]; unfold F_X4_blowBack_1
    exact o_t (show nI 0 - 1 < (0 : Int32) by decide) (u_r ⟨hT, hf⟩)
  · rw [if_neg (by omega)]
    have e : inK 2 y L (y - 1) = 0 := by unfold inK; rw [if_neg (by omega), if_pos rfl, if_neg (by omega)]
    rw [e]
    rfl
end X4
/-- an hour -/
def hrL (P : aP) (L : Lk) : Lk := up1 (blU (wind P (L 0)) (pY P) L 0 (pY P)) 0 (L 0 + 1)
theorem wind_le {P : aP} (hI : PI P) (h : Nat) : wind P h ≤ 2 := by
  unfold wind
  split
  · omega
  · exact hI.2.2.2.1 _ (Nat.mod_lt _ (by omega))
theorem bl0 {y B j : Nat} {L : Lk} (hI : LI B L) (hy : y ≤ 8) : blU 0 y L 0 y j = L j := by
  by_cases e : 4 + 0 ≤ j ∧ j < 4 + y
  · obtain ⟨k, rfl⟩ : ∃ k, j = 4 + k := ⟨j - 4, by omega⟩
    rw [blU_in (by omega) (by omega)]
    have := (hI.2 k (by omega)).1
    unfold blK outK inK
    simp
    omega
  · exact blU_out e
theorem hrL_LI {P : aP} {B : Nat} {L : Lk} (hI : LI B L) (hy : pY P ≤ 8) : LI (B + 1) (hrL P L) := by
  unfold hrL
  refine ⟨?_, fun k hk => ?_⟩
  · rw [up1_at, if_pos rfl]
    have := hI.1
    omega
  · have hb := hI.2 k hk
    rw [up1_at, if_neg (by omega), up1_at, if_neg (by omega), up1_at, if_neg (by omega)]
    refine ⟨?_, ?_⟩
    · unfold blU
      split
      · exact Nat.min_le_left _ _
      · exact hb.1
    · rw [blU_out (by omega), blU_out (by omega)]
      exact hb.2
theorem T_X4_passHour {S : aS} {p q d f B : Nat} {P : aP} {L : Lk} (h : LA S p (pY P) d L) (hP : CP S q P) (hPI : PI P) (hI : LI B L) (hB : B < 2 ^ 30) (hg : 50 ≤ f) : zI (F_X4_passHour f 0 [.ref p, .ref q] S) (fun x S2 => x = nI (wind P (L 0)) ∧ LA S2 p (pY P) d (hrL P L) ∧ Fr (dL p) S S2) := by
  have fin : ∀ (g : Nat) (T : aS) (M : Lk), 1 ≤ g → LA T p (pY P) d M → Fr (dL p) S T → (∀ j, j < 28 → M j = blU (wind P (L 0)) (pY P) L 0 (pY P) j) → zI (F_X4_passHour g 1 [.ref p, .int (nI (wind P (L 0)))] T) (fun x S2 => x = nI (wind P (L 0)) ∧ LA S2 p (pY P) d (hrL P L) ∧ Fr (dL p) S S2) := by
    intro g T M hg hT hf hM
    obtain ⟨g, ge, hG⟩ := g1 hg; subst ge; clear hg; have hg := hG; clear hG; rw [E_X4_passHour_1]; unfold F_X4_passHour_1
    refine o_s (fun T1 e1 => ?_)
    rw [show (4 : Nat) = 4 + 0 from rfl, hT.c 0 (by omega), nI_1] at e1
    refine i_r ⟨rfl, (hT.sc (k := 0) (by omega) e1).cg (fun j hj => ?_), hf.sI e1 (by omega)⟩
    unfold hrL
    rw [up1_at, up1_at, hM 0 (by omega), blU_out (by omega)]
    split
    · rfl
    · exact hM j hj
  obtain ⟨g, ge, hG⟩ := g1 hg; subst ge; clear hg; have hg := hG; clear hG; rw [E_X4_passHour_0]; unfold F_X4_passHour_0
  rw [show gI S p 4 = nI (L 0) from h.c 0 (by omega)]
  have hh := hI.1
  have hw := wind_le hPI (L 0)
  refine o_I (T_X6_windOf hP hPI (by omega) (by omega)) ?_
  rintro _ _ ⟨rfl, rfl⟩
  have hy : 2 ≤ pY P ∧ pY P ≤ 8 := ⟨hPI.1.1, hPI.1.2.1⟩
  refine o_if (fun c => ?_) (fun c => ?_)
  · have c' : wind P (L 0) = 1 := (nI_eq (b := 1) (by omega) (by omega)).mp c
    refine o_V (T_X4_blowOn h hI hy (by omega)) ?_
    rintro T ⟨hT, hf⟩
    exact fin g T _ (by omega) hT hf (fun j _ => by rw [c'])
  · have c' : ¬ wind P (L 0) = 1 := fun e => c (by rw [e]; rfl)
    refine o_if (fun c2 => ?_) (fun c2 => ?_)
    · have c2' : wind P (L 0) = 2 := (nI_eq (b := 2) (by omega) (by omega)).mp c2
      refine o_V (T_X4_blowBack h hI hy (by omega)) ?_
      rintro T ⟨hT, hf⟩
      exact fin g T _ (by omega) hT hf (fun j _ => by rw [c2'])
    · have c2' : ¬ wind P (L 0) = 2 := fun e => c2 (by rw [e]; rfl)
      refine fin g _ L (by omega) h (Fr.refl _) (fun j _ => ?_)
      rw [show wind P (L 0) = 0 by omega, bl0 hI hy.2]

/-! rests: both sides -/
def gn (g l own other : Nat) : Int32 := if own = 1 then (if other = 1 then nI g - nI (l / 2) else nI g - nI l) else if other = 1 then nI g else 0
def arB (g l k : Nat) : Bool := decide (¬ gn g l (k / 2) (k % 2) < gn g l (1 - k / 2) (k % 2)) && decide (¬ gn g l (k % 2) (k / 2) < gn g l (1 - k % 2) (k / 2))
/-- which one is the w-th, of the first k -/
def frF (ar : Nat → Bool) (w : Int32) : Nat → Int32
  | 0 => -1
  | k + 1 => if ar k = true ∧ nI (cnt ar k) = w then nI k else frF ar w k
theorem cnt_mono {g : Nat → Bool} {a : Nat} : ∀ {b : Nat}, a ≤ b → cnt g a ≤ cnt g b
  | 0, h => by rw [show a = 0 by omega]; exact Nat.le_refl _
  | b + 1, h => by
    by_cases e : a = b + 1
    · rw [e]; exact Nat.le_refl _
    · have := cnt_mono (g := g) (show a ≤ b by omega)
      show cnt g a ≤ cnt g b + (if g b then 1 else 0)
      omega
theorem frF_hit {ar : Nat → Bool} {w : Int32} {k : Nat} (h1 : ar k = true) (h2 : nI (cnt ar k) = w) : ∀ m, k < m → m ≤ 4 → frF ar w m = nI k
  | 0, h, _ => absurd h (Nat.not_lt_zero k)
  | m + 1, h, hm => by
    show (if ar m = true ∧ nI (cnt ar m) = w then nI m else frF ar w m) = nI k
    by_cases e : k = m
    · subst e
      rw [if_pos ⟨h1, h2⟩]
    · have c1 : cnt ar (k + 1) ≤ cnt ar m := cnt_mono (by omega)
      have c2 : cnt ar (k + 1) = cnt ar k + 1 := by
        show cnt ar k + (if ar k then 1 else 0) = _
        rw [if_pos h1]
      have c3 := cnt_le ar m
      rw [if_neg (fun hh => ?_)]
      · exact frF_hit h1 h2 m (by omega) (by omega)
      · have := (nI_eq (by omega) (by omega)).mp (hh.2.trans h2.symm)
        omega
theorem frF_no {ar : Nat → Bool} {w : Int32} (h : ∀ j, j < 4 → ar j = true → nI (cnt ar j) ≠ w) : ∀ m, m ≤ 4 → frF ar w m = -1
  | 0, _ => rfl
  | m + 1, hm => by
    show (if ar m = true ∧ nI (cnt ar m) = w then nI m else frF ar w m) = -1
    rw [if_neg (fun hh => h m (by omega) hh.1 hh.2)]
    exact frF_no h m (by omega)
section RE
variable {S T : aS} {A : aA} {f n : Nat}
theorem T_X12_gain {g l own other : Nat} (hl : l ≤ 9) (ho : own ≤ 1) (h2 : other ≤ 1) (hg : 1 ≤ f) : zI (F_X12_gain f 0 [.int (nI g), .int (nI l), .int (nI own), .int (nI other)] S) (fun x T => x = gn g l own other ∧ T = S) := by
  obtain ⟨f', rfl, -⟩ := g1 (n := 0) (f := f) (by omega)
  rw [E_X12_gain_0]; unfold F_X12_gain_0
  unfold gn
  have ed : nI l / (2 : Int32) = nI (l / 2) := by rw [show (2 : Int32) = nI 2 from rfl, pk_div (by omega) (by omega) (by omega)]
  rw [ed]
  rcases (show own = 0 ∨ own = 1 by omega) with rfl | rfl
  · refine o_t rfl (i_r ⟨?_, rfl⟩)
    rcases (show other = 0 ∨ other = 1 by omega) with rfl | rfl
    · rfl
    · rfl
  · refine o_f (by decide) (i_r ⟨?_, rfl⟩)
    rcases (show other = 0 ∨ other = 1 by omega) with rfl | rfl
    · rfl
    · rfl
theorem T_X13_getsBy {g l own other : Nat} (hl : l ≤ 9) (ho : own ≤ 1) (h2 : other ≤ 1) (hg : 1 ≤ f) : zI (F_X13_getsBy f 0 [.int (nI own), .int (nI other), .int (nI g), .int (nI l)] S) (fun x T => x = gn g l own other ∧ T = S) := by
  obtain ⟨f', rfl, -⟩ := g1 (n := 0) (f := f) (by omega)
  rw [E_X13_getsBy_0]; unfold F_X13_getsBy_0
  unfold gn
  have ed : nI l / (2 : Int32) = nI (l / 2) := by rw [show (2 : Int32) = nI 2 from rfl, pk_div (by omega) (by omega) (by omega)]
  rw [ed]
  refine i_r ⟨?_, rfl⟩
  rcases (show own = 0 ∨ own = 1 by omega) with rfl | rfl
  · rcases (show other = 0 ∨ other = 1 by omega) with rfl | rfl
    · rfl
    · rfl
  · rcases (show other = 0 ∨ other = 1 by omega) with rfl | rfl
    · rfl
    · rfl
theorem one_sub {a : Nat} (h : a ≤ 1) : (1 : Int32) - nI a = nI (1 - a) := by rw [show (1 : Int32) = nI 1 from rfl, pk_sub h]
theorem T_X12_isAtRest {g l k : Nat} (hl : l ≤ 9) (hk : k < 4) (hg : 10 ≤ f) : zI (F_X12_isAtRest f 0 [.int (nI g), .int (nI l), .int (nI (k / 2)), .int (nI (k % 2))] S) (fun x T => x = (if arB g l k then 1 else 0) ∧ T = S) := by
  obtain ⟨f', rfl, hf⟩ := g1 (n := 9) (f := f) (by omega)
  rw [E_X12_isAtRest_0]; unfold F_X12_isAtRest_0
  have a1 : k / 2 ≤ 1 := by omega
  have a2 : k % 2 ≤ 1 := by omega
  rw [one_sub a1, one_sub a2]
  refine o_I (T_X12_gain hl a1 a2 (by omega)) ?_
  rintro _ S ⟨rfl, rfl⟩
  refine o_I (T_X12_gain hl (by omega) a2 (by omega)) ?_
  rintro _ S ⟨rfl, rfl⟩
  unfold arB
  refine o_if (fun c => ?_) (fun c => ?_)
  · obtain ⟨f', rfl, hf⟩ := g1 (n := 8) (f := f') (by omega)
    rw [E_X12_isAtRest_1]; unfold F_X12_isAtRest_1
    obtain ⟨f', rfl, hf⟩ := g1 (n := 7) (f := f') (by omega)
    rw [E_X12_isAtRest_2]; unfold F_X12_isAtRest_2
    refine o_Z (Or.inl rfl) (i_r ⟨?_, rfl⟩)
    rw [decide_eq_false (not_not_intro c), Bool.false_and]
    rfl
  · refine o_I (T_X12_gain hl a2 a1 (by omega)) ?_
    rintro _ S ⟨rfl, rfl⟩
    refine o_I (T_X12_gain hl (by omega) a1 (by omega)) ?_
    rintro _ S ⟨rfl, rfl⟩
    rw [decide_eq_true c, Bool.true_and]
    by_cases c2 : gn g l (k % 2) (k / 2) < gn g l (1 - k % 2) (k / 2)
    · rw [if_pos c2, decide_eq_false (not_not_intro c2)]
      exact o_Z (Or.inl rfl) (i_r ⟨rfl, rfl⟩)
    · rw [if_neg c2, decide_eq_true c2]
      exact o_Z (Or.inr rfl) (i_r ⟨rfl, rfl⟩)
/-- what rests answers: nothing where it throws -/
def rsO (g l : Nat) (w : Int32) : Option Int32 := if w = -1 then some (nI (cnt (arB g l) 4)) else if frF (arB g l) w 4 = -1 then none else some (frF (arB g l) w 4)
theorem k2 {k : Nat} (h : k < 4) : nI k / (2 : Int32) = nI (k / 2) ∧ nI k - nI k / (2 : Int32) * (2 : Int32) = nI (k % 2) := ⟨by rw [show (2 : Int32) = nI 2 from rfl, pk_div (by omega) (by omega) (by omega)], by rw [show (2 : Int32) = nI 2 from rfl, pk_rem (by omega) (by omega) (by omega)]⟩
theorem T_X12_rests {a b c : Int32} (hg : 100 ≤ f) : ∃ o : Option Int32, F_X12_rests f 0 [.ref 0, .int a, .int b, .int c] S = some (o.map Value.int, S) ∧ o = (if wI a 0 9 = 0 ∨ wI b 0 9 = 0 ∨ c < -1 then none else rsO a.toNatClampNeg b.toNatClampNeg c) := by
  refine ⟨_, ?_, rfl⟩
  have key : zO (F_X12_rests f 0 [.ref 0, .int a, .int b, .int c] S) (fun v T => v = (if wI a 0 9 = 0 ∨ wI b 0 9 = 0 ∨ c < -1 then none else rsO a.toNatClampNeg b.toNatClampNeg c).map Value.int ∧ T = S) := by
    have thr : ∀ (U : aS) (f : Nat), 1 ≤ f → zO (F_X12_rests f 1 [] U) (fun v T => v = none ∧ T = U) := by
      intro U f hf
      obtain ⟨f', rfl, hf⟩ := g1 (n := 0) (f := f) (by omega)
      rw [E_X12_rests_1]; unfold F_X12_rests_1
      exact o_r ⟨rfl, rfl⟩
    obtain ⟨f', rfl, hf⟩ := g1 (n := 99) (f := f) (by omega)
    rw [E_X12_rests_0]; unfold F_X12_rests_0
    refine o_I (T_X12_isWithin (by omega)) ?_
    rintro _ S ⟨rfl, rfl⟩
    refine o_if (fun c1 => ?_) (fun c1 => ?_)
    · refine o_m (thr S f' (by omega)) ?_
      rintro _ S ⟨rfl, rfl⟩
      rw [if_pos (Or.inl c1)]
      exact ⟨rfl, rfl⟩
    refine o_I (T_X12_isWithin (by omega)) ?_
    rintro _ S ⟨rfl, rfl⟩
    refine o_if (fun c2 => ?_) (fun c2 => ?_)
    · refine o_m (thr S f' (by omega)) ?_
      rintro _ S ⟨rfl, rfl⟩
      rw [if_pos (Or.inr (Or.inl c2))]
      exact ⟨rfl, rfl⟩
    by_cases c3 : (-1 : Int32) ≤ c
    · have c3' : ¬ c < (-1 : Int32) := Int32.not_lt.mpr c3
      refine o_t c3 ?_
      rw [if_neg (fun h => h.elim c1 (fun h => h.elim c2 c3'))]
      obtain ⟨g, -, hgg, rfl, -⟩ := (wI_n (a := a) (lo := 0) (hi := 9) (by omega) (by omega)).resolve_left c1
      obtain ⟨l, -, hl, rfl, -⟩ := (wI_n (a := b) (lo := 0) (hi := 9) (by omega) (by omega)).resolve_left c2
      rw [nI_clamp (by omega), nI_clamp (by omega)]
      refine o_loop (F := fun f vs S => F_X12_rests f 2 vs S) (c := 2) (B := 20) (y := 4) (fun k vs U => vs = [.int (nI g), .int (nI l), .int c, .int (nI (cnt (arB g l) k)), .int (nI k)] ∧ U = S ∧ ∀ j, j < k → arB g l j = true → nI (cnt (arB g l) j) ≠ c) ?_ ?_ 0 _ S f' (by omega) ⟨rfl, rfl, fun j hj => absurd hj (Nat.not_lt_zero j)⟩ (by omega)
      · rintro k _ S g' hk ⟨rfl, rfl, hj⟩ hg' rk
        have ec : cnt (arB g l) (k + 1) = cnt (arB g l) k + (if arB g l k then 1 else 0) := rfl
        show zO (F_X12_rests g' 2 _ _) _
        obtain ⟨g', rfl, hg'⟩ := g1 (n := 21) (f := g') (by omega)
        rw [E_X12_rests_2]; unfold F_X12_rests_2
        refine o_f (nI_ge (b := 4) hk (by omega)) ?_
        rw [(k2 hk).2, (k2 hk).1]
        refine o_I (T_X12_isAtRest hl hk (by omega)) ?_
        rintro _ S ⟨rfl, rfl⟩
        by_cases ca : arB g l k = true
        · rw [if_pos ca] at ec ⊢
          refine o_f (by decide) ?_
          refine o_if (fun c4 => ?_) (fun c4 => ?_)
          · have hc1 : ¬ c = -1 := fun e => by
              rw [e] at c4
              exact nI_m1 (by have := cnt_le (arB g l) k; omega) c4
            have hf4 := frF_hit ca c4 4 hk (Nat.le_refl _)
            refine o_r ⟨?_, rfl⟩
            unfold rsO
            rw [if_neg hc1, hf4, if_neg (nI_m1 (by omega))]
            rfl
          · obtain ⟨g', rfl, hg'⟩ := g1 (n := 20) (f := g') (by omega)
            rw [E_X12_rests_4]; unfold F_X12_rests_4
            refine rk g' _ _ (by omega) ⟨by rw [nI_1, nI_1, ec], rfl, fun j hj2 hja => ?_⟩
            by_cases e : j = k
            · rw [e]; exact c4
            · exact hj j (by omega) hja
        · rw [if_neg ca] at ec ⊢
          refine o_t rfl ?_
          obtain ⟨g', rfl, hg'⟩ := g1 (n := 20) (f := g') (by omega)
          rw [E_X12_rests_4]; unfold F_X12_rests_4
          refine rk g' _ _ (by omega) ⟨by rw [nI_1, ec]; rfl, rfl, fun j hj2 hja => ?_⟩
          by_cases e : j = k
          · rw [e] at hja; exact absurd hja ca
          · exact hj j (by omega) hja
      · rintro _ S g' ⟨rfl, rfl, hj⟩ hg'
        show zO (F_X12_rests g' 2 _ _) _
        obtain ⟨g', rfl, hg'⟩ := g1 (n := 21) (f := g') (by omega)
        rw [E_X12_rests_2]; unfold F_X12_rests_2
        refine o_t (nI_le (a := 4) (b := 4) (by omega) (by omega)) ?_
        unfold rsO
        refine o_if (fun c4 => ?_) (fun c4 => ?_)
        · rw [if_pos c4]
          exact o_r ⟨rfl, rfl⟩
        · rw [if_neg c4, if_pos (frF_no hj 4 (Nat.le_refl _))]
          obtain ⟨g', rfl, hg'⟩ := g1 (n := 20) (f := g') (by omega)
          rw [E_X12_rests_3]; unfold F_X12_rests_3
          exact o_r ⟨rfl, rfl⟩
    · refine o_f c3 ?_
      refine o_m (thr S f' (by omega)) ?_
      rintro _ S ⟨rfl, rfl⟩
      rw [if_pos (Or.inr (Or.inr (Int32.not_le.mp c3)))]
      exact ⟨rfl, rfl⟩
  obtain ⟨v, U, e, rfl, rfl⟩ := key
  exact e
theorem T_X13_rests {a b c : Int32} (hg : 100 ≤ f) : zI (F_X13_rests f 0 [.ref 186, .int a, .int b, .int c] S) (fun x T => (∀ v, (if wI a 0 9 = 0 ∨ wI b 0 9 = 0 ∨ c < -1 then none else rsO a.toNatClampNeg b.toNatClampNeg c) = some v → x = v) ∧ gI T 186 0 = (if (if wI a 0 9 = 0 ∨ wI b 0 9 = 0 ∨ c < -1 then none else rsO a.toNatClampNeg b.toNatClampNeg c) = none then 1 else 0) ∧ Fr mJ S T) := by
  -- the end
  have r4 : ∀ (f : Nat) (may n0 fnd : Int32) (o : Option Int32), 1 ≤ f → ((may = 0 ∧ o = none) ∨ (may = 1 ∧ c = -1 ∧ o = some n0) ∨ (may = 1 ∧ 0 ≤ c ∧ ((fnd = -1 ∧ o = none) ∨ (0 ≤ fnd ∧ o = some fnd)))) → zI (F_X13_rests f 4 [.ref 186, .int c, .int may, .int n0, .int fnd] S) (fun x T => (∀ v, o = some v → x = v) ∧ gI T 186 0 = (if o = none then 1 else 0) ∧ Fr mJ S T) := by
    intro f may n0 fnd o hf ho
    obtain ⟨f', rfl, hf⟩ := g1 (n := 0) (f := f) (by omega)
    rw [E_X13_rests_4]; unfold F_X13_rests_4
    refine o_s (fun S1 e1 => ?_)
    have f1 := (Fr.refl (D := mJ) S).sI e1 (by unfold mJ; omega)
    have g0 : gI S1 186 0 = (if may = (0 : Int32) then (1 : Int32) else if c < (0 : Int32) then (0 : Int32) else if fnd < (0 : Int32) then (1 : Int32) else 0) := by subst e1; rw [gI_sI, if_pos ⟨rfl, rfl⟩]
    rw [g0]
    rcases ho with ⟨rfl, rfl⟩ | ⟨rfl, rfl, rfl⟩ | ⟨rfl, hc, ⟨rfl, rfl⟩ | ⟨hfn, rfl⟩⟩
    · refine i_r ⟨fun v h => (by cases h), ?_, f1⟩
      rw [g0]; rfl
    · refine i_r ⟨fun v h => ?_, ?_, f1⟩
      · cases h; rfl
      · rw [g0]; rfl
    · have hc' : ¬ c < 0 := Int32.not_lt.mpr hc
      refine i_r ⟨fun v h => (by cases h), ?_, f1⟩
      rw [g0, if_neg (show ¬ (1 : Int32) = 0 by decide), if_neg hc']; rfl
    · have hc' : ¬ c < 0 := Int32.not_lt.mpr hc
      have hf' : ¬ fnd < 0 := Int32.not_lt.mpr hfn
      refine i_r ⟨fun v h => ?_, ?_, f1⟩
      · cases h
        rw [if_neg (show ¬ (1 : Int32) = 0 by decide), if_neg hc', if_neg hf', if_pos (show (0 : Int32) ≤ 0 by decide), if_pos hc]
      · rw [g0, if_neg (show ¬ (1 : Int32) = 0 by decide), if_neg hc', if_neg hf']; rfl
  have none0 : ∀ (f : Nat), 10 ≤ f → zI (F_X13_rests f 2 [.ref 186, .int a, .int b, .int c, .int 0, .int 0, .int (-1), .int 0] S) (fun x T => (∀ v, (none : Option Int32) = some v → x = v) ∧ gI T 186 0 = (if (none : Option Int32) = none then 1 else 0) ∧ Fr mJ S T) := by
    intro f hf
    obtain ⟨f', rfl, hf⟩ := g1 (n := 9) (f := f) (by omega)
    rw [E_X13_rests_2]; unfold F_X13_rests_2
    refine o_f (by decide) (o_t rfl ?_)
    exact r4 f' 0 0 (-1) none (by omega) (Or.inl ⟨rfl, rfl⟩)
  obtain ⟨f', rfl, hf⟩ := g1 (n := 99) (f := f) (by omega)
  rw [E_X13_rests_0]; unfold F_X13_rests_0
  refine o_I (T_X13_within (by omega)) ?_
  rintro _ S ⟨rfl, rfl⟩
  refine o_if (fun c1 => ?_) (fun c1 => ?_)
  · obtain ⟨f', rfl, hf⟩ := g1 (n := 98) (f := f') (by omega)
    rw [E_X13_rests_1]; unfold F_X13_rests_1
    obtain ⟨f', rfl, hf⟩ := g1 (n := 97) (f := f') (by omega)
    rw [E_X13_rests_3]; unfold F_X13_rests_3
    rw [if_pos (Or.inl c1)]
    exact none0 f' (by omega)
  refine o_I (T_X13_within (by omega)) ?_
  rintro _ S ⟨rfl, rfl⟩
  refine o_lI ?_
  by_cases c2 : wI b 0 9 = 0
  · rw [if_pos c2, if_pos (Or.inr (Or.inl c2))]
    exact none0 f' (by omega)
  rw [if_neg c2]
  by_cases c3 : c < (-1 : Int32)
  · rw [if_pos c3, if_pos (Or.inr (Or.inr c3))]
    exact none0 f' (by omega)
  rw [if_neg c3, if_neg (fun h => h.elim c1 (fun h => h.elim c2 c3))]
  obtain ⟨g, -, hgg, rfl, -⟩ := (wI_n (a := a) (lo := 0) (hi := 9) (by omega) (by omega)).resolve_left c1
  obtain ⟨l, -, hl, rfl, -⟩ := (wI_n (a := b) (lo := 0) (hi := 9) (by omega) (by omega)).resolve_left c2
  rw [nI_clamp (by omega), nI_clamp (by omega)]
  refine o_loop (F := fun f vs S => F_X13_rests f 2 vs S) (c := 3) (B := 20) (y := 4) (fun k vs U => vs = [.ref 186, .int (nI g), .int (nI l), .int c, .int 1, .int (nI (cnt (arB g l) k)), .int (frF (arB g l) c k), .int (nI k)] ∧ U = S) ?_ ?_ 0 _ S f' (by omega) ⟨rfl, rfl⟩ (by omega)
  · rintro k _ S g' hk ⟨rfl, rfl⟩ hg' rk
    have ec : cnt (arB g l) (k + 1) = cnt (arB g l) k + (if arB g l k then 1 else 0) := rfl
    have a1 : k / 2 ≤ 1 := by omega
    have a2 : k % 2 ≤ 1 := by omega
    simp only [frF] at rk
    show zO (F_X13_rests g' 2 _ _) _
    obtain ⟨g', rfl, hg'⟩ := g1 (n := 22) (f := g') (by omega)
    rw [E_X13_rests_2]; unfold F_X13_rests_2
    refine o_f (nI_ge (b := 4) hk (by omega)) (o_f (by decide) ?_)
    rw [(k2 hk).2, (k2 hk).1, one_sub a1, one_sub a2]
    refine o_I (T_X13_getsBy hl (by omega) a2 (by omega)) ?_
    rintro _ S ⟨rfl, rfl⟩
    refine o_I (T_X13_getsBy hl a1 a2 (by omega)) ?_
    rintro _ S ⟨rfl, rfl⟩
    refine o_if (fun c4 => ?_) (fun c4 => ?_)
    · have ca : arB g l k = false := by unfold arB; rw [decide_eq_false (not_not_intro c4), Bool.false_and]
      obtain ⟨g', rfl, hg'⟩ := g1 (n := 21) (f := g') (by omega)
      rw [E_X13_rests_5]; unfold F_X13_rests_5
      obtain ⟨g', rfl, hg'⟩ := g1 (n := 20) (f := g') (by omega)
      rw [E_X13_rests_6]; unfold F_X13_rests_6
      refine o_lI ?_
      refine o_lI ?_
      refine rk g' _ _ (by omega) ⟨?_, rfl⟩
      have en : (if ((false : Bool) = true ∧ nI (cnt (arB g l) k) = c) then nI k else frF (arB g l) c k) = frF (arB g l) c k := if_neg (fun h => absurd h.1 (by decide))
      rw [nI_1, ec, ca, en, if_pos (show (0 : Int32) = 0 from rfl), if_pos (show (0 : Int32) = 0 from rfl), show nI (cnt (arB g l) k) + (0 : Int32) = nI (cnt (arB g l) k) by rw [show (0 : Int32) = nI 0 from rfl, nI_add, Nat.add_zero]]
      rfl
    · refine o_I (T_X13_getsBy hl (by omega) a1 (by omega)) ?_
      rintro _ S ⟨rfl, rfl⟩
      refine o_I (T_X13_getsBy hl a2 a1 (by omega)) ?_
      rintro _ S ⟨rfl, rfl⟩
      refine o_lI ?_
      refine o_lI ?_
      refine rk g' _ _ (by omega) ⟨?_, rfl⟩
      by_cases c5 : gn g l (k % 2) (k / 2) < gn g l (1 - k % 2) (k / 2)
      · have ca : arB g l k = false := by unfold arB; rw [decide_eq_false (not_not_intro c5), Bool.and_false]
        have en : (if ((false : Bool) = true ∧ nI (cnt (arB g l) k) = c) then nI k else frF (arB g l) c k) = frF (arB g l) c k := if_neg (fun h => absurd h.1 (by decide))
        rw [nI_1, ec, ca, en, if_pos c5, if_pos (show (0 : Int32) = 0 from rfl), if_pos (show (0 : Int32) = 0 from rfl), show nI (cnt (arB g l) k) + (0 : Int32) = nI (cnt (arB g l) k) by rw [show (0 : Int32) = nI 0 from rfl, nI_add, Nat.add_zero]]
        rfl
      · have ca : arB g l k = true := by unfold arB; rw [decide_eq_true c4, decide_eq_true c5]; rfl
        have en : (if ((true : Bool) = true ∧ nI (cnt (arB g l) k) = c) then nI k else frF (arB g l) c k) = (if nI (cnt (arB g l) k) = c then nI k else frF (arB g l) c k) := by
          by_cases c6 : nI (cnt (arB g l) k) = c
          · rw [if_pos c6, if_pos ⟨rfl, c6⟩]
          · rw [if_neg c6, if_neg (fun h => c6 h.2)]
        rw [nI_1, ec, ca, en, if_neg c5, if_neg (show ¬ (1 : Int32) = 0 by decide), if_neg (show ¬ (1 : Int32) = 0 by decide), nI_1]
        rfl
  · rintro _ S g' ⟨rfl, rfl⟩ hg'
    show zO (F_X13_rests g' 2 _ _) _
    obtain ⟨g', rfl, hg'⟩ := g1 (n := 22) (f := g') (by omega)
    rw [E_X13_rests_2]; unfold F_X13_rests_2
    refine o_t (nI_le (a := 4) (b := 4) (by omega) (by omega)) ?_
    refine r4 g' 1 _ _ _ (by omega) (Or.inr ?_)
    unfold rsO
    by_cases c1 : c = -1
    · exact Or.inl ⟨rfl, c1, by rw [if_pos c1]⟩
    · refine Or.inr ⟨rfl, ?_, ?_⟩
      · have h1 : (-1 : Int32).toInt = -1 := rfl
        have h0 : (0 : Int32).toInt = 0 := rfl
        rw [Int32.le_iff_toInt_le, h0]
        have n1 : ¬ c.toInt < -1 := fun h => c3 (Int32.lt_iff_toInt_lt.mpr (by rw [h1]; exact h))
        have n2 : c.toInt ≠ -1 := fun h => c1 (Int32.toInt_inj.mp (by rw [h1]; exact h))
        omega
      · rw [if_neg c1]
        have hfr : ∀ m, m ≤ 4 → frF (arB g l) c m = -1 ∨ 0 ≤ frF (arB g l) c m := by
          intro m hm
          induction m with
          | zero => exact Or.inl rfl
          | succ m ih =>
            show (if arB g l m = true ∧ nI (cnt (arB g l) m) = c then nI m else frF (arB g l) c m) = -1 ∨ 0 ≤ (if arB g l m = true ∧ nI (cnt (arB g l) m) = c then nI m else frF (arB g l) c m)
            split
            · exact Or.inr (nI_pos' (by omega))
            · exact ih (by omega)
        rcases hfr 4 (Nat.le_refl _) with h | h
        · exact Or.inl ⟨h, by rw [if_pos h]⟩
        · refine Or.inr ⟨h, ?_⟩
          rw [if_neg (fun e => by rw [e] at h; exact absurd h (by decide))]
end RE

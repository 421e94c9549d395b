/-! in which order: both sides -/
theorem o_dE {e e1 : Nat} {k : Nat → aR} {Q : Option Value → aS → Prop} (he : e = e1 + 1) (h : zO (k e1) Q) : zO (dE e k) Q := by
  subst he
  exact h
def foldN {α : Type} (g : Nat → α → α) : Nat → α → α
  | 0, x => x
  | p + 1, x => g p (foldN g p x)
abbrev oX : Type := Nat × (Nat → Int32)
def ordN (P : aP) : Nat → Nat → Lk → Nat → (Nat → Int32) → oX → oX
  | 0, _, M, _, row, x => if tot (pY P) M < x.1 then (tot (pY P) M, row) else x
  | j + 1, n, M, met, row, x => foldN (fun p x => if met.testBit p then x else ordN P j (n + 1) (wk P p (pDe P) M) (met ||| 2 ^ p) (up1 row n (nI p)) x) (pN P) x
def ordG (P : aP) (j n : Nat) (M : Lk) (met : Nat) (row : Nat → Int32) : Nat → oX → oX := fun p x => if met.testBit p then x else ordN P j (n + 1) (wk P p (pDe P) M) (met ||| 2 ^ p) (up1 row n (nI p)) x
theorem ordN_s (P : aP) (j n : Nat) (M : Lk) (met : Nat) (row : Nat → Int32) (x : oX) : ordN P (j + 1) n M met row x = foldN (ordG P j n M met row) (pN P) x := rfl
theorem ordN_le {P : aP} : ∀ j n M met row (x : oX), x.1 ≤ 7993 → (ordN P j n M met row x).1 ≤ 7993
  | 0, n, M, met, row, x, h => by
    show (if _ then _ else _ : oX).1 ≤ 7993
    split
    · show tot (pY P) M ≤ 7993
      omega
    · exact h
  | j + 1, n, M, met, row, x, h => by
    rw [ordN_s]
    have : ∀ p, (foldN (ordG P j n M met row) p x).1 ≤ 7993 := by
      intro p
      induction p with
      | zero => exact h
      | succ p ih =>
        show (ordG P j n M met row p (foldN (ordG P j n M met row) p x)).1 ≤ 7993
        unfold ordG
        split
        · exact ih
        · exact ordN_le j (n + 1) _ _ _ _ ih
    exact this _
abbrev dO (n : Nat) : Nat → Nat → Prop := fun x k => (138 + 4 * n ≤ x ∧ x ≤ 161) ∨ (x = 125 ∧ n ≤ k) ∨ x = 126 ∨ (x = 123 ∧ k = 7) ∨ x = 122 ∨ x = 13 ∨ x = 14 ∨ x = 17 ∨ x = 18 ∨ x = 29 ∨ x = 30 ∨ x = 33 ∨ x = 34
theorem dO_dJ {n : Nat} (x k : Nat) (d : dO n x k) : dJ x k := by unfold dO at d; unfold dJ; omega
section OR
variable {S T : aS} {A : aA} {q f n B : Nat} {P : aP} {L M : Lk}
theorem T_X7_offerRow {v : Nat} {row : Nat → Int32} {x : oX} (hX : CX S q P) (h7 : gI S 123 7 = nI x.1) (hb : x.1 < 7993 → ∀ k, k < pN P → gI S 126 k = x.2 k) (hr : ∀ k, k < pN P → gI S 125 k = row k) (hx : x.1 ≤ 7993) (hv : v ≤ 7992) (hg : 30 ≤ f) : zU (F_X7_offerRow f 0 [.ref 123, .int (nI v)] S) (fun T => gI T 123 7 = nI (if v < x.1 then (v, row) else x : oX).1 ∧ ((if v < x.1 then (v, row) else x : oX).1 < 7993 → ∀ k, k < pN P → gI T 126 k = (if v < x.1 then (v, row) else x : oX).2 k) ∧ Fr (fun p k => p = 126 ∨ (p = 123 ∧ k = 7)) S T) := by
  have hn := hX.pi.1.2.2.1
  obtain ⟨g, ge, hG⟩ := g1 hg; subst ge; clear hg; have hg := hG; clear hG; rw [E_X7_offerRow_0]; unfold F_X7_offerRow_0
  rw [h7]
  refine o_if (fun c => ?_) (fun c => ?_)
  · rw [nI_leI (by omega) (by omega)] at c
    obtain ⟨g, ge, hG⟩ := g1 hg; subst ge; clear hg; have hg := hG; clear hG; rw [E_X7_offerRow_1]; unfold F_X7_offerRow_1
    rw [if_neg (by omega)]
    exact u_r ⟨h7, hb, Fr.refl _⟩
  · rw [nI_leI (by omega) (by omega)] at c
    rw [if_pos (by omega)]
    refine o_s (fun S1 e1 => ?_)
    have f1 : Fr (fun p k => p = 126 ∨ (p = 123 ∧ k = 7)) S S1 := (Fr.refl _).sI e1 (Or.inr ⟨rfl, rfl⟩)
    have s7 : gI S1 123 7 = nI v := by subst e1; rw [gI_sI, if_pos ⟨rfl, rfl⟩]
    refine o_loop (F := fun f vs S => F_X7_offerRow f 2 vs S) (c := 1) (B := 5) (y := (pN P)) (fun k vs T => vs = [.ref 123, .int (nI k)] ∧ gI T 123 7 = nI v ∧ (∀ j, j < k → gI T 126 j = row j) ∧ Fr (fun p k => p = 126 ∨ (p = 123 ∧ k = 7)) S T) ?_ ?_ 0 _ S1 g (by omega) ⟨rfl, s7, fun j hj => absurd hj (Nat.not_lt_zero j), f1⟩ (by omega)
    · rintro k _ T g hk ⟨rfl, t7, hT, hf⟩ hg rec
      have xT := hX.fr hf (fun x k d => by unfold dN; omega)
      show zO (F_X7_offerRow g 2 _ _) _
      obtain ⟨g, ge, hG⟩ := g1 hg; subst ge; clear hg; have hg := hG; clear hG; rw [E_X7_offerRow_2]; unfold F_X7_offerRow_2
      rw [xT.s2, xT.cp.2.1.2.1]
      refine o_f (nI_ge hk (by omega)) ?_
      refine o_X rfl (show k < 6 by omega) ?_
      refine o_X rfl (show k < 6 by omega) ?_
      rw [xT.s4, xT.s5, hf.2 125 k (by omega), hr k hk]
      refine o_s (fun T1 t1 => ?_)
      refine rec g _ _ (by omega) ⟨by rw [nI_1], by subst t1; rw [gI_sI, if_neg (by omega)]; exact t7, fun j hj => ?_, hf.sI t1 (Or.inl rfl)⟩
      subst t1
      rw [gI_sI]
      by_cases e : j = k
      · rw [if_pos ⟨rfl, e⟩, e]
      · rw [if_neg (by omega)]
        exact hT j (by omega)
    · rintro _ T g ⟨rfl, t7, hT, hf⟩ hg
      have xT := hX.fr hf (fun x k d => by unfold dN; omega)
      show zO (F_X7_offerRow g 2 _ _) _
      obtain ⟨g, ge, hG⟩ := g1 hg; subst ge; clear hg; have hg := hG; clear hG; rw [E_X7_offerRow_2]; unfold F_X7_offerRow_2
      rw [xT.s2, xT.cp.2.1.2.1]
      refine o_t (nI_le (Nat.le_refl _) (by omega)) ?_
      obtain ⟨g, ge, hG⟩ := g1 hg; subst ge; clear hg; have hg := hG; clear hG; rw [E_X7_offerRow_1]; unfold F_X7_offerRow_1
      exact u_r ⟨t7, fun _ => hT, hf⟩
theorem or64 {m p : Nat} (hm : m < 64) (hp : p < 6) : m ||| 2 ^ p < 64 := Nat.or_lt_two_pow (n := 6) hm (Nat.pow_lt_pow_right (by omega) hp)
theorem T_gOrd (hI : PI P) : ∀ (j n : Nat), j + n = pN P → ∀ (M : Lk) (met : Nat) (row : Nat → Int32) (x : oX) (S : aS) (e f B : Nat), j + 1 ≤ e → 4300 + 30 * (j + 1) ≤ f → CX S q P → LA S (134 + 4 * n) (pY P) (pDe P) M → LI B M → met < 64 → gI S 123 7 = nI x.1 → x.1 ≤ 7993 → (x.1 < 7993 → ∀ k, k < pN P → gI S 126 k = x.2 k) → (∀ k, k < n → gI S 125 k = row k) → zU (F_gOrd f e 0 [.ref 123, .int (nI n), .int (nI met)] S) (fun T => gI T 123 7 = nI (ordN P j n M met row x).1 ∧ ((ordN P j n M met row x).1 < 7993 → ∀ k, k < pN P → gI T 126 k = (ordN P j n M met row x).2 k) ∧ Fr (dO n) S T) := by
  have hn := hI.1.2.2.1
  have hy := hI.1.2.1
  have hd9 := hI.1.2.2.2.2.2
  intro j
  induction j with
  | zero =>
    intro n hjn M met row x S e f B he hg hX hL hB hm h7 hx hb hr
    have hnn : n = pN P := by omega
    have hv := tot_le hB hy
    replace hg : 4300 + 28 + 1 + 1 ≤ f := by omega
    obtain ⟨g, ge, hG⟩ := g1 hg; subst ge; clear hg; have hg := hG; clear hG; rw [E_gOrd_0]; unfold F_gOrd_0
    rw [hX.s2, hX.cp.2.1.2.1]
    refine o_t (nI_le (by omega) (by omega)) ?_
    obtain ⟨g, ge, hG⟩ := g1 hg; subst ge; clear hg; have hg := hG; clear hG; rw [E_gOrd_1]; unfold F_gOrd_1
    refine o_X rfl (show n < 7 by omega) ?_
    rw [hX.s3, hX.sd (show n < 7 by omega)]
    refine o_I (T_X4_total hL hy (by omega)) ?_
    rintro _ S ⟨rfl, rfl⟩
    refine o_V (T_X7_offerRow hX h7 hb (fun k hk => hr k (by omega)) hx hv (by omega)) ?_
    rintro T ⟨t1, t2, t3⟩
    exact u_r ⟨t1, t2, t3.mono (fun p k d => by unfold dO; omega)⟩
  | succ j ih =>
    intro n hjn M met row x S e f B he hg hX hL hB hm h7 hx hb hr
    have ln := lkd (show n < 7 by omega)
    have ln1 := lkd (show n + 1 < 7 by omega)
    replace hg : 4300 + 30 * (j + 1) + 29 + 1 ≤ f := by omega
    obtain ⟨g, ge, hG⟩ := g1 hg; subst ge; clear hg; have hg := hG; clear hG; rw [E_gOrd_0]; unfold F_gOrd_0
    rw [hX.s2, hX.cp.2.1.2.1]
    refine o_f (nI_ge (by omega) (by omega)) ?_
    rw [nI_1]
    refine o_t (nI_lt (b := 7) (by omega) (by omega)) ?_
    rw [ordN_s]
    refine o_loop (F := fun f vs S => F_gOrd f e 2 vs S) (c := 2) (B := 4300 + 30 * (j + 1) + 2) (y := pN P) (fun p vs T => vs = [.ref 123, .int (nI n), .int (nI met), .int (nI p)] ∧ gI T 123 7 = nI (foldN (ordG P j n M met row) p x).1 ∧ ((foldN (ordG P j n M met row) p x).1 < 7993 → ∀ k, k < pN P → gI T 126 k = (foldN (ordG P j n M met row) p x).2 k) ∧ Fr (dO n) S T) ?_ ?_ 0 _ S g (by omega) ⟨rfl, h7, hb, Fr.refl S⟩ (by omega)
    · rintro p _ T g hp ⟨rfl, t7, tb, hf⟩ hg rk
      have xT := hX.j (hf.mono dO_dJ)
      have lT := hL.fr hf (fun x k a b d => by unfold dO at d; omega)
      have hle : (foldN (ordG P j n M met row) p x).1 ≤ 7993 := by
        clear rk t7 tb
        induction p with
        | zero => exact hx
        | succ p ih2 =>
          show (ordG P j n M met row p (foldN (ordG P j n M met row) p x)).1 ≤ 7993
          unfold ordG
          split
          · exact ih2 (by omega)
          · exact ordN_le _ _ _ _ _ _ (ih2 (by omega))
      simp only [foldN] at rk
      generalize foldN (ordG P j n M met row) p x = w at t7 tb hle rk
      show zO (F_gOrd g e 2 _ _) _
      replace hg : 4300 + 30 * (j + 1) + 1 + 1 + 1 ≤ g := by omega
      obtain ⟨g, ge, hG⟩ := g1 hg; subst ge; clear hg; have hg := hG; clear hG; rw [E_gOrd_2]; unfold F_gOrd_2
      obtain ⟨e1, rfl⟩ : ∃ e1, e = e1 + 1 := ⟨e - 1, by omega⟩
      refine o_dE rfl ?_
      rw [xT.s2, xT.cp.2.1.2.1]
      refine o_f (nI_ge hp (by omega)) ?_
      refine o_if (fun c => ?_) (fun c => ?_)
      · rw [bitA (by omega) (by omega)] at c
        have eg : ordG P j n M met row p w = ordN P j (n + 1) (wk P p (pDe P) M) (met ||| 2 ^ p) (up1 row n (nI p)) w := by unfold ordG; rw [if_neg (by rw [c]; decide)]
        rw [eg] at rk
        refine o_X rfl (show n < 6 by omega) ?_
        rw [xT.s4]
        refine o_s (fun T1 e1' => ?_)
        have k1 : Fr (fun p k => p = 125 ∧ k = n) T T1 := (Fr.refl _).sI e1' ⟨rfl, rfl⟩
        have x1 := xT.fr k1 (fun x k d => by unfold dN; omega)
        have l1 := lT.fr k1 (fun x k a b d => by omega)
        rw [nI_1]
        refine o_X rfl (show n + 1 < 7 by omega) ?_
        refine o_X rfl (show n < 7 by omega) ?_
        rw [x1.s3, x1.sd (show n < 7 by omega), x1.sd (show n + 1 < 7 by omega)]
        refine o_V (T_X4_become l1 (x1.lr ln1) (by omega) (by omega)) ?_
        rintro T2 ⟨l2, k2⟩
        have x2 := x1.l k2 ln1
        refine o_X rfl (show n + 1 < 7 by omega) ?_
        rw [x2.s1, x2.s3, x2.sd (show n + 1 < 7 by omega)]
        refine o_I (T_X9_walkOf x2 l2 hB hd9 hp ln1 (by omega)) ?_
        rintro _ T3 ⟨-, l3, -, k3⟩
        have x3 := x2.w k3 ln1
        have kk : Fr (fun x k => (138 + 4 * n ≤ x ∧ x ≤ 141 + 4 * n) ∨ (x = 125 ∧ k = n) ∨ x = 122 ∨ x = 13 ∨ x = 14 ∨ x = 17 ∨ x = 18 ∨ x = 29 ∨ x = 30 ∨ x = 33 ∨ x = 34) T T3 := ((k1.mono (fun x k d => by omega)).tr (k2.mono (fun x k d => by unfold dL at d; omega))).tr (k3.mono (fun x k d => by unfold dW at d; omega))
        rw [sh1 p (by omega), nI_or]
        refine o_V (ih (n + 1) (by omega) (wk P p (pDe P) M) (met ||| 2 ^ p) (up1 row n (nI p)) w T3 e1 g B (by omega) (by omega) x3 l3 (wk_LI hI hp hB) (or64 hm (by omega)) (by rw [kk.2 _ _ (by omega)]; exact t7) hle (fun hw k hk => by rw [kk.2 _ _ (by omega)]; exact tb hw k hk) (fun k hk => ?_)) ?_
        · rw [up1_at]
          by_cases ek : k = n
          · rw [if_pos ek, ek]
            rw [k3.2 _ _ (by unfold dW; omega), k2.2 _ _ (by unfold dL; omega)]
            subst e1'
            rw [gI_sI, if_pos ⟨rfl, rfl⟩]
          · rw [if_neg ek, kk.2 _ _ (by omega), hf.2 _ _ (by unfold dO; omega)]
            exact hr k (by omega)
        rintro T4 ⟨z7, zb, k4⟩
        obtain ⟨g, ge, hG⟩ := g1 hg; subst ge; clear hg; have hg := hG; clear hG; rw [E_gOrd_3]; unfold F_gOrd_3
        exact rk g _ _ (by omega) ⟨by rw [nI_1], z7, zb, (hf.tr (kk.mono (fun x k d => by unfold dO; omega))).tr (k4.mono (fun x k d => by unfold dO at d ⊢; omega))⟩
      · rw [bitA (by omega) (by omega)] at c
        have eg : ordG P j n M met row p w = w := by unfold ordG; rw [if_pos (by simpa using c)]
        rw [eg] at rk
        obtain ⟨g, ge, hG⟩ := g1 hg; subst ge; clear hg; have hg := hG; clear hG; rw [E_gOrd_3]; unfold F_gOrd_3
        exact rk g _ _ (by omega) ⟨by rw [nI_1], t7, tb, hf⟩
    · rintro _ T g ⟨rfl, t7, tb, hf⟩ hg
      have xT := hX.j (hf.mono dO_dJ)
      show zO (F_gOrd g e 2 _ _) _
      replace hg : 4300 + 30 * (j + 1) + 1 + 1 + 1 ≤ g := by omega
      obtain ⟨g, ge, hG⟩ := g1 hg; subst ge; clear hg; have hg := hG; clear hG; rw [E_gOrd_2]; unfold F_gOrd_2
      obtain ⟨e1, rfl⟩ : ∃ e1, e = e1 + 1 := ⟨e - 1, by omega⟩
      refine o_dE rfl ?_
      rw [xT.s2, xT.cp.2.1.2.1]
      exact o_t (nI_le (Nat.le_refl _) (by omega)) (u_r ⟨t7, tb, hf⟩)
theorem T_X13_saves {d : Nat} (h : MR S) (hd : d < 7) (hg : 40 ≤ f) : zU (F_X13_saves f 0 [.ref 186, .int (nI d)] S) (fun T => (∀ k, k < 36 → gI T 203 (36 * d + k) = gI S 200 (756 + k)) ∧ Fr (fun x k => x = 203 ∧ 36 * d ≤ k) S T) := by
  obtain ⟨g, ge, hG⟩ := g1 hg; subst ge; clear hg; have hg := hG; clear hG; rw [E_X13_saves_0]; unfold F_X13_saves_0
  refine o_loop (F := fun f vs S => F_X13_saves f 1 vs S) (c := 1) (B := 1) (y := 36) (fun k vs T => vs = [.ref 186, .int (nI d), .int (nI k)] ∧ (∀ j, j < k → gI T 203 (36 * d + j) = gI S 200 (756 + j)) ∧ Fr (fun x k => x = 203 ∧ 36 * d ≤ k) S T) ?_ ?_ 0 _ S g (by omega) ⟨rfl, fun j hj => absurd hj (Nat.not_lt_zero j), Fr.refl S⟩ (by omega)
  · rintro k _ T g hk ⟨rfl, hT, hf⟩ hg rec
    have mT := h.fr hf
    show zO (F_X13_saves g 1 _ _) _
    obtain ⟨g, ge, hG⟩ := g1 hg; subst ge; clear hg; have hg := hG; clear hG; rw [E_X13_saves_1]; unfold F_X13_saves_1
    refine o_f (nI_ge (b := 36) hk (by omega)) ?_
    refine o_X (nA2' (n := 756) rfl) (by omega) ?_
    have e8 : ((36 : Int32) * nI d) + nI k = nI (36 * d + k) := by rw [show (36 : Int32) = nI 36 from rfl, pk_mul, nI_add]
    refine o_X e8 (by omega) ?_
    rw [mT.walked, mT.state]
    refine o_s (fun T1 e1 => ?_)
    refine rec g _ _ (by omega) ⟨by rw [nI_1], fun j hj => ?_, hf.sI e1 ⟨rfl, by omega⟩⟩
    subst e1
    rw [gI_sI]
    by_cases e : j = k
    · rw [if_pos ⟨rfl, by omega⟩, hf.2 _ _ (by omega), e]
    · rw [if_neg (by omega)]
      exact hT j (by omega)
  · rintro _ T g ⟨rfl, hT, hf⟩ hg
    show zO (F_X13_saves g 1 _ _) _
    obtain ⟨g, ge, hG⟩ := g1 hg; subst ge; clear hg; have hg := hG; clear hG; rw [E_X13_saves_1]; unfold F_X13_saves_1
    exact o_t (nI_le (a := 36) (b := 36) (by omega) (by omega)) (u_r ⟨hT, hf⟩)
theorem T_X13_loads {d : Nat} (h : MR S) (hd : d < 7) (hg : 40 ≤ f) : zU (F_X13_loads f 0 [.ref 186, .int (nI d)] S) (fun T => (∀ k, k < 36 → gI T 200 (756 + k) = gI S 203 (36 * d + k)) ∧ Fr (fun x k => x = 200 ∧ 756 ≤ k ∧ k < 792) S T) := by
  obtain ⟨g, ge, hG⟩ := g1 hg; subst ge; clear hg; have hg := hG; clear hG; rw [E_X13_loads_0]; unfold F_X13_loads_0
  refine o_loop (F := fun f vs S => F_X13_loads f 1 vs S) (c := 1) (B := 1) (y := 36) (fun k vs T => vs = [.ref 186, .int (nI d), .int (nI k)] ∧ (∀ j, j < k → gI T 200 (756 + j) = gI S 203 (36 * d + j)) ∧ Fr (fun x k => x = 200 ∧ 756 ≤ k ∧ k < 792) S T) ?_ ?_ 0 _ S g (by omega) ⟨rfl, fun j hj => absurd hj (Nat.not_lt_zero j), Fr.refl S⟩ (by omega)
  · rintro k _ T g hk ⟨rfl, hT, hf⟩ hg rec
    have mT := h.fr hf
    show zO (F_X13_loads g 1 _ _) _
    obtain ⟨g, ge, hG⟩ := g1 hg; subst ge; clear hg; have hg := hG; clear hG; rw [E_X13_loads_1]; unfold F_X13_loads_1
    refine o_f (nI_ge (b := 36) hk (by omega)) ?_
    have e8 : ((36 : Int32) * nI d) + nI k = nI (36 * d + k) := by rw [show (36 : Int32) = nI 36 from rfl, pk_mul, nI_add]
    refine o_X e8 (by omega) ?_
    refine o_X (nA2' (n := 756) rfl) (by omega) ?_
    rw [mT.walked, mT.state]
    refine o_s (fun T1 e1 => ?_)
    refine rec g _ _ (by omega) ⟨by rw [nI_1], fun j hj => ?_, hf.sI e1 ⟨rfl, by omega, by omega⟩⟩
    subst e1
    rw [gI_sI]
    by_cases e : j = k
    · rw [if_pos ⟨rfl, by omega⟩, hf.2 _ _ (by omega), e]
    · rw [if_neg (by omega)]
      exact hT j (by omega)
  · rintro _ T g ⟨rfl, hT, hf⟩ hg
    show zO (F_X13_loads g 1 _ _) _
    obtain ⟨g, ge, hG⟩ := g1 hg; subst ge; clear hg; have hg := hG; clear hG; rw [E_X13_loads_1]; unfold F_X13_loads_1
    exact o_t (nI_le (a := 36) (b := 36) (by omega) (by omega)) (u_r ⟨hT, hf⟩)
def lsM (v : Nat) : Int32 := if v = 7993 then -1 else nI v
abbrev dQ (n : Nat) : Nat → Nat → Prop := fun x k => (x = 200 ∧ 756 ≤ k ∧ k < 792) ∨ (x = 203 ∧ 36 * n ≤ k) ∨ (x = 204 ∧ n ≤ k) ∨ x = 205 ∨ (x = 186 ∧ ((26 ≤ k ∧ k ≤ 28) ∨ k = 33)) ∨ x = 198 ∨ x = 199
theorem dQ_mJ {n : Nat} (x k : Nat) (d : dQ n x k) : mJ x k := by unfold dQ at d; unfold mJ; omega
theorem T_gMod (hI : PI P) : ∀ (j n : Nat), j + n = pN P → ∀ (M : Lk) (met : Nat) (row : Nat → Int32) (x : oX) (S : aS) (e f B : Nat), j + 1 ≤ e → 4600 + 30 * (j + 1) ≤ f → MX S P L → MA S 756 M → LI B M → met < 64 → gI S 186 33 = lsM x.1 → x.1 ≤ 7993 → (x.1 < 7993 → ∀ k, k < pN P → gI S 205 k = x.2 k) → (∀ k, k < n → gI S 204 k = row k) → zU (F_gMod f e 0 [.ref 186, .int (nI n), .int (nI met)] S) (fun T => gI T 186 33 = lsM (ordN P j n M met row x).1 ∧ ((ordN P j n M met row x).1 < 7993 → ∀ k, k < pN P → gI T 205 k = (ordN P j n M met row x).2 k) ∧ Fr (dQ n) S T) := by
  have hn := hI.1.2.2.1
  have hy := hI.1.2.1
  intro j
  induction j with
  | zero =>
    intro n hjn M met row x S e f B he hg hX hL hB hm h7 hx hb hr
    have hnn : n = pN P := by omega
    have hv := tot_le hB hy
    replace hg : 4600 + 20 + 1 + 1 + 1 ≤ f := by omega
    have no : ∀ (g : Nat) (U : aS), 1 ≤ g → zU (F_gMod g e 3 [] U) (fun T => T = U) := by
      intro g U hg
      obtain ⟨g, ge, hG⟩ := g1 hg; subst ge; clear hg; have hg := hG; clear hG; rw [E_gMod_3]; unfold F_gMod_3
      exact u_r rfl
    have yes : ∀ (g : Nat), 30 ≤ g → tot (pY P) M < x.1 → zU (F_gMod g e 2 [.ref 186, .int (nI n), .int (nI (tot (pY P) M))] S) (fun T => gI T 186 33 = lsM (ordN P 0 n M met row x).1 ∧ ((ordN P 0 n M met row x).1 < 7993 → ∀ k, k < pN P → gI T 205 k = (ordN P 0 n M met row x).2 k) ∧ Fr (dQ n) S T) := by
      intro g hg hlt
      have eo : ordN P 0 n M met row x = (tot (pY P) M, row) := if_pos hlt
      rw [eo]
      obtain ⟨g, ge, hG⟩ := g1 hg; subst ge; clear hg; have hg := hG; clear hG; rw [E_gMod_2]; unfold F_gMod_2
      refine o_s (fun S1 e1 => ?_)
      have f1 : Fr (fun x k => x = 205 ∨ (x = 186 ∧ k = 33)) S S1 := (Fr.refl _).sI e1 (Or.inr ⟨rfl, rfl⟩)
      refine o_loop (F := fun f vs S => F_gMod f e 5 vs S) (c := 1) (B := 5) (y := n) (fun k vs T => vs = [.ref 186, .int (nI n), .int (nI k)] ∧ gI T 186 33 = nI (tot (pY P) M) ∧ (∀ i, i < k → gI T 205 i = row i) ∧ Fr (fun x k => x = 205 ∨ (x = 186 ∧ k = 33)) S T) ?_ ?_ 0 _ S1 g (by omega) ⟨rfl, by subst e1; rw [gI_sI, if_pos ⟨rfl, rfl⟩], fun i hi => absurd hi (Nat.not_lt_zero i), f1⟩ (by omega)
      · rintro k _ T g hk ⟨rfl, t7, hT, hf⟩ hg rec
        have mT := hX.1.1.fr hf
        show zO (F_gMod g e 5 _ _) _
        obtain ⟨g, ge, hG⟩ := g1 hg; subst ge; clear hg; have hg := hG; clear hG; rw [E_gMod_5]; unfold F_gMod_5
        refine o_f (nI_ge hk (by omega)) ?_
        refine o_X rfl (show k < 6 by omega) ?_
        refine o_X rfl (show k < 6 by omega) ?_
        rw [mT.row, mT.best, hf.2 204 k (by omega), hr k hk]
        refine o_s (fun T1 t1 => ?_)
        refine rec g _ _ (by omega) ⟨by rw [nI_1], by subst t1; rw [gI_sI, if_neg (by omega)]; exact t7, fun i hi => ?_, hf.sI t1 (Or.inl rfl)⟩
        subst t1
        rw [gI_sI]
        by_cases ek : i = k
        · rw [if_pos ⟨rfl, ek⟩, ek]
        · rw [if_neg (by omega)]
          exact hT i (by omega)
      · rintro _ T g ⟨rfl, t7, hT, hf⟩ hg
        show zO (F_gMod g e 5 _ _) _
        obtain ⟨g, ge, hG⟩ := g1 hg; subst ge; clear hg; have hg := hG; clear hG; rw [E_gMod_5]; unfold F_gMod_5
        refine o_t (nI_le (Nat.le_refl _) (by omega)) ?_
        refine u_m (no g T (by omega)) ?_
        rintro T rfl
        refine ⟨?_, fun _ k hk => hT k (by omega), hf.mono (fun x k d => by unfold dQ; omega)⟩
        show _ = lsM (tot (pY P) M)
        unfold lsM
        rw [if_neg (by omega)]
        exact t7
    obtain ⟨g, ge, hG⟩ := g1 hg; subst ge; clear hg; have hg := hG; clear hG; rw [E_gMod_0]; unfold F_gMod_0
    refine o_I (T_X13_people hX.1 (by omega)) ?_
    rintro _ S ⟨rfl, rfl⟩
    refine o_t (by rw [hnn]) ?_
    refine o_I (T_X13_lyingIn (b := 756) hX.1 hI hL (by omega) (by omega)) ?_
    rintro _ S ⟨rfl, rfl⟩
    rw [h7]
    unfold lsM
    by_cases c0 : x.1 = 7993
    · rw [if_pos c0]
      refine o_t (by decide) ?_
      exact yes g (by omega) (by omega)
    · rw [if_neg c0]
      refine o_f (nI_pos (by omega)) ?_
      refine o_if (fun c => ?_) (fun c => ?_)
      · rw [nI_leI (by omega) (by omega)] at c
        have eo : ordN P 0 n M met row x = x := if_neg (by omega)
        rw [eo]
        refine u_m (no g S (by omega)) ?_
        rintro S rfl
        refine ⟨?_, hb, Fr.refl _⟩
        rw [h7]
        unfold lsM
        rw [if_neg c0]
      · rw [nI_leI (by omega) (by omega)] at c
        exact yes g (by omega) (by omega)
  | succ j ih =>
    intro n hjn M met row x S e f B he hg hX hL hB hm h7 hx hb hr
    replace hg : 4600 + 30 * (j + 1) + 29 + 1 ≤ f := by omega
    obtain ⟨g, ge, hG⟩ := g1 hg; subst ge; clear hg; have hg := hG; clear hG; rw [E_gMod_0]; unfold F_gMod_0
    refine o_I (T_X13_people hX.1 (by omega)) ?_
    rintro _ S ⟨rfl, rfl⟩
    refine o_f (nI_ne (by omega) (by omega) (by omega)) ?_
    refine o_V (T_X13_saves hX.1.1 (show n < 7 by omega) (by omega)) ?_
    rintro S1 ⟨sv, f1⟩
    have f1q : Fr (dQ n) S S1 := f1.mono (fun x k d => by unfold dQ; omega)
    rw [ordN_s]
    refine o_loop (F := fun f vs S => F_gMod f e 1 vs S) (c := 2) (B := 4600 + 30 * (j + 1) + 2) (y := pN P) (fun p vs T => vs = [.ref 186, .int (nI n), .int (nI met), .int (nI p)] ∧ gI T 186 33 = lsM (foldN (ordG P j n M met row) p x).1 ∧ ((foldN (ordG P j n M met row) p x).1 < 7993 → ∀ k, k < pN P → gI T 205 k = (foldN (ordG P j n M met row) p x).2 k) ∧ (∀ k, k < 28 → gI T 203 (36 * n + k) = nI (M k)) ∧ Fr (dQ n) S T) ?_ ?_ 0 _ S1 g (by omega) ⟨rfl, by rw [f1.2 _ _ (by omega)]; exact h7, fun hw k hk => by rw [f1.2 _ _ (by omega)]; exact hb hw k hk, fun k hk => by rw [sv k (by omega)]; exact hL k hk, f1q⟩ (by omega)
    · rintro p _ T g hp ⟨rfl, t7, tb, tv', hf⟩ hg rk
      have mT := hX.j (hf.mono dQ_mJ)
      have hle : (foldN (ordG P j n M met row) p x).1 ≤ 7993 := by
        clear rk t7 tb
        induction p with
        | zero => exact hx
        | succ p ih2 =>
          show (ordG P j n M met row p (foldN (ordG P j n M met row) p x)).1 ≤ 7993
          unfold ordG
          split
          · exact ih2 (by omega)
          · exact ordN_le _ _ _ _ _ _ (ih2 (by omega))
      simp only [foldN] at rk
      generalize foldN (ordG P j n M met row) p x = w at t7 tb hle rk
      show zO (F_gMod g e 1 _ _) _
      replace hg : 4600 + 30 * (j + 1) + 1 + 1 + 1 ≤ g := by omega
      obtain ⟨g, ge, hG⟩ := g1 hg; subst ge; clear hg; have hg := hG; clear hG; rw [E_gMod_1]; unfold F_gMod_1
      obtain ⟨e1, rfl⟩ : ∃ e1, e = e1 + 1 := ⟨e - 1, by omega⟩
      refine o_dE rfl ?_
      refine o_I (T_X13_people mT.1 (by omega)) ?_
      rintro _ T ⟨rfl, rfl⟩
      refine o_f (nI_ge hp (by omega)) ?_
      refine o_if (fun c => ?_) (fun c => ?_)
      · rw [bitI0 (by omega) (by omega)] at c
        have eg : ordG P j n M met row p w = ordN P j (n + 1) (wk P p (pDe P) M) (met ||| 2 ^ p) (up1 row n (nI p)) w := by unfold ordG; rw [if_neg (by rw [c]; decide)]
        rw [eg] at rk
        refine o_V (T_X13_loads mT.1.1 (show n < 7 by omega) (by omega)) ?_
        rintro T1 ⟨ld, k1⟩
        have a1 : MA T1 756 M := fun k hk => by rw [ld k (by omega)]; exact tv' k hk
        have m1 := mT.j (k1.mono (fun x k d => by unfold mJ; omega))
        refine o_I (T_X13_walks (b := 756) m1.1 hI a1 hB (by omega) hp m1.2.2.1 (by omega)) ?_
        rintro _ T2 ⟨-, a2, -, k2⟩
        have m2 := m1.j (k2.mono (dX_mJ (b := 756) (by omega)))
        refine o_X rfl (show n < 6 by omega) ?_
        rw [m2.1.1.row]
        refine o_s (fun T3 e3 => ?_)
        have k3 : Fr (fun x k => x = 204 ∧ k = n) T2 T3 := (Fr.refl _).sI e3 ⟨rfl, rfl⟩
        have m3 := m2.j (k3.mono (fun x k d => by unfold mJ; omega))
        have a3 := a2.fr k3 (fun k a b d => by omega)
        have kk : Fr (fun x k => (x = 200 ∧ 756 ≤ k ∧ k < 792) ∨ (x = 204 ∧ k = n) ∨ (x = 186 ∧ 26 ≤ k ∧ k ≤ 28) ∨ x = 198 ∨ x = 199) T T3 := ((k1.mono (fun x k d => by omega)).tr (k2.mono (fun x k d => by unfold dX at d; omega))).tr (k3.mono (fun x k d => by omega))
        rw [sh1 p (by omega), nI_or, nI_1]
        refine o_V (ih (n + 1) (by omega) (wk P p (pDe P) M) (met ||| 2 ^ p) (up1 row n (nI p)) w T3 e1 g B (by omega) (by omega) m3 a3 (wk_LI hI hp hB) (or64 hm (by omega)) (by rw [kk.2 _ _ (by omega)]; exact t7) hle (fun hw k hk => by rw [kk.2 _ _ (by omega)]; exact tb hw k hk) (fun k hk => ?_)) ?_
        · rw [up1_at]
          by_cases ek : k = n
          · rw [if_pos ek, ek]
            subst e3
            rw [gI_sI, if_pos ⟨rfl, rfl⟩]
          · rw [if_neg ek, kk.2 _ _ (by omega), hf.2 _ _ (by unfold dQ; omega)]
            exact hr k (by omega)
        rintro T4 ⟨z7, zb, k4⟩
        obtain ⟨g, ge, hG⟩ := g1 hg; subst ge; clear hg; have hg := hG; clear hG; rw [E_gMod_4]; unfold F_gMod_4
        refine rk g _ _ (by omega) ⟨by rw [nI_1], z7, zb, fun k hk => ?_, (hf.tr (kk.mono (fun x k d => by unfold dQ; omega))).tr (k4.mono (fun x k d => by unfold dQ at d ⊢; omega))⟩
        rw [k4.2 _ _ (by unfold dQ; omega), kk.2 _ _ (by omega)]
        exact tv' k hk
      · rw [bitI0 (by omega) (by omega)] at c
        have eg : ordG P j n M met row p w = w := by unfold ordG; rw [if_pos (by simpa using c)]
        rw [eg] at rk
        obtain ⟨g, ge, hG⟩ := g1 hg; subst ge; clear hg; have hg := hG; clear hG; rw [E_gMod_4]; unfold F_gMod_4
        exact rk g _ _ (by omega) ⟨by rw [nI_1], t7, tb, tv', hf⟩
    · rintro _ T g ⟨rfl, t7, tb, tv', hf⟩ hg
      have mT := hX.j (hf.mono dQ_mJ)
      show zO (F_gMod g e 1 _ _) _
      replace hg : 4600 + 30 * (j + 1) + 1 + 1 + 1 ≤ g := by omega
      obtain ⟨g, ge, hG⟩ := g1 hg; subst ge; clear hg; have hg := hG; clear hG; rw [E_gMod_1]; unfold F_gMod_1
      obtain ⟨e1, rfl⟩ : ∃ e1, e = e1 + 1 := ⟨e - 1, by omega⟩
      refine o_dE rfl ?_
      refine o_I (T_X13_people mT.1 (by omega)) ?_
      rintro _ T ⟨rfl, rfl⟩
      exact o_t (nI_le (Nat.le_refl _) (by omega)) (u_r ⟨t7, tb, hf⟩)
/-- some row is found -/
theorem foldN_lt {g : Nat → oX → oX} (hg : ∀ p x, (g p x).1 ≤ x.1) : ∀ n x, (foldN g n x).1 ≤ x.1
  | 0, _ => Nat.le_refl _
  | n + 1, x => Nat.le_trans (hg n _) (foldN_lt hg n x)
theorem ordN_dn {P : aP} : ∀ j n M met row (x : oX), (ordN P j n M met row x).1 ≤ x.1
  | 0, n, M, met, row, x => by
    show (if _ then _ else _ : oX).1 ≤ _
    split
    · rename_i h; exact Nat.le_of_lt h
    · exact Nat.le_refl _
  | j + 1, n, M, met, row, x => by
    rw [ordN_s]
    refine foldN_lt (fun p x => ?_) _ _
    unfold ordG
    split
    · exact Nat.le_refl _
    · exact ordN_dn j _ _ _ _ _
theorem fresh {met N : Nat} (hm : met < 2 ^ N) (h : met ≠ 2 ^ N - 1) : ∃ p, p < N ∧ met.testBit p = false := by
  refine Classical.byContradiction (fun hc => h ?_)
  apply Nat.eq_of_testBit_eq
  intro i
  rw [Nat.testBit_two_pow_sub_one]
  by_cases hi : i < N
  · rw [decide_eq_true hi]
    cases hb : met.testBit i
    · exact absurd ⟨i, hi, hb⟩ hc
    · rfl
  · rw [decide_eq_false hi]
    exact Nat.testBit_lt_two_pow (Nat.lt_of_lt_of_le hm (Nat.pow_le_pow_right (by omega) (by omega)))
theorem ordN_fnd {P : aP} (hI : PI P) : ∀ j n M met row (x : oX), j + n = pN P → LI B M → (∀ p, n ≤ p → p < pN P → met.testBit p = false) → (ordN P j n M met row x).1 ≤ 7992
  | 0, n, M, met, row, x, _, hB, _ => by
    have hv := tot_le hB hI.1.2.1
    show (if _ then _ else _ : oX).1 ≤ _
    split
    · exact hv
    · omega
  | j + 1, n, M, met, row, x, hjn, hB, hm => by
    rw [ordN_s]
    have key : ∀ k, n + 1 ≤ k → (foldN (ordG P j n M met row) k x).1 ≤ 7992 := by
      intro k hk
      induction k with
      | zero => omega
      | succ k ih =>
        show (ordG P j n M met row k (foldN (ordG P j n M met row) k x)).1 ≤ 7992
        by_cases e : k = n
        · subst e
          unfold ordG
          rw [if_neg (by rw [hm k (by omega) (by omega)]; decide)]
          refine ordN_fnd hI j (k + 1) _ _ _ _ (by omega) (wk_LI hI (by omega) hB) (fun p h1 h2 => ?_)
          rw [Nat.testBit_or, hm p (by omega) h2, tb_pow, decide_eq_false (by omega)]
          rfl
        · have := ih (by omega)
          unfold ordG
          split
          · exact this
          · exact Nat.le_trans (ordN_dn _ _ _ _ _ _) this
    exact key _ (by omega)
theorem B_order {a : Int32} (hg : 6000 ≤ f) : Both n (fun S => F_X12_order f 0 [.ref 0, .int a] S) (fun S => F_X13_order f 0 [.ref 186, .int a] S) := by
  refine Both.ro (fun S T A q hC hX hL hM hA hB hd => ?_)
  have mx := hM.x hA
  have hn := hX.pi.1.2.2.1
  obtain ⟨T1, e1⟩ : ∃ T1, T1 = sI T 186 0 0 := ⟨_, rfl⟩
  have f1 := (Fr.refl (D := mJ) T).sI e1 (by unfold mJ; omega)
  have m1 := mx.j f1
  obtain ⟨W, eW⟩ : ∃ W : oX, W = ordN (plA A) (pN (plA A)) 0 (lkA A) 0 (fun _ => 0) (7993, fun _ => 0) := ⟨_, rfl⟩
  have hW : W.1 ≤ 7992 := by rw [eW]; exact ordN_fnd hX.pi _ _ _ _ _ _ (by omega) hB (fun p _ _ => Nat.zero_testBit p)
  -- the class, behind its test
  have cls : ∀ (g : Nat) (v : Int32), 5900 ≤ g → (v = -1 ∨ ∃ k, k < pN (plA A) ∧ v = nI k) → zI (F_X12_order g 1 [.ref 0, .int v] S) (fun x U => x = (if v = -1 then nI W.1 else W.2 v.toNatClampNeg) ∧ Fr dJ S U) := by
    intro g v hg hv
    obtain ⟨g, ge, hG⟩ := g1 hg; subst ge; clear hg; have hg := hG; clear hG; rw [E_X12_order_1]; unfold F_X12_order_1
    rw [hX.c12]
    refine o_V (T_X7_start hX hL (by omega)) ?_
    rintro S1 ⟨s7, s8, l1, g1'⟩
    have x1 := hX.j g1'
    rw [x1.c12]
    refine o_V (P := fun U => gI U 123 7 = nI W.1 ∧ (W.1 < 7993 → ∀ k, k < pN (plA A) → gI U 126 k = W.2 k) ∧ Fr (dO 0) S1 U) ?_ ?_
    · rw [eW]
      exact T_gOrd hX.pi (pN (plA A)) 0 (by omega) (lkA A) 0 (fun _ => 0) (7993, fun _ => 0) S1 10 g n (by omega) (by omega) x1 l1 hB (by omega) s7 (Nat.le_refl _) (fun h => absurd h (Nat.lt_irrefl _)) (fun k hk => absurd hk (Nat.not_lt_zero k))
    rintro S2 ⟨t7, tb, g2⟩
    have ff := g1'.tr (g2.mono dO_dJ)
    have x2 := hX.j ff
    rw [x2.c12, x2.s5, t7]
    rcases hv with rfl | ⟨k, hk, rfl⟩
    · refine o_t rfl ?_
      obtain ⟨g, ge, hG⟩ := g1 hg; subst ge; clear hg; have hg := hG; clear hG; rw [E_X12_order_2]; unfold F_X12_order_2
      exact i_r ⟨rfl, ff⟩
    · refine o_f (nI_m1 (by omega)) ?_
      refine o_X rfl (show k < 6 by omega) ?_
      obtain ⟨g, ge, hG⟩ := g1 hg; subst ge; clear hg; have hg := hG; clear hG; rw [E_X12_order_2]; unfold F_X12_order_2
      rw [if_neg (nI_m1 (by omega)), nI_clamp (by omega), tb (by omega) k hk]
      exact i_r ⟨rfl, ff⟩
  have mod : ∀ (g : Nat) (v : Int32), 5900 ≤ g → (v = -1 ∨ ∃ k, k < pN (plA A) ∧ v = nI k) → zI (F_X13_order g 1 [.ref 186, .int v] T1) (fun x U => x = (if v = -1 then nI W.1 else W.2 v.toNatClampNeg) ∧ Fr mJ T U) := by
    intro g v hg hv
    obtain ⟨g, ge, hG⟩ := g1 hg; subst ge; clear hg; have hg := hG; clear hG; rw [E_X13_order_1]; unfold F_X13_order_1
    refine o_V (T_X13_copies (a := 0) (c := 756) (n := 36) m1.1.1 (by omega) (by omega) (by omega) (by omega)) ?_
    rintro T2 ⟨c2, k2⟩
    have k2 : Fr mJ T1 T2 := k2.mono (fun x k d => by unfold mJ; omega)
    refine o_s (fun T3 e3 => ?_)
    have k3 := k2.sI e3 (by unfold mJ; omega)
    have m3 := m1.j k3
    have a3 : MA T3 756 (lkA A) := fun k hk => by
      subst e3
      rw [gI_sI, if_neg (by omega), c2 k (by omega), Nat.zero_add]
      exact m1.2.1.z hk
    refine o_V (P := fun U => gI U 186 33 = lsM W.1 ∧ (W.1 < 7993 → ∀ k, k < pN (plA A) → gI U 205 k = W.2 k) ∧ Fr (dQ 0) T3 U) ?_ ?_
    · rw [eW]
      exact T_gMod hX.pi (pN (plA A)) 0 (by omega) (lkA A) 0 (fun _ => 0) (7993, fun _ => 0) T3 10 g n (by omega) (by omega) m3 a3 hB (by omega) (by subst e3; rw [gI_sI, if_pos ⟨rfl, rfl⟩]; rfl) (Nat.le_refl _) (fun h => absurd h (Nat.lt_irrefl _)) (fun k hk => absurd hk (Nat.not_lt_zero k))
    rintro T4 ⟨t7, tb, g4⟩
    have ff := (f1.tr k3).tr (g4.mono dQ_mJ)
    have m4 := mx.j ff
    have els : lsM W.1 = nI W.1 := if_neg (by omega)
    rw [m4.1.1.best, t7, els]
    rcases hv with rfl | ⟨k, hk, rfl⟩
    · refine o_f (by decide) ?_
      obtain ⟨g, ge, hG⟩ := g1 hg; subst ge; clear hg; have hg := hG; clear hG; rw [E_X13_order_2]; unfold F_X13_order_2
      exact i_r ⟨rfl, ff⟩
    · refine o_t (nI_pos' (by omega)) ?_
      refine o_X rfl (show k < 6 by omega) ?_
      obtain ⟨g, ge, hG⟩ := g1 hg; subst ge; clear hg; have hg := hG; clear hG; rw [E_X13_order_2]; unfold F_X13_order_2
      rw [if_neg (nI_m1 (by omega)), nI_clamp (by omega), tb (by omega) k hk]
      exact i_r ⟨rfl, ff⟩
  by_cases h1 : a = -1
  · refine ⟨if a = -1 then nI W.1 else W.2 a.toNatClampNeg, ?_, ?_⟩
    · obtain ⟨g, ge, hG⟩ := g1 hg; subst ge; clear hg; have hg := hG; clear hG; rw [E_X12_order_0]; unfold F_X12_order_0
      refine o_t h1 ?_
      exact cls g a (by omega) (Or.inl h1)
    · obtain ⟨g, ge, hG⟩ := g1 hg; subst ge; clear hg; have hg := hG; clear hG; rw [E_X13_order_0]; unfold F_X13_order_0
      rw [← e1]
      show zO (if _ then _ else _) _
      refine o_t h1 ?_
      exact mod g a (by omega) (Or.inl h1)
  rcases ix a (n := pN (plA A)) with ha | ⟨k, hk, rfl⟩
  · refine ⟨-2, ?_, ?_⟩
    · obtain ⟨g, ge, hG⟩ := g1 hg; subst ge; clear hg; have hg := hG; clear hG; rw [E_X12_order_0]; unfold F_X12_order_0
      refine o_f h1 ?_
      rw [hX.c1]
      refine o_I (T_X6_hasPerson0 hX.cp ha (by omega)) ?_
      rintro _ S ⟨rfl, rfl⟩
      exact o_t rfl (i_r ⟨rfl, Fr.refl _⟩)
    · obtain ⟨g, ge, hG⟩ := g1 hg; subst ge; clear hg; have hg := hG; clear hG; rw [E_X13_order_0]; unfold F_X13_order_0
      rw [← e1]
      show zO (if _ then _ else _) _
      refine o_f h1 ?_
      refine o_I (T_X13_isPerson0 m1.1 ha (by omega)) ?_
      rintro _ T1 ⟨rfl, rfl⟩
      exact o_t rfl (i_r ⟨rfl, f1⟩)
  refine ⟨if nI k = -1 then nI W.1 else W.2 (nI k).toNatClampNeg, ?_, ?_⟩
  · obtain ⟨g, ge, hG⟩ := g1 hg; subst ge; clear hg; have hg := hG; clear hG; rw [E_X12_order_0]; unfold F_X12_order_0
    refine o_f h1 ?_
    rw [hX.c1]
    refine o_I (T_X6_hasPerson hX.cp hX.pi hk (by omega)) ?_
    rintro _ S ⟨rfl, rfl⟩
    refine o_f (by decide) ?_
    exact cls g (nI k) (by omega) (Or.inr ⟨k, hk, rfl⟩)
  · obtain ⟨g, ge, hG⟩ := g1 hg; subst ge; clear hg; have hg := hG; clear hG; rw [E_X13_order_0]; unfold F_X13_order_0
    rw [← e1]
    show zO (if _ then _ else _) _
    refine o_f h1 ?_
    refine o_I (T_X13_isPerson m1.1 hX.pi hk (by omega)) ?_
    rintro _ T1 ⟨rfl, rfl⟩
    refine o_f (by decide) ?_
    exact mod g (nI k) (by omega) (Or.inr ⟨k, hk, rfl⟩)
end OR

/-! the mean: both sides -/
def Wt (P : aP) (o : Nat) : Nat → Lk → Nat → Nat
  | 0, M, _ => tot (pY P) M
  | j + 1, M, p => (10 - o) * Wt P o j M (p + 1) + o * Wt P o j (wk P p (pDe P) M) (p + 1)
def prd (w : Nat → Nat) : Nat → Nat
  | 0 => 1
  | k + 1 => prd w k * w k
def wt (o s i : Nat) : Nat := if s.testBit i then 10 - o else o
def awF (P : aP) (d : Nat) : Nat → Nat → (Nat → Bool) → Lk → Lk
  | _, 0, _, M => M
  | p, j + 1, ab, M => awF P d (p + 1) j (fun i => ab (i + 1)) (if ab 0 then M else wk P p d M)
theorem awF_s {P : aP} {d : Nat} : ∀ j p ab M, awF P d p (j + 1) ab M = if ab j then awF P d p j ab M else wk P (p + j) d (awF P d p j ab M)
  | 0, p, ab, M => rfl
  | j + 1, p, ab, M => by
    show awF P d (p + 1) (j + 1) (fun i => ab (i + 1)) (if ab 0 then M else wk P p d M) = _
    rw [awF_s j (p + 1) (fun i => ab (i + 1)) (if ab 0 then M else wk P p d M), show p + 1 + j = p + (j + 1) by omega]
    rfl
theorem aw_F {P : aP} {d : Nat} {ab : Nat → Bool} {L : Lk} : ∀ n, aw P d ab L n = awF P d 0 n ab L
  | 0 => rfl
  | n + 1 => by
    rw [awF_s, ← aw_F n, Nat.zero_add]
    rfl
theorem prd_s {w : Nat → Nat} : ∀ j, prd w (j + 1) = w 0 * prd (fun i => w (i + 1)) j
  | 0 => by
    show 1 * w 0 = w 0 * 1
    omega
  | j + 1 => by
    show prd w (j + 1) * w (j + 1) = w 0 * (prd (fun i => w (i + 1)) j * w (j + 1))
    rw [prd_s j, Nat.mul_assoc]
theorem sm_2 {g : Nat → Nat} : ∀ m, sm g (2 * m) = sm (fun t => g (2 * t) + g (2 * t + 1)) m
  | 0 => rfl
  | m + 1 => by
    rw [show 2 * (m + 1) = 2 * m + 1 + 1 by omega]
    show sm g (2 * m) + g (2 * m) + g (2 * m + 1) = sm _ m + (g (2 * m) + g (2 * m + 1))
    rw [sm_2 m]
    omega
theorem sm_lin {a b : Nat} {g h : Nat → Nat} : ∀ m, sm (fun t => a * g t + b * h t) m = a * sm g m + b * sm h m
  | 0 => by
    show 0 = a * 0 + b * 0
    omega
  | m + 1 => by
    show sm _ m + (a * g m + b * h m) = a * (sm g m + g m) + b * (sm h m + h m)
    rw [sm_lin m, Nat.mul_add, Nat.mul_add]
    omega
theorem tb_2 (t i : Nat) : (2 * t).testBit (i + 1) = t.testBit i ∧ (2 * t + 1).testBit (i + 1) = t.testBit i ∧ (2 * t).testBit 0 = false ∧ (2 * t + 1).testBit 0 = true := by
  refine ⟨?_, ?_, ?_, ?_⟩
  · rw [Nat.testBit_succ, show 2 * t / 2 = t by omega]
  · rw [Nat.testBit_succ, show (2 * t + 1) / 2 = t by omega]
  · rw [Nat.testBit_zero]; exact decide_eq_false (by omega)
  · rw [Nat.testBit_zero]; exact decide_eq_true (by omega)
theorem Wt_sm {P : aP} {o : Nat} : ∀ j p M, sm (fun s => prd (wt o s) j * tot (pY P) (awF P (pDe P) p j (fun i => s.testBit i) M)) (2 ^ j) = Wt P o j M p
  | 0, p, M => by
    show 0 + 1 * tot (pY P) M = tot (pY P) M
    omega
  | j + 1, p, M => by
    rw [Nat.pow_succ, Nat.mul_comm, sm_2]
    have e : ∀ t, prd (wt o (2 * t)) (j + 1) * tot (pY P) (awF P (pDe P) p (j + 1) (fun i => (2 * t).testBit i) M) + prd (wt o (2 * t + 1)) (j + 1) * tot (pY P) (awF P (pDe P) p (j + 1) (fun i => (2 * t + 1).testBit i) M) = (10 - o) * (prd (wt o t) j * tot (pY P) (awF P (pDe P) (p + 1) j (fun i => t.testBit i) M)) + o * (prd (wt o t) j * tot (pY P) (awF P (pDe P) (p + 1) j (fun i => t.testBit i) (wk P p (pDe P) M))) := by
      intro t
      have p1 : (fun i => wt o (2 * t) (i + 1)) = wt o t := funext (fun i => by unfold wt; rw [(tb_2 t i).1])
      have p2 : (fun i => wt o (2 * t + 1) (i + 1)) = wt o t := funext (fun i => by unfold wt; rw [(tb_2 t i).2.1])
      have q1 : (fun i => (2 * t).testBit (i + 1)) = fun i => t.testBit i := funext (fun i => (tb_2 t i).1)
      have q2 : (fun i => (2 * t + 1).testBit (i + 1)) = fun i => t.testBit i := funext (fun i => (tb_2 t i).2.1)
      have w0 : wt o (2 * t) 0 = o := by unfold wt; rw [(tb_2 t 0).2.2.1]; rfl
      have w1' : wt o (2 * t + 1) 0 = 10 - o := by unfold wt; rw [(tb_2 t 0).2.2.2]; rfl
      rw [prd_s, prd_s, p1, p2, w0, w1']
      have a1 : awF P (pDe P) p (j + 1) (fun i => (2 * t).testBit i) M = awF P (pDe P) (p + 1) j (fun i => t.testBit i) (wk P p (pDe P) M) := by
        show awF P (pDe P) (p + 1) j (fun i => (2 * t).testBit (i + 1)) (if (2 * t).testBit 0 then M else wk P p (pDe P) M) = _
        rw [q1, (tb_2 t 0).2.2.1]
        rfl
      have a2 : awF P (pDe P) p (j + 1) (fun i => (2 * t + 1).testBit i) M = awF P (pDe P) (p + 1) j (fun i => t.testBit i) M := by
        show awF P (pDe P) (p + 1) j (fun i => (2 * t + 1).testBit (i + 1)) (if (2 * t + 1).testBit 0 then M else wk P p (pDe P) M) = _
        rw [q2, (tb_2 t 0).2.2.2]
        rfl
      rw [a1, a2, Nat.mul_assoc, Nat.mul_assoc, Nat.add_comm]
    rw [sm_cg (fun t _ => e t), sm_lin, Wt_sm j (p + 1) M, Wt_sm j (p + 1) (wk P p (pDe P) M)]
    rfl
theorem Wt_le {P : aP} {o B : Nat} (hI : PI P) (ho : o ≤ 10) : ∀ j p M, j + p = pN P → LI B M → Wt P o j M p ≤ 10 ^ j * 7992
  | 0, p, M, _, h => by
    have := tot_le h hI.1.2.1
    show tot (pY P) M ≤ 1 * 7992
    omega
  | j + 1, p, M, hj, h => by
    have h1 := Wt_le hI ho j (p + 1) M (by omega) h
    have h2 := Wt_le hI ho j (p + 1) (wk P p (pDe P) M) (by omega) (wk_LI hI (by omega) h)
    show (10 - o) * Wt P o j M (p + 1) + o * Wt P o j (wk P p (pDe P) M) (p + 1) ≤ 10 ^ (j + 1) * 7992
    have h3 := Nat.mul_le_mul_left (10 - o) h1
    have h4 := Nat.mul_le_mul_left o h2
    have h5 : (10 - o) * (10 ^ j * 7992) + o * (10 ^ j * 7992) = 10 ^ (j + 1) * 7992 := by
      rw [← Nat.add_mul, show 10 - o + o = 10 by omega, Nat.pow_succ, Nat.mul_comm (10 ^ j) 10, Nat.mul_assoc]
    omega
theorem o_J {r : aR} {k : Int64 → aS → aR} {Q : Option Value → aS → Prop} {Pp : Int64 → aS → Prop} (h : zO r (fun v S => ∃ x, v = some (.long x) ∧ Pp x S)) (hk : ∀ x S, Pp x S → zO (k x S) Q) : zO (bJ r k) Q := by
  obtain ⟨v, S, e, x, rfl, p⟩ := h
  rw [e]
  exact hk x S p
section ME
variable {S T : aS} {A : aA} {q f n B : Nat} {P : aP} {L M : Lk}
theorem T_gWei (hI : PI P) {o : Nat} (ho : o ≤ 10) : ∀ (j p : Nat), j + p = pN P → ∀ (d : Nat) (M : Lk) (S : aS) (e f B : Nat), d ≤ p → j + 1 ≤ e → 4300 + 10 * (j + 1) ≤ f → CX S q P → LA S (134 + 4 * d) (pY P) (pDe P) M → LI B M → zO (F_gWei f e 0 [.ref 123, .int (nI d), .int (nI p), .int (nI o)] S) (fun v T => ∃ x, v = some (.long x) ∧ (x = lN (Wt P o j M p) ∧ Fr (dU d) S T)) := by
  have hn := hI.1.2.2.1
  have hy := hI.1.2.1
  have hd9 := hI.1.2.2.2.2.2
  intro j
  induction j with
  | zero =>
    intro p hjp d M S e f B hd he hg hX hL hB
    obtain ⟨e1, rfl⟩ : ∃ e1, e = e1 + 1 := ⟨e - 1, by omega⟩
    replace hg : 4300 + 8 + 1 + 1 ≤ f := by omega
    obtain ⟨g, ge, hG⟩ := g1 hg; subst ge; clear hg; have hg := hG; clear hG; rw [E_gWei_0]; unfold F_gWei_0
    refine o_dE rfl ?_
    rw [hX.s2, hX.cp.2.1.2.1]
    refine o_t (nI_le (by omega) (by omega)) ?_
    obtain ⟨g, ge, hG⟩ := g1 hg; subst ge; clear hg; have hg := hG; clear hG; rw [E_gWei_1]; unfold F_gWei_1
    refine o_X rfl (show d < 7 by omega) ?_
    rw [hX.s3, hX.sd (show d < 7 by omega)]
    refine o_I (T_X4_total hL hy (by omega)) ?_
    rintro _ S ⟨rfl, rfl⟩
    have := tot_le hB hy
    rw [nI_l (by omega)]
    exact o_r ⟨_, rfl, rfl, Fr.refl _⟩
  | succ j ih =>
    intro p hjp d M S e f B hd he hg hX hL hB
    have ld1 := lkd (show d + 1 < 7 by omega)
    obtain ⟨e1, rfl⟩ : ∃ e1, e = e1 + 1 := ⟨e - 1, by omega⟩
    have r3 : ∀ (U : aS) (g : Nat) (v : Nat), 1 ≤ g → Fr (dU d) S U → zO (F_gWei g (e1 + 1) 3 [.long (lN v)] U) (fun v' T => ∃ x, v' = some (.long x) ∧ (x = lN v ∧ Fr (dU d) S T)) := by
      intro U g v hg hf
      obtain ⟨g, ge, hG⟩ := g1 hg; subst ge; clear hg; have hg := hG; clear hG; rw [E_gWei_3]; unfold F_gWei_3
      exact o_r ⟨_, rfl, rfl, hf⟩
    have r2 : ∀ (U : aS) (g : Nat), 4300 + 10 * (j + 1) + 4 ≤ g → Fr (dU d) S U → zO (F_gWei g (e1 + 1) 2 [.ref 123, .int (nI d), .int (nI p), .int (nI o), .long (lN ((10 - o) * Wt P o j M (p + 1)))] U) (fun v T => ∃ x, v = some (.long x) ∧ (x = lN (Wt P o (j + 1) M p) ∧ Fr (dU d) S T)) := by
      intro U g hg hf
      have xU := hX.j (hf.mono dU_dJ)
      have lU := hL.fr hf (fun x k a b d' => by unfold dU at d'; omega)
      replace hg : 4300 + 10 * (j + 1) + 3 + 1 ≤ g := by omega
      obtain ⟨g, ge, hG⟩ := g1 hg; subst ge; clear hg; have hg := hG; clear hG; rw [E_gWei_2]; unfold F_gWei_2
      refine o_dE rfl ?_
      by_cases o0 : o = 0
      · refine o_t (by rw [o0]; decide) ?_
        have ew : Wt P o (j + 1) M p = (10 - o) * Wt P o j M (p + 1) := by
          show (10 - o) * _ + o * _ = _
          rw [o0, Nat.zero_mul, Nat.add_zero]
        rw [ew]
        exact r3 U g _ (by omega) hf
      · refine o_f (nI_nle (by omega) (by omega)) ?_
        rw [nI_1, nI_1]
        refine o_X rfl (show d + 1 < 7 by omega) ?_
        refine o_X rfl (show d < 7 by omega) ?_
        rw [xU.s3, xU.sd (show d < 7 by omega), xU.sd (show d + 1 < 7 by omega)]
        refine o_V (T_X4_become lU (xU.lr ld1) (by omega) (by omega)) ?_
        rintro U2 ⟨l2, k2⟩
        have x2 := xU.l k2 ld1
        refine o_X rfl (show d + 1 < 7 by omega) ?_
        rw [x2.s1, x2.s3, x2.sd (show d + 1 < 7 by omega)]
        refine o_I (T_X9_walkOf x2 l2 hB hd9 (show p < pN P by omega) ld1 (by omega)) ?_
        rintro _ U3 ⟨-, l3, -, k3⟩
        have x3 := x2.w k3 ld1
        have kk := k2.lw k3
        refine o_J (ih (p + 1) (by omega) (d + 1) _ U3 e1 g B (by omega) (by omega) (by omega) x3 l3 (wk_LI hI (by omega) hB)) ?_
        rintro _ U4 ⟨rfl, k4⟩
        rw [nI_l (by omega), lN_mul, lN_add]
        exact r3 U4 g _ (by omega) ((hf.tr (kk.mono (fun x k d' => by unfold dW at d'; unfold dU; omega))).tr (k4.mono (fun x k d' => by unfold dU at d' ⊢; omega)))
    replace hg : 4300 + 10 * (j + 1) + 9 + 1 ≤ f := by omega
    obtain ⟨g, ge, hG⟩ := g1 hg; subst ge; clear hg; have hg := hG; clear hG; rw [E_gWei_0]; unfold F_gWei_0
    refine o_dE rfl ?_
    rw [hX.s2, hX.cp.2.1.2.1]
    refine o_f (nI_ge (by omega) (by omega)) ?_
    refine o_t (show nI d + 1 < (7 : Int32) by rw [nI_1]; exact nI_lt (b := 7) (by omega) (by omega)) ?_
    by_cases o10 : o = 10
    · refine o_t (by rw [o10]; decide) ?_
      have := r2 S g (by omega) (Fr.refl _)
      rw [show (10 - o) * Wt P o j M (p + 1) = 0 by rw [o10, Nat.sub_self, Nat.zero_mul]] at this
      exact this
    · refine o_f (nI_ge (b := 10) (by omega) (by omega)) ?_
      rw [nI_1]
      refine o_J (ih (p + 1) (by omega) d M S e1 g B (by omega) (by omega) (by omega) hX hL hB) ?_
      rintro _ S2 ⟨rfl, k2⟩
      refine o_lJ ?_
      rw [show (10 : Int32) - nI o = nI (10 - o) by rw [show (10 : Int32) = nI 10 from rfl, pk_sub (by omega)], nI_l (by omega), lN_mul, show (0 : Int64) = lN 0 from rfl, lN_add, Nat.zero_add]
      exact r2 S2 g (by omega) k2
theorem lcmp0 {a : Nat} (h : a < 2 ^ 62) : lg_cmp (lN a) (0 : Int64) ≤ (0 : Int32) ↔ a = 0 := by
  rw [lg_cmp_le, show (0 : Int64) = lN 0 from rfl, pk_lLE (by omega) (by omega)]
  omega
theorem T_X13_mean {o : Nat} (h : MX S P L) (hB : LI B L) (ho : o ≤ 10) (hg : 6000 ≤ f) : zI (F_X13_mean f 1 [.ref 186, .int (nI o), .long 0, .long 1, .int 0] S) (fun x T => x = nI (Wt P o (pN P) L 0 * 1000 / 10 ^ pN P) ∧ Fr mJ S T) := by
  have hI := h.2.2.2
  have hn := hI.1.2.2.1
  have hy := hI.1.2.1
  have hp : ∀ k, k ≤ 6 → 10 ^ k ≤ 1000000 := fun k hk => Nat.le_trans (Nat.pow_le_pow_right (by omega) hk) (show 10 ^ 6 ≤ 1000000 by omega)
  have hW := Wt_le (o := o) hI ho (pN P) 0 L (by omega) hB
  have h2 : 2 ^ pN P ≤ 64 := Nat.pow_le_pow_right (n := 2) (by omega) hn
  have h10 := hp (pN P) hn
  have h10' : 0 < 10 ^ pN P := Nat.pow_pos (by omega)
  obtain ⟨N, hN⟩ : ∃ N, N = 2 ^ pN P := ⟨_, rfl⟩
  obtain ⟨Z, hZ⟩ : ∃ Z, Z = 10 ^ pN P := ⟨_, rfl⟩
  have eW : Wt P o (pN P) L 0 = sm (fun s => prd (wt o s) (pN P) * tot (pY P) (aw P (pDe P) (fun i => s.testBit i) L (pN P))) N := by
    rw [hN, ← Wt_sm]
    exact sm_cg (fun s _ => by rw [aw_F])
  rw [← hN] at h2
  rw [← hZ] at h10 h10' hW ⊢
  have hpr : ∀ s k, k ≤ 6 → prd (wt o s) k ≤ 10 ^ k := by
    intro s k hk
    induction k with
    | zero => exact Nat.le_refl _
    | succ k ih =>
      have := ih (by omega)
      have hw : wt o s k ≤ 10 := by unfold wt; split <;> omega
      show prd (wt o s) k * wt o s k ≤ 10 ^ (k + 1)
      rw [Nat.pow_succ]
      exact Nat.mul_le_mul this hw
  -- over the sets
  have sets : ∀ (U : aS) (g : Nat), 5500 ≤ g → Fr mJ S U → zI (F_X13_mean g 2 [.ref 186, .int (nI o), .long 0, .long (lN Z), .int 0] U) (fun x T => x = nI (Wt P o (pN P) L 0 * 1000 / Z) ∧ Fr mJ S T) := by
    intro U g hg hfU
    refine o_loop (F := fun f vs S => F_X13_mean f 2 vs S) (c := 10) (B := 4700) (y := N) (fun s vs T => vs = [.ref 186, .int (nI o), .long (lN (sm (fun s => prd (wt o s) (pN P) * tot (pY P) (aw P (pDe P) (fun i => s.testBit i) L (pN P))) s)), .long (lN Z), .int (nI s)] ∧ Fr mJ S T) ?_ ?_ 0 _ U g (by omega) ⟨rfl, hfU⟩ (by omega)
    · rintro s _ T g hs ⟨rfl, hf⟩ hg rk
      have mT := h.j hf
      show zO (F_X13_mean g 2 _ _) _
      replace hg : 4709 + 1 ≤ g := by omega
      obtain ⟨g, ge, hG⟩ := g1 hg; subst ge; clear hg; have hg := hG; clear hG; rw [E_X13_mean_2]; unfold F_X13_mean_2
      refine o_I (T_X13_people mT.1 (by omega)) ?_
      rintro _ T ⟨rfl, rfl⟩
      rw [sh1 _ (by omega), ← hN]
      refine o_f (nI_ge hs (by omega)) ?_
      simp only [sm] at rk
      generalize sm (fun s => prd (wt o s) (pN P) * tot (pY P) (aw P (pDe P) (fun i => s.testBit i) L (pN P))) s = acc at rk
      have r4 : ∀ (U : aS) (g2 : Nat) (v : Nat), 4700 ≤ g2 → g ≤ g2 + 8 → Fr mJ S U → v = acc + prd (wt o s) (pN P) * tot (pY P) (aw P (pDe P) (fun i => s.testBit i) L (pN P)) → zI (F_X13_mean g2 4 [.ref 186, .int (nI o), .long (lN v), .long (lN Z), .int (nI s)] U) (fun x T => x = nI (Wt P o (pN P) L 0 * 1000 / Z) ∧ Fr mJ S T) := by
        intro U g2 v hg2 hgg hfU hv
        subst hv
        obtain ⟨g2, rfl, hg2⟩ := g1 (n := 4699) (f := g2) (by omega)
        rw [E_X13_mean_4]; unfold F_X13_mean_4
        exact rk g2 _ _ (by omega) ⟨by rw [nI_1], hfU⟩
      refine o_loopT (F := fun f vs S => F_X13_mean f 3 vs S) (c := 1) (B := 4701) (y := pN P) (fun p vs U => vs = [.ref 186, .int (nI o), .long (lN acc), .long (lN Z), .int (nI s), .long (lN (prd (wt o s) p)), .int (nI p)] ∧ U = T) ?_ ?_ _ T ⟨rfl, rfl⟩ (by omega)
      · rintro p _ T g2 hpp ⟨rfl, rfl⟩ hg2 rk2
        show zO (F_X13_mean g2 3 _ _) _
        obtain ⟨g2, rfl, hg2⟩ := g1 (n := 4701) (f := g2) (by omega)
        rw [E_X13_mean_3]; unfold F_X13_mean_3
        refine o_I (T_X13_people mT.1 (by omega)) ?_
        rintro _ T ⟨rfl, rfl⟩
        refine o_f (nI_ge hpp (by omega)) ?_
        refine o_lJ ?_
        have ew : (if (nI s >>> (nI p &&& 31)) &&& (1 : Int32) = (1 : Int32) then Int32.toInt64 ((10 : Int32) - nI o) else Int32.toInt64 (nI o)) = lN (wt o s p) := by
          unfold wt
          by_cases c : s.testBit p = true
          · rw [if_pos ((bitI1 (by omega) (by omega)).mpr c), if_pos c, show (10 : Int32) - nI o = nI (10 - o) by rw [show (10 : Int32) = nI 10 from rfl, pk_sub (by omega)], nI_l (by omega)]
          · rw [if_neg (fun hh => c ((bitI1 (by omega) (by omega)).mp hh)), if_neg c, nI_l (by omega)]
        rw [ew, lN_mul]
        exact rk2 g2 _ _ (by omega) ⟨by rw [nI_1]; rfl, rfl⟩
      · rintro _ T g2 ⟨rfl, rfl⟩ hg2 hgg2
        have hprd := hpr s (pN P) hn
        rw [← hZ] at hprd
        show zO (F_X13_mean g2 3 _ _) _
        obtain ⟨g2, rfl, hg2⟩ := g1 (n := 4701) (f := g2) (by omega)
        rw [E_X13_mean_3]; unfold F_X13_mean_3
        refine o_I (T_X13_people mT.1 (by omega)) ?_
        rintro _ T ⟨rfl, rfl⟩
        refine o_t (nI_le (Nat.le_refl _) (by omega)) ?_
        refine o_if (fun c => ?_) (fun c => ?_)
        · rw [lcmp0 (by omega)] at c
          exact r4 T g2 acc (by omega) (by omega) hf (by rw [c, Nat.zero_mul, Nat.add_zero])
        · refine o_V (mT.cp (by omega)) ?_
          rintro T2 ⟨a2, m2, k2⟩
          refine o_V (T_X13_allWalk (b := 756) (n := s) m2.1 hI a2 hB (by omega) m2.2.2.1 (by omega) (by omega)) ?_
          rintro T3 ⟨a3, k3⟩
          have k3 := (hf.tr k2).tr (k3.mono (dX_mJ (b := 756) (by omega)))
          have m3 := h.j k3
          refine o_I (T_X13_lyingIn (b := 756) m3.1 hI a3 (by omega) (by omega)) ?_
          rintro _ T3 ⟨rfl, rfl⟩
          have htt := tot_le (aw_LI (d := pDe P) (ab := fun k => s.testBit k) hI hB (Nat.le_refl _)) hy
          rw [nI_l (by omega), lN_mul, lN_add]
          exact r4 T3 g2 _ (by omega) (by omega) k3 rfl
    · rintro _ T g ⟨rfl, hf⟩ hg
      have mT := h.j hf
      show zO (F_X13_mean g 2 _ _) _
      replace hg : 4709 + 1 ≤ g := by omega
      obtain ⟨g, ge, hG⟩ := g1 hg; subst ge; clear hg; have hg := hG; clear hG; rw [E_X13_mean_2]; unfold F_X13_mean_2
      refine o_I (T_X13_people mT.1 (by omega)) ?_
      rintro _ T ⟨rfl, rfl⟩
      rw [sh1 _ (by omega), ← hN]
      refine o_t (nI_le (Nat.le_refl _) (by omega)) ?_
      refine o_NL (fun c => by have := (pk_lEQ (a := Z) (b := 0) (by omega) (by omega)).mp c; omega) ?_
      rw [← eW, show (1000 : Int64) = lN 1000 from rfl, lN_mul, pk_lDiv (by omega) h10' (by omega), lN_i]
      exact i_r ⟨rfl, hf⟩
  refine o_loop (F := fun f vs S => F_X13_mean f 1 vs S) (c := 1) (B := 5600) (y := (pN P)) (fun k vs T => vs = [.ref 186, .int (nI o), .long 0, .long (lN (10 ^ k)), .int (nI k)] ∧ T = S) ?_ ?_ 0 _ S f (by omega) ⟨rfl, rfl⟩ (by omega)
  · rintro k _ S g hk ⟨rfl, rfl⟩ hg rec
    show zO (F_X13_mean g 1 _ _) _
    obtain ⟨g, ge, hG⟩ := g1 hg; subst ge; clear hg; have hg := hG; clear hG; rw [E_X13_mean_1]; unfold F_X13_mean_1
    refine o_I (T_X13_people h.1 (by omega)) ?_
    rintro _ S ⟨rfl, rfl⟩
    refine o_f (nI_ge hk (by omega)) ?_
    rw [show (10 : Int64) = lN 10 from rfl, lN_mul]
    exact rec g _ _ (by omega) ⟨by rw [nI_1, Nat.pow_succ], rfl⟩
  · rintro _ S g ⟨rfl, rfl⟩ hg
    show zO (F_X13_mean g 1 _ _) _
    obtain ⟨g, ge, hG⟩ := g1 hg; subst ge; clear hg; have hg := hG; clear hG; rw [E_X13_mean_1]; unfold F_X13_mean_1
    refine o_I (T_X13_people h.1 (by omega)) ?_
    rintro _ S ⟨rfl, rfl⟩
    refine o_t (nI_le (Nat.le_refl _) (by omega)) ?_
    rw [← hZ]
    exact sets S g (by omega) (Fr.refl _)
theorem B_mean {a : Int32} (hg : 7000 ≤ f) : Both n (fun S => F_X12_mean f 0 [.ref 0, .int a] S) (fun S => F_X13_mean f 0 [.ref 186, .int a] S) := by
  refine Both.ro (fun S T A q hC hX hL hM hA hB hd => ?_)
  have mx := hM.x hA
  have hn := hX.pi.1.2.2.1
  obtain ⟨T1, e1⟩ : ∃ T1, T1 = sI T 186 0 0 := ⟨_, rfl⟩
  have f1 := (Fr.refl (D := mJ) T).sI e1 (by unfold mJ; omega)
  have m1 := mx.j f1
  rcases wI_n (a := a) (lo := 0) (hi := 10) (by omega) (by omega) with ha | ⟨o, -, ho, rfl, ha⟩
  · refine ⟨-1, ?_, ?_⟩
    · obtain ⟨g, ge, hG⟩ := g1 hg; subst ge; clear hg; have hg := hG; clear hG; rw [E_X12_mean_0]; unfold F_X12_mean_0
      refine o_I (T_X12_isWithin (by omega)) ?_
      rintro _ S ⟨rfl, rfl⟩
      refine o_t ha ?_
      obtain ⟨g, ge, hG⟩ := g1 hg; subst ge; clear hg; have hg := hG; clear hG; rw [E_X12_mean_1]; unfold F_X12_mean_1
      exact i_r ⟨rfl, Fr.refl _⟩
    · obtain ⟨g, ge, hG⟩ := g1 hg; subst ge; clear hg; have hg := hG; clear hG; rw [E_X13_mean_0]; unfold F_X13_mean_0
      rw [← e1]
      show zO (bI _ _) _
      refine o_I (T_X13_within (by omega)) ?_
      rintro _ T1 ⟨rfl, rfl⟩
      exact o_t ha (i_r ⟨rfl, f1⟩)
  have ha' : ¬ wI (nI o) 0 10 = 0 := fun e => by have ha : wI (nI o) 0 10 = 1 := ha; rw [ha] at e; exact absurd e (by decide)
  refine ⟨nI (Wt (plA A) o (pN (plA A)) (lkA A) 0 * 1000 / 10 ^ pN (plA A)), ?_, ?_⟩
  · obtain ⟨g, ge, hG⟩ := g1 hg; subst ge; clear hg; have hg := hG; clear hG; rw [E_X12_mean_0]; unfold F_X12_mean_0
    refine o_I (T_X12_isWithin (by omega)) ?_
    rintro _ S ⟨rfl, rfl⟩
    refine o_f ha' ?_
    rw [hX.c12]
    refine o_I (P := fun v U => v = nI (Wt (plA A) o (pN (plA A)) (lkA A) 0 * 1000 / 10 ^ pN (plA A)) ∧ Fr dJ S U) ?_ ?_
    · have hW := Wt_le (o := o) hX.pi ho (pN (plA A)) 0 (lkA A) (by omega) hB
      have h10 : 10 ^ pN (plA A) ≤ 10 ^ 6 := Nat.pow_le_pow_right (by omega) hn
      have h10' : 0 < 10 ^ pN (plA A) := Nat.pow_pos (by omega)
      generalize hP : plA A = P at *
      obtain ⟨Z, hZ⟩ : ∃ Z, Z = 10 ^ pN P := ⟨_, rfl⟩
      rw [← hZ] at h10 h10' hW ⊢
      obtain ⟨g, ge, hG⟩ := g1 hg; subst ge; clear hg; have hg := hG; clear hG; rw [E_X7_meanThousandths_0]; unfold F_X7_meanThousandths_0
      refine o_V (T_X7_start hX hL (by omega)) ?_
      rintro S1 ⟨-, -, l1, g1'⟩
      have x1 := hX.j g1'
      refine o_loop (F := fun f vs S => F_X7_meanThousandths f 1 vs S) (c := 1) (B := 4800) (y := (pN P)) (fun k vs U => vs = [.ref 123, .int (nI o), .long (lN (10 ^ k)), .int (nI k)] ∧ U = S1) ?_ ?_ 0 _ S1 g (by omega) ⟨rfl, rfl⟩ (by omega)
      · rintro k _ S1 g hk ⟨rfl, rfl⟩ hg rec
        show zO (F_X7_meanThousandths g 1 _ _) _
        obtain ⟨g, ge, hG⟩ := g1 hg; subst ge; clear hg; have hg := hG; clear hG; rw [E_X7_meanThousandths_1]; unfold F_X7_meanThousandths_1
        rw [x1.s2, x1.cp.2.1.2.1]
        refine o_f (nI_ge hk (by omega)) ?_
        rw [show (10 : Int64) = lN 10 from rfl, lN_mul]
        exact rec g _ _ (by omega) ⟨by rw [nI_1, Nat.pow_succ], rfl⟩
      · rintro _ S1 g ⟨rfl, rfl⟩ hg
        show zO (F_X7_meanThousandths g 1 _ _) _
        obtain ⟨g, ge, hG⟩ := g1 hg; subst ge; clear hg; have hg := hG; clear hG; rw [E_X7_meanThousandths_1]; unfold F_X7_meanThousandths_1
        rw [x1.s2, x1.cp.2.1.2.1]
        refine o_t (nI_le (Nat.le_refl _) (by omega)) ?_
        refine o_J (T_gWei hX.pi ho (pN P) 0 (by omega) 0 (lkA A) S1 10 g n (by omega) (by omega) (by omega) x1 l1 hB) ?_
        rintro _ S2 ⟨rfl, k2⟩
        rw [← hZ]
        refine o_NL (fun c => by have := (pk_lEQ (a := Z) (b := 0) (by omega) (by omega)).mp c; omega) ?_
        rw [show (1000 : Int64) = lN 1000 from rfl, lN_mul, pk_lDiv (by omega) h10' (by omega), lN_i]
        exact i_r ⟨rfl, g1'.tr (k2.mono dU_dJ)⟩
    · rintro _ U ⟨rfl, hf⟩
      obtain ⟨g, ge, hG⟩ := g1 hg; subst ge; clear hg; have hg := hG; clear hG; rw [E_X12_mean_1]; unfold F_X12_mean_1
      exact i_r ⟨rfl, hf⟩
  · obtain ⟨g, ge, hG⟩ := g1 hg; subst ge; clear hg; have hg := hG; clear hG; rw [E_X13_mean_0]; unfold F_X13_mean_0
    rw [← e1]
    show zO (bI _ _) _
    refine o_I (T_X13_within (by omega)) ?_
    rintro _ T1 ⟨rfl, rfl⟩
    refine o_f ha' ?_
    refine i_m (T_X13_mean m1 hB ho (by omega)) ?_
    rintro x U ⟨e, hf⟩
    exact ⟨e, f1.tr hf⟩
end ME

/-! rounds: both sides -/
theorem up1_comm {L : Lk} {a b v w : Nat} (h : a ≠ b) : up1 (up1 L a v) b w = up1 (up1 L b w) a v := by
  funext j
  simp only [up1_at]
  by_cases h1 : j = b
  · rw [if_pos h1, if_pos h1, if_neg (by omega)]
  · rw [if_neg h1, if_neg h1]
/-! what was paid moves nothing else -/
section U3
variable {P : aP} {i d k c hand : Nat} {M : Lk}
theorem wUp_3 : wUp P i d k (up1 M 3 c) = wUp P i d k M := by
  unfold wUp
  rw [up1_at, if_neg (show ¬ 4 + k = 3 by omega)]
theorem wL1_3 : wL1 P i d k (up1 M 3 c) = up1 (wL1 P i d k M) 3 c := by
  unfold wL1
  rw [wUp_3, up1_at, if_neg (by omega), up1_comm (by omega)]
theorem wIn_3 : wIn k hand (up1 M 3 c) = wIn k hand M := by
  unfold wIn
  rw [up1_at, if_neg (by omega), up1_at, if_neg (by omega)]
theorem wL2_3 : wL2 P i d k hand (up1 M 3 c) = up1 (wL2 P i d k hand M) 3 c := by
  unfold wL2
  rw [wL1_3, wIn_3, up1_at, if_neg (by omega), up1_comm (by omega)]
theorem near_3 {y : Nat} : near y (up1 M 3 c) k = near y M k := near_cg (fun x hx => by rw [up1_at, if_neg (by omega), up1_at, if_neg (by omega)]; exact ⟨rfl, rfl⟩)
theorem wFa_3 : wFa P i d k hand (up1 M 3 c) = wFa P i d k hand M := by
  unfold wFa
  rw [wL2_3, wUp_3, wIn_3, near_3, up1_at, if_neg (by omega)]
theorem wL3_3 : wL3 P i d k hand (up1 M 3 c) = up1 (wL3 P i d k hand M) 3 c := by
  unfold wL3 drp
  rw [wL2_3, wFa_3, up1_at, if_neg (by omega), up1_comm (by omega)]
theorem tot_3 {y : Nat} : tot y (up1 M 3 c) = tot y M := tot_cg (fun x hx => by rw [up1_at, if_neg (by omega)])
theorem tv_3 : tv P i (up1 M 3 c) = tv P i M := by
  unfold tv
  rw [tot_3, near0_cg (M := M) (fun x hx => by rw [up1_at, if_neg (by omega), up1_at, if_neg (by omega)]; exact ⟨rfl, rfl⟩)]
theorem wN_3 : ∀ k, wN P i d (up1 M 3 c) k = (up1 (wN P i d M k).1 3 c, (wN P i d M k).2)
  | 0 => by
    show (up1 M 3 c, (tv P i (up1 M 3 c), 0), (0, 0, 0)) = _
    rw [tv_3]
    rfl
  | k + 1 => by
    show w1 P i d k (wN P i d (up1 M 3 c) k) = (up1 (w1 P i d k (wN P i d M k)).1 3 c, (w1 P i d k (wN P i d M k)).2)
    rw [wN_3 k]
    unfold w1
    simp only [wL3_3, wIn_3, wFa_3, wUp_3]
theorem wk_3 : wk P i d (up1 M 3 c) = up1 (wk P i d M) 3 c := by
  unfold wk wE
  rw [wN_3]
  simp only []
  rw [up1_at, if_neg (by omega), up1_at, if_neg (by omega), up1_comm (a := 3) (b := 1) (by omega), up1_comm (a := 3) (b := 2) (by omega)]
theorem aw_3 {ab : Nat → Bool} : ∀ n, aw P d ab (up1 M 3 c) n = up1 (aw P d ab M n) 3 c
  | 0 => rfl
  | n + 1 => by
    show (if ab n then _ else _) = up1 (if ab n then _ else _) 3 c
    rw [aw_3 n]
    split
    · rfl
    · exact wk_3
theorem awA_3 : awA P d (up1 M 3 c) = up1 (awA P d M) 3 c := aw_3 _
theorem hrL_3 : hrL P (up1 M 3 c) = up1 (hrL P M) 3 c := by
  unfold hrL
  rw [up1_at, if_neg (by omega)]
  have e : ∀ w, blU w (pY P) (up1 M 3 c) 0 (pY P) = up1 (blU w (pY P) M 0 (pY P)) 3 c := by
    intro w
    funext j
    have o : ∀ k, outK w (pY P) (up1 M 3 c) k = outK w (pY P) M k := fun k => by
      unfold outK
      rw [up1_at, if_neg (show ¬ 4 + k = 3 by omega)]
    have o1 : ∀ k, outK 1 (pY P) (up1 M 3 c) k = outK 1 (pY P) M k := fun k => by
      unfold outK
      rw [up1_at, if_neg (show ¬ 4 + k = 3 by omega)]
    have o2 : ∀ k, outK 2 (pY P) (up1 M 3 c) k = outK 2 (pY P) M k := fun k => by
      unfold outK
      rw [up1_at, if_neg (show ¬ 4 + k = 3 by omega)]
    have ii : ∀ k, inK w (pY P) (up1 M 3 c) k = inK w (pY P) M k := fun k => by
      unfold inK
      rw [o1, o2]
    by_cases h : 4 + 0 ≤ j ∧ j < 4 + pY P
    · rw [up1_at, if_neg (by omega)]
      unfold blU
      rw [if_pos h, if_pos h]
      unfold blK
      rw [o, ii, up1_at, if_neg (by omega)]
    · rw [blU_out h, up1_at, up1_at, blU_out h]
  rw [e, up1_comm (by omega)]
theorem hA_3 : hA P d (up1 M 3 c) = up1 (hA P d M) 3 c := by
  unfold hA
  rw [awA_3, hrL_3]
end U3
/-- all bins empty, nothing paid -/
def empZ (y : Nat) (M : Lk) : Lk := fun j => if 20 ≤ j ∧ j < 20 + y then 0 else M j
theorem empZ_LI {B y : Nat} {M : Lk} (h : LI B M) (hy : y ≤ 8) : LI B (empZ y M) := by
  unfold empZ
  refine ⟨by simp only []; rw [if_neg (by omega)]; exact h.1, fun k hk => ?_⟩
  have hb := h.2 k hk
  simp only []
  rw [if_neg (show ¬ (20 ≤ 4 + k ∧ 4 + k < 20 + y) by omega), if_neg (show ¬ (20 ≤ 12 + k ∧ 12 + k < 20 + y) by omega)]
  refine ⟨hb.1, ?_, hb.2.2⟩
  split
  · omega
  · exact hb.2.1
theorem empTo_Z {B pe : Nat} {M : Lk} (h : LI B M) : ∀ y, y ≤ 8 → ∃ c, ∀ j, j < 28 → empTo M pe y j = up1 (empZ y M) 3 c j
  | 0, _ => ⟨M 3, fun j hj => by
    show M j = _
    rw [up1_at]
    unfold empZ
    by_cases e : j = 3
    · rw [if_pos e, e]
    · rw [if_neg e, if_neg (by omega)]⟩
  | y + 1, hy => by
    obtain ⟨c, ih⟩ := empTo_Z (pe := pe) h y (by omega)
    have hb := h.2 y (by omega)
    have e12 : empTo M pe y (12 + y) = M (12 + y) := by
      rw [ih _ (by omega), up1_at, if_neg (by omega)]
      unfold empZ
      rw [if_neg (by omega)]
    show ∃ c, ∀ j, j < 28 → (if empTo M pe y (12 + y) = 0 then empTo M pe y else empB (empTo M pe y) y pe) j = _
    rw [e12]
    by_cases z : M (12 + y) = 0
    · rw [if_pos z]
      refine ⟨c, fun j hj => ?_⟩
      rw [ih j hj, up1_at, up1_at]
      unfold empZ
      by_cases e3 : j = 3
      · rw [if_pos e3, if_pos e3]
      · rw [if_neg e3, if_neg e3]
        by_cases e : j = 20 + y
        · rw [if_neg (by omega), if_pos (by omega), e]; omega
        · by_cases e2 : 20 ≤ j ∧ j < 20 + y
          · rw [if_pos e2, if_pos (by omega)]
          · rw [if_neg e2, if_neg (by omega)]
    · rw [if_neg z]
      refine ⟨empTo M pe y 3 + pe, fun j hj => ?_⟩
      unfold empB
      rw [up1_at, up1_at, up1_at]
      by_cases e3 : j = 3
      · rw [if_pos e3, if_pos e3]
      · rw [if_neg e3, if_neg e3]
        unfold empZ
        by_cases e : j = 20 + y
        · rw [if_pos e, if_pos (by omega)]
        · rw [if_neg e, ih j hj, up1_at, if_neg e3]
          unfold empZ
          by_cases e2 : 20 ≤ j ∧ j < 20 + y
          · rw [if_pos e2, if_pos (by omega)]
          · rw [if_neg e2, if_neg (by omega)]
/-- the lake behind k rounds -/
def rdL (P : aP) (L : Lk) (s : Nat) : Nat → Lk
  | 0 => L
  | k + 1 => hA P (pDe P) (if s.testBit k then empZ (pY P) (rdL P L s k) else rdL P L s k)
theorem rdL_LI {P : aP} {L : Lk} {B s : Nat} (hI : PI P) (h : LI B L) : ∀ k, LI (B + k) (rdL P L s k)
  | 0 => h
  | k + 1 => by
    show LI (B + k + 1) (hA P (pDe P) (if _ then _ else _))
    refine hA_LI hI ?_
    split
    · exact empZ_LI (rdL_LI hI h k) hI.1.2.1
    · exact rdL_LI hI h k
theorem rdL_cg {P : aP} {L : Lk} {s t : Nat} : ∀ {k : Nat}, (∀ i, i < k → s.testBit i = t.testBit i) → rdL P L s k = rdL P L t k
  | 0, _ => rfl
  | k + 1, h => by
    show hA P (pDe P) (if _ then _ else _) = hA P (pDe P) (if _ then _ else _)
    rw [rdL_cg (fun i hi => h i (by omega)), h k (by omega)]
def rdV (P : aP) (L : Lk) (h s : Nat) : Nat := tot (pY P) (rdL P L s h)
theorem rdV_le {P : aP} {L : Lk} {B h s : Nat} (hI : PI P) (hB : LI B L) : rdV P L h s ≤ 7992 := tot_le (rdL_LI hI hB h) hI.1.2.1
/-- better -/
def bt (a b : Nat × Nat) : Prop := a.1 < b.1 ∨ (a.1 = b.1 ∧ (pc a.2 < pc b.2 ∨ (pc a.2 = pc b.2 ∧ a.2 < b.2)))
theorem bt.tri {a b : Nat × Nat} (h1 : ¬ bt a b) (h2 : ¬ bt b a) : a = b := by
  unfold bt at h1 h2
  obtain ⟨a1, a2⟩ := a
  obtain ⟨b1, b2⟩ := b
  simp only at h1 h2
  have e1 : a1 = b1 := by omega
  have e2 : a2 = b2 := by
    by_cases e : pc a2 = pc b2
    · omega
    · omega
  rw [e1, e2]
theorem bt.tr {a b c : Nat × Nat} (h1 : ¬ bt b a) (h2 : ¬ bt c b) : ¬ bt c a := by
  unfold bt at *
  omega
theorem offS_bt (x : Nat × Nat) (v s : Nat) : ¬ bt x (offS x v s) ∧ ¬ bt (v, s) (offS x v s) ∧ (offS x v s = x ∨ offS x v s = (v, s)) := by
  unfold offS
  split
  · rename_i h
    refine ⟨?_, ?_, Or.inr rfl⟩
    · unfold bt
      simp only
      omega
    · unfold bt
      simp only
      omega
  · rename_i h
    refine ⟨?_, h, Or.inl rfl⟩
    unfold bt
    omega
section RD
variable {S T : aS} {A : aA} {q f n B : Nat} {P : aP} {L M : Lk}
theorem pc_or {s k : Nat} (hs : s < 2 ^ k) (hk : k < 8) : pc (s ||| 2 ^ k) = pc s + 1 := by
  have e : s ||| 2 ^ k = bs (up1 (fun i => s.testBit i) k true) (k + 1) := by
    apply Nat.eq_of_testBit_eq
    intro j
    rw [Nat.testBit_or, bs_tb, tb_pow, up1_at]
    by_cases c : j = k
    · rw [if_pos c, decide_eq_true c, decide_eq_true (by omega), Bool.or_true]; rfl
    · rw [if_neg c, decide_eq_false c, Bool.or_false]
      by_cases c2 : j < k + 1
      · rw [decide_eq_true c2, Bool.true_and]
      · rw [decide_eq_false c2, Bool.false_and]
        exact Nat.testBit_lt_two_pow (Nat.lt_of_lt_of_le hs (Nat.pow_le_pow_right (by omega) (by omega)))
  rw [e, pc_bs (by omega)]
  show cnt _ k + (if _ then 1 else 0) = _
  rw [up1_at, if_pos rfl, if_pos rfl, cnt_cg (h := fun i => s.testBit i) (fun i hi => by rw [up1_at, if_neg (by omega)])]
  unfold pc
  rw [cnt_ext (n := k) (m := 8) (by omega) (fun i a b => Nat.testBit_lt_two_pow (Nat.lt_of_lt_of_le hs (Nat.pow_le_pow_right (by omega) a)))]
/-- the sets that go on from one of n rounds, with so many times left -/
def sub (n h t z s : Nat) : Prop := s < 2 ^ h ∧ (∀ i, i < n → s.testBit i = z.testBit i) ∧ pc s ≤ pc z + t
theorem T_X7_passRound {d : Nat} {em : Bool} (hX : CX S q P) (hd : d + 1 < 7) (hL : ∃ c, LA S (134 + 4 * d) (pY P) (pDe P) (up1 M 3 c)) (hB : LI B M) (hBB : B < 2 ^ 29) (hg : 4300 ≤ f) : zU (F_X7_passRound f 0 [.ref 123, .int (nI d), .int (if em then 1 else 0)] S) (fun T => (∃ c, LA T (134 + 4 * (d + 1)) (pY P) (pDe P) (up1 (hA P (pDe P) (if em then empZ (pY P) M else M)) 3 c)) ∧ Fr (dW (134 + 4 * (d + 1))) S T) := by
  have hy := hX.pi.1.2.1
  have hd9 := hX.pi.1.2.2.2.2.2
  have ld := lkd (show d < 7 by omega)
  have ld1 := lkd hd
  obtain ⟨c, hL⟩ := hL
  have u3 : ∀ {N : Lk} {c : Nat}, LI B N → LI B (up1 N 3 c) := fun h => by
    refine ⟨by rw [up1_at, if_neg (by omega)]; exact h.1, fun k hk => ?_⟩
    rw [up1_at, if_neg (by omega), up1_at, if_neg (by omega), up1_at, if_neg (by omega)]
    exact h.2 k hk
  obtain ⟨g, ge, hG⟩ := g1 hg; subst ge; clear hg; have hg := hG; clear hG; rw [E_X7_passRound_0]; unfold F_X7_passRound_0
  rw [nI_1]
  refine o_X rfl hd ?_
  refine o_X rfl (show d < 7 by omega) ?_
  rw [hX.s3, hX.sd hd, hX.sd (show d < 7 by omega)]
  refine o_V (T_X4_become hL (hX.lr ld1) (by omega) (by omega)) ?_
  rintro S1 ⟨l1, f1⟩
  have x1 := hX.l f1 ld1
  have r1' : ∀ (U : aS) (g : Nat) (N : Lk) (c : Nat), 4290 ≤ g → LA U (134 + 4 * (d + 1)) (pY P) (pDe P) (up1 N 3 c) → LI B N → Fr (dL (134 + 4 * (d + 1))) S U → zU (F_X7_passRound g 1 [.ref 123, .ref (134 + 4 * (d + 1))] U) (fun T => (∃ c, LA T (134 + 4 * (d + 1)) (pY P) (pDe P) (up1 (hA P (pDe P) N) 3 c)) ∧ Fr (dW (134 + 4 * (d + 1))) S T) := by
    intro U g N c hg lU bN hf
    have xU := hX.l hf ld1
    obtain ⟨g, ge, hG⟩ := g1 hg; subst ge; clear hg; have hg := hG; clear hG; rw [E_X7_passRound_1]; unfold F_X7_passRound_1
    rw [xU.s1]
    refine o_V (T_X9_all xU lU (u3 bN) hd9 ld1 (by omega)) ?_
    rintro U2 ⟨l2, f2⟩
    have x2 := xU.w f2 ld1
    rw [x2.s2]
    refine o_I (T_X4_passHour l2 x2.cp hX.pi (awA_LI hX.pi (u3 bN)) (by omega) (by omega)) ?_
    rintro _ U3 ⟨-, l3, f3⟩
    refine u_r ⟨⟨c, ?_⟩, (hf.lw f2).tr (f3.lw (Fr.refl _))⟩
    have e : hrL P (awA P (pDe P) (up1 N 3 c)) = up1 (hA P (pDe P) N) 3 c := hA_3
    rw [← e]
    exact l3
  cases em with
  | false =>
    refine o_t rfl ?_
    exact r1' S1 g M c (by omega) l1 hB f1
  | true =>
    refine o_f (by decide) ?_
    rw [x1.s2, x1.cp.2.1.2.2.2.1]
    refine o_V (T_X4_emptyBins l1 (u3 hB) hy (by omega)) ?_
    rintro S2 ⟨l2, f2⟩
    obtain ⟨c2, ez⟩ := empTo_Z (pe := pPe P) (u3 (c := c) hB) (pY P) hy
    have l2' : LA S2 (134 + 4 * (d + 1)) (pY P) (pDe P) (up1 (empZ (pY P) M) 3 c2) := by
      refine l2.cg (fun j hj => ?_)
      rw [ez j hj, up1_at, up1_at]
      by_cases e : j = 3
      · rw [if_pos e, if_pos e]
      · rw [if_neg e, if_neg e]
        unfold empZ
        rw [up1_at, if_neg e]
    exact r1' S2 g _ c2 (by omega) l2' (empZ_LI hB hy) (f1.tr f2)
abbrev dU (n : Nat) : Nat → Nat → Prop := fun x k => (138 + 4 * n ≤ x ∧ x ≤ 161) ∨ (x = 123 ∧ 7 ≤ k) ∨ x = 122 ∨ x = 13 ∨ x = 14 ∨ x = 17 ∨ x = 18 ∨ x = 29 ∨ x = 30 ∨ x = 33 ∨ x = 34
theorem dU_dJ {n : Nat} (x k : Nat) (d : dU n x k) : dJ x k := by unfold dU at d; unfold dJ; omega
theorem T_gRnd (hI : PI P) {h : Nat} (hh : h ≤ 6) (hB : LI B L) (hBB : B < 2 ^ 28) : ∀ (j d : Nat), j + d = h → ∀ (t z : Nat) (x : Nat × Nat) (S : aS) (e f : Nat), j + 1 ≤ e → 4400 + 30 * (j + 1) ≤ f → CX S q P → (∃ c, LA S (134 + 4 * d) (pY P) (pDe P) (up1 (rdL P L z d) 3 c)) → z < 2 ^ d → t ≤ 6 → gI S 123 7 = nI x.1 → gI S 123 8 = nI x.2 → x.1 ≤ 7993 → x.2 < 64 → zU (F_gRnd f e 0 [.ref 123, .int (nI d), .int (nI h), .int (nI t), .int (nI z)] S) (fun T => ∃ y : Nat × Nat, gI T 123 7 = nI y.1 ∧ gI T 123 8 = nI y.2 ∧ y.1 ≤ 7993 ∧ y.2 < 64 ∧ ¬ bt x y ∧ (y = x ∨ ∃ s, sub d h t z s ∧ y = (rdV P L h s, s)) ∧ (∀ s, sub d h t z s → ¬ bt (rdV P L h s, s) y) ∧ Fr (dU d) S T) := by
  have hy := hI.1.2.1
  intro j
  induction j with
  | zero =>
    intro d hjd t z x S e f he hg hX hL hz ht h7 h8 hx hx2
    have hdh : d = h := by omega
    subst hdh
    obtain ⟨c, hL⟩ := hL
    have h64 : 2 ^ d ≤ 64 := Nat.pow_le_pow_right (n := 2) (by omega) hh
    have hv := rdV_le (h := d) (s := z) hI hB
    replace hg : 4400 + 28 + 1 + 1 ≤ f := by omega
    obtain ⟨g, ge, hG⟩ := g1 hg; subst ge; clear hg; have hg := hG; clear hG; rw [E_gRnd_0]; unfold F_gRnd_0
    obtain ⟨e1, rfl⟩ : ∃ e1, e = e1 + 1 := ⟨e - 1, by omega⟩
    refine o_dE rfl ?_
    refine o_t (nI_le (Nat.le_refl _) (by omega)) ?_
    obtain ⟨g, ge, hG⟩ := g1 hg; subst ge; clear hg; have hg := hG; clear hG; rw [E_gRnd_1]; unfold F_gRnd_1
    refine o_X rfl (show d < 7 by omega) ?_
    rw [hX.s3, hX.sd (show d < 7 by omega)]
    refine o_I (T_X4_total hL hy (by omega)) ?_
    rintro _ S ⟨rfl, rfl⟩
    rw [tot_3]
    have ev : tot (pY P) (rdL P L z d) = rdV P L d z := rfl
    rw [ev]
    refine o_V (T_X7_offerSet (x := x) h7 h8 (by omega) (by omega) (by omega) (by omega) (by omega)) ?_
    rintro T ⟨t7, t8, k⟩
    obtain ⟨o1, o2, o3⟩ := offS_bt x (rdV P L d z) z
    refine u_r ⟨offS x (rdV P L d z) z, t7, t8, ?_, ?_, o1, ?_, fun s hs => ?_, k.mono (fun p k d => by unfold dU; omega)⟩
    · rcases o3 with e | e <;> rw [e]
      · exact hx
      · show rdV P L d z ≤ 7993
        omega
    · rcases o3 with e | e <;> rw [e]
      · exact hx2
      · show z < 64
        omega
    · rcases o3 with e | e
      · exact Or.inl e
      · exact Or.inr ⟨z, ⟨hz, fun _ _ => rfl, by omega⟩, e⟩
    · have : s = z := by
        apply Nat.eq_of_testBit_eq
        intro i
        by_cases hi : i < d
        · exact hs.2.1 i hi
        · rw [Nat.testBit_lt_two_pow (Nat.lt_of_lt_of_le hs.1 (Nat.pow_le_pow_right (by omega) (by omega))), Nat.testBit_lt_two_pow (Nat.lt_of_lt_of_le hz (Nat.pow_le_pow_right (by omega) (by omega)))]
      rw [this]
      exact o2
  | succ j ih =>
    intro d hjd t z x S e f he hg hX hL hz ht h7 h8 hx hx2
    have ld1 := lkd (show d + 1 < 7 by omega)
    have hpw : 2 ^ (d + 1) = 2 * 2 ^ d := by rw [Nat.pow_succ]; omega
    have zd : z.testBit d = false := Nat.testBit_lt_two_pow hz
    have er : ∀ (em : Bool) (z2 : Nat), (∀ i, i < d → z2.testBit i = z.testBit i) → z2.testBit d = em → hA P (pDe P) (if em then empZ (pY P) (rdL P L z d) else rdL P L z d) = rdL P L z2 (d + 1) := by
      intro em z2 h1 h2
      show _ = hA P (pDe P) (if z2.testBit d then empZ (pY P) (rdL P L z2 d) else rdL P L z2 d)
      rw [h2, rdL_cg h1]
    have bM : LI (B + d) (rdL P L z d) := rdL_LI hI hB d
    obtain ⟨e1, rfl⟩ : ∃ e1, e = e1 + 1 := ⟨e - 1, by omega⟩
    replace hg : 4400 + 30 * (j + 1) + 29 + 1 ≤ f := by omega
    obtain ⟨g, ge, hG⟩ := g1 hg; subst ge; clear hg; have hg := hG; clear hG; rw [E_gRnd_0]; unfold F_gRnd_0
    refine o_dE rfl ?_
    refine o_f (nI_ge (by omega) (by omega)) ?_
    rw [nI_1]
    refine o_t (nI_lt (b := 7) (by omega) (by omega)) ?_
    refine o_V (T_X7_passRound (em := false) hX (by omega) hL bM (by omega) (by omega)) ?_
    rintro S1 ⟨l1, f1⟩
    rw [er false z (fun _ _ => rfl) zd] at l1
    have x1 := hX.w f1 ld1
    refine o_V (ih (d + 1) (by omega) t z x S1 e1 g (by omega) (by omega) x1 l1 (by omega) ht (by rw [f1.2 _ _ (by unfold dW; omega)]; exact h7) (by rw [f1.2 _ _ (by unfold dW; omega)]; exact h8) hx hx2) ?_
    rintro S2 ⟨y, y7, y8, yl, y6, yx, yo, ya, f2⟩
    have ff2 : Fr (dU d) S S2 := (f1.mono (fun x k d' => by unfold dW at d'; unfold dU; omega)).tr (f2.mono (fun x k d' => by unfold dU at d' ⊢; omega))
    have sub1 : ∀ s, sub (d + 1) h t z s → sub d h t z s := fun s hs => ⟨hs.1, fun i hi => hs.2.1 i (by omega), hs.2.2⟩
    by_cases t0 : t = 0
    · refine o_t (by rw [t0]; decide) ?_
      obtain ⟨g, ge, hG⟩ := g1 hg; subst ge; clear hg; have hg := hG; clear hG; rw [E_gRnd_2]; unfold F_gRnd_2
      refine u_r ⟨y, y7, y8, yl, y6, yx, ?_, fun s hs => ?_, ff2⟩
      · rcases yo with e | ⟨s, hs, e⟩
        · exact Or.inl e
        · exact Or.inr ⟨s, sub1 s hs, e⟩
      · refine ya s ⟨hs.1, fun i hi => ?_, hs.2.2⟩
        by_cases ei : i = d
        · subst ei
          rw [zd]
          cases hb : s.testBit i
          · rfl
          · exfalso
            -- one more bit than z, yet no times left
            have h8' : ∀ w : Nat, w < 2 ^ h → w < 256 := fun w hw => Nat.lt_of_lt_of_le hw (Nat.pow_le_pow_right (n := 2) (by omega) (show h ≤ 8 by omega))
            have c1 : cnt (fun k => s.testBit k) (i + 1) = cnt (fun k => z.testBit k) i + 1 := by
              show cnt _ i + (if _ then 1 else 0) = _
              rw [if_pos hb, cnt_cg (fun k hk => hs.2.1 k hk)]
            have c2 : cnt (fun k => s.testBit k) (i + 1) ≤ pc s := by
              unfold pc
              have : ∀ m, i + 1 ≤ m → cnt (fun k => s.testBit k) (i + 1) ≤ cnt (fun k => s.testBit k) m := by
                intro m hm
                induction m with
                | zero => omega
                | succ m ihm =>
                  by_cases em : i + 1 = m + 1
                  · rw [em]; exact Nat.le_refl _
                  · have := ihm (by omega)
                    show _ ≤ cnt _ m + (if _ then 1 else 0)
                    omega
              exact this 8 (by omega)
            have c3 : pc z = cnt (fun k => z.testBit k) i := by
              unfold pc
              exact cnt_ext (by omega) (fun k a b => Nat.testBit_lt_two_pow (Nat.lt_of_lt_of_le hz (Nat.pow_le_pow_right (by omega) a)))
            have := hs.2.2
            omega
        · exact hs.2.1 i (by omega)
    · refine o_f (nI_nle (by omega) (by omega)) ?_
      obtain ⟨c0, l0⟩ := hL
      have l0' : ∃ c, LA S2 (134 + 4 * d) (pY P) (pDe P) (up1 (rdL P L z d) 3 c) := ⟨c0, l0.fr ff2 (fun x k a b d' => by unfold dU at d'; omega)⟩
      have x2 := hX.j (ff2.mono dU_dJ)
      refine o_V (T_X7_passRound (em := true) x2 (by omega) l0' bM (by omega) (by omega)) ?_
      rintro S3 ⟨l3, f3⟩
      have zb : (z ||| 2 ^ d).testBit d = true := by rw [Nat.testBit_or, tb_pow, decide_eq_true rfl, Bool.or_true]
      have zl : ∀ i, i < d → (z ||| 2 ^ d).testBit i = z.testBit i := fun i hi => by rw [Nat.testBit_or, tb_pow, decide_eq_false (by omega), Bool.or_false]
      rw [er true (z ||| 2 ^ d) zl zb] at l3
      have x3 := x2.w f3 ld1
      have pz := pc_or hz (by omega)
      rw [sh1 d (by omega), nI_or, show nI t - 1 = nI (t - 1) by rw [show (1 : Int32) = nI 1 from rfl, pk_sub (by omega)]]
      refine o_V (ih (d + 1) (by omega) (t - 1) (z ||| 2 ^ d) y S3 e1 g (by omega) (by omega) x3 l3 (Nat.or_lt_two_pow (by omega) (Nat.pow_lt_pow_right (by omega) (by omega))) (by omega) (by rw [f3.2 _ _ (by unfold dW; omega)]; exact y7) (by rw [f3.2 _ _ (by unfold dW; omega)]; exact y8) yl y6) ?_
      rintro S4 ⟨w, w7, w8, wl, w6, wx, wo, wa, f4⟩
      have sub2 : ∀ s, sub (d + 1) h (t - 1) (z ||| 2 ^ d) s → sub d h t z s := fun s hs => ⟨hs.1, fun i hi => by rw [hs.2.1 i (by omega), zl i hi], by have := hs.2.2; omega⟩
      obtain ⟨g, ge, hG⟩ := g1 hg; subst ge; clear hg; have hg := hG; clear hG; rw [E_gRnd_2]; unfold F_gRnd_2
      refine u_r ⟨w, w7, w8, wl, w6, bt.tr wx yx, ?_, fun s hs => ?_, (ff2.tr (f3.mono (fun x k d' => by unfold dW at d'; unfold dU; omega))).tr (f4.mono (fun x k d' => by unfold dU at d' ⊢; omega))⟩
      · rcases wo with e | ⟨s, hs, e⟩
        · rw [e]
          rcases yo with e | ⟨s, hs, e⟩
          · exact Or.inl e
          · exact Or.inr ⟨s, sub1 s hs, e⟩
        · exact Or.inr ⟨s, sub2 s hs, e⟩
      · cases hb : s.testBit d with
        | false =>
          refine bt.tr wx (ya s ⟨hs.1, fun i hi => ?_, hs.2.2⟩)
          by_cases ei : i = d
          · rw [ei, hb, zd]
          · exact hs.2.1 i (by omega)
        | true =>
          refine wa s ⟨hs.1, fun i hi => ?_, by have := hs.2.2; omega⟩
          by_cases ei : i = d
          · rw [ei, hb, zb]
          · rw [zl i (by omega)]
            exact hs.2.1 i (by omega)
end RD

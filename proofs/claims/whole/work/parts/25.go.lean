/-! a walk: the class -/
theorem bX_ok {i : Int32} {N n : Nat} {k : Nat → aR} (hi : i = nI n) (hn : n < N) (hN : N < 2 ^ 31 := by omega) : bX i N k = k n := by
  subst hi
  unfold bX
  rw [if_neg (nI_in hn hN), nI_clamp (by omega)]
theorem o_ifV {c : Prop} {_ : Decidable c} {r : aR} {S : aS} {k : aS → aR} {Q : Option Value → aS → Prop} (P : aS → Prop) (h1 : c → zU r P) (h2 : ¬ c → P S) (hk : ∀ T, P T → zO (k T) Q) : zO (if c then bV r k else k S) Q :=
  o_if (fun h => o_V (h1 h) hk) (fun h => hk S (h2 h))
theorem o_ifI {c : Prop} {_ : Decidable c} {r : aR} {v : Int32} {S : aS} {k : Int32 → aS → aR} {Q : Option Value → aS → Prop} (P : Int32 → aS → Prop) (h1 : c → zI r P) (h2 : ¬ c → P v S) (hk : ∀ x T, P x T → zO (k x T) Q) : zO (if c then bI r k else k v S) Q :=
  o_if (fun h => o_I (h1 h) hk) (fun h => hk v S (h2 h))
theorem o_if2 {c : Prop} {_ : Decidable c} {a b : Int32} {k : Int32 → aR} {Q : Option Value → aS → Prop} (P : Int32 → Prop) (h1 : c → P a) (h2 : ¬ c → P b) (hk : ∀ x, P x → zO (k x) Q) : zO (if c then k a else k b) Q :=
  o_if (fun h => hk a (h1 h)) (fun h => hk b (h2 h))
abbrev wS : Type := Lk × (Nat × Nat) × (Nat × Nat × Nat)
def wUp (P : aP) (i d k : Nat) (L : Lk) : Nat := if pT P 0 i = 3 then min (L (4 + k)) d else 0
def wL1 (P : aP) (i d k : Nat) (L : Lk) : Lk := up1 L (4 + k) (L (4 + k) - wUp P i d k L)
def wIn (k hand : Nat) (L : Lk) : Nat := min (L (12 + k) - L (20 + k)) hand
def wL2 (P : aP) (i d k hand : Nat) (L : Lk) : Lk := up1 (wL1 P i d k L) (20 + k) (L (20 + k) + wIn k hand L)
def wFa (P : aP) (i d k hand : Nat) (L : Lk) : Nat := dv P i (L (4 + k) - wUp P i d k L) (near (pY P) (wL2 P i d k hand L) k) (hand - wIn k hand L)
def wL3 (P : aP) (i d k hand : Nat) (L : Lk) : Lk := drp (wL2 P i d k hand L) k (wFa P i d k hand L)
def w1 (P : aP) (i d k : Nat) (x : wS) : wS :=
  (wL3 P i d k x.2.1.1 x.1, (x.2.1.1 - wIn k x.2.1.1 x.1 - wFa P i d k x.2.1.1 x.1, x.2.1.2 + wIn k x.2.1.1 x.1), (x.2.2.1 + wUp P i d k x.1, x.2.2.2.1 + wFa P i d k x.2.1.1 x.1, x.2.2.2.2 + (if x.2.1.1 - wIn k x.2.1.1 x.1 - wFa P i d k x.2.1.1 x.1 = 0 then 0 else 1)))
def wN (P : aP) (i d : Nat) (L : Lk) : Nat → wS
  | 0 => (L, (tv P i L, 0), (0, 0, 0))
  | k + 1 => w1 P i d k (wN P i d L k)
def wE (P : aP) (i d : Nat) (L : Lk) : wS := wN P i d L (pY P)
/-- the lake behind a walk -/
def wk (P : aP) (i d : Nat) (L : Lk) : Lk := up1 (up1 (wE P i d L).1 1 ((wE P i d L).1 1 + (wE P i d L).2.1.1)) 2 ((wE P i d L).1 2 + (wE P i d L).2.2.1)
theorem wL1_n {P : aP} {i d k j : Nat} {L : Lk} (h : j ≠ 4 + k) : wL1 P i d k L j = L j := if_neg h
theorem wL1_s {P : aP} {i d k : Nat} {L : Lk} : wL1 P i d k L (4 + k) = L (4 + k) - wUp P i d k L := if_pos rfl
theorem wL2_n {P : aP} {i d k hand j : Nat} {L : Lk} (h : j ≠ 20 + k) : wL2 P i d k hand L j = wL1 P i d k L j := if_neg h
theorem wL2_s {P : aP} {i d k hand : Nat} {L : Lk} : wL2 P i d k hand L (20 + k) = L (20 + k) + wIn k hand L := if_pos rfl
theorem wL3_n {P : aP} {i d k hand j : Nat} {L : Lk} (h : j ≠ 4 + k) : wL3 P i d k hand L j = wL2 P i d k hand L j := if_neg h
theorem wL3_s {P : aP} {i d k hand : Nat} {L : Lk} : wL3 P i d k hand L (4 + k) = min 999 (L (4 + k) - wUp P i d k L + wFa P i d k hand L) := by
  unfold wL3 drp
  rw [up1_at, if_pos rfl, wL2_n (by omega), wL1_s]
theorem wIn_le {k hand : Nat} {L : Lk} : wIn k hand L ≤ hand := Nat.min_le_right _ _
theorem wFa_le {P : aP} {i d k hand : Nat} {L : Lk} (hh : hand ≤ 9) : wFa P i d k hand L ≤ hand - wIn k hand L := dv_le (by omega)
theorem wL3_LI {P : aP} {i d k hand B : Nat} {L : Lk} (hk : k < 8) (h : LI B L) : LI B (wL3 P i d k hand L) := by
  refine ⟨?_, fun j hj => ?_⟩
  · rw [wL3_n (by omega), wL2_n (by omega), wL1_n (by omega)]
    exact h.1
  · have hb := h.2 j hj
    rw [wL3_n (j := 20 + j) (by omega), wL3_n (j := 12 + j) (by omega), wL2_n (j := 12 + j) (by omega), wL1_n (j := 12 + j) (by omega)]
    by_cases e : j = k
    · subst e
      rw [wL3_s, wL2_s]
      refine ⟨Nat.min_le_left _ _, ?_, hb.2.2⟩
      unfold wIn
      omega
    · rw [wL3_n (by omega), wL2_n (by omega), wL1_n (by omega), wL2_n (by omega), wL1_n (by omega)]
      exact hb
theorem wN_i {P : aP} {i d B : Nat} {L : Lk} (hI : PI P) (hi : i < pN P) (h : LI B L) : ∀ k, k ≤ 8 → LI B (wN P i d L k).1 ∧ (wN P i d L k).2.1.1 + (wN P i d L k).2.1.2 + (wN P i d L k).2.2.2.1 = tv P i L ∧ (wN P i d L k).2.2.2.2 ≤ k
  | 0, _ => ⟨h, by show tv P i L + 0 + 0 = _; omega, Nat.le_refl _⟩
  | k + 1, hk => by
    obtain ⟨h1, h2, h3⟩ := wN_i hI hi h k (by omega)
    have ht := tv_le (P := P) (i := i) (L := L) hI hi
    show LI B (w1 P i d k (wN P i d L k)).1 ∧ (w1 P i d k (wN P i d L k)).2.1.1 + (w1 P i d k (wN P i d L k)).2.1.2 + (w1 P i d k (wN P i d L k)).2.2.2.1 = tv P i L ∧ (w1 P i d k (wN P i d L k)).2.2.2.2 ≤ k + 1
    generalize wN P i d L k = x at h1 h2 h3
    unfold w1
    have a1 := wIn_le (k := k) (hand := x.2.1.1) (L := x.1)
    have a2 := wFa_le (P := P) (i := i) (d := d) (k := k) (hand := x.2.1.1) (L := x.1) (by omega)
    refine ⟨wL3_LI (by omega) h1, ?_, ?_⟩
    · show x.2.1.1 - wIn k x.2.1.1 x.1 - wFa P i d k x.2.1.1 x.1 + (x.2.1.2 + wIn k x.2.1.1 x.1) + (x.2.2.2.1 + wFa P i d k x.2.1.1 x.1) = _
      omega
    · show x.2.2.2.2 + (if _ then 0 else 1) ≤ k + 1
      split <;> omega
theorem wk_LI {P : aP} {i d B : Nat} {L : Lk} (hI : PI P) (hi : i < pN P) (h : LI B L) : LI B (wk P i d L) := by
  have h1 := (wN_i (d := d) hI hi h (pY P) hI.1.2.1).1
  unfold wk wE
  refine ⟨?_, fun j hj => ?_⟩
  · rw [up1_at, if_neg (by omega), up1_at, if_neg (by omega)]
    exact h1.1
  · rw [up1_at, if_neg (by omega), up1_at, if_neg (by omega), up1_at, if_neg (by omega), up1_at, if_neg (by omega), up1_at, if_neg (by omega), up1_at, if_neg (by omega)]
    exact h1.2 j hj
section GO
variable {S : aS} {p q d f i k hand B : Nat} {P : aP} {L : Lk}
theorem T_X10_pickUp {y : Nat} (h : LA S p y d L) (hI : LI B L) (hd : d ≤ 9) (hk : k < 8) (hp : p + 4 ≤ 122 ∨ 123 ≤ p) (hg : 1 ≤ f) : zU (F_X10_pickUp f 0 [.ref 122, .ref p, .int (nI k)] S) (fun T => LA T p y d (up1 L (4 + k) (L (4 + k) - min (L (4 + k)) d)) ∧ gI T 122 2 = gI S 122 2 + nI (min (L (4 + k)) d) ∧ Fr (fun x j => (p ≤ x ∧ x ≤ p + 3) ∨ (x = 122 ∧ j = 2)) S T) := by
  obtain ⟨g, ge, hG⟩ := g1 hg; subst ge; clear hg; have hg := hG; clear hG; rw [E_X10_pickUp_0]; unfold F_X10_pickUp_0
  have hb := hI.2 k hk
  refine o_X rfl hk ?_
  rw [h.r1, h.l k hk, h.dd, nI_min (by omega) (by omega)]
  refine o_lI ?_
  refine o_X rfl hk ?_
  refine o_X rfl hk ?_
  rw [h.l k hk, pk_sub (Nat.min_le_left _ _)]
  refine o_s (fun S1 e1 => ?_)
  refine o_s (fun S2 e2 => ?_)
  have h1 := h.sl hk e1
  have f2 := (Fr.refl (D := fun x _ => x = 122) S1).sI e2 rfl
  refine u_r ⟨h1.fr f2 (fun x _ h1 h2 h3 => by omega), ?_, ((Fr.refl S).sI e1 (by omega)).sI e2 (by omega)⟩
  subst e2 e1
  rw [gI_sI, if_pos ⟨rfl, rfl⟩, gI_sI, if_neg (by omega)]
theorem T_X10_putIn {y : Nat} (h : LA S p y d L) (hI : LI B L) (hh : hand ≤ 9) (hk : k < 8) (hp : p + 4 ≤ 122 ∨ 123 ≤ p) (hg : 1 ≤ f) : zI (F_X10_putIn f 0 [.ref 122, .ref p, .int (nI k), .int (nI hand)] S) (fun v T => v = nI (wIn k hand L) ∧ LA T p y d (up1 L (20 + k) (L (20 + k) + wIn k hand L)) ∧ gI T 122 1 = gI S 122 1 + nI (wIn k hand L) ∧ Fr (fun x j => (p ≤ x ∧ x ≤ p + 3) ∨ (x = 122 ∧ j = 1)) S T) := by
  obtain ⟨g, ge, hG⟩ := g1 hg; subst ge; clear hg; have hg := hG; clear hG; rw [E_X10_putIn_0]; unfold F_X10_putIn_0
  have hb := hI.2 k hk
  refine o_X rfl hk ?_
  refine o_X rfl hk ?_
  rw [h.r2, h.r3, h.h k hk, h.i k hk, pk_sub hb.2.1, nI_min (by omega) (by omega)]
  refine o_lI ?_
  refine o_X rfl hk ?_
  refine o_X rfl hk ?_
  rw [h.i k hk, nI_add]
  refine o_s (fun S1 e1 => ?_)
  refine o_s (fun S2 e2 => ?_)
  have h1 := h.si hk e1
  have f2 := (Fr.refl (D := fun x _ => x = 122) S1).sI e2 rfl
  refine i_r ⟨rfl, h1.fr f2 (fun x _ h1 h2 h3 => by omega), ?_, ((Fr.refl S).sI e1 (by omega)).sI e2 (by omega)⟩
  subst e2 e1
  rw [gI_sI, if_pos ⟨rfl, rfl⟩, gI_sI, if_neg (by omega)]
  rfl
/-- what the Walk object holds -/
def WF (S : aS) (x : wS) : Prop := gI S 122 0 = nI x.2.1.1 ∧ gI S 122 1 = nI x.2.1.2 ∧ gI S 122 2 = nI x.2.2.1 ∧ gI S 122 3 = nI x.2.2.2.1 ∧ gI S 122 4 = nI x.2.2.2.2
def WG (S : aS) (x : wS) : Prop := gI S 122 1 = nI x.2.1.2 ∧ gI S 122 2 = nI x.2.2.1 ∧ gI S 122 3 = nI x.2.2.2.1 ∧ gI S 122 4 = nI x.2.2.2.2
theorem T_X10_go (hP : CP S q P) (hq : q = 3 ∨ q = 19) (hI : PI P) (hL : LA S p (pY P) d L) (hB : LI B L) (hd : d ≤ 9) (hi : i < pN P) (hp : 43 ≤ p ∧ (p + 4 ≤ 122 ∨ 123 ≤ p)) (hg : 4000 ≤ f) : zU (F_X10_go f 0 [.ref 122, .ref q, .ref p, .int (nI i)] S) (fun T => LA T p (pY P) d (wk P i d L) ∧ WF T (wE P i d L) ∧ Fr (dW p) S T) := by
  have hn := hI.1.2.2.1
  have hy := hI.1.2.1
  have cp : ∀ T, Fr (dW p) S T → CP T q P := fun T hf => hP.fr hf (fun x k h1 h2 h3 h4 h5 => by omega)
  obtain ⟨g, ge, hG⟩ := g1 hg; subst ge; clear hg; have hg := hG; clear hG; rw [E_X10_go_0]; unfold F_X10_go_0
  refine o_s (fun S1 e1 => ?_)
  have f1 := (Fr.refl (D := dW p) S).sI e1 (by omega)
  refine o_s (fun S2 e2 => ?_)
  have f2 := f1.sI e2 (by omega)
  refine o_s (fun S3 e3 => ?_)
  have f3 := f2.sI e3 (by omega)
  refine o_s (fun S4 e4 => ?_)
  have f4 := f3.sI e4 (by omega)
  have hL4 : LA S4 p (pY P) d L := by
    refine hL.fr (D := fun x _ => x = 122) ?_ (fun x _ h1 h2 h3 => by omega)
    exact ((((Fr.refl S).sI e1 rfl).sI e2 rfl).sI e3 rfl).sI e4 rfl
  have hw4 : gI S4 122 1 = 0 ∧ gI S4 122 2 = 0 ∧ gI S4 122 3 = 0 ∧ gI S4 122 4 = 0 := by
    subst e4 e3 e2 e1
    simp [gI_sI]
  clear e1 e2 e3 e4 f1 f2 f3
  refine o_I (T_X6_takenBy (cp S4 f4) hq hI hL4 hB hi (by omega)) ?_
  rintro _ S5 ⟨rfl, f5⟩
  have hL5 := hL4.fr f5 (fun x _ h1 h2 h3 => by omega)
  have hw5 : WG S5 (wN P i d L 0) := by
    unfold WG
    rw [f5.2 _ _ (fun h => by omega), f5.2 _ _ (fun h => by omega), f5.2 _ _ (fun h => by omega), f5.2 _ _ (fun h => by omega)]
    exact hw4
  have f6 : Fr (dW p) S S5 := f4.tr (f5.mono (fun x k h => by unfold dC at h; unfold dW; omega))
  clear f4 f5 hL4 hw4
  refine o_loop (F := fun f vs S => F_X10_go f 1 vs S) (c := 2) (B := 3040) (y := (pY) P) (fun k vs T => vs = [.ref 122, .ref q, .ref p, .int (nI i), .int (nI (wN P i d L k).2.1.1), .int (nI k)] ∧ LA T p (pY P) d (wN P i d L k).1 ∧ WG T (wN P i d L k) ∧ Fr (dW p) S T) ?_ ?_ 0 _ _ g (by omega) ⟨rfl, hL5, hw5, f6⟩ (by omega)
  · rintro k _ T g hk ⟨rfl, hT, hw, hf⟩ hg rk
    obtain ⟨i1, i2, i3⟩ := wN_i (d := d) hI hi hB k (by omega)
    have ht := tv_le (P := P) (i := i) (L := L) hI hi
    simp only [wN] at rk
    generalize wN P i d L k = x at hT hw i1 i2 i3 rk
    show zO (F_X10_go g 1 _ _) _
    obtain ⟨g, ge, hG⟩ := g1 hg; subst ge; clear hg; have hg := hG; clear hG; rw [E_X10_go_1]; unfold F_X10_go_1
    rw [hT.yy]
    refine o_f (nI_ge hk (by omega)) ?_
    refine o_X rfl (show i < 6 by omega) ?_
    have hPT := cp T hf
    rw [hPT.1.1, (hPT.2.2.1 i hi).1]
    refine o_ifV (fun T1 => LA T1 p (pY P) d (wL1 P i d k x.1) ∧ gI T1 122 2 = nI (x.2.2.1 + wUp P i d k x.1) ∧ Fr (fun x j => (p ≤ x ∧ x ≤ p + 3) ∨ (x = 122 ∧ j = 2)) T T1) (fun c => ?_) (fun c => ?_) ?_
    · have hk3 := hI.2.1 i hi
      rw [show (3 : Int32) = nI 3 from rfl, nI_eq (by omega) (by omega)] at c
      have e : wUp P i d k x.1 = min (x.1 (4 + k)) d := if_pos c
      refine u_m (T_X10_pickUp hT i1 hd (by omega) hp.2 (by omega)) ?_
      rintro T1 ⟨a1, a2, a3⟩
      refine ⟨?_, ?_, a3⟩
      · unfold wL1; rw [e]; exact a1
      · rw [a2, hw.2.1, nI_add, e]
    · have hk3 := hI.2.1 i hi
      rw [show (3 : Int32) = nI 3 from rfl, nI_eq (by omega) (by omega)] at c
      have e : wUp P i d k x.1 = 0 := if_neg c
      refine ⟨?_, ?_, Fr.refl _⟩
      · unfold wL1; rw [e, Nat.sub_zero, up1_self]; exact hT
      · rw [e]; exact hw.2.1
    rintro T1 ⟨hT1, hr1, ff1⟩
    have i1' : LI B (wL1 P i d k x.1) := by
      refine ⟨by rw [wL1_n (by omega)]; exact i1.1, fun j hj => ?_⟩
      have hb := i1.2 j hj
      rw [wL1_n (j := 12 + j) (by omega), wL1_n (j := 20 + j) (by omega)]
      refine ⟨?_, hb.2⟩
      by_cases e : j = k
      · subst e; rw [wL1_s]; omega
      · rw [wL1_n (by omega)]; exact hb.1
    have in1 : wIn k x.2.1.1 (wL1 P i d k x.1) = wIn k x.2.1.1 x.1 := by
      unfold wIn
      rw [wL1_n (by omega), wL1_n (by omega)]
    obtain ⟨g, ge, hG⟩ := g1 hg; subst ge; clear hg; have hg := hG; clear hG; rw [E_X10_go_2]; unfold F_X10_go_2
    refine o_I (T_X10_putIn (hand := x.2.1.1) hT1 i1' (by omega) (by omega) hp.2 (by omega)) ?_
    rintro _ T2 ⟨rfl, hT2, hr2, ff2⟩
    rw [in1] at hT2 hr2 ⊢
    have e2 : up1 (wL1 P i d k x.1) (20 + k) (wL1 P i d k x.1 (20 + k) + wIn k x.2.1.1 x.1) = wL2 P i d k x.2.1.1 x.1 := by
      unfold wL2
      rw [wL1_n (j := 20 + k) (by omega)]
    rw [e2] at hT2
    have i2' : LI B (wL2 P i d k x.2.1.1 x.1) := by
      refine ⟨by rw [wL2_n (by omega)]; exact i1'.1, fun j hj => ?_⟩
      have hb := i1'.2 j hj
      rw [wL2_n (j := 4 + j) (by omega), wL2_n (j := 12 + j) (by omega)]
      refine ⟨hb.1, ?_, hb.2.2⟩
      by_cases e : j = k
      · subst e
        rw [wL2_s, wL1_n (by omega)]
        rw [wL1_n (j := 12 + j) (by omega), wL1_n (j := 20 + j) (by omega)] at hb
        unfold wIn
        omega
      · rw [wL2_n (by omega)]; exact hb.2.1
    have fT2 : Fr (dW p) S T2 := (hf.tr (ff1.mono (fun x k h => by unfold dW; omega))).tr (ff2.mono (fun x k h => by unfold dW; omega))
    refine o_X rfl (show k < 8 by omega) ?_
    refine o_I (T_X4_nearOf hT2 i2' hy (by omega) (by omega)) ?_
    rintro _ T2 ⟨rfl, rfl⟩
    rw [hT2.r1, hT2.l k (by omega), wL2_n (by omega), wL1_s, pk_sub wIn_le]
    have hb := i1.2 k (by omega)
    have hnr := near_le (L := wL2 P i d k x.2.1.1 x.1) (k := k) hy
    refine o_I (T_X6_droppedBy (cp T2 fT2) hq hI hi (by omega) (by omega) (by omega) (by omega)) ?_
    rintro _ T3 ⟨rfl, ff3⟩
    have hT3 := hT2.fr ff3 (fun x _ h1 h2 h3 => by omega)
    have a2 := wFa_le (P := P) (i := i) (d := d) (k := k) (hand := x.2.1.1) (L := x.1) (by omega)
    have efa : dv P i (x.1 (4 + k) - wUp P i d k x.1) (near (pY P) (wL2 P i d k x.2.1.1 x.1) k) (x.2.1.1 - wIn k x.2.1.1 x.1) = wFa P i d k x.2.1.1 x.1 := rfl
    rw [efa]
    have i2b := (i2'.2 k (by omega)).1
    refine o_V (T_X4_drop hT3 (by omega) (by omega) (by omega)) ?_
    rintro T4 ⟨hT4, ff4⟩
    have efb : drp (wL2 P i d k x.2.1.1 x.1) k (wFa P i d k x.2.1.1 x.1) = wL3 P i d k x.2.1.1 x.1 := rfl
    rw [efb] at hT4
    refine o_s (fun T5 e5 => ?_)
    refine o_s (fun T6 e6 => ?_)
    have fT4 : Fr (dW p) S T4 := (fT2.tr (ff3.mono (fun x k h => by unfold dC at h; unfold dW; omega))).tr (ff4.mono (fun x k h => by unfold dW; omega))
    have g4 : ∀ j, gI T4 122 j = gI T2 122 j := fun j => by
      rw [ff4.2 _ _ (fun h => by omega), ff3.2 _ _ (fun h => by omega)]
    have hT6 : LA T6 p (pY P) d (wL3 P i d k x.2.1.1 x.1) := hT4.fr (((Fr.refl (D := fun x _ => x = 122) T4).sI e5 rfl).sI e6 rfl) (fun x _ h1 h2 h3 => by omega)
    rw [pk_sub (by omega)]
    refine rk g _ _ (by omega) ⟨?_, hT6, ?_, (fT4.sI e5 (by omega)).sI e6 (by omega)⟩
    · rw [nI_1]
      rfl
    · rw [pk_sub (by omega)] at e6
      have h25 : gI T5 122 4 = nI x.2.2.2.2 := by
        subst e5
        rw [gI_sI, if_neg (by omega), g4, ff2.2 _ _ (fun h => by omega), ff1.2 _ _ (fun h => by omega)]
        exact hw.2.2.2
      have hif : (if nI (x.2.1.1 - wIn k x.2.1.1 x.1 - wFa P i d k x.2.1.1 x.1) ≤ (0 : Int32) then (0 : Int32) else 1) = nI (if x.2.1.1 - wIn k x.2.1.1 x.1 - wFa P i d k x.2.1.1 x.1 = 0 then 0 else 1) := by
        by_cases e : x.2.1.1 - wIn k x.2.1.1 x.1 - wFa P i d k x.2.1.1 x.1 = 0
        · rw [if_pos e, e]; rfl
        · rw [if_neg e, if_neg (nI_nle (by omega) (by omega))]; rfl
      rw [h25, hif, nI_add] at e6
      have h23 : gI T4 122 3 = nI x.2.2.2.1 := by
        rw [g4, ff2.2 _ _ (fun h => by omega), ff1.2 _ _ (fun h => by omega)]
        exact hw.2.2.1
      rw [h23, nI_add] at e5
      refine ⟨?_, ?_, ?_, ?_⟩
      · subst e6 e5
        rw [gI_sI, if_neg (by omega), gI_sI, if_neg (by omega), g4, hr2, ff1.2 _ _ (fun h => by omega), hw.1, nI_add]
        rfl
      · subst e6 e5
        rw [gI_sI, if_neg (by omega), gI_sI, if_neg (by omega), g4, ff2.2 _ _ (fun h => by omega), hr1]
        rfl
      · subst e6 e5
        rw [gI_sI, if_neg (by omega), gI_sI, if_pos ⟨rfl, rfl⟩]
        rfl
      · subst e6
        rw [gI_sI, if_pos ⟨rfl, rfl⟩]
        rfl
  · rintro _ T g ⟨rfl, hT, hw, hf⟩ hg
    show zO (F_X10_go g 1 _ _) _
    obtain ⟨g, ge, hG⟩ := g1 hg; subst ge; clear hg; have hg := hG; clear hG; rw [E_X10_go_1]; unfold F_X10_go_1
    rw [hT.yy]
    refine o_t (nI_le (Nat.le_refl _) (by omega)) ?_
    have ew : wN P i d L (pY P) = wE P i d L := rfl
    unfold wk
    rw [ew] at hT hw ⊢
    generalize wE P i d L = x at hT hw
    refine o_s (fun T1 e1 => ?_)
    have ht1 : LA T1 p (pY P) d x.1 := hT.fr ((Fr.refl (D := fun x _ => x = 122) T).sI e1 rfl) (fun x _ h1 h2 h3 => by omega)
    refine o_s (fun T2 e2 => ?_)
    refine o_s (fun T3 e3 => ?_)
    have h10 : gI T1 122 0 = nI x.2.1.1 := by subst e1; rw [gI_sI, if_pos ⟨rfl, rfl⟩]
    rw [show (5 : Nat) = 4 + 1 from rfl, ht1.c 1 (by omega), h10, nI_add] at e2
    have ht2 := ht1.sc (k := 1) (by omega) e2
    have h22 : gI T2 122 2 = nI x.2.2.1 := by subst e2 e1; rw [gI_sI, if_neg (by omega), gI_sI, if_neg (by omega)]; exact hw.2.1
    rw [show (6 : Nat) = 4 + 2 from rfl, ht2.c 2 (by omega), h22, nI_add, up1_at, if_neg (by omega)] at e3
    refine u_r ⟨ht2.sc (k := 2) (by omega) e3, ?_, ((hf.sI e1 (by omega)).sI e2 (by omega)).sI e3 (by omega)⟩
    refine ⟨?_, ?_, ?_, ?_, ?_⟩ <;> subst e3 e2 <;> rw [gI_sI, if_neg (by omega), gI_sI, if_neg (by omega)]
    · exact h10
    · subst e1; rw [gI_sI, if_neg (by omega)]; exact hw.1
    · subst e1; rw [gI_sI, if_neg (by omega)]; exact hw.2.1
    · subst e1; rw [gI_sI, if_neg (by omega)]; exact hw.2.2.1
    · subst e1; rw [gI_sI, if_neg (by omega)]; exact hw.2.2.2
end GO

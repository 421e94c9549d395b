/-! lakes: the class's, over Nat -/
abbrev Lk : Type := Nat → Nat
def LR (S : aS) (p : Nat) : Prop := gR S p 1 = p + 1 ∧ gR S p 2 = p + 2 ∧ gR S p 3 = p + 3
def LA (S : aS) (p y d : Nat) (L : Lk) : Prop := LR S p ∧ gI S p 0 = nI y ∧ gI S p 8 = nI d ∧ (∀ k, k < 4 → gI S p (4 + k) = nI (L k)) ∧ (∀ k, k < 8 → gI S (p + 1) k = nI (L (4 + k))) ∧ (∀ k, k < 8 → gI S (p + 2) k = nI (L (12 + k))) ∧ (∀ k, k < 8 → gI S (p + 3) k = nI (L (20 + k)))
section LAS
variable {S S1 : aS} {p y d k v q : Nat} {L M : Lk} {D : Nat → Nat → Prop}
theorem LA.r (h : LA S p y d L) : LR S p := h.1
theorem LA.r1 (h : LA S p y d L) : gR S p 1 = p + 1 := h.1.1
theorem LA.r2 (h : LA S p y d L) : gR S p 2 = p + 2 := h.1.2.1
theorem LA.r3 (h : LA S p y d L) : gR S p 3 = p + 3 := h.1.2.2
theorem LA.yy (h : LA S p y d L) : gI S p 0 = nI y := h.2.1
theorem LA.dd (h : LA S p y d L) : gI S p 8 = nI d := h.2.2.1
theorem LA.c (h : LA S p y d L) (k : Nat) (hk : k < 4) : gI S p (4 + k) = nI (L k) := h.2.2.2.1 k hk
theorem LA.l (h : LA S p y d L) (k : Nat) (hk : k < 8) : gI S (p + 1) k = nI (L (4 + k)) := h.2.2.2.2.1 k hk
theorem LA.h (h : LA S p y d L) (k : Nat) (hk : k < 8) : gI S (p + 2) k = nI (L (12 + k)) := h.2.2.2.2.2.1 k hk
theorem LA.i (h : LA S p y d L) (k : Nat) (hk : k < 8) : gI S (p + 3) k = nI (L (20 + k)) := h.2.2.2.2.2.2 k hk
theorem up1_at {α : Type} (f : Nat → α) (k j : Nat) (v : α) : up1 f k v j = if j = k then v else f j := rfl
theorem LA.sl (h : LA S p y d L) (hk : k < 8) (e : S1 = sI S (p + 1) k (nI v)) : LA S1 p y d (up1 L (4 + k) v) := by
  subst e
  obtain ⟨r, hy, hd, hc, hl, hh, hi⟩ := h
  refine ⟨r, ?_, ?_, fun j hj => ?_, fun j hj => ?_, fun j hj => ?_, fun j hj => ?_⟩ <;> rw [gI_sI]
  · rw [if_neg (by omega), hy]
  · rw [if_neg (by omega), hd]
  · rw [if_neg (by omega), hc j hj, up1_at, if_neg (by omega)]
  · by_cases e : j = k
    · rw [if_pos ⟨rfl, e⟩, up1_at, if_pos (by omega)]
    · rw [if_neg (by omega), hl j hj, up1_at, if_neg (by omega)]
  · rw [if_neg (by omega), hh j hj, up1_at, if_neg (by omega)]
  · rw [if_neg (by omega), hi j hj, up1_at, if_neg (by omega)]
theorem LA.sh (h : LA S p y d L) (hk : k < 8) (e : S1 = sI S (p + 2) k (nI v)) : LA S1 p y d (up1 L (12 + k) v) := by
  subst e
  obtain ⟨r, hy, hd, hc, hl, hh, hi⟩ := h
  refine ⟨r, ?_, ?_, fun j hj => ?_, fun j hj => ?_, fun j hj => ?_, fun j hj => ?_⟩ <;> rw [gI_sI]
  · rw [if_neg (by omega), hy]
  · rw [if_neg (by omega), hd]
  · rw [if_neg (by omega), hc j hj, up1_at, if_neg (by omega)]
  · rw [if_neg (by omega), hl j hj, up1_at, if_neg (by omega)]
  · by_cases e : j = k
    · rw [if_pos ⟨rfl, e⟩, up1_at, if_pos (by omega)]
    · rw [if_neg (by omega), hh j hj, up1_at, if_neg (by omega)]
  · rw [if_neg (by omega), hi j hj, up1_at, if_neg (by omega)]
theorem LA.si (h : LA S p y d L) (hk : k < 8) (e : S1 = sI S (p + 3) k (nI v)) : LA S1 p y d (up1 L (20 + k) v) := by
  subst e
  obtain ⟨r, hy, hd, hc, hl, hh, hi⟩ := h
  refine ⟨r, ?_, ?_, fun j hj => ?_, fun j hj => ?_, fun j hj => ?_, fun j hj => ?_⟩ <;> rw [gI_sI]
  · rw [if_neg (by omega), hy]
  · rw [if_neg (by omega), hd]
  · rw [if_neg (by omega), hc j hj, up1_at, if_neg (by omega)]
  · rw [if_neg (by omega), hl j hj, up1_at, if_neg (by omega)]
  · rw [if_neg (by omega), hh j hj, up1_at, if_neg (by omega)]
  · by_cases e : j = k
    · rw [if_pos ⟨rfl, e⟩, up1_at, if_pos (by omega)]
    · rw [if_neg (by omega), hi j hj, up1_at, if_neg (by omega)]
theorem LA.sc (h : LA S p y d L) (hk : k < 4) (e : S1 = sI S p (4 + k) (nI v)) : LA S1 p y d (up1 L k v) := by
  subst e
  obtain ⟨r, hy, hd, hc, hl, hh, hi⟩ := h
  refine ⟨r, ?_, ?_, fun j hj => ?_, fun j hj => ?_, fun j hj => ?_, fun j hj => ?_⟩ <;> rw [gI_sI]
  · rw [if_neg (by omega), hy]
  · rw [if_neg (by omega), hd]
  · by_cases e : j = k
    · rw [if_pos ⟨rfl, by omega⟩, up1_at, if_pos (by omega)]
    · rw [if_neg (by omega), hc j hj, up1_at, if_neg (by omega)]
  · rw [if_neg (by omega), hl j hj, up1_at, if_neg (by omega)]
  · rw [if_neg (by omega), hh j hj, up1_at, if_neg (by omega)]
  · rw [if_neg (by omega), hi j hj, up1_at, if_neg (by omega)]
theorem LA.sd (h : LA S p y d L) (e : S1 = sI S p 8 (nI v)) : LA S1 p y v L := by
  subst e
  obtain ⟨r, hy, hd, hc, hl, hh, hi⟩ := h
  refine ⟨r, ?_, ?_, fun j hj => ?_, fun j hj => ?_, fun j hj => ?_, fun j hj => ?_⟩ <;> rw [gI_sI]
  · rw [if_neg (by omega), hy]
  · rw [if_pos ⟨rfl, rfl⟩]
  · rw [if_neg (by omega), hc j hj]
  · rw [if_neg (by omega), hl j hj]
  · rw [if_neg (by omega), hh j hj]
  · rw [if_neg (by omega), hi j hj]
theorem LR.fr (h : LR S p) (hf : Fr D S S1) : LR S1 p := by
  unfold LR
  rw [hf.R, hf.R, hf.R]
  exact h
theorem LA.fr (h : LA S p y d L) (hf : Fr D S S1) (hD : ∀ q k, p ≤ q → q ≤ p + 3 → ¬ D q k) : LA S1 p y d L := by
  obtain ⟨r, hy, hd, hc, hl, hh, hi⟩ := h
  refine ⟨r.fr hf, ?_, ?_, fun j hj => ?_, fun j hj => ?_, fun j hj => ?_, fun j hj => ?_⟩ <;> rw [hf.2 _ _ (hD _ _ (by omega) (by omega))]
  · exact hy
  · exact hd
  · exact hc j hj
  · exact hl j hj
  · exact hh j hj
  · exact hi j hj
theorem LA.cg (h : LA S p y d L) (e : ∀ k, k < 28 → L k = M k) : LA S p y d M := by
  obtain ⟨r, hy, hd, hc, hl, hh, hi⟩ := h
  refine ⟨r, hy, hd, fun j hj => ?_, fun j hj => ?_, fun j hj => ?_, fun j hj => ?_⟩ <;> rw [← e _ (by omega)]
  · exact hc j hj
  · exact hl j hj
  · exact hh j hj
  · exact hi j hj
end LAS
/-- the cells of a lake -/
abbrev dL (p : Nat) : Nat → Nat → Prop := fun q _ => p ≤ q ∧ q ≤ p + 3
/-- bounds of a lake -/
def LI (B : Nat) (L : Lk) : Prop := L 0 ≤ B ∧ ∀ k, k < 8 → L (4 + k) ≤ 999 ∧ L (20 + k) ≤ L (12 + k) ∧ L (12 + k) ≤ 30
def sm (g : Nat → Nat) : Nat → Nat
  | 0 => 0
  | n + 1 => sm g n + g n
theorem sm_le {g : Nat → Nat} {c : Nat} : ∀ {n : Nat}, (∀ k, k < n → g k ≤ c) → sm g n ≤ n * c
  | 0, _ => Nat.zero_le _
  | n + 1, h => by
    have h1 := sm_le (n := n) (fun k hk => h k (by omega))
    have h2 := h n (by omega)
    rw [Nat.succ_mul]
    show sm g n + g n ≤ _
    omega
theorem sm_cg {g h : Nat → Nat} : ∀ {n : Nat}, (∀ k, k < n → g k = h k) → sm g n = sm h n
  | 0, _ => rfl
  | n + 1, e => by
    show sm g n + g n = sm h n + h n
    rw [sm_cg (fun k hk => e k (by omega)), e n (by omega)]
def tot (y : Nat) (L : Lk) : Nat := sm (fun k => L (4 + k)) y
theorem tot_le {B y : Nat} {L : Lk} (h : LI B L) (hy : y ≤ 8) : tot y L ≤ 7992 := by
  have h1 := sm_le (g := fun k => L (4 + k)) (c := 999) (n := y) (fun k hk => (h.2 k (by omega)).1)
  unfold tot
  omega
def opF (L : Lk) : Nat → Nat → Option Nat
  | 0, _ => none
  | j + 1, k => if L (20 + k) < L (12 + k) then some k else opF L j (k + 1)
theorem opF_b {L : Lk} : ∀ {j k z : Nat}, opF L j k = some z → k ≤ z ∧ z < k + j
  | 0, _, _, h => nomatch h
  | j + 1, k, z, h => by
    unfold opF at h
    by_cases e : L (20 + k) < L (12 + k)
    · rw [if_pos e] at h; cases h; omega
    · rw [if_neg e] at h
      have := opF_b h
      omega
theorem opF_s {L : Lk} {y k : Nat} (h : k < y) : opF L (y - k) k = if L (20 + k) < L (12 + k) then some k else opF L (y - (k + 1)) (k + 1) := by
  obtain ⟨j, rfl⟩ : ∃ j, y = k + j + 1 := ⟨y - k - 1, by omega⟩
  rw [show k + j + 1 - k = j + 1 by omega, show k + j + 1 - (k + 1) = j by omega]
  rfl
def dst (k : Nat) : Option Nat → Nat
  | some z => z - k
  | none => 9
def near (y : Nat) (L : Lk) (k : Nat) : Nat := dst k (opF L (y - (k + 1)) (k + 1))
def near0 (y : Nat) (L : Lk) : Nat := dst 0 (opF L y 0)
theorem near_le {y k : Nat} {L : Lk} (hy : y ≤ 8) : near y L k ≤ 9 := by
  unfold near
  cases e : opF L (y - (k + 1)) (k + 1) with
  | none => exact Nat.le_refl 9
  | some z => have := opF_b e; show z - k ≤ 9; omega
theorem near0_le {y : Nat} {L : Lk} (hy : y ≤ 8) : near0 y L ≤ 9 := by
  unfold near0
  cases e : opF L y 0 with
  | none => exact Nat.le_refl 9
  | some z => have := opF_b e; show z - 0 ≤ 9; omega
theorem nI_ne {a b : Nat} (h : a ≠ b) (ha : a < 2 ^ 31) (hb : b < 2 ^ 31) : ¬ nI a = nI b := fun c => h ((nI_eq ha hb).mp c)
section X4
variable {S : aS} {p y d f B : Nat} {L : Lk}
theorem T_X4_total (h : LA S p y d L) (hy : y ≤ 8) (hg : 10 ≤ f) : zI (F_X4_total f 0 [.ref p] S) (fun x S2 => x = nI (tot y L) ∧ S2 = S) := by
  obtain ⟨g, ge, hG⟩ := g1 hg; subst ge; clear hg; have hg := hG; clear hG
  rw [E_X4_total_0]; unfold F_X4_total_0
  refine o_loop (F := fun f vs S => F_X4_total f 1 vs S) (c := 1) (B := 0) (y := y) (fun k vs S2 => vs = [.ref p, .int (nI (sm (fun k => L (4 + k)) k)), .int (nI k)] ∧ S2 = S) ?_ ?_ 0 _ S g (by omega) ⟨rfl, rfl⟩ (by omega)
  · rintro k _ _ g hk ⟨rfl, rfl⟩ hg rec
    obtain ⟨g, ge, hG⟩ := g1 hg; subst ge; clear hg; have hg := hG; clear hG
    show zO (F_X4_total (g + 1) 1 _ _) _
    rw [E_X4_total_1]; unfold F_X4_total_1
    rw [h.yy]
    refine o_f (nI_ge hk (by omega)) ?_
    refine o_X rfl (show k < 8 by omega) ?_
    rw [h.r1, h.l k (by omega)]
    exact rec g _ _ (by omega) ⟨by rw [nI_add, nI_1]; rfl, rfl⟩
  · rintro _ _ g ⟨rfl, rfl⟩ hg
    obtain ⟨g, ge, hG⟩ := g1 hg; subst ge; clear hg; have hg := hG; clear hG
    show zO (F_X4_total (g + 1) 1 _ _) _
    rw [E_X4_total_1]; unfold F_X4_total_1
    rw [h.yy]
    exact o_t (nI_le (Nat.le_refl _) (by omega)) (i_r ⟨rfl, rfl⟩)
theorem T_X4_open {k : Nat} (h : LA S p y d L) (hI : LI B L) (hy : y ≤ 8) (hk : k ≤ 8) (hg : 12 ≤ f) : zI (F_X4_yardsToOpen f 0 [.ref p, .int (nI k)] S) (fun x S2 => x = nI (dst k (opF L (y - k) k)) ∧ S2 = S) := by
  obtain ⟨g, ge, hG⟩ := g1 hg; subst ge; clear hg; have hg := hG; clear hG
  rw [E_X4_yardsToOpen_0]; unfold F_X4_yardsToOpen_0
  rw [show (if (0 : Int32) < nI k then nI k else 0) = nI k by
    rcases Nat.eq_zero_or_pos k with e | e
    · subst e; rfl
    · rw [if_pos (show (0 : Int32) < nI k from nI_lt e (by omega))]]
  by_cases hky : k ≤ y
  · refine o_loop (F := fun f vs S => F_X4_yardsToOpen f 1 vs S) (c := 1) (B := 0) (y := y) (fun z vs S2 => vs = [.ref p, .int (nI k), .int (nI z)] ∧ S2 = S ∧ k ≤ z ∧ opF L (y - k) k = opF L (y - z) z) ?_ ?_ k _ S g (by omega) ⟨rfl, rfl, Nat.le_refl _, rfl⟩ (by omega)
    · rintro z _ _ g hz ⟨rfl, rfl, hkz, e⟩ hg rec
      obtain ⟨g, ge, hG⟩ := g1 hg; subst ge; clear hg; have hg := hG; clear hG
      show zO (F_X4_yardsToOpen (g + 1) 1 _ _) _
      rw [E_X4_yardsToOpen_1]; unfold F_X4_yardsToOpen_1
      rw [h.yy]
      refine o_f (nI_ge hz (by omega)) ?_
      refine o_X rfl (show z < 8 by omega) ?_
      refine o_X rfl (show z < 8 by omega) ?_
      rw [h.r2, h.r3, h.h z (by omega), h.i z (by omega)]
      have hb := hI.2 z (by omega)
      rw [opF_s hz] at e
      refine o_if (fun c => ?_) (fun c => ?_)
      · rw [nI_leI (by omega) (by omega)] at c
        rw [if_neg (by omega)] at e
        exact rec g _ _ (by omega) ⟨by rw [nI_1], rfl, by omega, e⟩
      · rw [nI_leI (by omega) (by omega)] at c
        rw [if_pos (by omega)] at e
        exact i_r ⟨by rw [e, pk_sub hkz]; rfl, rfl⟩
    · rintro _ _ g ⟨rfl, rfl, hkz, e⟩ hg
      obtain ⟨g, ge, hG⟩ := g1 hg; subst ge; clear hg; have hg := hG; clear hG
      show zO (F_X4_yardsToOpen (g + 1) 1 _ _) _
      rw [E_X4_yardsToOpen_1]; unfold F_X4_yardsToOpen_1
      rw [h.yy]
      refine o_t (nI_le (Nat.le_refl _) (by omega)) (i_r ⟨?_, rfl⟩)
      rw [e, show y - y = 0 by omega]
      rfl
  · obtain ⟨g, ge, hG⟩ := g1 hg; subst ge; clear hg; have hg := hG; clear hG
    rw [E_X4_yardsToOpen_1]; unfold F_X4_yardsToOpen_1
    rw [h.yy]
    refine o_t (nI_le (by omega) (by omega)) (i_r ⟨?_, rfl⟩)
    rw [show y - k = 0 by omega]
    rfl
theorem T_X4_nearOf {k : Nat} (h : LA S p y d L) (hI : LI B L) (hy : y ≤ 8) (hk : k < 8) (hg : 13 ≤ f) : zI (F_X4_nearOf f 0 [.ref p, .int (nI k)] S) (fun x S2 => x = nI (near y L k) ∧ S2 = S) := by
  obtain ⟨g, ge, hG⟩ := g1 hg; subst ge; clear hg; have hg := hG; clear hG
  rw [E_X4_nearOf_0]; unfold F_X4_nearOf_0
  rw [nI_1]
  refine o_I (T_X4_open h hI hy (by omega) hg) ?_
  rintro _ _ ⟨rfl, rfl⟩
  refine i_r ⟨?_, rfl⟩
  unfold near
  cases e : opF L (y - (k + 1)) (k + 1) with
  | none => rfl
  | some z =>
    have := opF_b e
    show (if nI (z - (k + 1)) = nI 9 then _ else nI (z - (k + 1)) + 1) = nI (z - k)
    rw [if_neg (nI_ne (by omega) (by omega) (by omega)), nI_1]
    exact congrArg nI (by omega)
end X4

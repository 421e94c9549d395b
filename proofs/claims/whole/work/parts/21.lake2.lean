/-! lakes: what the class does to them -/
def oY (n : Nat) (x : Int32) : Prop := x < 0 ∨ nI n ≤ x
theorem ix (x : Int32) {n : Nat} (hn : n < 2 ^ 31 := by omega) : oY n x ∨ ∃ j : Nat, j < n ∧ x = nI j := by
  rcases pk_ix x hn with h | h | h
  · exact Or.inl (Or.inl h)
  · exact Or.inl (Or.inr h)
  · exact Or.inr h
theorem in_ok {k n : Nat} (hk : k < n) (hn : n < 2 ^ 31) : (if nI k < (0 : Int32) then (0 : Int32) else if nI n ≤ nI k then (0 : Int32) else 1) = 1 := by
  rw [if_neg (nI_pos (by omega)), if_neg (nI_ge hk hn)]
theorem in_no {x : Int32} {n : Nat} (h : oY n x) : (if x < (0 : Int32) then (0 : Int32) else if nI n ≤ x then (0 : Int32) else 1) = 0 := by
  by_cases h0 : x < 0
  · rw [if_pos h0]
  · rw [if_neg h0, if_pos (h.resolve_left h0)]
theorem sh1 : ∀ k, k < 31 → (1 : Int32) <<< (nI k &&& 31) = nI (2 ^ k) := fun k hk => co_dec (N := 31) (P := fun k => (1 : Int32) <<< (nI k &&& 31) = nI (2 ^ k)) (by decide +kernel) hk
theorem nI_or (a b : Nat) : nI a ||| nI b = nI (a ||| b) := by
  apply Int32.toBitVec_inj.mp
  show BitVec.ofNat 32 a ||| BitVec.ofNat 32 b = BitVec.ofNat 32 (a ||| b)
  apply BitVec.eq_of_toNat_eq
  simp [Nat.or_mod_two_pow]
theorem nI_and (a b : Nat) : nI a &&& nI b = nI (a &&& b) := by
  apply Int32.toBitVec_inj.mp
  show BitVec.ofNat 32 a &&& BitVec.ofNat 32 b = BitVec.ofNat 32 (a &&& b)
  apply BitVec.eq_of_toNat_eq
  simp [Nat.and_mod_two_pow]
def bs (g : Nat → Bool) : Nat → Nat
  | 0 => 0
  | n + 1 => bs g n + (if g n then 2 ^ n else 0)
theorem bs_lt (g : Nat → Bool) : ∀ n, bs g n < 2 ^ n
  | 0 => Nat.zero_lt_one
  | n + 1 => by
    have := bs_lt g n
    show bs g n + (if g n then 2 ^ n else 0) < 2 ^ (n + 1)
    rw [Nat.pow_succ]
    split <;> omega
theorem bs_cg {g h : Nat → Bool} : ∀ {n : Nat}, (∀ k, k < n → g k = h k) → bs g n = bs h n
  | 0, _ => rfl
  | n + 1, e => by
    show bs g n + _ = bs h n + _
    rw [bs_cg (fun k hk => e k (by omega)), e n (by omega)]
theorem bs_or (g : Nat → Bool) (n : Nat) : bs g n ||| (if g n then 2 ^ n else 0) = bs g (n + 1) := by
  show _ = bs g n + (if g n then 2 ^ n else 0)
  split
  · have h := Nat.two_pow_add_eq_or_of_lt (bs_lt g n) 1
    rw [Nat.mul_one] at h
    rw [Nat.or_comm, ← h, Nat.add_comm]
  · exact Nat.or_zero _
theorem bs_orI (g : Nat → Bool) {n : Nat} (hn : n < 31) {c : Prop} {_ : Decidable c} (hc : c ↔ g n = false) : nI (bs g n) ||| (if c then (0 : Int32) else (1 : Int32) <<< (nI n &&& 31)) = nI (bs g (n + 1)) := by
  rw [← bs_or, ← nI_or]
  by_cases h : g n = false
  · rw [if_pos (hc.mpr h), if_neg (by rw [h]; decide)]
    rfl
  · rw [if_neg (fun q => h (hc.mp q)), if_pos (by cases e : g n; exact absurd e h; rfl), sh1 n hn]
def setB (L : Lk) (k m : Nat) : Lk := up1 (up1 L (12 + k) m) (20 + k) 0
def empB (L : Lk) (k pe : Nat) : Lk := up1 (up1 L (20 + k) 0) 3 (L 3 + pe)
def empTo (L : Lk) (pe : Nat) : Nat → Lk
  | 0 => L
  | k + 1 => if empTo L pe k (12 + k) = 0 then empTo L pe k else empB (empTo L pe k) k pe
def drp (L : Lk) (k v : Nat) : Lk := up1 L (4 + k) (min 999 (L (4 + k) + v))
section X4
variable {S : aS} {p y d f B : Nat} {L : Lk}
theorem T_X4_hasYard {k : Nat} (h : LA S p y d L) (hy : y ≤ 8) (hk : k < y) (hg : 1 ≤ f) : zI (F_X4_hasYard f 0 [.ref p, .int (nI k)] S) (fun x S2 => x = 1 ∧ S2 = S) := by
  obtain ⟨g, ge, hG⟩ := g1 hg; subst ge; clear hg; have hg := hG; clear hG
  rw [E_X4_hasYard_0]; unfold F_X4_hasYard_0
  rw [h.yy, in_ok hk (by omega)]
  exact o_Z (Or.inr rfl) (i_r ⟨rfl, rfl⟩)
theorem T_X4_hasYard0 {x : Int32} (h : LA S p y d L) (hx : oY y x) (hg : 1 ≤ f) : zI (F_X4_hasYard f 0 [.ref p, .int x] S) (fun x S2 => x = 0 ∧ S2 = S) := by
  obtain ⟨g, ge, hG⟩ := g1 hg; subst ge; clear hg; have hg := hG; clear hG
  rw [E_X4_hasYard_0]; unfold F_X4_hasYard_0
  rw [h.yy, in_no hx]
  exact o_Z (Or.inl rfl) (i_r ⟨rfl, rfl⟩)
theorem T_X4_hasBin {k : Nat} (h : LA S p y d L) (hI : LI B L) (hy : y ≤ 8) (hk : k < y) (hg : 4 ≤ f) : zI (F_X4_hasBin f 0 [.ref p, .int (nI k)] S) (fun x S2 => x = (if L (12 + k) = 0 then 0 else 1) ∧ S2 = S) := by
  obtain ⟨g, ge, hG⟩ := g1 hg; subst ge; clear hg; have hg := hG; clear hG
  rw [E_X4_hasBin_0]; unfold F_X4_hasBin_0
  refine o_I (T_X4_hasYard h hy hk (by omega)) ?_
  rintro _ _ ⟨rfl, rfl⟩
  refine o_f (by decide) ?_
  refine o_X rfl (show k < 8 by omega) ?_
  have hb := hI.2 k (by omega)
  rw [h.r2, h.h k (by omega), show (if nI (L (12 + k)) ≤ (0 : Int32) then (0 : Int32) else 1) = (if L (12 + k) = 0 then 0 else 1) by
    by_cases e : L (12 + k) = 0
    · rw [if_pos e, e]; rfl
    · rw [if_neg e, if_neg (nI_nle (by omega) (by omega))]]
  refine o_Z ?_ (i_r ⟨rfl, rfl⟩)
  split
  · exact Or.inl rfl
  · exact Or.inr rfl
theorem T_X4_hasBin0 {x : Int32} (h : LA S p y d L) (hx : oY y x) (hg : 4 ≤ f) : zI (F_X4_hasBin f 0 [.ref p, .int x] S) (fun x S2 => x = 0 ∧ S2 = S) := by
  obtain ⟨g, ge, hG⟩ := g1 hg; subst ge; clear hg; have hg := hG; clear hG
  rw [E_X4_hasBin_0]; unfold F_X4_hasBin_0
  refine o_I (T_X4_hasYard0 h hx (by omega)) ?_
  rintro _ _ ⟨rfl, rfl⟩
  refine o_t rfl ?_
  obtain ⟨g, ge, hG⟩ := g1 hg; subst ge; clear hg; have hg := hG; clear hG
  rw [E_X4_hasBin_1]; unfold F_X4_hasBin_1
  obtain ⟨g, ge, hG⟩ := g1 hg; subst ge; clear hg; have hg := hG; clear hG
  rw [E_X4_hasBin_2]; unfold F_X4_hasBin_2
  exact o_Z (Or.inl rfl) (i_r ⟨rfl, rfl⟩)
theorem T_X4_binBits (h : LA S p y d L) (hI : LI B L) (hy : y ≤ 8) (hg : 10 ≤ f) : zI (F_X4_binBits f 0 [.ref p] S) (fun x S2 => x = nI (bs (fun k => L (12 + k) != 0) y) ∧ S2 = S) := by
  obtain ⟨g, ge, hG⟩ := g1 hg; subst ge; clear hg; have hg := hG; clear hG
  rw [E_X4_binBits_0]; unfold F_X4_binBits_0
  refine o_loop (F := fun f vs S => F_X4_binBits f 1 vs S) (c := 1) (B := 0) (y := y) (fun k vs S2 => vs = [.ref p, .int (nI (bs (fun k => L (12 + k) != 0) k)), .int (nI k)] ∧ S2 = S) ?_ ?_ 0 _ S g (by omega) ⟨rfl, rfl⟩ (by omega)
  · rintro k _ _ g hk ⟨rfl, rfl⟩ hg rec
    obtain ⟨g, ge, hG⟩ := g1 hg; subst ge; clear hg; have hg := hG; clear hG
    show zO (F_X4_binBits (g + 1) 1 _ _) _
    rw [E_X4_binBits_1]; unfold F_X4_binBits_1
    rw [h.yy]
    refine o_f (nI_ge hk (by omega)) ?_
    refine o_X rfl (show k < 8 by omega) ?_
    have hb := hI.2 k (by omega)
    rw [h.r2, h.h k (by omega)]
    refine o_lI ?_
    rw [bs_orI (fun k => L (12 + k) != 0) (by omega) (by rw [show (0 : Int32) = nI 0 from rfl, nI_leI (by omega) (by omega)]; simp)]
    exact rec g _ _ (by omega) ⟨by rw [nI_1], rfl⟩
  · rintro _ _ g ⟨rfl, rfl⟩ hg
    obtain ⟨g, ge, hG⟩ := g1 hg; subst ge; clear hg; have hg := hG; clear hG
    show zO (F_X4_binBits (g + 1) 1 _ _) _
    rw [E_X4_binBits_1]; unfold F_X4_binBits_1
    rw [h.yy]
    exact o_t (nI_le (Nat.le_refl _) (by omega)) (i_r ⟨rfl, rfl⟩)
theorem T_X4_room (h : LA S p y d L) (hI : LI B L) (hy : y ≤ 8) (hg : 10 ≤ f) : zI (F_X4_room f 0 [.ref p] S) (fun x S2 => x = nI (sm (fun k => L (12 + k) - L (20 + k)) y) ∧ S2 = S) := by
  obtain ⟨g, ge, hG⟩ := g1 hg; subst ge; clear hg; have hg := hG; clear hG
  rw [E_X4_room_0]; unfold F_X4_room_0
  refine o_loop (F := fun f vs S => F_X4_room f 1 vs S) (c := 1) (B := 0) (y := y) (fun k vs S2 => vs = [.ref p, .int (nI (sm (fun k => L (12 + k) - L (20 + k)) k)), .int (nI k)] ∧ S2 = S) ?_ ?_ 0 _ S g (by omega) ⟨rfl, rfl⟩ (by omega)
  · rintro k _ _ g hk ⟨rfl, rfl⟩ hg rec
    obtain ⟨g, ge, hG⟩ := g1 hg; subst ge; clear hg; have hg := hG; clear hG
    show zO (F_X4_room (g + 1) 1 _ _) _
    rw [E_X4_room_1]; unfold F_X4_room_1
    rw [h.yy]
    refine o_f (nI_ge hk (by omega)) ?_
    refine o_X rfl (show k < 8 by omega) ?_
    refine o_X rfl (show k < 8 by omega) ?_
    have hb := hI.2 k (by omega)
    rw [h.r2, h.r3, h.h k (by omega), h.i k (by omega), pk_sub hb.2.1, nI_add]
    refine o_lI ?_
    exact rec g _ _ (by omega) ⟨by rw [nI_1]; rfl, rfl⟩
  · rintro _ _ g ⟨rfl, rfl⟩ hg
    obtain ⟨g, ge, hG⟩ := g1 hg; subst ge; clear hg; have hg := hG; clear hG
    show zO (F_X4_room (g + 1) 1 _ _) _
    rw [E_X4_room_1]; unfold F_X4_room_1
    rw [h.yy]
    exact o_t (nI_le (Nat.le_refl _) (by omega)) (i_r ⟨rfl, rfl⟩)
theorem T_X4_above {v : Int32} (h : LA S p y d L) (hy : y ≤ 8) (hg : 10 ≤ f) : zI (F_X4_yardsAbove f 0 [.ref p, .int v] S) (fun x S2 => x = nI (bs (fun k => decide (v < nI (L (4 + k)))) y) ∧ S2 = S) := by
  obtain ⟨g, ge, hG⟩ := g1 hg; subst ge; clear hg; have hg := hG; clear hG
  rw [E_X4_yardsAbove_0]; unfold F_X4_yardsAbove_0
  refine o_loop (F := fun f vs S => F_X4_yardsAbove f 1 vs S) (c := 1) (B := 0) (y := y) (fun k vs S2 => vs = [.ref p, .int v, .int (nI (bs (fun k => decide (v < nI (L (4 + k)))) k)), .int (nI k)] ∧ S2 = S) ?_ ?_ 0 _ S g (by omega) ⟨rfl, rfl⟩ (by omega)
  · rintro k _ _ g hk ⟨rfl, rfl⟩ hg rec
    obtain ⟨g, ge, hG⟩ := g1 hg; subst ge; clear hg; have hg := hG; clear hG
    show zO (F_X4_yardsAbove (g + 1) 1 _ _) _
    rw [E_X4_yardsAbove_1]; unfold F_X4_yardsAbove_1
    rw [h.yy]
    refine o_f (nI_ge hk (by omega)) ?_
    refine o_X rfl (show k < 8 by omega) ?_
    rw [h.r1, h.l k (by omega)]
    refine o_lI ?_
    rw [bs_orI (fun k => decide (v < nI (L (4 + k)))) (by omega) (by rw [decide_eq_false_iff_not, Int32.not_lt])]
    exact rec g _ _ (by omega) ⟨by rw [nI_1], rfl⟩
  · rintro _ _ g ⟨rfl, rfl⟩ hg
    obtain ⟨g, ge, hG⟩ := g1 hg; subst ge; clear hg; have hg := hG; clear hG
    show zO (F_X4_yardsAbove (g + 1) 1 _ _) _
    rw [E_X4_yardsAbove_1]; unfold F_X4_yardsAbove_1
    rw [h.yy]
    exact o_t (nI_le (Nat.le_refl _) (by omega)) (i_r ⟨rfl, rfl⟩)
theorem T_X4_emptyBin {k pe : Nat} (h : LA S p y d L) (hk : k < 8) (hg : 1 ≤ f) : zI (F_X4_emptyBin f 0 [.ref p, .int (nI k), .int (nI pe)] S) (fun x S2 => x = nI (L (20 + k)) ∧ LA S2 p y d (empB L k pe) ∧ Fr (dL p) S S2) := by
  obtain ⟨g, ge, hG⟩ := g1 hg; subst ge; clear hg; have hg := hG; clear hG
  rw [E_X4_emptyBin_0]; unfold F_X4_emptyBin_0
  refine o_X rfl hk ?_
  refine o_X rfl hk ?_
  rw [h.r3]
  refine o_s (fun S1 e1 => ?_)
  refine o_s (fun S2 e2 => ?_)
  have h1 := h.si (v := 0) hk e1
  rw [show gI S1 p 7 = nI (L 3) by rw [show (7 : Nat) = 4 + 3 from rfl, h1.c 3 (by omega), up1_at, if_neg (by omega)], nI_add] at e2
  refine i_r ⟨?_, h1.sc (k := 3) (by omega) e2, (((Fr.refl S).sI e1 (by omega)).sI e2 (by omega))⟩
  rw [h.i k hk]
theorem T_X4_setBin {k m : Nat} (h : LA S p y d L) (hk : k < 8) (hg : 1 ≤ f) : zU (F_X4_setBin f 0 [.ref p, .int (nI k), .int (nI m)] S) (fun S2 => LA S2 p y d (setB L k m) ∧ Fr (dL p) S S2) := by
  obtain ⟨g, ge, hG⟩ := g1 hg; subst ge; clear hg; have hg := hG; clear hG
  rw [E_X4_setBin_0]; unfold F_X4_setBin_0
  refine o_X rfl hk ?_
  rw [h.r2]
  refine o_s (fun S1 e1 => ?_)
  have h1 := h.sh hk e1
  refine o_X rfl hk ?_
  rw [h1.r3]
  refine o_s (fun S2 e2 => ?_)
  exact u_r ⟨h1.si (v := 0) hk e2, (((Fr.refl S).sI e1 (by omega)).sI e2 (by omega))⟩
theorem T_X4_takeBin {k : Nat} (h : LA S p y d L) (hk : k < 8) (hg : 2 ≤ f) : zI (F_X4_takeBin f 0 [.ref p, .int (nI k)] S) (fun x S2 => x = nI (L (20 + k)) ∧ LA S2 p y d (setB L k 0) ∧ Fr (dL p) S S2) := by
  obtain ⟨g, ge, hG⟩ := g1 hg; subst ge; clear hg; have hg := hG; clear hG
  rw [E_X4_takeBin_0]; unfold F_X4_takeBin_0
  refine o_X rfl hk ?_
  refine o_V (T_X4_setBin (m := 0) h hk hg) ?_
  rintro S2 ⟨h2, h3⟩
  exact i_r ⟨by rw [h.r3, h.i k hk], h2, h3⟩
theorem T_X4_sweepYard {k : Nat} (h : LA S p y d L) (hk : k < 8) (hg : 1 ≤ f) : zI (F_X4_sweepYard f 0 [.ref p, .int (nI k)] S) (fun x S2 => x = nI (L (4 + k)) ∧ LA S2 p y d (up1 L (4 + k) 0) ∧ Fr (dL p) S S2) := by
  obtain ⟨g, ge, hG⟩ := g1 hg; subst ge; clear hg; have hg := hG; clear hG
  rw [E_X4_sweepYard_0]; unfold F_X4_sweepYard_0
  refine o_X rfl hk ?_
  refine o_X rfl hk ?_
  rw [h.r1]
  refine o_s (fun S1 e1 => ?_)
  exact i_r ⟨by rw [h.l k hk], h.sl (v := 0) hk e1, (Fr.refl S).sI e1 (by omega)⟩
theorem T_X4_drop {k v : Nat} (h : LA S p y d L) (hk : k < 8) (hv : L (4 + k) + v < 2 ^ 31) (hg : 1 ≤ f) : zU (F_X4_drop f 0 [.ref p, .int (nI k), .int (nI v)] S) (fun S2 => LA S2 p y d (drp L k v) ∧ Fr (dL p) S S2) := by
  obtain ⟨g, ge, hG⟩ := g1 hg; subst ge; clear hg; have hg := hG; clear hG
  rw [E_X4_drop_0]; unfold F_X4_drop_0
  refine o_X rfl hk ?_
  refine o_X rfl hk ?_
  rw [h.r1, h.l k hk, nI_add, show (999 : Int32) = nI 999 from rfl, nI_min hv (by omega)]
  refine o_s (fun S1 e1 => ?_)
  refine u_r ⟨?_, (Fr.refl S).sI e1 (by omega)⟩
  unfold drp
  rw [Nat.min_comm]
  exact h.sl hk e1
theorem T_X4_emptyBins {pe : Nat} (h : LA S p y d L) (hI : LI B L) (hy : y ≤ 8) (hg : 40 ≤ f) : zU (F_X4_emptyBins f 0 [.ref p, .int (nI pe)] S) (fun S2 => LA S2 p y d (empTo L pe y) ∧ Fr (dL p) S S2) := by
  obtain ⟨g, ge, hG⟩ := g1 hg; subst ge; clear hg; have hg := hG; clear hG
  rw [E_X4_emptyBins_0]; unfold F_X4_emptyBins_0
  refine o_loop (F := fun f vs S => F_X4_emptyBins f 1 vs S) (c := 2) (B := 2) (y := y) (fun k vs S2 => vs = [.ref p, .int (nI pe), .int (nI k)] ∧ LA S2 p y d (empTo L pe k) ∧ Fr (dL p) S S2 ∧ ∀ j, j < 8 → empTo L pe k (12 + j) = L (12 + j)) ?_ ?_ 0 _ S g (by omega) ⟨rfl, h, Fr.refl S, fun _ _ => rfl⟩ (by omega)
  · rintro k _ S2 g hk ⟨rfl, h2, hf, hh⟩ hg rec
    obtain ⟨g, ge, hG⟩ := g1 hg; subst ge; clear hg; have hg := hG; clear hG
    show zO (F_X4_emptyBins (g + 1) 1 _ _) _
    rw [E_X4_emptyBins_1]; unfold F_X4_emptyBins_1
    rw [h2.yy]
    refine o_f (nI_ge hk (by omega)) ?_
    refine o_X rfl (show k < 8 by omega) ?_
    have hb := hI.2 k (by omega)
    rw [h2.r2, h2.h k (by omega), hh k (by omega)]
    refine o_if (fun c => ?_) (fun c => ?_)
    · rw [show (0 : Int32) = nI 0 from rfl, nI_leI (by omega) (by omega)] at c
      obtain ⟨g, ge, hG⟩ := g1 hg; subst ge; clear hg; have hg := hG; clear hG
      rw [E_X4_emptyBins_2]; unfold F_X4_emptyBins_2
      have e : empTo L pe (k + 1) = empTo L pe k := if_pos (by rw [hh k (by omega)]; omega)
      exact rec g _ _ (by omega) ⟨by rw [nI_1], by rw [e]; exact h2, hf, by rw [e]; exact hh⟩
    · rw [show (0 : Int32) = nI 0 from rfl, nI_leI (by omega) (by omega)] at c
      refine o_I (T_X4_emptyBin (pe := pe) h2 (by omega) (by omega)) ?_
      rintro _ S3 ⟨-, h3, hf3⟩
      obtain ⟨g, ge, hG⟩ := g1 hg; subst ge; clear hg; have hg := hG; clear hG
      rw [E_X4_emptyBins_2]; unfold F_X4_emptyBins_2
      have e : empTo L pe (k + 1) = empB (empTo L pe k) k pe := if_neg (by rw [hh k (by omega)]; omega)
      refine rec g _ _ (by omega) ⟨by rw [nI_1], by rw [e]; exact h3, hf.tr hf3, fun j hj => ?_⟩
      rw [e]
      unfold empB
      rw [up1_at, if_neg (by omega), up1_at, if_neg (by omega)]
      exact hh j hj
  · rintro _ S2 g ⟨rfl, h2, hf, hh⟩ hg
    obtain ⟨g, ge, hG⟩ := g1 hg; subst ge; clear hg; have hg := hG; clear hG
    show zO (F_X4_emptyBins (g + 1) 1 _ _) _
    rw [E_X4_emptyBins_1]; unfold F_X4_emptyBins_1
    rw [h2.yy]
    exact o_t (nI_le (Nat.le_refl _) (by omega)) (u_r ⟨h2, hf⟩)
theorem T_X4_become {q : Nat} (h : LA S q y d L) (hr : LR S p) (hpq : p + 4 ≤ q ∨ q + 4 ≤ p) (hg : 11 ≤ f) : zU (F_X4_become f 0 [.ref p, .ref q] S) (fun S2 => LA S2 p y d L ∧ Fr (dL p) S S2) := by
  obtain ⟨g, ge, hG⟩ := g1 hg; subst ge; clear hg; have hg := hG; clear hG
  rw [E_X4_become_0]; unfold F_X4_become_0
  refine o_s (fun S1 e1 => ?_)
  have f1 := (Fr.refl (D := dL p) S).sI e1 (by omega)
  refine o_s (fun S2 e2 => ?_)
  have f2 := f1.sI e2 (by omega)
  refine o_s (fun S3 e3 => ?_)
  have f3 := f2.sI e3 (by omega)
  refine o_s (fun S4 e4 => ?_)
  have f4 := f3.sI e4 (by omega)
  refine o_s (fun S5 e5 => ?_)
  have f5 := f4.sI e5 (by omega)
  refine o_s (fun S6 e6 => ?_)
  have f6 := f5.sI e6 (by omega)
  have nq : ∀ x k : Nat, q ≤ x → x ≤ q + 3 → ¬ dL p x k := fun x k h1 h2 h3 => by omega
  have hq (T : aS) (hT : Fr (dL p) S T) : LA T q y d L := h.fr hT nq
  rw [h.yy] at e1
  rw [show (4 : Nat) = 4 + 0 from rfl, (hq S1 f1).c 0 (by omega)] at e2
  rw [show (5 : Nat) = 4 + 1 from rfl, (hq S2 f2).c 1 (by omega)] at e3
  rw [show (6 : Nat) = 4 + 2 from rfl, (hq S3 f3).c 2 (by omega)] at e4
  rw [show (7 : Nat) = 4 + 3 from rfl, (hq S4 f4).c 3 (by omega)] at e5
  rw [(hq S5 f5).dd] at e6
  have b : gI S6 p 0 = nI y ∧ gI S6 p 8 = nI d ∧ ∀ k, k < 4 → gI S6 p (4 + k) = nI (L k) := by
    subst e6 e5 e4 e3 e2 e1
    refine ⟨by simp [gI_sI], by simp [gI_sI], fun k hk => ?_⟩
    match k, hk with
    | 0, _ => simp [gI_sI]
    | 1, _ => simp [gI_sI]
    | 2, _ => simp [gI_sI]
    | 3, _ => simp [gI_sI]
  clear e1 e2 e3 e4 e5 e6 f1 f2 f3 f4 f5
  refine o_loop (F := fun f vs S => F_X4_become f 1 vs S) (c := 1) (B := 0) (y := 8) (fun k vs T => vs = [.ref p, .ref q, .int (nI k)] ∧ Fr (dL p) S T ∧ (gI T p 0 = nI y ∧ gI T p 8 = nI d ∧ ∀ k, k < 4 → gI T p (4 + k) = nI (L k)) ∧ ∀ j, j < k → gI T (p + 1) j = nI (L (4 + j)) ∧ gI T (p + 2) j = nI (L (12 + j)) ∧ gI T (p + 3) j = nI (L (20 + j))) ?_ ?_ 0 _ _ g (by omega) ⟨rfl, f6, b, fun j hj => absurd hj (Nat.not_lt_zero j)⟩ (by omega)
  · rintro k _ T g hk ⟨rfl, hf, hb, hj⟩ hg rec
    obtain ⟨g, ge, hG⟩ := g1 hg; subst ge; clear hg; have hg := hG; clear hG
    show zO (F_X4_become (g + 1) 1 _ _) _
    rw [E_X4_become_1]; unfold F_X4_become_1
    refine o_f (nI_ge (b := 8) hk (by omega)) ?_
    refine o_X rfl hk ?_
    refine o_X rfl hk ?_
    rw [(hr.fr hf).1, (hq T hf).r1, (hq T hf).l k hk]
    refine o_s (fun T1 t1 => ?_)
    have f1 := hf.sI t1 (by omega)
    refine o_X rfl hk ?_
    refine o_X rfl hk ?_
    rw [(hr.fr f1).2.1, (hq T1 f1).r2, (hq T1 f1).h k hk]
    refine o_s (fun T2 t2 => ?_)
    have f2 := f1.sI t2 (by omega)
    refine o_X rfl hk ?_
    refine o_X rfl hk ?_
    rw [(hr.fr f2).2.2, (hq T2 f2).r3, (hq T2 f2).i k hk]
    refine o_s (fun T3 t3 => ?_)
    refine rec g _ _ (by omega) ⟨by rw [nI_1], f2.sI t3 (by omega), ?_, fun j hj2 => ?_⟩
    · subst t3 t2 t1
      refine ⟨?_, ?_, fun j hj3 => ?_⟩ <;> rw [gI_sI, if_neg (by omega), gI_sI, if_neg (by omega), gI_sI, if_neg (by omega)]
      · exact hb.1
      · exact hb.2.1
      · exact hb.2.2 j hj3
    · subst t3 t2 t1
      simp only [gI_sI]
      by_cases e : j = k
      · subst e
        simp
      · have := hj j (by omega)
        simp [e, this]
  · rintro _ T g ⟨rfl, hf, hb, hj⟩ hg
    obtain ⟨g, ge, hG⟩ := g1 hg; subst ge; clear hg; have hg := hG; clear hG
    show zO (F_X4_become (g + 1) 1 _ _) _
    rw [E_X4_become_1]; unfold F_X4_become_1
    refine o_t (nI_le (a := 8) (b := 8) (Nat.le_refl _) (by omega)) (u_r ⟨⟨hr.fr hf, hb.1, hb.2.1, hb.2.2, fun k hk => (hj k hk).1, fun k hk => (hj k hk).2.1, fun k hk => (hj k hk).2.2⟩, hf⟩)
end X4

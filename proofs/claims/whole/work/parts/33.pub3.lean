/-! what is done by hand, and undone: both sides -/
def pu (L : Lk) (hi : List Lk) : List Lk := (L :: hi).take 16
theorem pu_len (L : Lk) (hi : List Lk) : (pu L hi).length = min 16 (hi.length + 1) := by
  unfold pu
  rw [List.length_take, List.length_cons]
theorem pu_0 (L : Lk) (hi : List Lk) : (pu L hi).getD 0 L0 = L := by
  unfold pu
  rfl
theorem pu_s {L : Lk} {hi : List Lk} {i : Nat} (h : i + 1 < 16) : (pu L hi).getD (i + 1) L0 = hi.getD i L0 := by
  unfold pu
  rw [List.getD_eq_getElem?_getD, List.getD_eq_getElem?_getD, List.getElem?_take, if_pos h, List.getElem?_cons_succ]
theorem pu_mem {L M : Lk} {hi : List Lk} (h : M ∈ pu L hi) : M = L ∨ M ∈ hi := by
  have := List.mem_of_mem_take h
  exact List.mem_cons.mp this
abbrev dH : Nat → Nat → Prop := fun x _ => 49 ≤ x ∧ x ≤ 114
section P3
variable {S T : aS} {q : Nat} {P : aP} {L : Lk} {f n B : Nat}
theorem CX.h0 (h : CX S q P) : gR S 49 0 = 50 := h.1.1 49 0 (by omega) rfl
theorem CX.h1 (h : CX S q P) {i : Nat} (hi : i < 16) : gR S 50 i = 51 + 4 * i := by
  have hd := co_dec (N := 16) (P := fun i => RX 50 i = false ∧ R0 50 i = 51 + 4 * i) (by decide +kernel) hi
  rw [h.1.1 50 i (by omega) hd.1]
  exact hd.2
theorem T_X3_push {hi : List Lk} (hX : CX S q P) (hL : LA S 43 (pY P) (pDe P) L) (hH : CHi S P hi) (hl : hi.length ≤ 16) (hg : 20 ≤ f) : zU (F_X3_push f 0 [.ref 49, .ref 43] S) (fun T => CHi T P (pu L hi) ∧ LA T 43 (pY P) (pDe P) L ∧ CX T q P ∧ Fr dH S T) := by
  obtain ⟨nx, h0, h1, h2, h3⟩ := hH
  have hlk : lk (51 + 4 * nx) := Or.inr (Or.inr (Or.inl ⟨nx, h0, rfl⟩))
  obtain ⟨g, ge, hG⟩ := g1 hg; subst ge; clear hg; have hg := hG; clear hG; rw [E_X3_push_0]; unfold F_X3_push_0
  rw [h1]
  refine o_X rfl h0 ?_
  rw [hX.h0, hX.h1 h0]
  refine o_V (T_now hX hL hlk (by omega) (by omega)) ?_
  rintro S1 ⟨l1, n1, x1, f0⟩
  have f1 : Fr dH S S1 := f0.mono (fun x k h => by unfold dL at h; unfold dH; omega)
  have g1' : gI S1 49 1 = nI nx := by rw [f0.2 _ _ (by unfold dL; omega)]; exact h1
  have g2' : gI S1 49 2 = nI hi.length := by rw [f0.2 _ _ (by unfold dL; omega)]; exact h2
  refine o_s (fun S2 e2 => ?_)
  refine o_s (fun S3 e3 => ?_)
  rw [g1', nI_1, show (16 : Int32) = nI 16 from rfl, pk_rem (by omega) (by omega) (by omega)] at e2
  have g2 : gI S2 49 2 = nI hi.length := by
    subst e2
    rw [gI_sI, if_neg (by omega)]
    exact g2'
  rw [g2, nI_1, show (16 : Int32) = nI 16 from rfl, nI_min (by omega) (by omega)] at e3
  have f23 : Fr (fun x _ => x = 49) S1 S3 := ((Fr.refl _).sI e2 rfl).sI e3 rfl
  have f3 : Fr dH S S3 := f1.tr (f23.mono (fun x k h => by unfold dH; omega))
  refine u_r ⟨⟨(nx + 1) % 16, Nat.mod_lt _ (by omega), ?_, ?_, fun i hi2 => ?_⟩, n1.fr f23 (fun x k a b c => by omega), hX.fr f3 (fun x k h => by unfold dH at h; unfold dN; omega), f3⟩
  · subst e3 e2
    rw [gI_sI, if_neg (by omega), gI_sI, if_pos ⟨rfl, rfl⟩]
  · subst e3
    rw [gI_sI, if_pos ⟨rfl, rfl⟩, pu_len, Nat.min_comm]
  · rw [pu_len] at hi2
    cases i with
    | zero =>
      rw [pu_0, show ((nx + 1) % 16 + 15 - 0) % 16 = nx by omega]
      exact l1.fr f23 (fun x k a b c => by omega)
    | succ i =>
      rw [pu_s (by omega), show ((nx + 1) % 16 + 15 - (i + 1)) % 16 = (nx + 15 - i) % 16 by omega]
      have ho := h3 i (by omega)
      have hm := Nat.mod_lt (nx + 15 - i) (show 0 < 16 by omega)
      have hne : (nx + 15 - i) % 16 ≠ nx := by omega
      exact (ho.fr f0 (fun x k a b c => by unfold dL at c; omega)).fr f23 (fun x k a b c => by omega)
theorem T_X3_pop {hi : List Lk} {M : Lk} (hX : CX S q P) (hH : CHi S P (M :: hi)) (hl : hi.length + 1 ≤ 16) (hg : 20 ≤ f) : zI (F_X3_pop f 0 [.ref 49, .ref 43] S) (fun v T => v = 1 ∧ CHi T P hi ∧ LA T 43 (pY P) (pDe P) M ∧ Fr (fun x k => x = 49 ∨ (43 ≤ x ∧ x ≤ 46)) S T) := by
  obtain ⟨nx, h0, h1, h2, h3⟩ := hH
  obtain ⟨g, ge, hG⟩ := g1 hg; subst ge; clear hg; have hg := hG; clear hG; rw [E_X3_pop_0]; unfold F_X3_pop_0
  rw [h2]
  refine o_f (nI_ne0 (by rw [List.length_cons]; omega) (by rw [List.length_cons]; omega)) ?_
  refine o_s (fun S1 e1 => ?_)
  refine o_s (fun S2 e2 => ?_)
  rw [h1, show (16 : Int32) = nI 16 from rfl, nI_add, show nx + 16 = nx + 15 + 1 by omega, nI_pred, pk_rem (by omega) (by omega) (by omega)] at e1
  have g2 : gI S1 49 2 = nI (hi.length + 1) := by
    subst e1
    rw [gI_sI, if_neg (by omega)]
    exact h2
  rw [g2, nI_pred] at e2
  have f2 : Fr (fun x _ => x = 49) S S2 := ((Fr.refl _).sI e1 rfl).sI e2 rfl
  have g1' : gI S2 49 1 = nI ((nx + 15) % 16) := by
    subst e2 e1
    rw [gI_sI, if_neg (by omega), gI_sI, if_pos ⟨rfl, rfl⟩]
  have x2 := hX.fr f2 (fun x k h => by unfold dN; omega)
  have hm := Nat.mod_lt (nx + 15) (show 0 < 16 by omega)
  rw [g1']
  refine o_X rfl hm ?_
  rw [x2.h0, x2.h1 hm]
  have hlk : lk (51 + 4 * ((nx + 15) % 16)) := Or.inr (Or.inr (Or.inl ⟨_, hm, rfl⟩))
  have hLm : LA S2 (51 + 4 * ((nx + 15) % 16)) (pY P) (pDe P) M := (h3 0 (by rw [List.length_cons]; omega)).fr f2 (fun x k a b c => by omega)
  refine o_V (T_X4_become hLm (x2.lr lk43) (by omega) (by omega)) ?_
  rintro S3 ⟨l3, f3⟩
  refine o_Z (Or.inr rfl) (i_r ⟨rfl, ⟨(nx + 15) % 16, hm, ?_, ?_, fun i hi2 => ?_⟩, l3, (f2.mono (fun x k h => Or.inl h)).tr (f3.mono (fun x k h => Or.inr h))⟩)
  · rw [f3.2 _ _ (by unfold dL; omega)]
    exact g1'
  · rw [f3.2 _ _ (by unfold dL; omega)]
    subst e2
    rw [gI_sI, if_pos ⟨rfl, rfl⟩]
  · have ho := h3 (i + 1) (by rw [List.length_cons]; omega)
    rw [show ((nx + 15) % 16 + 15 - i) % 16 = (nx + 15 - (i + 1)) % 16 by omega]
    exact (ho.fr f2 (fun x k a b c => by omega)).fr f3 (fun x k a b c => by unfold dL at c; omega)
/-- the reference keeps what was -/
theorem T_X13_keeps {hi : List Lk} (h : MM S P) (hA : MA S 0 L) (hH : MHi S hi) (hl : hi.length ≤ 16) (hg : 100 ≤ f) : zU (F_X13_keeps f 0 [.ref 186] S) (fun T => MHi T (pu L hi) ∧ Fr (fun x k => (x = 200 ∧ 180 ≤ k ∧ k < 756) ∨ (x = 186 ∧ k = 23)) S T) := by
  -- the last part, from a history of at most 15
  have last : ∀ (U : aS) (g : Nat) (hs : List Lk), 40 ≤ g → hs.length ≤ 15 → MR U → MA U 0 L → MHi U hs → zU (F_X13_keeps g 1 [.ref 186] U) (fun T => gI T 186 23 = nI (hs.length + 1) ∧ MA T (36 * (5 + hs.length)) L ∧ (∀ i, i < hs.length → MA T (36 * (5 + (hs.length - 1 - i))) (hs.getD i L0)) ∧ Fr (fun x k => (x = 200 ∧ 180 ≤ k ∧ k < 756) ∨ (x = 186 ∧ k = 23)) U T) := by
    intro U g hs hg hl2 hR hA2 hH2
    obtain ⟨g, ge, hG⟩ := g1 hg; subst ge; clear hg; have hg := hG; clear hG; rw [E_X13_keeps_1]; unfold F_X13_keeps_1
    rw [hH2.1, show (36 : Int32) = nI 36 from rfl, show (5 : Int32) = nI 5 from rfl, nI_add, pk_mul]
    refine o_V (T_X13_copies (a := 0) (c := 36 * (5 + hs.length)) (n := 28) hR (by omega) (by omega) (by omega) (by omega)) ?_
    rintro U1 ⟨c1, f1⟩
    rw [f1.2 186 23 (by omega), hH2.1, nI_1]
    refine o_s (fun U2 e2 => ?_)
    have f2 : Fr (fun x _ => x = 186) U1 U2 := (Fr.refl _).sI e2 rfl
    refine u_r ⟨by subst e2; rw [gI_sI, if_pos ⟨rfl, rfl⟩], fun k hk => ?_, fun i hi k hk => ?_, (f1.mono (fun x k h => by omega)).sI e2 (by omega)⟩
    · rw [f2.2 _ _ (by omega), c1 k hk]
      exact hA2 k hk
    · rw [f2.2 _ _ (by omega), f1.2 _ _ (by omega)]
      exact hH2.2 i hi k hk
  obtain ⟨g, ge, hG⟩ := g1 hg; subst ge; clear hg; have hg := hG; clear hG; rw [E_X13_keeps_0]; unfold F_X13_keeps_0
  rw [hH.1]
  by_cases c16 : hi.length = 16
  · refine o_t (by rw [c16]; rfl) ?_
    -- shift
    refine o_loop (F := fun f vs S => F_X13_keeps f 2 vs S) (c := 1) (B := 60) (y := 16) (fun k vs U => 1 ≤ k ∧ vs = [.ref 186, .int (nI k)] ∧ (∀ j, j + 1 < k → MA U (36 * (5 + j)) (hi.getD (14 - j) L0)) ∧ (∀ j, k ≤ j + 1 → j < 16 → MA U (36 * (5 + j)) (hi.getD (15 - j) L0)) ∧ Fr (fun x k => (x = 200 ∧ 180 ≤ k ∧ k < 756) ∨ (x = 186 ∧ k = 23)) S U ∧ gI U 186 23 = nI 16) ?_ ?_ 1 _ S g (by omega) ⟨by omega, rfl, fun j hj => by omega, fun j h1 h2 => ?_, Fr.refl S, by rw [hH.1, c16]⟩ (by omega)
    · rintro k _ U g hk ⟨hk1, rfl, hlo, hhi, hf, h16⟩ hg rec
      show zO (F_X13_keeps g 2 _ _) _
      obtain ⟨g, ge, hG⟩ := g1 hg; subst ge; clear hg; have hg := hG; clear hG; rw [E_X13_keeps_2]; unfold F_X13_keeps_2
      refine o_f (nI_ge (b := 16) hk (by omega)) ?_
      obtain ⟨j, rfl⟩ : ∃ j, k = j + 1 := ⟨k - 1, by omega⟩
      rw [show (36 : Int32) = nI 36 from rfl, show (5 : Int32) = nI 5 from rfl, nI_add, pk_mul, show 5 + (j + 1) = 5 + j + 1 by omega, nI_pred, pk_mul]
      refine o_V (T_X13_copies (a := 36 * (5 + j + 1)) (c := 36 * (5 + j)) (n := 28) (h.1.fr hf) (by omega) (by omega) (by omega) (by omega)) ?_
      rintro U1 ⟨c1, f1⟩
      refine rec g _ _ (by omega) ⟨by omega, by rw [nI_1], fun i hi2 => ?_, fun i h1 h2 => ?_, hf.tr (f1.mono (fun x k h => by omega)), by rw [f1.2 _ _ (by omega)]; exact h16⟩
      · by_cases e : i = j
        · subst e
          intro x hx
          rw [c1 x hx]
          have := hhi (i + 1) (by omega) (by omega) x hx
          rw [show 15 - (i + 1) = 14 - i by omega, show 5 + (i + 1) = 5 + i + 1 by omega] at this
          exact this
        · exact (hlo i (by omega)).fr f1 (fun x a b c => by omega)
      · exact (hhi i (by omega) h2).fr f1 (fun x a b c => by omega)
    · rintro _ U g ⟨hk1, rfl, hlo, hhi, hf, h16⟩ hg
      show zO (F_X13_keeps g 2 _ _) _
      obtain ⟨g, ge, hG⟩ := g1 hg; subst ge; clear hg; have hg := hG; clear hG; rw [E_X13_keeps_2]; unfold F_X13_keeps_2
      refine o_t (nI_le (a := 16) (b := 16) (by omega) (by omega)) ?_
      rw [h16, nI_pred]
      refine o_s (fun U1 e1 => ?_)
      have f1 : Fr (fun x k => x = 186 ∧ k = 23) U U1 := (Fr.refl _).sI e1 ⟨rfl, rfl⟩
      have hd : (hi.take 15).length = 15 := by rw [List.length_take, c16]; rfl
      have hgd : ∀ i, i < 15 → (hi.take 15).getD i L0 = hi.getD i L0 := fun i hi2 => by
        rw [List.getD_eq_getElem?_getD, List.getD_eq_getElem?_getD, List.getElem?_take, if_pos hi2]
      refine u_m (last U1 g (hi.take 15) (by omega) (by omega) ((h.1.fr hf).fr f1) ((hA.fr hf (fun x a b c => by omega)).fr f1 (fun x a b c => by omega)) ⟨by subst e1; rw [gI_sI, if_pos ⟨rfl, rfl⟩, hd], fun i hi2 => ?_⟩) ?_
      · rw [hd] at hi2 ⊢
        rw [hgd i hi2]
        have := (hlo (15 - 1 - i) (by omega)).fr f1 (fun x a b c => by omega)
        rw [show 14 - (15 - 1 - i) = i by omega] at this
        exact this
      · rintro T ⟨t1, t2, t3, t4⟩
        rw [hd] at t1 t2 t3
        refine ⟨⟨by rw [t1, pu_len, c16]; rfl, fun i hi2 => ?_⟩, (hf.tr (f1.mono (fun x k h => Or.inr h))).tr t4⟩
        rw [pu_len, c16] at hi2 ⊢
        cases i with
        | zero => rw [pu_0]; exact t2
        | succ i =>
          rw [pu_s (by omega), ← hgd i (by omega)]
          have := t3 i (by omega)
          rw [show 15 - 1 - i = min 16 (16 + 1) - 1 - (i + 1) by omega] at this
          exact this
    · have := hH.2 (15 - j) (by omega)
      rw [c16, show 16 - 1 - (15 - j) = j by omega] at this
      exact this
  · refine o_f (nI_ne (b := 16) c16 (by omega) (by omega)) ?_
    refine u_m (last S g hi (by omega) (by omega) h.1 hA hH) ?_
    rintro T ⟨t1, t2, t3, t4⟩
    refine ⟨⟨by rw [t1, pu_len]; exact congrArg nI (by omega), fun i hi2 => ?_⟩, t4⟩
    rw [pu_len] at hi2 ⊢
    cases i with
    | zero => rw [pu_0, show min 16 (hi.length + 1) - 1 - 0 = hi.length by omega]; exact t2
    | succ i =>
      rw [pu_s (by omega), show min 16 (hi.length + 1) - 1 - (i + 1) = hi.length - 1 - i by omega]
      exact t3 i (by omega)
end P3

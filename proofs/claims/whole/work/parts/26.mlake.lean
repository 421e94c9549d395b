/-! the reference: plans, lakes, laws -/
theorem nA3 {b n k : Nat} {c : Int32} (hc : c = nI n) : (nI b + c) + nI k = nI (b + (n + k)) := by
  rw [hc, nI_add, nI_add, Nat.add_assoc]
theorem nA2 {b n : Nat} {c : Int32} (hc : c = nI n) : nI b + c = nI (b + n) := by rw [hc, nI_add]
theorem nA2' {b n : Nat} {c : Int32} (hc : c = nI n) : c + nI b = nI (n + b) := by rw [hc, nI_add]
def MR (S : aS) : Prop := ∀ k, gR S 186 k = R0 186 k
section MRS
variable {S S1 : aS} {D : Nat → Nat → Prop}
theorem MR.fr (h : MR S) (hf : Fr D S S1) : MR S1 := fun k => by rw [hf.R]; exact h k
theorem MR.tape (h : MR S) : gR S 186 1 = 187 := h 1
theorem MR.sort (h : MR S) : gR S 186 4 = 188 := h 4
theorem MR.place (h : MR S) : gR S 186 5 = 189 := h 5
theorem MR.value (h : MR S) : gR S 186 6 = 190 := h 6
theorem MR.words (h : MR S) : gR S 186 9 = 191 := h 9
theorem MR.paths (h : MR S) : gR S 186 10 = 192 := h 10
theorem MR.op (h : MR S) : gR S 186 11 = 193 := h 11
theorem MR.arg (h : MR S) : gR S 186 12 = 194 := h 12
theorem MR.names (h : MR S) : gR S 186 14 = 195 := h 14
theorem MR.rnames (h : MR S) : gR S 186 15 = 196 := h 15
theorem MR.lines (h : MR S) : gR S 186 19 = 197 := h 19
theorem MR.facts (h : MR S) : gR S 186 20 = 198 := h 20
theorem MR.pile (h : MR S) : gR S 186 21 = 199 := h 21
theorem MR.state (h : MR S) : gR S 186 22 = 200 := h 22
theorem MR.marked (h : MR S) : gR S 186 24 = 201 := h 24
theorem MR.blown (h : MR S) : gR S 186 29 = 202 := h 29
theorem MR.walked (h : MR S) : gR S 186 30 = 203 := h 30
theorem MR.row (h : MR S) : gR S 186 31 = 204 := h 31
theorem MR.best (h : MR S) : gR S 186 32 = 205 := h 32
theorem MR.mores (h : MR S) : gR S 186 34 = 206 := h 34
end MRS
theorem neg4 {j : Nat} (hj : j < 4) : ¬ (-1 : Int32) - nI j ≤ (-5 : Int32) ∧ ¬ (-5 : Int32) = (-1 : Int32) - nI j ∧ (-1 : Int32) - ((-1 : Int32) - nI j) = nI j ∧ (-1 : Int32) - nI j < 0 := by
  match j, hj with
  | 0, _ => decide
  | 1, _ => decide
  | 2, _ => decide
  | 3, _ => decide
/-- one code of the reference and one step of the class -/
def crl (o a s : Int32) : Prop := (o = 1 ∧ a = s ∧ 0 ≤ s) ∨ (o = 2 ∧ ∃ j : Nat, j < 4 ∧ a = nI j ∧ s = (-1 : Int32) - nI j) ∨ (o = 3 ∧ s = -5) ∨ (o = 4 ∧ s = -10) ∨ (o = 5 ∧ s = -11) ∨ (o = 6 ∧ s = -12) ∨ (o = 7 ∧ s = -8) ∨ (o = 8 ∧ s = -9) ∨ (o = 9 ∧ s = -6) ∨ (o = 10 ∧ s = -7)
def MLs (S : aS) (j : Nat) (cs : List Int32) : Prop := j + cs.length < 1100 ∧ gI S 193 (j + cs.length) = 0 ∧ ∀ k, k < cs.length → crl (gI S 193 (j + k)) (gI S 194 (j + k)) (cs.getD k 0)
def ML (S : aS) (x : Int32) (o : Option (List Int32)) : Prop := (o = none ∧ x = -1) ∨ ∃ cs j, o = some cs ∧ x = nI j ∧ MLs S j cs
def MP (S : aS) (P : aP) : Prop := (gI S 192 0 = nI (pY P) ∧ gI S 192 1 = nI (pN P) ∧ gI S 192 3 = nI (pPe P) ∧ gI S 192 4 = nI (pDe P)) ∧ (∀ i, i < pN P → gI S 192 (8 + 3 * i) = nI (pT P 0 i) ∧ gI S 192 (8 + 3 * i + 1) = nI (pT P 1 i) ∧ gI S 192 (8 + 3 * i + 2) = nI (pT P 2 i)) ∧ (∀ k, k < 8 → gI S 192 (26 + k) = nI (pT P 3 k) ∧ ((gI S 192 (34 + k) = 0 ∧ pT P 4 k = 0) ∨ gI S 192 (34 + k) = nI (pT P 4 k + 1))) ∧ ((pW P = 0 ∧ gI S 192 2 = 1 ∧ gI S 192 42 = 0) ∨ (0 < pW P ∧ gI S 192 2 = nI (pW P) ∧ ∀ k, k < pW P → gI S 192 (42 + k) = nI (pT P 5 k))) ∧ ML S (gI S 192 5) (pDr P) ∧ ML S (gI S 192 6) (pTk P)
def MM (S : aS) (P : aP) : Prop := MR S ∧ MP S P
theorem MLs.fr {S S1 : aS} {D : Nat → Nat → Prop} {j : Nat} {cs : List Int32} (h : MLs S j cs) (hf : Fr D S S1) (hD : ∀ q k, 193 ≤ q → q ≤ 194 → ¬ D q k) : MLs S1 j cs := by
  refine ⟨h.1, by rw [hf.2 _ _ (hD _ _ (by omega) (by omega))]; exact h.2.1, fun k hk => ?_⟩
  rw [hf.2 _ _ (hD _ _ (by omega) (by omega)), hf.2 _ _ (hD _ _ (by omega) (by omega))]
  exact h.2.2 k hk
theorem ML.fr {S S1 : aS} {D : Nat → Nat → Prop} {x : Int32} {o : Option (List Int32)} (h : ML S x o) (hf : Fr D S S1) (hD : ∀ q k, 193 ≤ q → q ≤ 194 → ¬ D q k) : ML S1 x o := by
  rcases h with h | ⟨cs, j, e, e2, h⟩
  · exact Or.inl h
  · exact Or.inr ⟨cs, j, e, e2, h.fr hf hD⟩
theorem MM.fr {S S1 : aS} {D : Nat → Nat → Prop} {P : aP} (h : MM S P) (hf : Fr D S S1) (hD : ∀ q k, 192 ≤ q → q ≤ 194 → ¬ D q k) : MM S1 P := by
  obtain ⟨hr, h1, h2, h3, h4, h5, h6⟩ := h
  have e : ∀ k, gI S1 192 k = gI S 192 k := fun k => hf.2 _ _ (hD _ _ (by omega) (by omega))
  refine ⟨hr.fr hf, ?_, ?_, ?_, ?_, ?_, ?_⟩
  · simp only [e]; exact h1
  · simp only [e]; exact h2
  · simp only [e]; exact h3
  · simp only [e]; exact h4
  · rw [e]; exact h5.fr hf (fun q k a b => hD q k (by omega) b)
  · rw [e]; exact h6.fr hf (fun q k a b => hD q k (by omega) b)
def MA (S : aS) (b : Nat) (L : Lk) : Prop := ∀ k, k < 28 → gI S 200 (b + k) = nI (L k)
section MAS
variable {S S1 : aS} {b k v : Nat} {L M : Lk} {D : Nat → Nat → Prop}
theorem MA.s (h : MA S b L) (e : S1 = sI S 200 (b + k) (nI v)) : MA S1 b (up1 L k v) := by
  subst e
  intro j hj
  rw [gI_sI, up1_at]
  by_cases c : j = k
  · rw [if_pos ⟨rfl, by omega⟩, if_pos c]
  · rw [if_neg (by omega), if_neg c]
    exact h j hj
theorem MA.fr (h : MA S b L) (hf : Fr D S S1) (hD : ∀ k, b ≤ k → k < b + 28 → ¬ D 200 k) : MA S1 b L := fun k hk => by
  rw [hf.2 _ _ (hD _ (by omega) (by omega))]
  exact h k hk
theorem MA.cg (h : MA S b L) (e : ∀ k, k < 28 → L k = M k) : MA S b M := fun k hk => by rw [← e k hk]; exact h k hk
end MAS
theorem opF_cg {L M : Lk} : ∀ {j k : Nat}, (∀ x, k ≤ x → x < k + j → L (12 + x) = M (12 + x) ∧ L (20 + x) = M (20 + x)) → opF L j k = opF M j k
  | 0, _, _ => rfl
  | j + 1, k, h => by
    have e := h k (Nat.le_refl _) (by omega)
    unfold opF
    rw [e.1, e.2, opF_cg (j := j) (k := k + 1) (fun x h1 h2 => h x (by omega) (by omega))]
theorem near_cg {y k : Nat} {L M : Lk} (h : ∀ x, x < y → L (12 + x) = M (12 + x) ∧ L (20 + x) = M (20 + x)) : near y L k = near y M k := by
  unfold near
  rw [opF_cg (fun x h1 h2 => h x (by omega))]
theorem near0_cg {y : Nat} {L M : Lk} (h : ∀ x, x < y → L (12 + x) = M (12 + x) ∧ L (20 + x) = M (20 + x)) : near0 y L = near0 y M := by
  unfold near0
  rw [opF_cg (fun x h1 h2 => h x (by omega))]
theorem tot_cg {y : Nat} {L M : Lk} (h : ∀ x, x < y → L (4 + x) = M (4 + x)) : tot y L = tot y M := sm_cg h
section MQ
variable {S : aS} {f b i k : Nat} {P : aP} {L : Lk} {B : Nat}
theorem T_X13_yards (h : MM S P) (hg : 1 ≤ f) : zI (F_X13_yards f 0 [.ref 186] S) (fun x T => x = nI (pY P) ∧ T = S) := by
  obtain ⟨g, ge, hG⟩ := g1 hg; subst ge; clear hg; have hg := hG; clear hG; rw [E_X13_yards_0]; unfold F_X13_yards_0
  refine o_X (n := 0) rfl (by omega) (i_r ⟨?_, rfl⟩)
  rw [h.1.paths]
  exact h.2.1.1
theorem T_X13_people (h : MM S P) (hg : 1 ≤ f) : zI (F_X13_people f 0 [.ref 186] S) (fun x T => x = nI (pN P) ∧ T = S) := by
  obtain ⟨g, ge, hG⟩ := g1 hg; subst ge; clear hg; have hg := hG; clear hG; rw [E_X13_people_0]; unfold F_X13_people_0
  refine o_X (n := 1) rfl (by omega) (i_r ⟨?_, rfl⟩)
  rw [h.1.paths]
  exact h.2.1.2.1
theorem T_X13_personOf {j : Nat} (h : MM S P) (hI : PI P) (hi : i < pN P) (hj : j < 3) (hg : 1 ≤ f) : zI (F_X13_personOf f 0 [.ref 186, .int (nI i), .int (nI j)] S) (fun x T => x = nI (pT P j i) ∧ T = S) := by
  obtain ⟨g, ge, hG⟩ := g1 hg; subst ge; clear hg; have hg := hG; clear hG; rw [E_X13_personOf_0]; unfold F_X13_personOf_0
  have hn := hI.1.2.2.1
  refine o_X (n := 8 + 3 * i + j) (by rw [show (8 : Int32) = nI 8 from rfl, show (3 : Int32) = nI 3 from rfl, pk_mul, nI_add, nI_add]) (by omega) (i_r ⟨?_, rfl⟩)
  rw [h.1.paths]
  have := h.2.2.1 i hi
  match j, hj with
  | 0, _ => exact this.1
  | 1, _ => exact this.2.1
  | 2, _ => exact this.2.2
theorem T_X13_isYard (h : MM S P) (hI : PI P) (hk : k < pY P) (hg : 3 ≤ f) : zI (F_X13_isYard f 0 [.ref 186, .int (nI k)] S) (fun x T => x = 1 ∧ T = S) := by
  obtain ⟨g, ge, hG⟩ := g1 hg; subst ge; clear hg; have hg := hG; clear hG; rw [E_X13_isYard_0]; unfold F_X13_isYard_0
  have hy := hI.1.2.1
  refine o_f (nI_pos (by omega)) ?_
  refine o_I (T_X13_yards h (by omega)) ?_
  rintro _ _ ⟨rfl, rfl⟩
  rw [if_neg (nI_ge hk (by omega))]
  exact o_Z (Or.inr rfl) (i_r ⟨rfl, rfl⟩)
theorem T_X13_isYard0 {x : Int32} (h : MM S P) (hx : oY (pY P) x) (hg : 3 ≤ f) : zI (F_X13_isYard f 0 [.ref 186, .int x] S) (fun x T => x = 0 ∧ T = S) := by
  obtain ⟨g, ge, hG⟩ := g1 hg; subst ge; clear hg; have hg := hG; clear hG; rw [E_X13_isYard_0]; unfold F_X13_isYard_0
  refine o_if (fun c => ?_) (fun c => ?_)
  · obtain ⟨g, ge, hG⟩ := g1 hg; subst ge; clear hg; have hg := hG; clear hG; rw [E_X13_isYard_1]; unfold F_X13_isYard_1
    obtain ⟨g, ge, hG⟩ := g1 hg; subst ge; clear hg; have hg := hG; clear hG; rw [E_X13_isYard_2]; unfold F_X13_isYard_2
    exact o_Z (Or.inl rfl) (i_r ⟨rfl, rfl⟩)
  · refine o_I (T_X13_yards h (by omega)) ?_
    rintro _ _ ⟨rfl, rfl⟩
    rw [if_pos (hx.resolve_left c)]
    exact o_Z (Or.inl rfl) (i_r ⟨rfl, rfl⟩)
theorem T_X13_isPerson (h : MM S P) (hI : PI P) (hk : k < pN P) (hg : 3 ≤ f) : zI (F_X13_isPerson f 0 [.ref 186, .int (nI k)] S) (fun x T => x = 1 ∧ T = S) := by
  obtain ⟨g, ge, hG⟩ := g1 hg; subst ge; clear hg; have hg := hG; clear hG; rw [E_X13_isPerson_0]; unfold F_X13_isPerson_0
  have hy := hI.1.2.2.1
  refine o_f (nI_pos (by omega)) ?_
  refine o_I (T_X13_people h (by omega)) ?_
  rintro _ _ ⟨rfl, rfl⟩
  rw [if_neg (nI_ge hk (by omega))]
  exact o_Z (Or.inr rfl) (i_r ⟨rfl, rfl⟩)
theorem T_X13_isPerson0 {x : Int32} (h : MM S P) (hx : oY (pN P) x) (hg : 3 ≤ f) : zI (F_X13_isPerson f 0 [.ref 186, .int x] S) (fun x T => x = 0 ∧ T = S) := by
  obtain ⟨g, ge, hG⟩ := g1 hg; subst ge; clear hg; have hg := hG; clear hG; rw [E_X13_isPerson_0]; unfold F_X13_isPerson_0
  refine o_if (fun c => ?_) (fun c => ?_)
  · obtain ⟨g, ge, hG⟩ := g1 hg; subst ge; clear hg; have hg := hG; clear hG; rw [E_X13_isPerson_1]; unfold F_X13_isPerson_1
    obtain ⟨g, ge, hG⟩ := g1 hg; subst ge; clear hg; have hg := hG; clear hG; rw [E_X13_isPerson_2]; unfold F_X13_isPerson_2
    exact o_Z (Or.inl rfl) (i_r ⟨rfl, rfl⟩)
  · refine o_I (T_X13_people h (by omega)) ?_
    rintro _ _ ⟨rfl, rfl⟩
    rw [if_pos (hx.resolve_left c)]
    exact o_Z (Or.inl rfl) (i_r ⟨rfl, rfl⟩)
theorem T_X13_isBin (h : MR S) (hA : MA S b L) (hB : LI B L) (hb : b ≤ 792) (hk : k < 8) (hg : 1 ≤ f) : zI (F_X13_isBin f 0 [.ref 186, .int (nI b), .int (nI k)] S) (fun x T => x = (if L (12 + k) = 0 then 0 else 1) ∧ T = S) := by
  obtain ⟨g, ge, hG⟩ := g1 hg; subst ge; clear hg; have hg := hG; clear hG; rw [E_X13_isBin_0]; unfold F_X13_isBin_0
  refine o_X (nA3 (n := 12) rfl) (by omega) ?_
  have hb2 := hB.2 k hk
  rw [h.state, hA (12 + k) (by omega), show (if nI (L (12 + k)) ≤ (0 : Int32) then (0 : Int32) else 1) = (if L (12 + k) = 0 then 0 else 1) by
    by_cases e : L (12 + k) = 0
    · rw [if_pos e, e]; rfl
    · rw [if_neg e, if_neg (nI_nle (by omega) (by omega))]]
  refine o_Z ?_ (i_r ⟨rfl, rfl⟩)
  split
  · exact Or.inl rfl
  · exact Or.inr rfl
theorem T_X13_hasRoom (h : MR S) (hA : MA S b L) (hB : LI B L) (hb : b ≤ 792) (hk : k < 8) (hg : 1 ≤ f) : zI (F_X13_hasRoom f 0 [.ref 186, .int (nI b), .int (nI k)] S) (fun x T => x = (if L (20 + k) < L (12 + k) then 1 else 0) ∧ T = S) := by
  obtain ⟨g, ge, hG⟩ := g1 hg; subst ge; clear hg; have hg := hG; clear hG; rw [E_X13_hasRoom_0]; unfold F_X13_hasRoom_0
  refine o_X (nA3 (n := 20) rfl) (by omega) ?_
  refine o_X (nA3 (n := 12) rfl) (by omega) ?_
  have hb2 := hB.2 k hk
  rw [h.state, hA (12 + k) (by omega), hA (20 + k) (by omega), show (if nI (L (12 + k)) ≤ nI (L (20 + k)) then (0 : Int32) else 1) = (if L (20 + k) < L (12 + k) then 1 else 0) by
    by_cases e : L (20 + k) < L (12 + k)
    · rw [if_pos e, if_neg (nI_ge e (by omega))]
    · rw [if_neg e, if_pos (nI_le (by omega) (by omega))]]
  refine o_Z ?_ (i_r ⟨rfl, rfl⟩)
  split
  · exact Or.inr rfl
  · exact Or.inl rfl
theorem T_X13_near (h : MM S P) (hI : PI P) (hA : MA S b L) (hB : LI B L) (hb : b ≤ 792) {v : Int32} (k v' : Nat) (hv : (if (0 : Int32) ≤ v then v else 0) = nI v') (hvk : v' ≤ k) (hk : k ≤ 8) (hg : 12 ≤ f) : zI (F_X13_nearOf f 1 [.ref 186, .int (nI b), .int v, .int (nI k)] S) (fun x T => x = nI (dst v' (opF L (pY P - k) k)) ∧ T = S) := by
  have hy := hI.1.2.1
  have stop : ∀ (k g : Nat), pY P ≤ k → k < 2 ^ 31 → 2 ≤ g → zI (F_X13_nearOf g 1 [.ref 186, .int (nI b), .int v, .int (nI k)] S) (fun x T => x = nI 9 ∧ T = S) := by
    intro k g hk hk2 hg
    obtain ⟨g, ge, hG⟩ := g1 hg; subst ge; clear hg; have hg := hG; clear hG; rw [E_X13_nearOf_1]; unfold F_X13_nearOf_1
    refine o_I (T_X13_yards h (by omega)) ?_
    rintro _ _ ⟨rfl, rfl⟩
    exact o_t (nI_le hk hk2) (i_r ⟨rfl, rfl⟩)
  by_cases hky : k ≤ pY P
  · refine o_loop (F := fun f vs S => F_X13_nearOf f 1 vs S) (c := 1) (B := 2) (y := (pY) P) (fun z vs T => vs = [.ref 186, .int (nI b), .int v, .int (nI z)] ∧ T = S ∧ v' ≤ z ∧ opF L (pY P - k) k = opF L (pY P - z) z) ?_ ?_ k _ S f hky ⟨rfl, rfl, hvk, rfl⟩ (by omega)
    · rintro z _ _ g hz ⟨rfl, rfl, hkz, e⟩ hg rec
      show zO (F_X13_nearOf g 1 _ _) _
      obtain ⟨g, ge, hG⟩ := g1 hg; subst ge; clear hg; have hg := hG; clear hG; rw [E_X13_nearOf_1]; unfold F_X13_nearOf_1
      refine o_I (T_X13_yards h (by omega)) ?_
      rintro _ _ ⟨rfl, rfl⟩
      refine o_f (nI_ge hz (by omega)) ?_
      refine o_I (T_X13_hasRoom h.1 hA hB hb (by omega) (by omega)) ?_
      rintro _ _ ⟨rfl, rfl⟩
      rw [opF_s hz] at e
      by_cases c : L (20 + z) < L (12 + z)
      · rw [if_pos c] at e ⊢
        refine o_f (by decide) (i_r ⟨?_, rfl⟩)
        rw [hv, e, pk_sub hkz]
        rfl
      · rw [if_neg c] at e ⊢
        refine o_t rfl ?_
        exact rec g _ _ (by omega) ⟨by rw [nI_1], rfl, by omega, e⟩
    · rintro _ _ g ⟨rfl, rfl, hkz, e⟩ hg
      refine i_m (stop (pY P) g (Nat.le_refl _) (by omega) (by omega)) ?_
      rintro _ _ ⟨rfl, rfl⟩
      rw [e, show pY P - pY P = 0 by omega]
      exact ⟨rfl, rfl⟩
  · refine i_m (stop k f (by omega) (by omega) (by omega)) ?_
    rintro _ _ ⟨rfl, rfl⟩
    rw [show pY P - k = 0 by omega]
    exact ⟨rfl, rfl⟩
theorem T_X13_nearOf (h : MM S P) (hI : PI P) (hA : MA S b L) (hB : LI B L) (hb : b ≤ 792) (hk : k < 8) (hg : 13 ≤ f) : zI (F_X13_nearOf f 0 [.ref 186, .int (nI b), .int (nI k)] S) (fun x T => x = nI (near (pY P) L k) ∧ T = S) := by
  obtain ⟨g, ge, hG⟩ := g1 hg; subst ge; clear hg; have hg := hG; clear hG; rw [E_X13_nearOf_0]; unfold F_X13_nearOf_0
  rw [nI_1]
  exact T_X13_near h hI hA hB hb (k + 1) k (if_pos (nI_pos' (by omega))) (by omega) (by omega) (by omega)
theorem T_X13_near0 (h : MM S P) (hI : PI P) (hA : MA S b L) (hB : LI B L) (hb : b ≤ 792) (hg : 13 ≤ f) : zI (F_X13_nearOf f 0 [.ref 186, .int (nI b), .int (-1)] S) (fun x T => x = nI (near0 (pY P) L) ∧ T = S) := by
  obtain ⟨g, ge, hG⟩ := g1 hg; subst ge; clear hg; have hg := hG; clear hG; rw [E_X13_nearOf_0]; unfold F_X13_nearOf_0
  exact T_X13_near h hI hA hB hb (v := -1) 0 0 (by decide) (by omega) (by omega) (by omega)
theorem T_X13_lyingIn (h : MM S P) (hI : PI P) (hA : MA S b L) (hb : b ≤ 792) (hg : 13 ≤ f) : zI (F_X13_lyingIn f 0 [.ref 186, .int (nI b)] S) (fun x T => x = nI (tot (pY P) L) ∧ T = S) := by
  have hy := hI.1.2.1
  obtain ⟨g, ge, hG⟩ := g1 hg; subst ge; clear hg; have hg := hG; clear hG; rw [E_X13_lyingIn_0]; unfold F_X13_lyingIn_0
  refine o_loop (F := fun f vs S => F_X13_lyingIn f 1 vs S) (c := 1) (B := 2) (y := (pY) P) (fun k vs T => vs = [.ref 186, .int (nI b), .int (nI (sm (fun k => L (4 + k)) k)), .int (nI k)] ∧ T = S) ?_ ?_ 0 _ S g (by omega) ⟨rfl, rfl⟩ (by omega)
  · rintro k _ _ g hk ⟨rfl, rfl⟩ hg rec
    show zO (F_X13_lyingIn g 1 _ _) _
    obtain ⟨g, ge, hG⟩ := g1 hg; subst ge; clear hg; have hg := hG; clear hG; rw [E_X13_lyingIn_1]; unfold F_X13_lyingIn_1
    refine o_I (T_X13_yards h (by omega)) ?_
    rintro _ _ ⟨rfl, rfl⟩
    refine o_f (nI_ge hk (by omega)) ?_
    refine o_X (nA3 (n := 4) rfl) (by omega) ?_
    rw [h.1.state, hA (4 + k) (by omega)]
    exact rec g _ _ (by omega) ⟨by rw [nI_add, nI_1]; rfl, rfl⟩
  · rintro _ _ g ⟨rfl, rfl⟩ hg
    show zO (F_X13_lyingIn g 1 _ _) _
    obtain ⟨g, ge, hG⟩ := g1 hg; subst ge; clear hg; have hg := hG; clear hG; rw [E_X13_lyingIn_1]; unfold F_X13_lyingIn_1
    refine o_I (T_X13_yards h (by omega)) ?_
    rintro _ _ ⟨rfl, rfl⟩
    exact o_t (nI_le (Nat.le_refl _) (by omega)) (i_r ⟨rfl, rfl⟩)
theorem T_X13_windOf {hh : Nat} (h : MM S P) (hI : PI P) (hb : hh < 2 ^ 31) (hg : 1 ≤ f) : zI (F_X13_windOf f 0 [.ref 186, .int (nI hh)] S) (fun x T => x = nI (wind P hh) ∧ T = S) := by
  obtain ⟨g, ge, hG⟩ := g1 hg; subst ge; clear hg; have hg := hG; clear hG; rw [E_X13_windOf_0]; unfold F_X13_windOf_0
  have hw := hI.1.2.2.2.1
  refine o_X (n := 2) rfl (by omega) ?_
  rw [h.1.paths]
  unfold wind
  rcases h.2.2.2.2.1 with ⟨e, e1, e2⟩ | ⟨e, e1, e2⟩
  · rw [e1, if_pos e]
    refine o_N (by decide) ?_
    rw [show (1 : Int32) = nI 1 from rfl, pk_rem hb (by omega) (by omega), Nat.mod_one]
    refine o_X (n := 42) rfl (by omega) (i_r ⟨?_, rfl⟩)
    rw [e2]
    rfl
  · rw [e1, if_neg (by omega)]
    refine o_N (nI_ne0 e (by omega)) ?_
    have hm := Nat.mod_lt hh e
    rw [pk_rem hb e (by omega)]
    exact o_X (nA2' (n := 42) rfl) (by omega) (i_r ⟨e2 _ hm, rfl⟩)
theorem jn_both {o a s : Int32} {v w : Int32} {S : aS} (hc : crl o a s) (hs : s ≤ (-5 : Int32)) (h5 : ¬ s = -5) (hg : 1 ≤ f) : zI (F_X13_both f 0 [.int o, .int v, .int w] S) (fun x T => x = jn s v w ∧ T = S) := by
  obtain ⟨g, ge, hG⟩ := g1 hg; subst ge; clear hg; have hg := hG; clear hG; rw [E_X13_both_0]; unfold F_X13_both_0
  unfold jn
  rcases hc with ⟨rfl, rfl, h⟩ | ⟨rfl, j, hj, rfl, rfl⟩ | ⟨rfl, rfl⟩ | ⟨rfl, rfl⟩ | ⟨rfl, rfl⟩ | ⟨rfl, rfl⟩ | ⟨rfl, rfl⟩ | ⟨rfl, rfl⟩ | ⟨rfl, rfl⟩ | ⟨rfl, rfl⟩
  · exact absurd (Int32.le_trans h hs) (by decide)
  · exact absurd hs (neg4 hj).1
  · exact absurd rfl h5
  all_goals
    repeat (first | exact i_r ⟨rfl, rfl⟩ | refine o_t rfl ?_ | refine o_f (by decide) ?_)
theorem T_X13_worthAt {j : Nat} {cs : List Int32} (h : MR S) (hw : LWF (some cs)) (hc : MLs S j cs) (hg : 4100 ≤ f) : zI (F_X13_worthAt f 0 [.ref 186, .int (nI j)] S) (fun x T => x = evl cs (gI S 198 0) (gI S 198 1) (gI S 198 2) (gI S 198 3) ∧ Fr (fun q _ => q = 199) S T) := by
  obtain ⟨hk0, hlen, hpos⟩ := hw cs rfl
  obtain ⟨hj, hend, hcs⟩ := hc
  obtain ⟨g, ge, hG⟩ := g1 hg; subst ge; clear hg; have hg := hG; clear hG; rw [E_X13_worthAt_0]; unfold F_X13_worthAt_0
  generalize efc : fc4 (gI S 198 0) (gI S 198 1) (gI S 198 2) (gI S 198 3) = fc
  refine o_loop (F := fun f vs S => F_X13_worthAt f 1 vs S) (c := 4) (B := 4) (y := cs.length) (fun k vs T => ∃ x, x = rn fc (cs.take k) (0, fun _ => 0) ∧ vs = [.ref 186, .int (nI x.1), .int (nI (j + k))] ∧ cok (cs.drop k) x.1 ∧ x.1 ≤ 32 ∧ (∀ i, i < x.1 → gI T 199 i = x.2 i) ∧ Fr (fun q _ => q = 199) S T) ?_ ?_ 0 _ _ g (by omega) ⟨_, rfl, rfl, hk0, Nat.zero_le _, fun i hi => absurd hi (Nat.not_lt_zero i), Fr.refl S⟩ (by omega)
  · rintro k _ T g hk ⟨x, hx, rfl, hc, ht, hst, hf⟩ hg rec
    have hcr := hcs k hk
    have hd : cs.drop k = cs.getD k 0 :: cs.drop (k + 1) := by
      rw [List.drop_eq_getElem_cons hk, List.getD_eq_getElem?_getD, List.getElem?_eq_getElem hk]; rfl
    have htk : rn fc (cs.take (k + 1)) (0, fun _ => 0) = r1 fc x (cs.getD k 0) := by
      rw [hx]
      unfold rn
      rw [List.take_add_one, List.foldl_append, List.getD_eq_getElem?_getD, List.getElem?_eq_getElem hk]
      rfl
    generalize cs.getD k 0 = s at hd htk hcr
    rw [hd] at hc
    unfold cok at hc
    unfold r1 at htk
    have hRT := h.fr hf
    have eo : gI T 193 (j + k) = gI S 193 (j + k) := hf.2 _ _ (by omega)
    have ea : gI T 194 (j + k) = gI S 194 (j + k) := hf.2 _ _ (by omega)
    generalize gI S 193 (j + k) = o at hcr eo
    generalize gI S 194 (j + k) = a at hcr ea
    have o0 : ¬ o = 0 := by
      rcases hcr with ⟨rfl, -, -⟩ | ⟨rfl, -⟩ | ⟨rfl, -⟩ | ⟨rfl, -⟩ | ⟨rfl, -⟩ | ⟨rfl, -⟩ | ⟨rfl, -⟩ | ⟨rfl, -⟩ | ⟨rfl, -⟩ | ⟨rfl, -⟩ <;> decide
    show zO (F_X13_worthAt g 1 _ _) _
    obtain ⟨g, ge, hG⟩ := g1 hg; subst ge; clear hg; have hg := hG; clear hG; rw [E_X13_worthAt_1]; unfold F_X13_worthAt_1
    refine o_X rfl (show j + k < 2200 by omega) ?_
    rw [hRT.op, eo]
    refine o_f o0 ?_
    refine o_X rfl (show j + k < 2200 by omega) ?_
    rw [eo]
    by_cases c1 : s ≤ (-5 : Int32)
    · rw [if_pos c1] at hc htk
      have o1 : ¬ o = 1 := by
        rcases hcr with ⟨rfl, rfl, h0⟩ | ⟨rfl, -⟩ | ⟨rfl, -⟩ | ⟨rfl, -⟩ | ⟨rfl, -⟩ | ⟨rfl, -⟩ | ⟨rfl, -⟩ | ⟨rfl, -⟩ | ⟨rfl, -⟩ | ⟨rfl, -⟩
        · exact absurd (Int32.le_trans h0 c1) (by decide)
        all_goals decide
      have o2 : ¬ o = 2 := by
        rcases hcr with ⟨rfl, -⟩ | ⟨rfl, i, hi, rfl, rfl⟩ | ⟨rfl, -⟩ | ⟨rfl, -⟩ | ⟨rfl, -⟩ | ⟨rfl, -⟩ | ⟨rfl, -⟩ | ⟨rfl, -⟩ | ⟨rfl, -⟩ | ⟨rfl, -⟩
        · decide
        · exact absurd c1 (neg4 hi).1
        all_goals decide
      refine o_f o1 ?_
      refine o_f o2 ?_
      by_cases c2 : s = (-5 : Int32)
      · rw [if_pos c2] at hc htk
        have o3 : o = 3 := by
          subst c2
          rcases hcr with ⟨rfl, rfl, h0⟩ | ⟨rfl, i, hi, -, e⟩ | ⟨rfl, -⟩ | ⟨rfl, e⟩ | ⟨rfl, e⟩ | ⟨rfl, e⟩ | ⟨rfl, e⟩ | ⟨rfl, e⟩ | ⟨rfl, e⟩ | ⟨rfl, e⟩
          · exact absurd h0 (by decide)
          · exact absurd e (neg4 hi).2.1
          · rfl
          all_goals exact absurd e (by decide)
        refine o_t o3 ?_
        obtain ⟨t, ht1⟩ : ∃ t, x.1 = t + 1 := ⟨x.1 - 1, by omega⟩
        rw [ht1, nI_pred]
        refine o_X rfl (show t < 1100 by omega) ?_
        refine o_X rfl (show t < 1100 by omega) ?_
        rw [hRT.pile, hst t (by omega)]
        refine o_s (fun T1 e1 => ?_)
        obtain ⟨g, ge, hG⟩ := g1 hg; subst ge; clear hg; have hg := hG; clear hG; rw [E_X13_worthAt_3]; unfold F_X13_worthAt_3
        rw [ht1, show t + 1 - 1 = t by omega] at htk
        refine rec g _ _ (by omega) ⟨_, rfl, by rw [htk, nI_1]; rfl, by rw [htk, ← ht1]; exact hc.2, by rw [htk]; show t + 1 ≤ 32; omega, fun i hi => ?_, hf.sI e1 rfl⟩
        rw [htk] at hi ⊢
        subst e1
        rw [gI_sI]
        show _ = up1 x.2 t _ i
        rw [up1_at]
        by_cases e : i = t
        · rw [if_pos ⟨rfl, e⟩, if_pos e]
        · rw [if_neg (fun q => e q.2), if_neg e]
          exact hst i (by have : i < t + 1 := hi; omega)
      · rw [if_neg c2] at hc htk
        have o3 : ¬ o = 3 := by
          rcases hcr with ⟨rfl, -⟩ | ⟨rfl, -⟩ | ⟨rfl, e⟩ | ⟨rfl, -⟩ | ⟨rfl, -⟩ | ⟨rfl, -⟩ | ⟨rfl, -⟩ | ⟨rfl, -⟩ | ⟨rfl, -⟩ | ⟨rfl, -⟩
          · decide
          · decide
          · exact absurd e c2
          all_goals decide
        refine o_f o3 ?_
        obtain ⟨t, ht1⟩ : ∃ t, x.1 = t + 2 := ⟨x.1 - 2, by omega⟩
        rw [ht1, pk_m1, nI_pred]
        refine o_X rfl (show t < 1100 by omega) ?_
        refine o_X rfl (show t + 1 < 1100 by omega) ?_
        rw [hRT.pile, hst t (by omega), hst (t + 1) (by omega)]
        refine o_I (jn_both hcr c1 c2 (by omega)) ?_
        rintro _ _ ⟨rfl, rfl⟩
        refine o_X rfl (show t < 1100 by omega) ?_
        refine o_s (fun T1 e1 => ?_)
        obtain ⟨g, ge, hG⟩ := g1 hg; subst ge; clear hg; have hg := hG; clear hG; rw [E_X13_worthAt_3]; unfold F_X13_worthAt_3
        rw [ht1, show t + 2 - 1 = t + 1 by omega, show t + 2 - 2 = t by omega] at htk
        rw [ht1, show t + 2 - 1 = t + 1 by omega] at hc
        refine rec g _ _ (by omega) ⟨_, rfl, by rw [htk, nI_1]; rfl, by rw [htk]; exact hc.2, by rw [htk]; show t + 1 ≤ 32; omega, fun i hi => ?_, hf.sI e1 rfl⟩
        rw [htk] at hi ⊢
        subst e1
        rw [gI_sI]
        show _ = up1 x.2 t _ i
        rw [up1_at]
        by_cases e : i = t
        · rw [if_pos ⟨rfl, e⟩, if_pos e]
        · rw [if_neg (fun q => e q.2), if_neg e]
          exact hst i (by have : i < t + 1 := hi; omega)
    · rw [if_neg c1] at hc htk
      have key : (o = 1 ∧ a = s ∧ ¬ s < 0) ∨ (o = 2 ∧ ∃ i : Nat, i < 4 ∧ a = nI i ∧ (-1 : Int32) - s = nI i ∧ s < 0) := by
        rcases hcr with ⟨rfl, rfl, h0⟩ | ⟨rfl, i, hi, rfl, rfl⟩ | ⟨rfl, rfl⟩ | ⟨rfl, rfl⟩ | ⟨rfl, rfl⟩ | ⟨rfl, rfl⟩ | ⟨rfl, rfl⟩ | ⟨rfl, rfl⟩ | ⟨rfl, rfl⟩ | ⟨rfl, rfl⟩
        · exact Or.inl ⟨rfl, rfl, Int32.not_lt.mpr h0⟩
        · exact Or.inr ⟨rfl, i, hi, rfl, (neg4 hi).2.2⟩
        all_goals exact absurd (by decide) c1
      have fin : ∀ (v : Int32) (g : Nat), 3 ≤ g → v = (if s < 0 then fc ((-1 : Int32) - s).toNatClampNeg else s) → (∀ g' vs' S', g ≤ g' + 2 → (∃ x, x = rn fc (cs.take (k + 1)) (0, fun _ => 0) ∧ vs' = [.ref 186, .int (nI x.1), .int (nI (j + (k + 1)))] ∧ cok (cs.drop (k + 1)) x.1 ∧ x.1 ≤ 32 ∧ (∀ i, i < x.1 → gI S' 199 i = x.2 i) ∧ Fr (fun q _ => q = 199) S S') → zO (F_X13_worthAt g' 1 vs' S') (fun v S_1 => ∃ x, v = some (Value.int x) ∧ (fun x T => x = evl cs (gI S 198 0) (gI S 198 1) (gI S 198 2) (gI S 198 3) ∧ Fr (fun q _ => q = 199) S T) x S_1)) → zO (F_X13_worthAt g 4 [.ref 186, .int (nI x.1), .int (nI (j + k)), .int v, .int (nI x.1), .ref 199] T) (fun v S_1 => ∃ x, v = some (Value.int x) ∧ (fun x T => x = evl cs (gI S 198 0) (gI S 198 1) (gI S 198 2) (gI S 198 3) ∧ Fr (fun q _ => q = 199) S T) x S_1) := by
        intro v g hg hv rec
        rw [← hv] at htk
        obtain ⟨g, ge, hG⟩ := g1 hg; subst ge; clear hg; have hg := hG; clear hG; rw [E_X13_worthAt_4]; unfold F_X13_worthAt_4
        refine o_X rfl (show x.1 < 1100 by omega) ?_
        refine o_s (fun T1 e1 => ?_)
        obtain ⟨g, ge, hG⟩ := g1 hg; subst ge; clear hg; have hg := hG; clear hG; rw [E_X13_worthAt_3]; unfold F_X13_worthAt_3
        refine rec g _ _ (by omega) ⟨_, rfl, by rw [htk, nI_1, nI_1]; rfl, by rw [htk]; exact hc.2, by rw [htk]; show x.1 + 1 ≤ 32; omega, fun i hi => ?_, hf.sI e1 rfl⟩
        rw [htk] at hi ⊢
        subst e1
        rw [gI_sI]
        show _ = up1 x.2 x.1 _ i
        rw [up1_at]
        by_cases e : i = x.1
        · rw [if_pos ⟨rfl, e⟩, if_pos e]
        · rw [if_neg (fun q => e q.2), if_neg e]
          exact hst i (by have : i < x.1 + 1 := hi; omega)
      rcases key with ⟨rfl, rfl, hs0⟩ | ⟨rfl, i, hi, rfl, ei, hs0⟩
      · refine o_t rfl ?_
        obtain ⟨g, ge, hG⟩ := g1 hg; subst ge; clear hg; have hg := hG; clear hG; rw [E_X13_worthAt_2]; unfold F_X13_worthAt_2
        refine o_t rfl ?_
        refine o_X rfl (show j + k < 2200 by omega) ?_
        rw [hRT.arg, hRT.pile, ea]
        exact fin _ g (by omega) (by rw [if_neg hs0]) (fun g' vs' S' hg' => rec g' vs' S' (by omega))
      · refine o_f (by decide) ?_
        refine o_t rfl ?_
        obtain ⟨g, ge, hG⟩ := g1 hg; subst ge; clear hg; have hg := hG; clear hG; rw [E_X13_worthAt_2]; unfold F_X13_worthAt_2
        refine o_f (by decide) ?_
        refine o_X rfl (show j + k < 2200 by omega) ?_
        rw [hRT.arg, hRT.pile, hRT.facts, ea]
        refine o_X rfl hi ?_
        refine fin _ g (by omega) ?_ (fun g' vs' S' hg' => rec g' vs' S' (by omega))
        rw [if_pos hs0, ei, nI_clamp (by omega), hf.2 _ _ (by omega), ← efc]
        exact fc_at (l := 195) rfl rfl rfl rfl hi
  · rintro _ T g ⟨x, hx, rfl, hc, ht, hst, hf⟩ hg
    show zO (F_X13_worthAt g 1 _ _) _
    obtain ⟨g, ge, hG⟩ := g1 hg; subst ge; clear hg; have hg := hG; clear hG; rw [E_X13_worthAt_1]; unfold F_X13_worthAt_1
    have hRT := h.fr hf
    refine o_X rfl (show j + cs.length < 2200 by omega) ?_
    rw [hRT.op, hf.2 _ _ (by omega), hend]
    refine o_t rfl ?_
    refine o_X (n := 0) rfl (by omega) (i_r ⟨?_, hf⟩)
    rw [List.drop_length] at hc
    rw [hRT.pile, hst 0 hc, hx, List.take_length, ← efc]
    rfl
end MQ

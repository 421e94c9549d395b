/-! the class reads an E -/
abbrev dP : Nat → Nat → Prop := fun x k => x = 1 ∧ k ≠ 1
section CW
variable {S T U : aS} {f n l c q N : Nat} {tp : List Nat} {cs : List Int32} {D : Nat → Nat → Prop}
theorem CTk.w (h : CTk S tp (tP tp n)) (h2 : 2 ≤ q) (h3 : q < 31) : gR S 1 6 = q ↔ qW tp n q = true := by
  obtain ⟨_, _, h6, _⟩ := h
  rw [h6]
  unfold qW
  simp only [Bool.and_eq_true, beq_iff_eq]
  by_cases c : (tk tp n).1 = 1
  · rw [if_pos c, wdO_iff h2 h3]
    exact ⟨fun h => ⟨c, h⟩, fun h => h.2⟩
  · rw [if_neg c]
    exact ⟨fun h => by omega, fun h => absurd h.1 c⟩
theorem CTk.s (h : CTk S tp (tP tp n)) (hc : isS c = true) : gI S 1 9 = nI c ↔ qS tp n c = true := by
  obtain ⟨_, _, _, _, _, h9, h9'⟩ := h
  unfold qS
  simp only [Bool.and_eq_true, beq_iff_eq]
  by_cases d : (tk tp n).1 = 3
  · rw [h9 d]
    have hb := (isS_b hc).1
    have hd : (tK tp (tP tp n)).2.2 < 128 := by
      revert d
      show (tK tp (tP tp n)).1 = 3 → (tK tp (tP tp n)).2.2 < 128
      generalize tP tp n = i
      unfold tK
      split
      · intro h; exact absurd h (by simp)
      split
      · split <;> (intro h; exact absurd h (by simp))
      split
      · split <;> (intro h; exact absurd h (by simp))
      split
      · rename_i hs; intro _; have := (isS_b hs).1; show cAt tp i < 128; omega
      · intro h; exact absurd h (by simp)
    rw [nI_eq (by omega) (by omega)]
    exact ⟨fun h => ⟨d, h⟩, fun h => h.2⟩
  · exact ⟨fun h => absurd h (h9' d c hc), fun h => absurd h.1 d⟩
theorem CTk.num (h : CTk S tp (tP tp n)) : gI S 1 8 = -1 ↔ ¬ qN tp n = true := by
  obtain ⟨_, _, _, _, h8, _⟩ := h
  rw [h8]
  unfold qN
  simp only [beq_iff_eq]
  by_cases d : (tk tp n).1 = 2
  · rw [if_pos d]
    exact ⟨fun h => absurd h (nI_m1 (by have : (tK tp (tP tp n)).2.2 < 10000 := tk_n d; omega)), fun h => absurd d h⟩
  · rw [if_neg d]
    exact ⟨fun _ => d, fun _ => rfl⟩
theorem CTk.nv (h : CTk S tp (tP tp n)) (d : qN tp n = true) : gI S 1 8 = nI (tk tp n).2.2 := by
  obtain ⟨_, _, _, _, h8, _⟩ := h
  unfold qN at d
  rw [h8, if_pos (by simpa using d)]
theorem CTk.x {i : Nat} (h : CTk S tp i) (hf : Fx D S T) (hD : (∀ k, k ≠ 2 → ¬ D 1 k) ∧ ∀ k, ¬ D 2 k) (h6 : gR T 1 6 = gR S 1 6) : CTk T tp i := by
  obtain ⟨⟨a1, a2, a3, a4⟩, a5, a6, a7, a8, a9, a10⟩ := h
  refine ⟨⟨a1.x hf ⟨hD.1 _ (by omega), hD.2⟩, by rw [hf.2 _ _ (by omega)]; exact a2, by rw [hf.I (hD.1 _ (by omega))]; exact a3, by rw [hf.I (hD.1 _ (by omega))]; exact a4⟩, by rw [hf.I (hD.1 _ (by omega))]; exact a5, by rw [h6]; exact a6, by rw [hf.J (hD.1 _ (by omega))]; exact a7, by rw [hf.I (hD.1 _ (by omega))]; exact a8, by rw [hf.I (hD.1 _ (by omega))]; exact a9, by rw [hf.I (hD.1 _ (by omega))]; exact a10⟩
theorem T_next (ho : okTp tp) (h : CTk S tp (tP tp n)) (hg : 6200 ≤ f) : zU (F_X8_advance f 0 [.ref 1] S) (fun U => CTk U tp (tP tp (n + 1)) ∧ Fx dT S U) :=
  T_advance h.1.1 ho h.1.2.1 h.1.2.2.1 (tE_b (tP_b n)).2.1 hg
theorem T_fail {i k : Nat} (h : CTk S tp i) (hg : 1 ≤ f) : zI (F_X8_fail f 0 [.ref 1, .int (nI k)] S) (fun x T => x = 0 ∧ gI T 1 2 = nI (k + 16 * i) ∧ CTp T tp ∧ Fx dP S T) := by
  obtain ⟨g, ge, hG⟩ := g1 hg; subst ge; clear hg; have hg := hG; clear hG; rw [E_X8_fail_0]; unfold F_X8_fail_0
  rw [h.1.2.2.2, show (16 : Int32) = nI 16 from rfl, pk_mul, nI_add]
  refine o_s (fun S1 s1 => ?_)
  have hf : Fx dP S S1 := (Fx.refl S).sI s1 (by unfold dP; omega)
  exact o_Z (Or.inl rfl) (i_r ⟨rfl, by rw [s1, gI_sI, if_pos ⟨rfl, rfl⟩], h.1.1.x hf (by unfold dP; refine ⟨?_, fun k => ?_⟩ <;> omega), hf⟩)
theorem T_passS (ho : okTp tp) (h : CTk S tp (tP tp n)) (hc : isS c = true) (hg : 6201 ≤ f) : zI (F_X8_pass_ f 0 [.ref 1, .int (nI c)] S) (fun x T => if qS tp n c = true then x = 1 ∧ CTk T tp (tP tp (n + 1)) ∧ Fx dT S T else x = 0 ∧ gI T 1 2 = nI (1 + 16 * tP tp n) ∧ CTp T tp ∧ Fx dP S T) := by
  replace hg : 6200 + 1 ≤ f := hg
  obtain ⟨g, ge, hG⟩ := g1 hg; subst ge; clear hg; have hg := hG; clear hG; rw [E_X8_pass__0]; unfold F_X8_pass__0
  by_cases e : qS tp n c = true
  · refine o_t ((h.s hc).mpr e) ?_
    refine o_V (T_next ho h (by omega)) ?_
    rintro U ⟨u1, u2⟩
    refine o_Z (Or.inr rfl) (i_r ?_)
    rw [if_pos e]
    exact ⟨rfl, u1, u2⟩
  · refine o_f (fun d => e ((h.s hc).mp d)) ?_
    refine o_I (T_fail (k := 1) h (by omega)) ?_
    rintro x U ⟨rfl, u1, u2, u3⟩
    refine o_Z (Or.inl rfl) (i_r ?_)
    rw [if_neg e]
    exact ⟨rfl, u1, u2, u3⟩
/-- the steps of the law that is being read -/
def LwS (S : aS) (l : Nat) (cs : List Int32) : Prop := gR S l 0 = l + 1 ∧ gI S l 1 = nI cs.length ∧ ∀ k, k < cs.length → gI S (l + 1) k = cs.getD k 0
abbrev dLw (l : Nat) : Nat → Nat → Prop := fun x k => (x = 1 ∧ k ≠ 1) ∨ (x = l ∧ k = 1) ∨ x = l + 1
theorem LwS.x (h : LwS S l cs) (hf : Fx D S T) (hl : 10 ≤ l) (hD : ¬ D l 1 ∧ ∀ k, ¬ D (l + 1) k) : LwS T l cs := ⟨by rw [hf.2 _ _ (by omega)]; exact h.1, by rw [hf.I hD.1]; exact h.2.1, fun k hk => by rw [hf.I (hD.2 k)]; exact h.2.2 k hk⟩
theorem LwS.t (h : LwS S l cs) (hf : Fx dT S T) (hl : 10 ≤ l) : LwS T l cs := h.x hf hl (by unfold dT; refine ⟨?_, fun k => ?_⟩ <;> omega)
theorem Fx.law (hf : Fx dT S T) : Fx (dLw l) S T := hf.mono (fun q k d => by unfold dT at d; unfold dLw; omega)
theorem Fx.lp (hf : Fx dP S T) : Fx (dLw l) S T := hf.mono (fun q k d => by unfold dP at d; unfold dLw; omega)
theorem getD_ap {l : List Int32} {c : Int32} {k : Nat} (hk : k < l.length + 1) : (l ++ [c]).getD k 0 = if k = l.length then c else l.getD k 0 := by
  rw [List.getD_eq_getElem?_getD, List.getD_eq_getElem?_getD]
  by_cases e : k = l.length
  · rw [if_pos e, e, List.getElem?_append_right (Nat.le_refl _), Nat.sub_self]; rfl
  · rw [if_neg e, List.getElem?_append_left (by omega)]
theorem T_ladd {i : Nat} {s : Int32} (hl : 10 ≤ l) (h : LwS S l cs) (hT : CTk S tp i) (hn : cs.length < 1000) (hg : 2 ≤ f) : zU (F_X5_add f 0 [.ref l, .int s] S) (fun T => LwS T l (cs ++ [s]) ∧ CTk T tp i ∧ Fx (dLw l) S T) := by
  replace hg : 1 + 1 ≤ f := hg
  obtain ⟨g, ge, hG⟩ := g1 hg; subst ge; clear hg; have hg := hG; clear hG; rw [E_X5_add_0]; unfold F_X5_add_0
  rw [h.2.1]
  refine o_f (nI_ge (b := 1000) hn (by omega)) ?_
  refine o_X rfl hn ?_
  rw [h.1]
  refine o_s (fun S1 s1 => ?_)
  have e1 : gI S1 l 1 = nI cs.length := by rw [s1, gI_sI, if_neg (by omega)]; exact h.2.1
  rw [e1, nI_1]
  refine o_s (fun S2 s2 => ?_)
  obtain ⟨g, ge, hG⟩ := g1 hg; subst ge; clear hg; have hg := hG; clear hG; rw [E_X5_add_1]; unfold F_X5_add_1
  have hf : Fx (fun x k => (x = l ∧ k = 1) ∨ x = l + 1) S S2 := ((Fx.refl S).sI s1 (by omega)).sI s2 (by omega)
  refine u_r ⟨⟨by rw [hf.2 _ _ (by omega)]; exact h.1, ?_, fun k hk => ?_⟩, hT.x hf ⟨fun k _ => by omega, fun k => by omega⟩ (by rw [s2, s1]; rfl), hf.mono (fun q k d => by unfold dLw; omega)⟩
  · rw [s2, gI_sI, if_pos ⟨rfl, rfl⟩, List.length_append, List.length_singleton]
  · rw [List.length_append, List.length_singleton] at hk
    rw [getD_ap hk, s2, gI_sI, if_neg (by omega), s1, gI_sI]
    by_cases e : k = cs.length
    · rw [if_pos ⟨rfl, e⟩, if_pos e]
    · rw [if_neg (by omega), if_neg e]
      exact h.2.2 k (by omega)
def cEr (l : Nat) (tp : List Nat) (S : aS) (x : Int32) (T : aS) (k m : Nat) : Prop := x = 0 ∧ gI T 1 2 = nI (k + 16 * tP tp m) ∧ CTp T tp ∧ Fx (dLw l) S T
def cOk (l : Nat) (tp : List Nat) (S : aS) (cs : List Int32) (x : Int32) (T : aS) (c : List Int32) (m : Nat) : Prop := x = 1 ∧ CTk T tp (tP tp m) ∧ LwS T l (cs ++ c) ∧ Fx (dLw l) S T
def CQ (l : Nat) (tp : List Nat) (S : aS) (cs : List Int32) (r : pR) (x : Int32) (T : aS) : Prop := pE r (cEr l tp S x T) (cOk l tp S cs x T)
theorem CQ.b {r : pR} {k : List Int32 × Nat → pR} {a : aR} {K : Int32 → aS → aR} (h : zI a (CQ l tp S cs r)) (h0 : ∀ T, K 0 T = bZ 0 (some (some (.int 0), T))) (hk : ∀ c m T, r = .ok (c, m) → CTk T tp (tP tp m) → LwS T l (cs ++ c) → Fx (dLw l) S T → zI (K 1 T) (CQ l tp S cs (k (c, m)))) : zI (bI a K) (CQ l tp S cs (pb r k)) := by
  refine o_I h (fun x T hq => ?_)
  rcases r with ⟨e1, e2⟩ | ⟨c, m⟩
  · obtain ⟨rfl, q1, q2, q3⟩ := hq
    rw [h0]
    exact o_Z (Or.inl rfl) (i_r ⟨rfl, q1, q2, q3⟩)
  · obtain ⟨rfl, q1, q2, q3⟩ := hq
    exact hk c m T rfl q1 q2 q3
theorem CQ.a {r : pR} {k : List Int32 × Nat → pR} {a : aR} {c : List Int32} (h : zI a (CQ l tp T (cs ++ c) r)) (hf : Fx (dLw l) S T) (hk : ∀ y m, k (y, m) = .ok (c ++ y, m)) : zI a (CQ l tp S cs (pb r k)) := by
  refine i_m h (fun x U hq => ?_)
  rcases r with ⟨e1, e2⟩ | ⟨y, m⟩
  · obtain ⟨rfl, q1, q2, q3⟩ := hq
    exact ⟨rfl, q1, q2, hf.tr q3⟩
  · obtain ⟨rfl, q1, q2, q3⟩ := hq
    show pE (k (y, m)) _ _
    rw [hk]
    refine ⟨rfl, q1, ?_, hf.tr q3⟩
    rw [← List.append_assoc]
    exact q2
theorem CQ.fr {r : pR} {a : aR} (h : zI a (CQ l tp T cs r)) (hf : Fx (dLw l) S T) : zI a (CQ l tp S cs r) := by
  refine i_m h (fun x U hq => ?_)
  rcases r with ⟨e1, e2⟩ | ⟨y, m⟩
  · obtain ⟨rfl, q1, q2, q3⟩ := hq
    exact ⟨rfl, q1, q2, hf.tr q3⟩
  · obtain ⟨rfl, q1, q2, q3⟩ := hq
    exact ⟨rfl, q1, q2, hf.tr q3⟩
end CW

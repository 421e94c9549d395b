/-! the start of both -/
section STT
variable {S T : aS} {A : aA}
theorem mix_I {n p k : Nat} : gI (mix n S T) p k = if p < n then gI S p k else gI T p k := by
  unfold gI mix
  show (if p < n then S.1 p else T.1 p) k = _
  split <;> rfl
theorem mix_J {n p k : Nat} : gJ (mix n S T) p k = if p < n then gJ S p k else gJ T p k := by
  unfold gJ mix
  show (if p < n then S.2.1 p else T.2.1 p) k = _
  split <;> rfl
theorem mix_R {n p k : Nat} : gR (mix n S T) p k = if p < n then gR S p k else gR T p k := by
  unfold gR mix
  show (if p < n then S.2.2 p else T.2.2 p) k = _
  split <;> rfl
theorem mix_g (n : Nat) (S T : aS) : Fg (fun x _ => n ≤ x) (fun x => n ≤ x) S (mix n S T) := ⟨fun q k h => ⟨by rw [mix_I, if_pos (Nat.not_le.mp h)], by rw [mix_J, if_pos (Nat.not_le.mp h)]⟩, fun q k h => by rw [mix_R, if_pos (Nat.not_le.mp h)]⟩
theorem MM_0 (hR : MR S) (h : ∀ k, k < 70 → gI S 192 (0 + k) = st0 k) : MM S P0 := by
  have e : ∀ k, k < 70 → gI S 192 k = st0 k := fun k hk => by have := h k hk; rw [Nat.zero_add] at this; exact this
  refine ⟨hR, ⟨e 0 (by omega), e 1 (by omega), e 3 (by omega), e 4 (by omega)⟩, fun i hi => absurd hi (by show ¬ i < 0; omega), fun k hk => ⟨?_, Or.inl ⟨?_, rfl⟩⟩, Or.inl ⟨rfl, e 2 (by omega), e 42 (by omega)⟩, Or.inl ⟨rfl, e 5 (by omega)⟩, Or.inl ⟨rfl, e 6 (by omega)⟩⟩
  · rw [e (26 + k) (by omega)]
    unfold st0
    rw [if_neg (by omega), if_neg (by omega), if_neg (by omega), if_neg (by omega), if_neg (by omega)]; rfl
  · rw [e (34 + k) (by omega)]
    unfold st0
    rw [if_neg (by omega), if_neg (by omega), if_neg (by omega), if_neg (by omega), if_neg (by omega)]
theorem start_ex : ∃ S1 S2 S3 f1 f2 f3, F_X12_begin f1 0 [.ref 0] S0 = some (none, S1) ∧ F_X13_standsAsAlways f2 0 [.ref 186, .int 0] (mix 186 S1 S0) = some (none, S2) ∧ F_X13_begins f3 0 [.ref 186] S2 = some (none, S3) ∧ CI (mix 207 S3 S0) (paA Q0) ∧ MI (mix 207 S3 S0) (paA Q0) := by
  have cq : CQs S0 3 Q0 := CQs.of0 (CR.pr (fun p k _ _ => rfl) (Or.inl rfl)) ⟨rfl, rfl, rfl, rfl, rfl, rfl, rfl⟩ ⟨rfl, rfl⟩ (fun k hk => ⟨rfl, rfl⟩)
  obtain ⟨v1, S1, e1, hv1, c1, g1'⟩ := T_X12_begin (S := S0) (q := 3) (t := 35) (P := P0) (nm := fun _ => []) (f := 100) (fun p k _ _ => rfl) rfl rfl (Or.inl rfl) rfl rfl cq.1 P0_i (Or.inl rfl) rfl (fun i hi => absurd hi (by show ¬ i < 0; omega)) (Nat.le_refl _)
  have hi : ∀ p k, 186 ≤ p → gI (mix 186 S1 S0) p k = I0 p k := fun p k h => by rw [mix_I, if_neg (by omega)]; rfl
  have hj : ∀ p k, 186 ≤ p → gJ (mix 186 S1 S0) p k = J0 p k := fun p k h => by rw [mix_J, if_neg (by omega)]; rfl
  have hr : MR (mix 186 S1 S0) := fun k => by rw [mix_R, if_neg (by omega)]; rfl
  have cm1 : CI (mix 186 S1 S0) (paA Q0) := CI.f7m c1 (mix_g 186 S1 S0)
  obtain ⟨v2, S2, e2, hv2, t2, f2⟩ := M_stands (S := mix 186 S1 S0) (b := 0) (f := 200) hr (Or.inl rfl) (Nat.le_refl _)
  have m2 : MM S2 P0 := MM_0 (hr.fr f2) t2
  obtain ⟨v3, S3, e3, hv3, b1, b2, b3, b4, b5, b6⟩ := M_begins (S := S2) (P := P0) (f := 200) m2 P0_i (Nat.le_refl _)
  have c3 : CI S3 (paA Q0) := (CI.f7m cm1 (f2.g.mono (fun q k d => by omega) (fun q d => d.elim))).f7m (b6.g.mono (fun q k d => by omega) (fun q d => d.elim))
  have i3 : ∀ p k, 186 ≤ p → ¬ (p = 192) → ¬ ((p = 200 ∧ k < 36) ∨ p = 198 ∨ p = 199 ∨ (p = 186 ∧ (k = 23 ∨ (26 ≤ k ∧ k ≤ 28))) ∨ (p = 197 ∧ k = 0) ∨ p = 201) → gI S3 p k = I0 p k := fun p k h1 h2 h3 => by rw [b6.2 _ _ h3, f2.2 _ _ (by omega)]; exact hi p k h1
  have m3 : MI S3 (paA Q0) := ⟨⟨m2.fr b6 (fun q k a b d => by omega), b1, b2, i3 186 25 (by omega) (by omega) (by omega)⟩, ⟨⟨b4, fun i hi => absurd hi (by simp [hiA, paA])⟩, fun m hm => ⟨b5 m hm, fun x hx => absurd hx (by simp [mkA, paA])⟩⟩, ⟨b3, fun i hi => absurd hi (by simp [dyA, paA])⟩, ⟨i3 186 2 (by omega) (by omega) (by omega), fun k hk => absurd hk (by simp [tpA, paA])⟩, ⟨i3 186 16 (by omega) (by omega) (by omega), fun i hi => absurd hi (by show ¬ i < 0; omega)⟩, fun k hk => by rw [b6.J, f2.J]; exact hj 191 k (by omega)⟩
  have gm := mix_g 207 S3 S0
  cases hv1
  cases hv2
  cases hv3
  exact ⟨S1, S2, S3, 100, 200, 200, e1, e2, e3, CI.f7m c3 (gm.mono (fun q k d => by omega) (fun q d => by omega)), m3.f7 (n := 0) (AI.pa Q0_i) gm (fun x k d => d) (fun x d => d)⟩
end STT
/-! the heap behind the constructors may grow -/
abbrev gZ (D : va_G) (t : Nat → ClassId) (B : Nat) (N : Heap) (ad : Nat → Nat) (z : Nat) : zG := (D, t, B, N, fun i => if i = 40 then z else ad i)
section GZ
variable {D : va_G} {t : Nat → ClassId} {B : Nat} {N : Heap} {ad : Nat → Nat} {n : Nat} {S : aS}
theorem fcs_3 {ci k : Nat} (h : 3 ≤ (fcs ci).getD k 0) : ci = 7 ∧ k = 6 := by
  by_cases c : ci < 13
  · by_cases d : k < 40
    · have := co_dec (N := 520) (P := fun m => 3 ≤ (fcs (m / 40)).getD (m % 40) 0 → m / 40 = 7 ∧ m % 40 = 6) (by decide +kernel) (show ci * 40 + k < 520 by omega)
      rw [show (ci * 40 + k) / 40 = ci by omega, show (ci * 40 + k) % 40 = k by omega] at this
      exact this h
    · exfalso
      have hl := co_dec (N := 13) (P := fun ci => (fcs ci).length ≤ 40) (by decide +kernel) c
      rw [List.getD_eq_getElem?_getD, List.getElem?_eq_none (by omega)] at h
      simp at h
  · exfalso
    have e : fcs ci = [] := by
      unfold fcs
      split <;> first | omega | rfl
    rw [e] at h
    simp at h
theorem cn_gZ {z w : Nat} (hT : zT0 kdF n S) : cn (gZ D t B N ad z) kdF n S = cn (gZ D t B N ad w) kdF n S := by
  unfold cn
  apply List.map_congr_left
  intro p hp
  have hp := List.mem_range.mp hp
  unfold cC
  rcases hk : kdF p with ci | ⟨u, M⟩
  · show (Sum.inr (ci, cO (gZ D t B N ad z) S p (fcs ci)) : va_E) = Sum.inr (ci, cO (gZ D t B N ad w) S p (fcs ci))
    congr 2
    unfold cO
    apply List.map_congr_left
    intro k hkk
    by_cases c : 3 ≤ (fcs ci).getD k 0
    · obtain ⟨rfl, rfl⟩ := fcs_3 c
      have h6 := hT.2.2 p hp hk
      obtain ⟨c', ec⟩ : ∃ c', (fcs 7).getD 6 0 = c' + 3 := ⟨(fcs 7).getD 6 0 - 3, by omega⟩
      rw [ec]
      show Value.ref (if gR S p 6 = 40 then z else ad (gR S p 6)) = Value.ref (if gR S p 6 = 40 then w else ad (gR S p 6))
      rw [if_neg (by omega), if_neg (by omega)]
    · rcases (show (fcs ci).getD k 0 = 0 ∨ (fcs ci).getD k 0 = 1 ∨ (fcs ci).getD k 0 = 2 by omega) with e | e | e <;> rw [e] <;> rfl
  · rfl
theorem zV_gZ {X : zX} {Q : State → Prop} {nL : Nat} {lv : zLv} {st : List Value} {pc k m : Nat} (hT : zT0 kdF n S) (h : zV (gZ D t B N ad 1) X Q nL lv st (cn (gZ D t B N ad 1) kdF n S) pc k m) : zV (gZ D t B N ad 0) X Q nL lv st (cn (gZ D t B N ad 0) kdF n S) pc k m := by
  intro H locs ls hW hL hl
  refine h H locs ls ⟨⟨?_, fun e => absurd e (by show ¬ (if (40 : Nat) = 40 then 1 else ad 40) = 0; rw [if_pos rfl]; omega)⟩, fun j e he => ?_, hW.2.2⟩ hL hl
  · have := hW.1.1
    rw [cn_len] at this ⊢
    exact this
  · rw [cn_gZ (w := 0) hT] at he
    exact hW.2.1 j e he
end GZ

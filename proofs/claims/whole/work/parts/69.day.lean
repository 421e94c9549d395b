/-! both read a day -/
def dyM (A : aA) (dy : List (Nat × Nat × Nat)) : aA := (([], nmA A), A.2.1, A.2.2.1, dy)
section BD
variable {S T : aS} {A : aA} {f n q : Nat} {D : Nat → Nat → Prop} {R : Nat → Prop}
theorem CR.c {p k : Nat} (h : CR S q) (hp : p < 186) (hx : RX p k = false) : gR S p k = R0 p k := h.1 p k hp hx
theorem CI.day {dy : List (Nat × Nat × Nat)} (hC : CI S A) (hf : Fg D (fun x => x ≤ 1) S T) (hD : ∀ x k, D x k → x = 1 ∨ (35 ≤ x ∧ x ≤ 42)) (hR : ∀ p k, ¬ ((p = 1 ∧ k = 6) ∨ (p = 0 ∧ (k = 3 ∨ k = 4))) → gR T p k = gR S p k) (hd : CDy T dy) (h1 : gI T 1 1 = nI 0) : CI T (dyM A dy) := by
  obtain ⟨q, ⟨hX, hb0, hL, hF⟩, ⟨hH, hMk⟩, h6, h7, h8⟩ := hC
  have hq := hX.2.2.2
  have hR' : ∀ p k, 2 ≤ p → gR T p k = gR S p k := fun p k h => hR p k (by omega)
  have hD' : ∀ x k, x ≠ 1 → ¬ (35 ≤ x ∧ x ≤ 42) → ¬ D x k := fun x k a b d => by have := hD x k d; omega
  refine ⟨q, ⟨⟨⟨fun p k hp hx => ?_, ?_, ?_, ?_⟩, hX.cp.fg hf (fun x k a b _ _ => hD' _ _ (by omega) (by omega)) (fun x a b => by omega), hX.2.2⟩, ?_, hL.fg hf (fun x k a b => hD' _ _ (by omega) (by omega)) (by omega), hF.fg hf (fun k => ⟨hD' _ _ (by omega) (by omega), hD' _ _ (by omega) (by omega)⟩)⟩, ⟨hH.fg hf (fun x k a b => hD' _ _ (by omega) (by omega)) (fun x a b => by omega), hMk.fg hf (hD' _ _ (by omega) (by omega)) (fun x k a b => hD' _ _ (by omega) (by omega)) (fun x a b => by omega)⟩, hd, ⟨h1, fun k hk => absurd hk (by simp [tpA, dyM])⟩, fun i hi => ?_⟩
  · rw [hR p k (fun h => ?_)]
    · exact hX.1.1 p k hp hx
    · rcases h with ⟨rfl, rfl⟩ | ⟨rfl, rfl | rfl⟩ <;> exact absurd hx (by decide)
  · rw [hR _ _ (by omega)]; exact hX.1.2.1
  · rw [hR _ _ (by omega)]; exact hX.1.2.2.1
  · rw [hR _ _ (by omega)]; exact hX.1.2.2.2
  · rw [hR _ _ (by omega)]; exact hb0
  · rw [(hf.1 _ _ (hD' _ _ (by omega) (by omega))).2]; exact h8 i hi
theorem MI.day {dy : List (Nat × Nat × Nat)} (hM : MI S A) (hA : AI n A) (hf : Fg D (fun _ => False) S T) (hD : ∀ x k, D x k → (x = 186 ∧ (k = 0 ∨ k = 2 ∨ k = 3 ∨ k = 7 ∨ k = 8)) ∨ x = 188 ∨ x = 189 ∨ x = 190 ∨ x = 197) (hd : MDy T dy) (h2 : gI T 186 2 = nI 0) : MI T (dyM A dy) := by
  obtain ⟨⟨h1, h2', h3, h4⟩, ⟨h5, h6⟩, h7, h8, ⟨h9, h10⟩, h11⟩ := hM
  have hD' : ∀ x k, ¬ ((x = 186 ∧ (k = 0 ∨ k = 2 ∨ k = 3 ∨ k = 7 ∨ k = 8)) ∨ x = 188 ∨ x = 189 ∨ x = 190 ∨ x = 197) → ¬ D x k := fun x k a d => a (hD x k d)
  refine ⟨⟨h1.fg hf (fun x k a b => hD' _ _ (by omega)) id, h2'.fg hf (fun k a b => hD' _ _ (by omega)), h3.fg hf (fun k a b => hD' _ _ (by omega)), by rw [hf.I (hD' _ _ (by omega))]; exact h4⟩, ⟨h5.fg hA.2.2.1.1 hf (hD' _ _ (by omega)) (fun k a b => hD' _ _ (by omega)), h6.fg hf (fun k => hD' _ _ (by omega)) (fun k a b => hD' _ _ (by omega))⟩, hd, ⟨h2, fun k hk => absurd hk (by simp [tpA, dyM])⟩, ⟨by rw [hf.I (hD' _ _ (by omega))]; exact h9, fun i hi => ?_⟩, fun k hk => ?_⟩
  · rw [(hf.1 _ _ (hD' _ _ (by omega))).2]; exact h10 i hi
  · rw [(hf.1 _ _ (hD' _ _ (by omega))).2]; exact h11 k hk
theorem AI.day {dy : List (Nat × Nat × Nat)} (hA : AI n A) (h1 : dy.length ≤ 40) (h2 : ∀ x, x ∈ dy → okD (plA A) x) : AI (n + 1) (dyM A dy) := by
  have h := hA.up (m := n + 1) (by omega)
  exact ⟨⟨Nat.zero_le _, fun c hc => absurd hc (by simp [tpA, dyM]), h.1.2.2⟩, h.2.1, h.2.2.1, h1, h2⟩
def dyV (tp : List Nat) (r : Except (Nat × Nat) (List (Nat × Nat × Nat))) : Int32 := match r with
  | .error e => nI (e.1 + 16 * tP tp e.2)
  | .ok _ => 0
def dyA2 (A : aA) (r : Except (Nat × Nat) (List (Nat × Nat × Nat))) : aA := match r with
  | .error _ => dyM A (dyA A)
  | .ok l => dyM A l
theorem T_X8_clear (hg : 1 ≤ f) : zU (F_X8_clear f 0 [.ref 1] S) (fun U => U = sI S 1 1 0) := by
  obtain ⟨g, ge, hG⟩ := g1 hg; subst ge; clear hg; have hg := hG; clear hG; rw [E_X8_clear_0]; unfold F_X8_clear_0
  exact o_s (fun S1 s1 => u_r s1)
theorem B_day (hg : 10000 ≤ f) : Both n (fun S => F_X12_day f 0 [.ref 0] S) (fun S => F_X13_day f 0 [.ref 186] S) := by
  refine Both.of (fun S T A hC hM hA => ?_)
  have hp : pN (plA A) ≤ 6 := hA.2.1.1.1.2.2.1
  have ho : okTp (tpA A) := ⟨hA.1.1, hA.1.2.1⟩
  obtain ⟨N, hN⟩ := nT_ex (tpA A) hA.1.1
  have hi := dAl_i (nm := nmA A) hN hp 1001 0 0 (by omega) (by omega) (by omega)
  refine ⟨dyV (tpA A) (dAl (tpA A) (nmA A) (pN (plA A)) 1001 0 0), dyA2 A (dAl (tpA A) (nmA A) (pN (plA A)) 1001 0 0), ?_, ?_, ?_⟩
  · rcases er : dAl (tpA A) (nmA A) (pN (plA A)) 1001 0 0 with e | l
    · exact hA.day hA.2.2.2.1 hA.2.2.2.2
    · rw [er] at hi
      exact hA.day (by have := hi.1; omega) hi.2
  · obtain ⟨q, ⟨hX, hb0, hL, hF⟩, ⟨hH, hMk⟩, ⟨t, ht, ht3, ht4, hdl⟩, h7, h8⟩ := id hC
    have hq := hX.2.2.2
    show zI _ _
    replace hg : 9999 + 1 ≤ f := hg
    obtain ⟨g, ge, hG⟩ := g1 hg; subst ge; clear hg; have hg := hG; clear hG; rw [E_X12_day_0]; unfold F_X12_day_0
    rw [ht4, hX.c0, hX.1.2.1]
    have rt : ∀ t', t' = 35 ∨ t' = 39 → gR S t' 0 = t' + 1 ∧ gR S t' 1 = t' + 2 ∧ gR S t' 2 = t' + 3 := by
      intro t' h
      rcases h with rfl | rfl <;> exact ⟨hX.1.c (by omega) rfl, hX.1.c (by omega) rfl, hX.1.c (by omega) rfl⟩
    have rq : gR S q 2 = q + 1 := by rcases hq with rfl | rfl <;> exact hX.1.c (by omega) rfl
    have hm : CNm S q (pN (plA A)) (nmA A) := ⟨rq, hX.cp.2.1.2.1, fun i hi => ⟨(hA.1.2.2 i hi).1, h8 i hi⟩⟩
    refine o_I (T_X1_read (P := plA A) ho hN h7 (hX.1.c (by omega) rfl) (by omega) (by omega) (by omega) hp (rt (74 - t) (by omega)) hm (by omega)) ?_
    intro x S1 hx
    have r0 : ∀ {D : Nat → Nat → Prop} {U : aS}, Fx D S U → gR U 0 0 = 1 := fun hf => by rw [hf.2 _ _ (by omega)]; exact hX.c0
    rcases er : dAl (tpA A) (nmA A) (pN (plA A)) 1001 0 0 with e | l
    · rw [er] at hx hi
      obtain ⟨rfl, x2, x3⟩ := hx
      rw [r0 x3]
      refine o_V (T_X8_clear (by omega)) ?_
      intro S2 s2
      have f2 : Fx (fun x k => x = 1 ∨ (35 ≤ x ∧ x ≤ 42)) S S2 := (x3.mono (fun q j d => by unfold dDa at d; omega)).sI s2 (by omega)
      have hz := tP_b (tp := tpA A) e.2
      refine o_f (nI_ne (b := 0) (by omega) (by have := ho.1; omega) (by omega)) ?_
      obtain ⟨g, rfl, hg2⟩ := g1 (n := 9998) (f := g) (by omega)
      rw [E_X12_day_1]; unfold F_X12_day_1
      refine i_r ⟨rfl, CI.day hC (f2.fg.mono (fun _ _ d => d) (fun x hx => by omega)) (fun x k d => d) (fun p k h => f2.2 _ _ (by omega)) ⟨t, ht, by rw [f2.2 _ _ (by omega)]; exact ht3, by rw [f2.2 _ _ (by omega)]; exact ht4, ?_⟩ (by rw [s2, gI_sI, if_pos ⟨rfl, rfl⟩]; rfl), f2.fg.mono (fun x k d => by omega) (fun x hx => by omega)⟩
      have f2' : Fx (dDa (74 - t) 0) S S1 := x3
      have f3 : Fx (fun x k => x = 1 ∨ (74 - t ≤ x ∧ x ≤ 74 - t + 3)) S S2 := (f2'.mono (fun q j d => by unfold dDa at d; omega)).sI s2 (by omega)
      exact hdl.fg f3.fg (fun x k a b => by omega)
    · rw [er] at hx hi
      obtain ⟨rfl, x2, x3, x4, x5⟩ := hx
      rw [r0 x5]
      refine o_V (T_X8_clear (by omega)) ?_
      intro S2 s2
      have f2 : Fx (fun x k => x = 1 ∨ (35 ≤ x ∧ x ≤ 42)) S S2 := (x5.mono (fun q j d => by unfold dDa at d; omega)).sI s2 (by omega)
      refine o_t rfl ?_
      have e3 : gR S2 0 3 = t := by rw [f2.2 _ _ (by omega)]; exact ht3
      have e4 : gR S2 0 4 = 74 - t := by rw [f2.2 _ _ (by omega)]; exact ht4
      rw [e3, e4]
      refine o_sR (fun S3 s3 => o_sR (fun S4 s4 => ?_))
      obtain ⟨g, rfl, hg2⟩ := g1 (n := 9998) (f := g) (by omega)
      rw [E_X12_day_1]; unfold F_X12_day_1
      have f4 : Fg (fun x k => x = 1 ∨ (35 ≤ x ∧ x ≤ 42)) (fun x => x ≤ 1) S S4 := ((f2.fg.mono (fun _ _ d => d) (fun x hx => by omega)).sR s3 (by omega)).sR s4 (by omega)
      have i4 : ∀ x k, gI S4 x k = gI S2 x k := fun x k => by rw [s4, gI_sR, s3, gI_sR]
      refine i_r ⟨rfl, CI.day hC f4 (fun x k d => d) (fun p k h => ?_) ⟨74 - t, by omega, ?_, ?_, ?_⟩ ?_, f4.mono (fun x k d => by omega) (fun x hx => by omega)⟩
      · rw [s4, gR_sR, if_neg (by omega), s3, gR_sR, if_neg (by omega)]; exact f2.2 _ _ (by omega)
      · rw [s4, gR_sR, if_pos ⟨rfl, rfl⟩]
      · rw [s4, gR_sR, if_neg (by omega), s3, gR_sR, if_pos ⟨rfl, rfl⟩]; omega
      · have ht35 : 35 ≤ 74 - t := by omega
        have i2 : ∀ x k, 35 ≤ x → gI S2 x k = gI S1 x k := fun x k h => by rw [s2, gI_sI, if_neg (by omega)]
        refine ⟨by rw [i4, i2 _ _ (by omega), x3, Nat.zero_add], fun i hi => ?_⟩
        have := x4 i hi
        rw [Nat.zero_add] at this
        rw [i4, i4, i4, i2 _ _ (by omega), i2 _ _ (by omega), i2 _ _ (by omega)]
        exact this
      · rw [i4, s2, gI_sI, if_pos ⟨rfl, rfl⟩]; rfl
  · show zI _ _
    obtain ⟨⟨h1, h2, h3, h4⟩, ⟨h5, h6⟩, h7, h8, ⟨h9, h10⟩, h11⟩ := id hM
    replace hg : 9999 + 1 ≤ f := hg
    obtain ⟨g, ge, hG⟩ := g1 hg; subst ge; clear hg; have hg := hG; clear hG; rw [E_X13_day_0]; unfold F_X13_day_0
    refine o_s (fun T1 t1 => ?_)
    have f1 : Fr (fun x k => x = 186 ∧ k = 0) T T1 := (Fr.refl T).sI t1 ⟨rfl, rfl⟩
    refine o_V (M_cut (tp := tpA A) (h1.1.fr f1) (h8.fg f1.g ⟨by omega, fun k => by omega⟩) ho (by omega)) ?_
    rintro U ⟨⟨M, uM⟩, u7, u8, u2, uf⟩
    have fU : Fg (fun x k => (x = 186 ∧ (k = 0 ∨ k = 2 ∨ k = 3 ∨ k = 7 ∨ k = 8)) ∨ x = 188 ∨ x = 189 ∨ x = 190) (fun _ => False) T U := (f1.g.mono (fun x k d => by omega) (fun x hx => hx)).tr (uf.mono (fun x k d => by unfold dCu at d; omega) (fun x hx => hx))
    have hU : MTk U (tpA A) M 0 := ⟨h1.1.fg fU id, uM, ⟨u7, Nat.zero_le _⟩, u8, fun k hk => by rw [(fU.1 _ _ (by omega)).2]; exact h11 k hk⟩
    have hm : MNm U 0 (pN (plA A)) (nmA A) := ⟨by rw [fU.I (by omega)]; exact h9, fun i hi => ⟨hA.1.2.2 i hi, by rw [(fU.1 _ _ (by omega)).2]; exact h10 i hi⟩⟩
    have ih := T_mdall ho.1 hp 1001 0 g U [] (by omega) (by omega) (by simp) hU hm (fun i hi => absurd hi (by simp))
    refine i_m ih (fun x V hx => ?_)
    have hx : mQa (tpA A) U [] (dAl (tpA A) (nmA A) (pN (plA A)) 1001 0 0) x V := hx
    rcases er : dAl (tpA A) (nmA A) (pN (plA A)) 1001 0 0 with e | l
    · rw [er] at hx
      obtain ⟨rfl, x2⟩ := hx
      have fV : Fg (fun x k => (x = 186 ∧ (k = 0 ∨ k = 2 ∨ k = 3 ∨ k = 7 ∨ k = 8)) ∨ x = 188 ∨ x = 189 ∨ x = 190 ∨ (x = 197 ∧ 125 ≤ k)) (fun _ => False) T V := (fU.mono (fun x k d => by omega) (fun x hx => hx)).tr (x2.g.mono (fun x k d => by unfold dMd at d; omega) (fun x hx => hx))
      refine ⟨rfl, MI.day hM hA fV (fun x k d => by omega) ⟨?_, fun i hi => ?_⟩ (by rw [x2.2 _ _ (by unfold dMd; omega)]; exact u2), fV.mono (fun x k d => by omega) (fun x hx => hx)⟩
      · rw [fV.I (by omega)]; exact h7.1
      · have := hA.2.2.2.1
        have hi' : i < (dyA A).length := hi
        rw [fV.I (by omega), fV.I (by omega), fV.I (by omega)]
        exact h7.2 i hi
    · rw [er] at hx
      obtain ⟨rfl, x2, x3, x4⟩ := hx
      rw [List.nil_append] at x2 x3
      have fV : Fg (fun x k => (x = 186 ∧ (k = 0 ∨ k = 2 ∨ k = 3 ∨ k = 7 ∨ k = 8)) ∨ x = 188 ∨ x = 189 ∨ x = 190 ∨ x = 197) (fun _ => False) T V := (fU.mono (fun x k d => by omega) (fun x hx => hx)).tr (x4.g.mono (fun x k d => by unfold dMe at d; omega) (fun x hx => hx))
      refine ⟨rfl, MI.day hM hA fV (fun x k d => by omega) ⟨x2, fun i hi => ?_⟩ (by rw [x4.2 _ _ (by unfold dMe; omega)]; exact u2), fV.mono (fun x k d => by omega) (fun x hx => hx)⟩
      exact x3 i hi
end BD

/-! the class's half of path -/
section CQ6
variable {S T S1 : aS} {A : aA} {p q f n N t : Nat} {Q : aQ} {D : Nat → Nat → Prop} {tp : List Nat}
theorem CI.pth (hC : CI S A) (hp : gR S 0 2 = p) (hf : Fx D S T) (hD : ∀ x k, D x k → x = 1 ∨ (p ≤ x ∧ x ≤ p + 13)) (h1 : gI T 1 1 = nI 0) : CI T (tpM A []) := by
  obtain ⟨q, ⟨hX, hb0, hL, hF⟩, ⟨hH, hMk⟩, h6, h7, h8⟩ := hC
  have hq := hX.2.2.2
  have hpq : p = 22 - q := by omega
  have hD' : ∀ x k, x ≠ 1 → ¬ (p ≤ x ∧ x ≤ p + 13) → ¬ D x k := fun x k a b d => by have := hD x k d; omega
  have hf' : Fg D (fun x => x = 1) S T := hf.fg
  refine ⟨q, ⟨⟨⟨fun p k hp hx => ?_, ?_, ?_, ?_⟩, hX.cp.fg hf' (fun x k a b _ _ => hD' _ _ (by omega) (by omega)) (fun x a b => by omega), hX.2.2⟩, by rw [hf.2 _ _ (by omega)]; exact hb0, hL.fg hf' (fun x k a b => hD' _ _ (by omega) (by omega)) (by omega), hF.fg hf' (fun k => ⟨hD' _ _ (by omega) (by omega), hD' _ _ (by omega) (by omega)⟩)⟩, ⟨hH.fg hf' (fun x k a b => hD' _ _ (by omega) (by omega)) (fun x a b => by omega), hMk.fg hf' (hD' _ _ (by omega) (by omega)) (fun x k a b => hD' _ _ (by omega) (by omega)) (fun x a b => by omega)⟩, h6.fg hf' (fun x k a b => hD' _ _ (by omega) (by omega)) (by omega), ⟨h1, fun k hk => absurd hk (by simp [tpA, tpM])⟩, fun i hi => ?_⟩
  · rw [hf.2 _ _ (fun h => ?_)]
    · exact hX.1.1 p k hp hx
    · rw [h.1, h.2] at hx; exact absurd hx (by decide)
  · rw [hf.2 _ _ (by omega)]; exact hX.1.2.1
  · rw [hf.2 _ _ (by omega)]; exact hX.1.2.2.1
  · rw [hf.2 _ _ (by omega)]; exact hX.1.2.2.2
  · rw [hf.J (hD' _ _ (by omega) (by omega))]; exact h8 i hi
theorem C_path (hC : CI S A) (ho : okTp (tpA A)) (hN : nT (tpA A) N) (hg : 43600 ≤ f) : zI (F_X12_path f 0 [.ref 0] S) (fun x T => eE (xAl (tpA A) 1001 Q0 0) (fun k m => x = nI (k + 16 * tP (tpA A) m) ∧ CI T (tpM A [])) (fun Q _ => x = 0 ∧ CI T (paA Q)) ∧ Fg (fun q _ => q < 186) (fun q => q < 186) S T) := by
  obtain ⟨q, ⟨hX, hb0, hL, hF⟩, ⟨hH, hMk⟩, ⟨t, ht, ht3, ht4, hdl⟩, h7, h8⟩ := id hC
  have hq := hX.2.2.2
  replace hg : 43599 + 1 ≤ f := hg
  obtain ⟨g, ge, hG⟩ := g1 hg; subst ge; clear hg; have hg := hG; clear hG; rw [E_X12_path_0]; unfold F_X12_path_0
  rw [hb0, hX.c0]
  have hp : 22 - q = 3 ∨ 22 - q = 19 := by omega
  refine o_I (T_X6_read (p := 22 - q) ho hN h7 (hX.1.c (by omega) rfl) (CR.pr hX.1.1 hp) hp (by omega)) ?_
  intro x S1 hx
  have hi := xAl_i hN 1001 Q0 0 (Nat.zero_le _) (by omega) Q0_i
  have r0 : ∀ {D : Nat → Nat → Prop} {U : aS}, Fx D S U → gR U 0 0 = 1 := fun hf => by rw [hf.2 _ _ (by omega)]; exact hX.c0
  have ret : ∀ (g : Nat) (v : Int32) (W : aS) (P : Int32 → aS → Prop), 1 ≤ g → P v W → zI (F_X12_path g 1 [.int v] W) P := by
    intro g v W P hg hP
    obtain ⟨g, rfl, hg2⟩ := g1 (n := 0) (f := g) (by omega)
    rw [E_X12_path_1]; unfold F_X12_path_1
    exact i_r hP
  unfold cZ at hx
  rcases er : xAl (tpA A) 1001 Q0 0 with e | ⟨Q, m⟩
  · rw [er] at hx hi
    obtain ⟨rfl, x2, x3⟩ := hx
    rw [r0 x3]
    refine o_V (T_X8_clear (by omega)) ?_
    intro S2 s2
    have f2 : Fx (fun x k => x = 1 ∨ (22 - q ≤ x ∧ x ≤ 22 - q + 13)) S S2 := (x3.mono (fun q j d => by unfold dPt at d; omega)).sI s2 (by omega)
    have hz := tP_b (tp := tpA A) e.2
    have hi1 := hi.1
    refine o_f (nI_ne (b := 0) (by omega) (by have := ho.1; omega) (by omega)) ?_
    refine ret g _ _ _ (by omega) ⟨⟨rfl, CI.pth hC hb0 f2 (fun x k d => d) (by rw [s2, gI_sI, if_pos ⟨rfl, rfl⟩]; rfl)⟩, f2.fg.mono (fun x k d => by omega) (fun x d => by omega)⟩
  · rw [er] at hx hi
    obtain ⟨rfl, x2, x4, x3⟩ := hx
    rw [r0 x3]
    refine o_V (T_X8_clear (by omega)) ?_
    intro S2 s2
    have f2 : Fx (fun x k => x = 1 ∨ (22 - q ≤ x ∧ x ≤ 22 - q + 13)) S S2 := (x3.mono (fun q j d => by unfold dPt at d; omega)).sI s2 (by omega)
    have f12 : Fx (fun x k => x = 1) S1 S2 := (Fx.refl S1).sI s2 (by omega)
    have q2 : CQs S2 (22 - q) Q := x4.g f12 (by omega) (fun x k h => by omega)
    refine o_t rfl ?_
    rw [show gR S2 0 1 = q by rw [f2.2 _ _ (by omega)]; exact hX.1.2.1, show gR S2 0 2 = 22 - q by rw [f2.2 _ _ (by omega)]; exact hb0]
    refine o_sR (fun S3 s3 => o_sR (fun S4 s4 => ?_))
    have i4 : ∀ x k, gI S4 x k = gI S2 x k := fun x k => by rw [s4, gI_sR, s3, gI_sR]
    have j4 : ∀ x k, gJ S4 x k = gJ S2 x k := fun x k => by rw [s4, gJ_sR, s3, gJ_sR]
    have r4 : ∀ {x k : Nat}, ¬ (x = 0 ∧ (k = 1 ∨ k = 2)) → gR S4 x k = gR S2 x k := fun h => by rw [s4, gR_sR, if_neg (by omega), s3, gR_sR, if_neg (by omega)]
    have fg4 : Fg (fun x k => False) (fun x => x = 0) S2 S4 := ((Fg.refl (D := fun _ _ => False) (R := fun x => x = 0) S2).sR s3 rfl).sR s4 rfl
    refine o_V (T_X12_begin (q := 22 - q) (t := t) (P := Q.1) (nm := Q.2.1) (fun p k hp hx => ?_) ?_ ?_ ht ?_ ?_ (q2.1.fg fg4 (fun x k a b _ _ h => h) (fun x a b => by omega)) hi.2.1.1 hp ?_ (fun i hi => ?_) (by omega)) ?_
    · rw [r4 (fun h => ?_), f2.2 _ _ (fun h => ?_)]
      · exact hX.1.1 p k hp hx
      · rw [h.1, h.2] at hx; exact absurd hx (by decide)
      · rcases h with ⟨rfl, rfl | rfl⟩ <;> exact absurd hx (by decide)
    · rw [s4, gR_sR, if_pos ⟨rfl, rfl⟩]
    · rw [s4, gR_sR, if_neg (by omega), s3, gR_sR, if_pos ⟨rfl, rfl⟩]; omega
    · rw [r4 (by omega), f2.2 _ _ (by omega)]; exact ht3
    · rw [r4 (by omega), f2.2 _ _ (by omega)]; exact ht4
    · rw [i4, s2, gI_sI, if_pos ⟨rfl, rfl⟩]; rfl
    · rw [j4]; exact q2.2.1.2 i hi
    · rintro U ⟨u1, u2⟩
      refine ret g _ _ _ (by omega) ⟨⟨rfl, u1⟩, ((f2.fg.mono (fun x k d => by omega) (fun x d => by omega)).tr (fg4.mono (fun x k d => d.elim) (fun x d => by omega))).tr u2⟩
end CQ6

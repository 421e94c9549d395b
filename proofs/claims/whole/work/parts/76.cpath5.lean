/-! the class reads a path: the whole of it -/
def P0 : aP := ((6, 0, 0), (fun _ _ => 0), (5, 0), (none, none))
def Q0 : aQ := (P0, fun _ => [], fun _ => false, fun _ => false)
theorem LWF_n : LWF none := fun cs h => absurd h (by simp)
theorem P0_i : PI P0 := ⟨⟨by decide, by decide, by decide, by decide, by decide, by decide⟩, fun i hi => ⟨by show 0 ≤ 3; omega, by show 0 ≤ 9; omega, by show 0 ≤ 9; omega⟩, fun k hk => ⟨by show 0 ≤ 30; omega, by show 0 ≤ 99; omega⟩, fun k hk => by show 0 ≤ 2; omega, LWF_n, LWF_n⟩
theorem Q0_i : QI Q0 := ⟨⟨P0_i, fun i hi => absurd hi (by show ¬ i < 0; omega)⟩, fun _ => rfl, fun _ => rfl, fun _ => rfl, fun _ _ _ => rfl⟩
def paA (Q : aQ) : aA := (([], Q.2.1), (Q.1, bgL Q.1, fun _ => -1000), ([], fun _ => none), [])
section CQ5
variable {S T S1 : aS} {A : aA} {p q f n N t : Nat} {Q : aQ} {P : aP} {D : Nat → Nat → Prop} {tp : List Nat}
/-- the references of the plan at p -/
def CPr (S : aS) (p : Nat) : Prop := (gR S p 2 = p + 1 ∧ gR S p 3 = p + 2 ∧ gR S p 4 = p + 3 ∧ gR S p 5 = p + 4 ∧ gR S p 6 = p + 5 ∧ gR S p 7 = p + 6 ∧ gR S p 8 = p + 7 ∧ gR S p 12 = p + 8 ∧ gR S p 13 = p + 12) ∧ (gR S (p + 8) 0 = p + 8 + 1 ∧ gR S (p + 8) 2 = p + 8 + 2 ∧ gR S (p + 8) 3 = p + 8 + 3) ∧ gR S (p + 12) 0 = p + 12 + 1 ∧ gR S (p + 12) 2 = p + 12 + 2 ∧ gR S (p + 12) 3 = p + 12 + 3
theorem CPr.fr (h : CPr S p) (hf : Fr D S T) : CPr T p := by
  unfold CPr
  simp only [hf.R]
  exact h
theorem CR.pr (hR : ∀ p k, p < 186 → RX p k = false → gR S p k = R0 p k) (hp : p = 3 ∨ p = 19) : CPr S p := by
  rcases hp with rfl | rfl
  · exact ⟨⟨hR _ _ (by omega) rfl, hR _ _ (by omega) rfl, hR _ _ (by omega) rfl, hR _ _ (by omega) rfl, hR _ _ (by omega) rfl, hR _ _ (by omega) rfl, hR _ _ (by omega) rfl, hR _ _ (by omega) rfl, hR _ _ (by omega) rfl⟩, ⟨hR _ _ (by omega) rfl, hR _ _ (by omega) rfl, hR _ _ (by omega) rfl⟩, hR _ _ (by omega) rfl, hR _ _ (by omega) rfl, hR _ _ (by omega) rfl⟩
  · exact ⟨⟨hR _ _ (by omega) rfl, hR _ _ (by omega) rfl, hR _ _ (by omega) rfl, hR _ _ (by omega) rfl, hR _ _ (by omega) rfl, hR _ _ (by omega) rfl, hR _ _ (by omega) rfl, hR _ _ (by omega) rfl, hR _ _ (by omega) rfl⟩, ⟨hR _ _ (by omega) rfl, hR _ _ (by omega) rfl, hR _ _ (by omega) rfl⟩, hR _ _ (by omega) rfl, hR _ _ (by omega) rfl, hR _ _ (by omega) rfl⟩
/-- a plan of which nothing was told -/
theorem CQs.of0 (hr : CPr S p) (hi : gI S p 0 = 6 ∧ gI S p 1 = 0 ∧ gI S p 9 = 0 ∧ gI S p 10 = 5 ∧ gI S p 11 = 0 ∧ gI S p 14 = 0 ∧ gI S p 15 = 0) (hl : gI S (p + 8) 1 = 0 ∧ gI S (p + 12) 1 = 0) (hy : ∀ k, k < 8 → gI S (p + 5) k = 0 ∧ gI S (p + 6) k = 0) : CQs S p Q0 :=
  ⟨⟨hr.1.2, ⟨hi.1, hi.2.1, hi.2.2.1, hi.2.2.2.1, hi.2.2.2.2.1⟩, fun i hi => absurd hi (by show ¬ i < 0; omega), hy, fun i hi => absurd hi (by show ¬ i < 0; omega), ⟨hr.2.1, hl.1, fun k hk => absurd hk (by show ¬ k < 0; omega)⟩, ⟨hr.2.2, hl.2, fun k hk => absurd hk (by show ¬ k < 0; omega)⟩⟩, ⟨hr.1.1, fun i hi => absurd hi (by show ¬ i < 0; omega)⟩, hi.2.2.2.2.2.1, hi.2.2.2.2.2.2⟩
theorem T_X6_clear (hr : CPr S p) (hp : p = 3 ∨ p = 19) (hg : 40 ≤ f) : zU (F_X6_clear f 0 [.ref p] S) (fun T => CQs T p Q0 ∧ Fr (fun x k => p ≤ x ∧ x ≤ p + 13) S T) := by
  obtain ⟨g, ge, hG⟩ := g1 hg; subst ge; clear hg; have hg := hG; clear hG; rw [E_X6_clear_0]; unfold F_X6_clear_0
  refine o_s (fun S1 s1 => o_s (fun S2 s2 => o_s (fun S3 s3 => o_s (fun S4 s4 => o_s (fun S5 s5 => ?_)))))
  have f5 : Fr (fun x k => p ≤ x ∧ x ≤ p + 13) S S5 := (((((Fr.refl S).sI s1 (by omega)).sI s2 (by omega)).sI s3 (by omega)).sI s4 (by omega)).sI s5 (by omega)
  have r5 := hr.fr f5
  rw [r5.1.2.2.2.2.2.2.2.1]
  have cl : ∀ (l : Nat) (A : aS), zU (F_X5_clear g 0 [.ref l] A) (fun B => B = sI A l 1 0) := by
    intro l A
    obtain ⟨g, rfl, hg2⟩ := g1 (n := 30) (f := g) (by omega)
    rw [E_X5_clear_0]; unfold F_X5_clear_0
    exact o_s (fun S1 s1 => u_r s1)
  refine o_V (cl _ _) (fun S6 s6 => ?_)
  have f6 := f5.sI s6 (by omega)
  rw [(hr.fr f6).1.2.2.2.2.2.2.2.2]
  refine o_V (cl _ _) (fun S7 s7 => ?_)
  have f7 := f6.sI s7 (by omega)
  refine o_s (fun S8 s8 => o_s (fun S9 s9 => ?_))
  have f9 := (f7.sI s8 (by omega)).sI s9 (by omega)
  have i0 : gI S9 p 0 = 6 ∧ gI S9 p 1 = 0 ∧ gI S9 p 9 = 0 ∧ gI S9 p 10 = 5 ∧ gI S9 p 11 = 0 ∧ gI S9 p 14 = 0 ∧ gI S9 p 15 = 0 := by
    subst s9 s8 s7 s6 s5 s4 s3 s2 s1
    simp [gI_sI]
  have l0 : gI S9 (p + 8) 1 = 0 ∧ gI S9 (p + 12) 1 = 0 := by
    subst s9 s8 s7 s6 s5 s4 s3 s2 s1
    simp [gI_sI]
  refine o_loop (F := fun f vs S => F_X6_clear f 1 vs S) (c := 1) (B := 10) (y := 8) (fun k vs T => vs = [.ref p, .int (nI k)] ∧ (∀ j, j < k → gI T (p + 5) j = 0 ∧ gI T (p + 6) j = 0) ∧ Fr (fun x k => x = p + 5 ∨ x = p + 6) S9 T) ?_ ?_ 0 _ S9 g (by omega) ⟨rfl, fun j h => absurd h (by omega), Fr.refl S9⟩ (by omega)
  · rintro k _ T g hk ⟨rfl, h1, h2⟩ hg rk
    show zO (F_X6_clear g 1 _ _) _
    obtain ⟨g, ge, hG⟩ := g1 hg; subst ge; clear hg; have hg := hG; clear hG; rw [E_X6_clear_1]; unfold F_X6_clear_1
    refine o_f (nI_ge (b := 8) hk (by omega)) ?_
    refine o_X rfl hk ?_
    have rT := (hr.fr f9).fr h2
    rw [rT.1.2.2.2.2.1]
    refine o_s (fun A a => ?_)
    refine o_X rfl hk ?_
    have h2a := h2.sI a (by omega)
    rw [((hr.fr f9).fr h2a).1.2.2.2.2.2.1, nI_1]
    refine o_s (fun B b => ?_)
    refine rk g _ _ (by omega) ⟨rfl, fun j hj => ?_, h2a.sI b (by omega)⟩
    subst b a
    rw [gI_sI, if_neg (by omega), gI_sI, gI_sI]
    by_cases c : j = k
    · rw [if_pos ⟨rfl, c⟩, if_pos ⟨rfl, c⟩]; exact ⟨rfl, rfl⟩
    · rw [if_neg (by omega), if_neg (by omega), gI_sI, if_neg (by omega)]; exact h1 j (by omega)
  · rintro _ T g ⟨rfl, h1, h2⟩ hg
    show zO (F_X6_clear g 1 _ _) _
    obtain ⟨g, ge, hG⟩ := g1 hg; subst ge; clear hg; have hg := hG; clear hG; rw [E_X6_clear_1]; unfold F_X6_clear_1
    refine o_t (nI_le (b := 8) (Nat.le_refl _) (by omega)) (u_r ⟨CQs.of0 ((hr.fr f9).fr h2) ?_ ?_ h1, f9.tr (h2.mono (fun q k d => by omega))⟩)
    · rw [h2.2 _ _ (by omega), h2.2 _ _ (by omega), h2.2 _ _ (by omega), h2.2 _ _ (by omega), h2.2 _ _ (by omega), h2.2 _ _ (by omega), h2.2 _ _ (by omega)]; exact i0
    · rw [h2.2 _ _ (by omega), h2.2 _ _ (by omega)]; exact l0
theorem T_X6_read (ho : okTp tp) (hN : nT tp N) (hT : CTp S tp) (hr1 : gR S 1 0 = 2) (hr : CPr S p) (hp : p = 3 ∨ p = 19) (hg : 43400 ≤ f) : zI (F_X6_read f 0 [.ref p, .ref 1] S) (cZ tp p S (xAl tp 1001 Q0 0)) := by
  replace hg : 43399 + 1 ≤ f := hg
  obtain ⟨g, ge, hG⟩ := g1 hg; subst ge; clear hg; have hg := hG; clear hG; rw [E_X6_read_0]; unfold F_X6_read_0
  refine o_V (T_X6_clear hr hp (by omega)) ?_
  rintro S1 ⟨q1, f1⟩
  have x1 : Fx (fun x k => p ≤ x ∧ x ≤ p + 13) S S1 := f1.x
  refine o_V (T_X8_rewind (hT.x x1 ⟨by omega, fun k => by omega⟩) ho (by rw [x1.2 _ _ (by omega)]; exact hr1) (by omega)) ?_
  rintro S2 ⟨c2, f2⟩
  have fa : Fx (dPt p) S S2 := (x1.mono (fun q j d => by unfold dPt; omega)).tr (f2.mono (fun q j d => by unfold dPt; omega))
  refine i_m (T_pall ho hN (by omega) (by omega) 1001 0 0 g S2 Q0 (by omega) (by omega) (Nat.zero_le _) (Nat.le_refl _) c2 (q1.g f2 (by omega) (fun x k h => by omega)) Q0_i) (fun x U hx => ?_)
  exact eE_m hx (fun a b hh => ⟨hh.1, hh.2.1, fa.tr hh.2.2⟩) (fun a b hh => ⟨hh.1, hh.2.1, hh.2.2.1, fa.tr hh.2.2.2⟩)
theorem T_X12_begin {nm : Nat → List Nat} (hR : ∀ p k, p < 186 → RX p k = false → gR S p k = R0 p k) (h1 : gR S 0 1 = q) (h2 : gR S 0 2 = 22 - q) (ht : t = 35 ∨ t = 39) (h3 : gR S 0 3 = t) (h4 : gR S 0 4 = 74 - t) (hP : CP S q P) (hI : PI P) (hq : q = 3 ∨ q = 19) (hz : gI S 1 1 = nI 0) (hn : ∀ i, i < pN P → gJ S (q + 1) i = lN (k32 (nm i))) (hg : 100 ≤ f) : zU (F_X12_begin f 0 [.ref 0] S) (fun T => CI T (([], nm), (P, bgL P, fun _ => -1000), ([], fun _ => none), []) ∧ Fg (fun q _ => q < 186) (fun q => q < 186) S T) := by
  obtain ⟨g, ge, hG⟩ := g1 hg; subst ge; clear hg; have hg := hG; clear hG; rw [E_X12_begin_0]; unfold F_X12_begin_0
  have r : ∀ {p k : Nat}, p < 186 → RX p k = false → gR S p k = R0 p k := fun h h' => hR _ _ h h'
  rw [show gR S 0 5 = 43 from r (by omega) rfl, h1]
  refine o_V (T_X4_begin (p := 43) ⟨r (by omega) rfl, r (by omega) rfl, r (by omega) rfl⟩ hP hI (by omega) hq (by omega)) ?_
  rintro S1 ⟨a1, f1⟩
  obtain ⟨g, rfl, hg2⟩ := g1 (n := 98) (f := g) (by omega)
  rw [show gR S1 0 3 = t by rw [f1.R]; exact h3, E_X1_clear_0]; unfold F_X1_clear_0
  refine o_V (o_s (fun S2 s2 => u_r s2)) (fun S2 s2 => ?_)
  have f2 : Fr (fun x k => (43 ≤ x ∧ x ≤ 46) ∨ (x = t ∧ k = 3)) S S2 := (f1.mono (fun x k d => by unfold dL at d; omega)).sI s2 (by omega)
  rw [show gR S2 0 6 = 47 by rw [f2.R]; exact r (by omega) rfl, E_X2_clear_0]; unfold F_X2_clear_0
  refine o_V (o_s (fun S3 s3 => u_r s3)) (fun S3 s3 => ?_)
  have f3 : Fr (fun x k => (43 ≤ x ∧ x ≤ 46) ∨ (x = t ∧ k = 3) ∨ (x = 47 ∧ k = 1)) S S3 := (f2.mono (fun x k d => by omega)).sI s3 (by omega)
  rw [show gR S3 0 7 = 49 by rw [f3.R]; exact r (by omega) rfl, E_X3_clear_0]; unfold F_X3_clear_0
  refine o_V (o_s (fun S4 s4 => o_s (fun S5 s5 => u_r (P := fun S5 => ∃ S4, S4 = sI S3 49 1 0 ∧ S5 = sI S4 49 2 0) ⟨S4, s4, s5⟩))) ?_
  rintro S5 ⟨S4, s4, s5⟩
  refine o_s (fun S6 s6 => ?_)
  have f6 : Fr (fun x k => (43 ≤ x ∧ x ≤ 46) ∨ (x = t ∧ k = 3) ∨ (x = 47 ∧ k = 1) ∨ x = 49 ∨ (x = 0 ∧ k = 10)) S S6 := (((f3.mono (fun x k d => by omega)).sI s4 (by omega)).sI s5 (by omega)).sI s6 (by omega)
  rw [show gR S6 0 11 = 117 by rw [f6.R]; exact r (by omega) rfl, show gR S6 0 1 = q by rw [f6.R]; exact h1, E_X9_use_0]; unfold F_X9_use_0
  refine o_V (o_sR (fun S7 s7 => u_r s7)) (fun S7 s7 => ?_)
  rw [show gR S7 0 12 = 123 by rw [s7, gR_sR, if_neg (by omega), f6.R]; exact r (by omega) rfl, show gR S7 0 1 = q by rw [s7, gR_sR, if_neg (by omega), f6.R]; exact h1, E_X7_use_0]; unfold F_X7_use_0
  refine o_V (o_sR (fun S8 s8 => u_r s8)) (fun S8 s8 => ?_)
  have i8 : ∀ x k, gI S8 x k = gI S6 x k := fun x k => by rw [s8, gI_sR, s7, gI_sR]
  have r8 : ∀ {x k : Nat}, ¬ (x = 117 ∧ k = 3) → ¬ (x = 123 ∧ k = 2) → gR S8 x k = gR S x k := fun a b => by rw [s8, gR_sR, if_neg b, s7, gR_sR, if_neg a, f6.R]
  have f8 : Fg (fun x k => (43 ≤ x ∧ x ≤ 46) ∨ (x = t ∧ k = 3) ∨ (x = 47 ∧ k = 1) ∨ x = 49 ∨ (x = 0 ∧ k = 10)) (fun x => x = 117 ∨ x = 123) S S8 := ((f6.g.mono (fun _ _ d => d) (fun x h => h.elim)).sR s7 (by omega)).sR s8 (by omega)
  have g8 : Fg (fun x k => (x = t ∧ k = 3) ∨ (x = 47 ∧ k = 1) ∨ x = 49 ∨ (x = 0 ∧ k = 10)) (fun x => x = 117 ∨ x = 123) S1 S8 := by
    have a := (Fr.refl (D := fun x k => (x = t ∧ k = 3) ∨ (x = 47 ∧ k = 1) ∨ x = 49 ∨ (x = 0 ∧ k = 10)) S1).sI s2 (by omega)
    have b := (((a.sI s3 (by omega)).sI s4 (by omega)).sI s5 (by omega)).sI s6 (by omega)
    exact ((b.g.mono (fun _ _ d => d) (fun x h => h.elim)).sR s7 (by omega)).sR s8 (by omega)
  refine u_r ⟨⟨q, ⟨⟨⟨fun p k hp hx => ?_, by rw [r8 (by omega) (by omega)]; exact h1, ?_, ?_⟩, hP.fg f8 (fun x k a b _ _ => by omega) (fun x a b => by omega), hI, hq⟩, by rw [r8 (by omega) (by omega)]; exact h2, a1.fg g8 (fun x k a b => by omega) (by omega), ⟨?_, fun k hk hne => absurd rfl hne⟩⟩, ⟨⟨0, by omega, ?_, ?_, fun i hi => absurd hi (by simp [hiA])⟩, ?_, fun m hm x hx => absurd hx (by simp [mkA])⟩, ⟨t, ht, by rw [r8 (by omega) (by omega)]; exact h3, by rw [r8 (by omega) (by omega)]; exact h4, ?_, fun i hi => absurd hi (by simp [dyA])⟩, ⟨by rw [f8.I (by omega)]; exact hz, fun k hk => absurd hk (by simp [tpA])⟩, fun i hi => ?_⟩, f8.mono (fun x k d => by omega) (fun x d => by omega)⟩
  · rw [r8 (fun h => ?_) (fun h => ?_)]
    · exact hR p k hp hx
    · rw [h.1, h.2] at hx; exact absurd hx (by decide)
    · rw [h.1, h.2] at hx; exact absurd hx (by decide)
  · rw [s8, gR_sR, if_neg (by omega), s7, gR_sR, if_pos ⟨rfl, rfl⟩]
  · rw [s8, gR_sR, if_pos ⟨rfl, rfl⟩]
  · rw [i8, s6, gI_sI, if_neg (by omega), s5, gI_sI, if_neg (by omega), s4, gI_sI, if_neg (by omega), s3, gI_sI, if_pos ⟨rfl, rfl⟩]
    show (0 : Int32) = nI (bs (fun k => (-1000 : Int32) != -1000) 8)
    decide +kernel
  · rw [i8, s6, gI_sI, if_neg (by omega), s5, gI_sI, if_neg (by omega), s4, gI_sI, if_pos ⟨rfl, rfl⟩]; rfl
  · rw [i8, s6, gI_sI, if_neg (by omega), s5, gI_sI, if_pos ⟨rfl, rfl⟩]; rfl
  · rw [i8, s6, gI_sI, if_pos ⟨rfl, rfl⟩]
    show (0 : Int32) = nI (bs (fun k => (none : Option (Lk × aF)).isSome) 4)
    decide +kernel
  · rw [i8, s6, gI_sI, if_neg (by omega), s5, gI_sI, if_neg (by omega), s4, gI_sI, if_neg (by omega), s3, gI_sI, if_neg (by omega), s2, gI_sI, if_pos ⟨rfl, rfl⟩]; rfl
  · rw [(f8.1 _ _ (by omega)).2]; exact hn i hi
end CQ5

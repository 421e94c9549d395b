/-! the reference reads a path: all lines, the copies, the begin -/
def st0 (k : Nat) : Int32 := if k = 0 then 6 else if k = 2 then 1 else if k = 3 then 5 else if k = 5 then -1 else if k = 6 then -1 else 0
section MP7
variable {S T U S0 : aS} {f n x N a b c : Nat} {tp : List Nat} {D : Nat → Nat → Prop} {R : Nat → Prop} {Q Q2 : aQ} {P : aP}
theorem xLn_e : xLn tp Q n = eb (eb (xHd tp Q n) fun Q1 m => xBe tp Q1 (wO tp n) m) fun Q2 m => eb (xSem tp m) fun _ m => .ok (Q2, m) := by
  unfold xLn
  rcases xHd tp Q n with e | ⟨Q1, m⟩
  · rfl
  · rw [eb_ok, eb_ok]
theorem mp2 {z : Nat} (h : MFt S z) (hg : 1 ≤ f) : zI (F_X13_path f 2 [.ref 186] S) (fun x T => x = nI z ∧ T = S) := by
  obtain ⟨g, ge, hG⟩ := g1 hg; subst ge; clear hg; have hg := hG; clear hG; rw [E_X13_path_2]; unfold F_X13_path_2
  exact o_f h.p (i_r ⟨h.1, rfl⟩)
theorem mp1 {z : Nat} (h : MFt S z) (hg : 2 ≤ f) : zI (F_X13_path f 1 [.ref 186] S) (fun x T => x = nI z ∧ T = S) := by
  replace hg : 1 + 1 ≤ f := hg
  obtain ⟨g, ge, hG⟩ := g1 hg; subst ge; clear hg; have hg := hG; clear hG; rw [E_X13_path_1]; unfold F_X13_path_1
  exact o_f h.ne (mp2 h (by omega))
theorem M_pall {Z : Int32 → aS → Prop} (ho : tp.length ≤ 1000) : ∀ (φ n f : Nat) (S : aS) (Q : aQ) (c : Nat), 1001 - n ≤ φ → 36500 + φ ≤ f → MTk S tp N n → MQs S Q c → c ≤ n → QI Q → Fg dPm nR S0 S → (∀ k m T, xAl tp φ Q n = .error (k, m) → Fg dPm nR S0 T → Z (nI (k + 16 * tP tp m)) T) → (∀ Q' m c' T g, xAl tp φ Q n = .ok (Q', m) → QI Q' → MTk T tp N m → c' ≤ m → MQs T Q' c' → Fg dPm nR S0 T → 36400 ≤ g → zI (F_X13_path g 2 [.ref 186] T) Z) → zI (F_X13_path f 1 [.ref 186] S) Z
  | 0, n, f, S, Q, c, hf, _, h, _, _, _, _, _, _ => by have := h.2.1.1.1; have := h.2.2.1.2; omega
  | φ + 1, n, f, S, Q, c, hf, hg, h, hq, hc, hI, h0, he, hk => by
    have hN := h.2.1.1
    have hn := h.2.2.1.2
    have hN1 := hN.1
    replace hg : (36500 + φ) + 1 ≤ f := by omega
    obtain ⟨g, ge, hG⟩ := g1 hg; subst ge; clear hg; have hg := hG; clear hG; rw [E_X13_path_1]; unfold F_X13_path_1
    refine o_t h.2.2.2.1 ?_
    rw [h.2.2.1.1]
    refine o_X rfl h.lt ?_
    rw [h.1.sort, h.tk.1]
    by_cases ct : (tk tp n).1 = 0
    · refine o_t (by rw [ct]; rfl) ?_
      exact hk Q n c S g (by unfold xAl; rw [if_pos ct]) hI h hc hq h0 (by omega)
    refine o_f (nI_ne (b := 0) ct (by have := tk_5 (tp := tp) (n := n); omega) (by omega)) ?_
    have ex : xAl tp (φ + 1) Q n = eb (xLn tp Q n) fun Q m => xAl tp φ Q m := by
      show (if (tk tp n).1 = 0 then _ else _) = _
      rw [if_neg ct]
    rw [ex, xLn_e] at he hk
    have hL := xLn_i hN hn hI
    rw [xLn_e] at hL
    refine o_V (M_line ho h hq hc hI (by omega)) (fun A ha => ?_)
    have hB : eE (eb (xHd tp Q n) fun Q1 m => xBe tp Q1 (wO tp n) m) (fun k m => (1 ≤ k ∧ k ≤ 5) ∧ m ≤ N) (fun Q2 m => (n + 1 ≤ m ∧ m ≤ N) ∧ QI Q2) := eE_b (xHd_i hN hn hI) (fun _ _ h => h) (fun Q1 m _ hh => eE_m (xBe_i hN hh.1.2 hh.2.2 hh.2.1) (fun _ _ h => h) (fun Q2 m2 h2 => ⟨⟨by omega, h2.1.2⟩, h2.2⟩))
    rcases er : (eb (xHd tp Q n) fun Q1 m => xBe tp Q1 (wO tp n) m) with ⟨e1, e2⟩ | ⟨Q2, m⟩
    · rw [er] at ha hB he
      have hz := mf_n ho hB.1.1 hB.1.2 ha.1
      refine o_V (M_takeSign0 hz (by omega)) (fun B b => ?_)
      rw [b]
      refine i_m (mp1 hz (by omega)) ?_
      rintro x T ⟨rfl, t⟩
      rw [t]
      exact he e1 e2 A rfl (h0.tr ha.2)
    · rw [er] at ha hB he hk
      rw [eb_ok] at he hk
      obtain ⟨a1, ⟨c2, a2, a3⟩, a4⟩ := ha
      refine o_V (M_takeSign (c := 59) a1 (by omega) (by omega)) (fun B b => ?_)
      unfold xSem at he hk
      by_cases s : qS tp m 59 = true
      · rw [if_pos s] at b he hk
        rw [eb_ok, eb_ok] at he hk
        have b78 := d7_78 b.2
        have m1 := hB.1
        exact M_pall ho φ (m + 1) g B Q2 c2 (by omega) (by omega) b.1 (a3.f78 hB.2.1.1.1.2.2.2.1 b78) (by omega) hB.2 ((h0.tr a4).tr (g78 b78)) he hk
      · rw [if_neg s] at b he
        have hz := mf_n (m := m) ho (by omega) (by omega) b.1
        refine i_m (mp1 hz (by omega)) ?_
        rintro x T ⟨rfl, t⟩
        rw [t]
        exact he 1 m B rfl ((h0.tr a4).tr (g78 (d8_78 b.2)))
theorem M_stands (hR : MR S) (hb : b = 0 ∨ b = 70) (hg : 200 ≤ f) : zU (F_X13_standsAsAlways f 0 [.ref 186, .int (nI b)] S) (fun T => (∀ k, k < 70 → gI T 192 (b + k) = st0 k) ∧ Fr (fun x k => x = 192 ∧ b ≤ k ∧ k < b + 70) S T) := by
  replace hg : 199 + 1 ≤ f := hg
  obtain ⟨g, ge, hG⟩ := g1 hg; subst ge; clear hg; have hg := hG; clear hG; rw [E_X13_standsAsAlways_0]; unfold F_X13_standsAsAlways_0
  refine o_loop (F := fun f vs S => F_X13_standsAsAlways f 1 vs S) (c := 1) (B := 10) (y := 70) (fun k vs T => vs = [.ref 186, .int (nI b), .int (nI k)] ∧ (∀ j, j < k → gI T 192 (b + j) = 0) ∧ Fr (fun x k => x = 192 ∧ b ≤ k ∧ k < b + 70) S T) ?_ ?_ 0 _ S g (by omega) ⟨rfl, fun j h => absurd h (by omega), Fr.refl S⟩ (by omega)
  · rintro k _ T g hk ⟨rfl, h1, h2⟩ hg rk
    show zO (F_X13_standsAsAlways g 1 _ _) _
    obtain ⟨g, ge, hG⟩ := g1 hg; subst ge; clear hg; have hg := hG; clear hG; rw [E_X13_standsAsAlways_1]; unfold F_X13_standsAsAlways_1
    refine o_f (nI_ge (b := 70) hk (by omega)) ?_
    refine o_X (n := b + k) (by rw [nI_add]) (by omega) ?_
    rw [(hR.fr h2).paths, nI_1]
    refine o_s (fun A a => ?_)
    refine rk g _ _ (by omega) ⟨rfl, fun j hj => ?_, h2.sI a ⟨rfl, by omega, by omega⟩⟩
    rw [a, gI_sI]
    by_cases e : j = k
    · rw [if_pos ⟨rfl, by rw [e]⟩]
    · rw [if_neg (by omega)]; exact h1 j (by omega)
  · rintro _ T g ⟨rfl, h1, h2⟩ hg
    show zO (F_X13_standsAsAlways g 1 _ _) _
    obtain ⟨g, ge, hG⟩ := g1 hg; subst ge; clear hg; have hg := hG; clear hG; rw [E_X13_standsAsAlways_1]; unfold F_X13_standsAsAlways_1
    refine o_t (nI_le (b := 70) (Nat.le_refl _) (by omega)) ?_
    refine o_X (n := b) (by rw [show (0 : Int32) = nI 0 from rfl, nI_add]; rfl) (by omega) ?_
    rw [(hR.fr h2).paths]
    refine o_s (fun A1 a1 => ?_)
    have k1 := h2.sI a1 ⟨rfl, by omega, by omega⟩
    refine o_X (n := b + 2) (nA2 rfl) (by omega) ?_
    rw [(hR.fr k1).paths]
    refine o_s (fun A2 a2 => ?_)
    have k2 := k1.sI a2 ⟨rfl, by omega, by omega⟩
    refine o_X (n := b + 3) (nA2 rfl) (by omega) ?_
    rw [(hR.fr k2).paths]
    refine o_s (fun A3 a3 => ?_)
    have k3 := k2.sI a3 ⟨rfl, by omega, by omega⟩
    refine o_X (n := b + 5) (nA2 rfl) (by omega) ?_
    rw [(hR.fr k3).paths]
    refine o_s (fun A4 a4 => ?_)
    have k4 := k3.sI a4 ⟨rfl, by omega, by omega⟩
    refine o_X (n := b + 6) (by rw [nA2 (n := 5) (c := 5) rfl, nI_1]) (by omega) ?_
    rw [(hR.fr k4).paths]
    refine o_s (fun A5 a5 => ?_)
    have k5 := k4.sI a5 ⟨rfl, by omega, by omega⟩
    refine u_r ⟨fun k hk => ?_, k5⟩
    unfold st0
    subst a5 a4 a3 a2 a1
    rw [gI_sI, gI_sI, gI_sI, gI_sI, gI_sI]
    by_cases e6 : k = 6
    · rw [if_pos ⟨rfl, by rw [e6]⟩, e6]; rfl
    rw [if_neg (by omega)]
    by_cases e5 : k = 5
    · rw [if_pos ⟨rfl, by rw [e5]⟩, e5]; rfl
    rw [if_neg (by omega)]
    by_cases e3 : k = 3
    · rw [if_pos ⟨rfl, by rw [e3]⟩, e3]; rfl
    rw [if_neg (by omega)]
    by_cases e2 : k = 2
    · rw [if_pos ⟨rfl, by rw [e2]⟩, e2]; rfl
    rw [if_neg (by omega)]
    by_cases e0 : k = 0
    · rw [if_pos ⟨rfl, by rw [e0]; rfl⟩, if_pos e0]
    rw [if_neg (by omega), if_neg e0, if_neg e2, if_neg e3, if_neg e5, if_neg e6]
    exact h1 k hk
theorem MQs.of0 (h : ∀ k, k < 70 → gI S 192 (70 + k) = st0 k) (h13 : gI S 186 13 = 0) (h17 : gI S 186 17 = 0) (h18 : gI S 186 18 = 0) : MQs S Q0 0 := by
  refine ⟨⟨⟨⟨h 0 (by omega), h 1 (by omega), h 3 (by omega), h 4 (by omega)⟩, fun i hi => absurd hi (by show ¬ i < 0; omega), fun k hk => ⟨?_, ?_⟩⟩, ⟨Or.inl ⟨rfl, h 5 (by omega)⟩, Or.inl ⟨rfl, h 6 (by omega)⟩, h13⟩, ⟨h17, fun i hi => absurd hi (by show ¬ i < 0; omega)⟩, ?_⟩, Or.inl ⟨rfl, h 2 (by omega), h 42 (by omega)⟩⟩
  · have := h (26 + k) (by omega)
    rw [show 70 + (26 + k) = 96 + k by omega] at this
    rw [this]
    unfold st0
    rw [if_neg (by omega), if_neg (by omega), if_neg (by omega), if_neg (by omega), if_neg (by omega)]; rfl
  · have := h (34 + k) (by omega)
    rw [show 70 + (34 + k) = 104 + k by omega] at this
    rw [this]
    unfold st0
    rw [if_neg (by omega), if_neg (by omega), if_neg (by omega), if_neg (by omega), if_neg (by omega)]; rfl
  · rw [h18]; rfl
theorem M_begins (h : MM S P) (hI : PI P) (hg : 200 ≤ f) : zU (F_X13_begins f 0 [.ref 186] S) (fun T => MA T 0 (bgL P) ∧ MFd T 0 (fun _ => -1000) ∧ gI T 197 0 = 0 ∧ gI T 186 23 = 0 ∧ (∀ m, m < 4 → gI T 201 m = 0) ∧ Fr (fun x k => (x = 200 ∧ k < 36) ∨ x = 198 ∨ x = 199 ∨ (x = 186 ∧ (k = 23 ∨ (26 ≤ k ∧ k ≤ 28))) ∨ (x = 197 ∧ k = 0) ∨ x = 201) S T) := by
  replace hg : 199 + 1 ≤ f := hg
  obtain ⟨g, ge, hG⟩ := g1 hg; subst ge; clear hg; have hg := hG; clear hG; rw [E_X13_begins_0]; unfold F_X13_begins_0
  refine o_V (T_X13_starts (b := 0) h hI (by omega) (by omega)) ?_
  rintro S1 ⟨m1, f1⟩
  have hR1 := h.1.fr f1
  refine o_loop (F := fun f vs S => F_X13_begins f 1 vs S) (c := 1) (B := 60) (y := 8) (fun k vs T => vs = [.ref 186, .int (nI k)] ∧ (∀ j, j < k → gI T 200 (28 + j) = -1000) ∧ Fr (fun x k => x = 200 ∧ 28 ≤ k ∧ k < 36) S1 T) ?_ ?_ 0 _ S1 g (by omega) ⟨rfl, fun j h => absurd h (by omega), Fr.refl S1⟩ (by omega)
  · rintro k _ T g hk ⟨rfl, h1, h2⟩ hg rk
    show zO (F_X13_begins g 1 _ _) _
    replace hg : 60 + 1 ≤ g := by omega
    obtain ⟨g, ge, hG⟩ := g1 hg; subst ge; clear hg; have hg := hG; clear hG; rw [E_X13_begins_1]; unfold F_X13_begins_1
    refine o_f (nI_ge (b := 8) hk (by omega)) ?_
    refine o_X (n := 28 + k) (nA2' rfl) (by omega) ?_
    rw [(hR1.fr h2).state, nI_1]
    refine o_s (fun A a => ?_)
    refine rk g _ _ (by omega) ⟨rfl, fun j hj => ?_, h2.sI a ⟨rfl, by omega, by omega⟩⟩
    rw [a, gI_sI]
    by_cases e : j = k
    · rw [if_pos ⟨rfl, by rw [e]⟩]
    · rw [if_neg (by omega)]; exact h1 j (by omega)
  · rintro _ T g ⟨rfl, h1, h2⟩ hg
    show zO (F_X13_begins g 1 _ _) _
    replace hg : 59 + 1 ≤ g := by omega
    obtain ⟨g, ge, hG⟩ := g1 hg; subst ge; clear hg; have hg := hG; clear hG; rw [E_X13_begins_1]; unfold F_X13_begins_1
    refine o_t (nI_le (b := 8) (Nat.le_refl _) (by omega)) ?_
    refine o_X (n := 0) rfl (by omega) ?_
    rw [(hR1.fr h2).lines]
    refine o_s (fun A a => o_s (fun B b => ?_))
    have fB' : Fr (fun x k => (x = 200 ∧ 28 ≤ k ∧ k < 36) ∨ (x = 197 ∧ k = 0) ∨ (x = 186 ∧ k = 23)) S1 B := ((h2.mono (fun q k d => by omega)).sI a (by omega)).sI b (by omega)
    have hRB := hR1.fr fB'
    refine o_loop (F := fun f vs S => F_X13_begins f 2 vs S) (c := 1) (B := 10) (y := 4) (fun k vs T => vs = [.ref 186, .int (nI k)] ∧ (∀ j, j < k → gI T 201 j = 0) ∧ Fr (fun x k => x = 201) B T) ?_ ?_ 0 _ B g (by omega) ⟨rfl, fun j h => absurd h (by omega), Fr.refl B⟩ (by omega)
    · rintro k _ T g hk ⟨rfl, h3, h4⟩ hg rk
      show zO (F_X13_begins g 2 _ _) _
      obtain ⟨g, ge, hG⟩ := g1 hg; subst ge; clear hg; have hg := hG; clear hG; rw [E_X13_begins_2]; unfold F_X13_begins_2
      refine o_f (nI_ge (b := 4) hk (by omega)) ?_
      refine o_X (n := k) rfl hk ?_
      rw [(hRB.fr h4).marked, nI_1]
      refine o_s (fun C c => ?_)
      refine rk g _ _ (by omega) ⟨rfl, fun j hj => ?_, h4.sI c rfl⟩
      rw [c, gI_sI]
      by_cases e : j = k
      · rw [if_pos ⟨rfl, e⟩]; rfl
      · rw [if_neg (by omega)]; exact h3 j (by omega)
    · rintro _ T g ⟨rfl, h3, h4⟩ hg
      show zO (F_X13_begins g 2 _ _) _
      obtain ⟨g, ge, hG⟩ := g1 hg; subst ge; clear hg; have hg := hG; clear hG; rw [E_X13_begins_2]; unfold F_X13_begins_2
      refine o_t (nI_le (b := 4) (Nat.le_refl _) (by omega)) (u_r ⟨?_, fun k hk => ?_, ?_, ?_, h3, ?_⟩)
      · exact (m1.fr fB' (fun k a b d => by omega)).fr h4 (fun k a b d => by omega)
      · rw [show 0 + 28 + k = 28 + k by omega, h4.2 _ _ (by omega), b, gI_sI, if_neg (by omega), a, gI_sI, if_neg (by omega)]
        exact h1 k hk
      · rw [h4.2 _ _ (by omega), b, gI_sI, if_neg (by omega), a, gI_sI, if_pos ⟨rfl, rfl⟩]
      · rw [h4.2 _ _ (by omega), b, gI_sI, if_pos ⟨rfl, rfl⟩]
      · exact ((f1.mono (fun q k d => by unfold dX at d; omega)).tr (fB'.mono (fun q k d => by omega))).tr (h4.mono (fun q k d => by omega))
end MP7

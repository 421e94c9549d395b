/-! the law's loop -/
section LLP
variable {S T : aS} {A : aA} {n f L : Nat} {xs : Nat → Int32} {D : Nat → Nat → Prop} {R : Nat → Prop}
theorem MI.f7 (h : MI S A) (hA : AI n A) (hf : Fg D R S T) (hD : ∀ x k, D x k → 207 ≤ x) (hR : ∀ x, R x → 207 ≤ x) : MI T A := by
  obtain ⟨⟨h1, h2, h3, h4⟩, ⟨h5, h6⟩, h7, h8, ⟨h9, h10⟩, h11⟩ := h
  have hR' : ¬ R 186 := fun hr => by have := hR _ hr; omega
  have hD' : ∀ x k, x < 207 → ¬ D x k := fun x k hx hd => by have := hD x k hd; omega
  refine ⟨⟨h1.fg hf (fun x k a b => hD' _ _ (by omega)) hR', h2.fg hf (fun k a b => hD' _ _ (by omega)), h3.fg hf (fun k a b => hD' _ _ (by omega)), by rw [hf.I (hD' _ _ (by omega))]; exact h4⟩, ⟨h5.fg hA.2.2.1.1 hf (hD' _ _ (by omega)) (fun k a b => hD' _ _ (by omega)), h6.fg hf (fun k => hD' _ _ (by omega)) (fun k a b => hD' _ _ (by omega))⟩, h7.fg hf (fun k => hD' _ _ (by omega)), h8.fg hf ⟨hD' _ _ (by omega), fun k => hD' _ _ (by omega)⟩, ⟨by rw [hf.I (hD' _ _ (by omega))]; exact h9, fun i hi => ?_⟩, fun k hk => ?_⟩
  · rw [(hf.1 _ _ (hD' _ _ (by omega))).2]
    exact h10 i hi
  · rw [(hf.1 _ _ (hD' _ _ (by omega))).2]
    exact h11 k hk
theorem MI.f7c (h : MI S A) (hA : AI n A) (hf : Fg (fun q _ => q < 186) (fun q => q < 186) S T) : MI T A := h.fg hA hf (fun x k d => Or.inr d) (fun x d => d)
theorem CI.f7m (h : CI S A) (hf : Fg (fun q _ => 186 ≤ q) (fun q => 186 ≤ q) S T) : CI T A := h.fg hf (fun x k d => Or.inr d) (fun x d => d)
/-- one call, of both -/
theorem Both.st {rC rM : aS → aR} (h : Both n rC rM) (hC : CI S A) (hM : MI S A) (hA : AI n A) : ∃ v S1 S2 A', zI (rC S) (fun x T => x = v ∧ T = S1) ∧ zI (rM S1) (fun x T => x = v ∧ T = S2) ∧ AI (n + 1) A' ∧ CI S2 A' ∧ MI S2 A' := by
  obtain ⟨v0, A0, -, ⟨w0, S1, e0, x0, hx0, hv0, c0, f0⟩, -⟩ := h S S A hC hM hA
  have m1 : MI S1 A := hM.f7c hA f0
  obtain ⟨v, A', a, ⟨w, S1', e1, x, hx, hv, c1, f1⟩, ⟨w2, S2, e2, x2, hx2, hv2, m2, f2⟩⟩ := h S S1 A hC m1 hA
  have es := Prod.mk.inj (Option.some.inj (e0.symm.trans e1))
  have eS : S1' = S1 := es.2.symm
  subst eS
  refine ⟨v, S1', S2, A', ⟨w, S1', e1, x, hx, hv, rfl⟩, ⟨w2, S2, e2, x2, hx2, hv2, rfl⟩, a, c1.f7m (f2.mono (fun q k d => d.1) (fun q d => d.elim)), m2⟩
theorem L_end (hL : L ≤ 3584) (hn : n ≤ 512) : ((Int32.ofNat L) - (7 : Int32)) < nI (7 * n) ↔ L < 7 * n + 7 := by
  have e : Int32.ofNat L = nI L := rfl
  rw [Int32.lt_iff_toInt_lt, nI_toInt (show 7 * n < 2 ^ 31 by omega)]
  by_cases c : 7 ≤ L
  · rw [e, show (7 : Int32) = nI 7 from rfl, pk_sub c, nI_toInt (show L - 7 < 2 ^ 31 by omega)]
    omega
  · have hd := co_dec (N := 7) (P := fun L => (Int32.ofNat L - (7 : Int32)).toInt < 0) (by decide +kernel) (show L < 7 by omega)
    constructor
    · intro _; omega
    · intro _; omega
theorem T_loop (hL : L ≤ 3584) : ∀ (d n f : Nat) (S : aS) (A : aA), n + d = 512 → 43700 + 3 * d ≤ f → CI S A → MI S A → AI n A → zI (F_L_law xs L f 0 [.ref 0, .ref 186, .ref 207, .int (nI (7 * n))] S) (fun x _ => x = 1) := by
  intro d
  induction d with
  | zero =>
    intro n f S A hd hg hC hM hA
    obtain ⟨f, rfl⟩ : ∃ g, f = g + 1 := ⟨f - 1, by omega⟩
    show zI (F_L_law_0 xs L f (F_L_law xs L f) 0 186 207 (nI (7 * n)) S) _
    unfold F_L_law_0
    exact o_t ((L_end hL (by omega)).mpr (by omega)) (i_r rfl)
  | succ d ih =>
    intro n f S A hd hg hC hM hA
    obtain ⟨f, rfl⟩ : ∃ g, f = g + 1 := ⟨f - 1, by omega⟩
    have nx : ∀ (S2 : aS) (A' : aA), AI (n + 1) A' → CI S2 A' → MI S2 A' → ∀ g, 43700 + 3 * d + 1 ≤ g → zI (F_L_law xs L g 1 [.ref 0, .ref 186, .ref 207, .int (nI (7 * n))] S2) (fun x _ => x = 1) := by
      intro S2 A' a c m g hg
      obtain ⟨g, rfl⟩ : ∃ h, g = h + 1 := ⟨g - 1, by omega⟩
      show zI (F_L_law_1 xs L g (F_L_law xs L g) 0 186 207 (nI (7 * n)) S2) _
      unfold F_L_law_1
      rw [show nI (7 * n) + 7 = nI (7 * (n + 1)) by rw [show (7 : Int32) = nI 7 from rfl, nI_add, show 7 * n + 7 = 7 * (n + 1) by omega]]
      exact ih (n + 1) g S2 A' (by omega) (by omega) c m a
    show zI (F_L_law_0 xs L f (F_L_law xs L f) 0 186 207 (nI (7 * n)) S) _
    unfold F_L_law_0
    refine o_if (fun _ => i_r rfl) (fun cL => ?_)
    rw [L_end hL (by omega)] at cL
    refine o_X (n := 7 * n) rfl (by omega) ?_
    refine o_if (fun _ => ?_) (fun _ => ?_)
    · refine o_X (n := 7 * n + 1) (nA2 rfl) (by omega) ?_
      refine o_X (n := 7 * n + 2) (nA2 rfl) (by omega) ?_
      refine o_X (n := 7 * n + 3) (nA2 rfl) (by omega) ?_
      refine o_X (n := 7 * n + 4) (nA2 rfl) (by omega) ?_
      refine o_X (n := 7 * n + 5) (nA2 rfl) (by omega) ?_
      refine o_X (n := 7 * n + 6) (nA2 rfl) (by omega) ?_
      obtain ⟨v, S1, S2, A2, e1, e2, a2, c2, m2⟩ := Both.st (B_feed (n := n) (f := f) (by omega)) hC hM hA
      refine o_I e1 ?_
      rintro x T ⟨rfl, t1⟩
      rw [t1]
      refine o_X (n := 7 * n + 1) (nA2 rfl) (by omega) ?_
      refine o_X (n := 7 * n + 2) (nA2 rfl) (by omega) ?_
      refine o_X (n := 7 * n + 3) (nA2 rfl) (by omega) ?_
      refine o_X (n := 7 * n + 4) (nA2 rfl) (by omega) ?_
      refine o_X (n := 7 * n + 5) (nA2 rfl) (by omega) ?_
      refine o_X (n := 7 * n + 6) (nA2 rfl) (by omega) ?_
      refine o_I e2 ?_
      rintro x T ⟨y1, t2⟩
      rw [t2, y1]
      exact o_t rfl (nx S2 A2 a2 c2 m2 f (by omega))
    refine o_if (fun _ => ?_) (fun _ => ?_)
    · obtain ⟨v, S1, S2, A2, e1, e2, a2, c2, m2⟩ := Both.st (B_path (n := n) (f := f) (by omega)) hC hM hA
      refine o_I e1 ?_
      rintro x T ⟨rfl, t1⟩
      rw [t1]
      refine o_I e2 ?_
      rintro x T ⟨y1, t2⟩
      rw [t2, y1]
      exact o_t rfl (nx S2 A2 a2 c2 m2 f (by omega))
    refine o_if (fun _ => ?_) (fun _ => ?_)
    · obtain ⟨v, S1, S2, A2, e1, e2, a2, c2, m2⟩ := Both.st (B_day (n := n) (f := f) (by omega)) hC hM hA
      refine o_I e1 ?_
      rintro x T ⟨rfl, t1⟩
      rw [t1]
      refine o_I e2 ?_
      rintro x T ⟨y1, t2⟩
      rw [t2, y1]
      exact o_t rfl (nx S2 A2 a2 c2 m2 f (by omega))
    refine o_if (fun _ => ?_) (fun _ => ?_)
    · refine o_X (n := 7 * n + 1) (nA2 rfl) (by omega) ?_
      refine o_X (n := 7 * n + 2) (nA2 rfl) (by omega) ?_
      obtain ⟨v, S1, S2, A2, e1, e2, a2, c2, m2⟩ := Both.st (B_yard (n := n) (f := f) (by omega)) hC hM hA
      refine o_I e1 ?_
      rintro x T ⟨rfl, t1⟩
      rw [t1]
      refine o_X (n := 7 * n + 1) (nA2 rfl) (by omega) ?_
      refine o_X (n := 7 * n + 2) (nA2 rfl) (by omega) ?_
      refine o_I e2 ?_
      rintro x T ⟨y1, t2⟩
      rw [t2, y1]
      exact o_t rfl (nx S2 A2 a2 c2 m2 f (by omega))
    refine o_if (fun _ => ?_) (fun _ => ?_)
    · refine o_X (n := 7 * n + 1) (nA2 rfl) (by omega) ?_
      refine o_X (n := 7 * n + 2) (nA2 rfl) (by omega) ?_
      obtain ⟨v, S1, S2, A2, e1, e2, a2, c2, m2⟩ := Both.st (B_person (n := n) (f := f) (by omega)) hC hM hA
      refine o_I e1 ?_
      rintro x T ⟨rfl, t1⟩
      rw [t1]
      refine o_X (n := 7 * n + 1) (nA2 rfl) (by omega) ?_
      refine o_X (n := 7 * n + 2) (nA2 rfl) (by omega) ?_
      refine o_I e2 ?_
      rintro x T ⟨y1, t2⟩
      rw [t2, y1]
      exact o_t rfl (nx S2 A2 a2 c2 m2 f (by omega))
    refine o_if (fun _ => ?_) (fun _ => ?_)
    · obtain ⟨v, S1, S2, A2, e1, e2, a2, c2, m2⟩ := Both.st (B_space (n := n) (f := f) (by omega)) hC hM hA
      refine o_I e1 ?_
      rintro x T ⟨rfl, t1⟩
      rw [t1]
      refine o_I e2 ?_
      rintro x T ⟨y1, t2⟩
      rw [t2, y1]
      exact o_t rfl (nx S2 A2 a2 c2 m2 f (by omega))
    refine o_if (fun _ => ?_) (fun _ => ?_)
    · refine o_X (n := 7 * n + 1) (nA2 rfl) (by omega) ?_
      obtain ⟨v, S1, S2, A2, e1, e2, a2, c2, m2⟩ := Both.st (B_heaps (n := n) (f := f) (by omega)) hC hM hA
      refine o_I e1 ?_
      rintro x T ⟨rfl, t1⟩
      rw [t1]
      refine o_X (n := 7 * n + 1) (nA2 rfl) (by omega) ?_
      refine o_I e2 ?_
      rintro x T ⟨y1, t2⟩
      rw [t2, y1]
      exact o_t rfl (nx S2 A2 a2 c2 m2 f (by omega))
    refine o_if (fun _ => ?_) (fun _ => ?_)
    · obtain ⟨v, S1, S2, A2, e1, e2, a2, c2, m2⟩ := Both.st (B_lies (n := n) (f := f) (by omega)) hC hM hA
      refine o_I e1 ?_
      rintro x T ⟨rfl, t1⟩
      rw [t1]
      refine o_I e2 ?_
      rintro x T ⟨y1, t2⟩
      rw [t2, y1]
      exact o_t rfl (nx S2 A2 a2 c2 m2 f (by omega))
    refine o_if (fun _ => ?_) (fun _ => ?_)
    · refine o_X (n := 7 * n + 1) (nA2 rfl) (by omega) ?_
      obtain ⟨v, S1, S2, A2, e1, e2, a2, c2, m2⟩ := Both.st (B_walk (n := n) (f := f) (by omega)) hC hM hA
      refine o_I e1 ?_
      rintro x T ⟨rfl, t1⟩
      rw [t1]
      refine o_X (n := 7 * n + 1) (nA2 rfl) (by omega) ?_
      refine o_I e2 ?_
      rintro x T ⟨y1, t2⟩
      rw [t2, y1]
      exact o_t rfl (nx S2 A2 a2 c2 m2 f (by omega))
    refine o_if (fun _ => ?_) (fun _ => ?_)
    · refine o_X (n := 7 * n + 1) (nA2 rfl) (by omega) ?_
      obtain ⟨v, S1, S2, A2, e1, e2, a2, c2, m2⟩ := Both.st (B_empty (n := n) (f := f) (by omega)) hC hM hA
      refine o_I e1 ?_
      rintro x T ⟨rfl, t1⟩
      rw [t1]
      refine o_X (n := 7 * n + 1) (nA2 rfl) (by omega) ?_
      refine o_I e2 ?_
      rintro x T ⟨y1, t2⟩
      rw [t2, y1]
      exact o_t rfl (nx S2 A2 a2 c2 m2 f (by omega))
    refine o_if (fun _ => ?_) (fun _ => ?_)
    · refine o_X (n := 7 * n + 1) (nA2 rfl) (by omega) ?_
      refine o_X (n := 7 * n + 2) (nA2 rfl) (by omega) ?_
      obtain ⟨v, S1, S2, A2, e1, e2, a2, c2, m2⟩ := Both.st (B_put (n := n) (f := f) (by omega)) hC hM hA
      refine o_I e1 ?_
      rintro x T ⟨rfl, t1⟩
      rw [t1]
      refine o_X (n := 7 * n + 1) (nA2 rfl) (by omega) ?_
      refine o_X (n := 7 * n + 2) (nA2 rfl) (by omega) ?_
      refine o_I e2 ?_
      rintro x T ⟨y1, t2⟩
      rw [t2, y1]
      exact o_t rfl (nx S2 A2 a2 c2 m2 f (by omega))
    refine o_if (fun _ => ?_) (fun _ => ?_)
    · refine o_X (n := 7 * n + 1) (nA2 rfl) (by omega) ?_
      obtain ⟨v, S1, S2, A2, e1, e2, a2, c2, m2⟩ := Both.st (B_off (n := n) (f := f) (by omega)) hC hM hA
      refine o_I e1 ?_
      rintro x T ⟨rfl, t1⟩
      rw [t1]
      refine o_X (n := 7 * n + 1) (nA2 rfl) (by omega) ?_
      refine o_I e2 ?_
      rintro x T ⟨y1, t2⟩
      rw [t2, y1]
      exact o_t rfl (nx S2 A2 a2 c2 m2 f (by omega))
    refine o_if (fun _ => ?_) (fun _ => ?_)
    · refine o_X (n := 7 * n + 1) (nA2 rfl) (by omega) ?_
      obtain ⟨v, S1, S2, A2, e1, e2, a2, c2, m2⟩ := Both.st (B_sweep (n := n) (f := f) (by omega)) hC hM hA
      refine o_I e1 ?_
      rintro x T ⟨rfl, t1⟩
      rw [t1]
      refine o_X (n := 7 * n + 1) (nA2 rfl) (by omega) ?_
      refine o_I e2 ?_
      rintro x T ⟨y1, t2⟩
      rw [t2, y1]
      exact o_t rfl (nx S2 A2 a2 c2 m2 f (by omega))
    refine o_if (fun _ => ?_) (fun _ => ?_)
    · obtain ⟨v, S1, S2, A2, e1, e2, a2, c2, m2⟩ := Both.st (B_hour (n := n) (f := f) (by omega) (by omega)) hC hM hA
      refine o_I e1 ?_
      rintro x T ⟨rfl, t1⟩
      rw [t1]
      refine o_I e2 ?_
      rintro x T ⟨y1, t2⟩
      rw [t2, y1]
      exact o_t rfl (nx S2 A2 a2 c2 m2 f (by omega))
    refine o_if (fun _ => ?_) (fun _ => ?_)
    · obtain ⟨v, S1, S2, A2, e1, e2, a2, c2, m2⟩ := Both.st (B_undo (n := n) (f := f) (by omega)) hC hM hA
      refine o_I e1 ?_
      rintro x T ⟨rfl, t1⟩
      rw [t1]
      refine o_I e2 ?_
      rintro x T ⟨y1, t2⟩
      rw [t2, y1]
      exact o_t rfl (nx S2 A2 a2 c2 m2 f (by omega))
    refine o_if (fun _ => ?_) (fun _ => ?_)
    · refine o_X (n := 7 * n + 1) (nA2 rfl) (by omega) ?_
      obtain ⟨v, S1, S2, A2, e1, e2, a2, c2, m2⟩ := Both.st (B_judged (n := n) (f := f) (by omega)) hC hM hA
      refine o_I e1 ?_
      rintro x T ⟨rfl, t1⟩
      rw [t1]
      refine o_X (n := 7 * n + 1) (nA2 rfl) (by omega) ?_
      refine o_I e2 ?_
      rintro x T ⟨y1, t2⟩
      rw [t2, y1]
      exact o_t rfl (nx S2 A2 a2 c2 m2 f (by omega))
    refine o_if (fun _ => ?_) (fun _ => ?_)
    · refine o_X (n := 7 * n + 1) (nA2 rfl) (by omega) ?_
      refine o_X (n := 7 * n + 2) (nA2 rfl) (by omega) ?_
      obtain ⟨v, S1, S2, A2, e1, e2, a2, c2, m2⟩ := Both.st (B_leaves (n := n) (f := f) (by omega)) hC hM hA
      refine o_I e1 ?_
      rintro x T ⟨rfl, t1⟩
      rw [t1]
      refine o_X (n := 7 * n + 1) (nA2 rfl) (by omega) ?_
      refine o_X (n := 7 * n + 2) (nA2 rfl) (by omega) ?_
      refine o_I e2 ?_
      rintro x T ⟨y1, t2⟩
      rw [t2, y1]
      exact o_t rfl (nx S2 A2 a2 c2 m2 f (by omega))
    refine o_if (fun _ => ?_) (fun _ => ?_)
    · obtain ⟨v, S1, S2, A2, e1, e2, a2, c2, m2⟩ := Both.st (B_all (n := n) (f := f) (by omega)) hC hM hA
      refine o_I e1 ?_
      rintro x T ⟨rfl, t1⟩
      rw [t1]
      refine o_I e2 ?_
      rintro x T ⟨y1, t2⟩
      rw [t2, y1]
      exact o_t rfl (nx S2 A2 a2 c2 m2 f (by omega))
    refine o_if (fun _ => ?_) (fun _ => ?_)
    · refine o_X (n := 7 * n + 1) (nA2 rfl) (by omega) ?_
      refine o_X (n := 7 * n + 2) (nA2 rfl) (by omega) ?_
      refine o_X (n := 7 * n + 3) (nA2 rfl) (by omega) ?_
      obtain ⟨v, S1, S2, A2, e1, e2, a2, c2, m2⟩ := Both.st (B_place (n := n) (f := f) (by omega)) hC hM hA
      refine o_I e1 ?_
      rintro x T ⟨rfl, t1⟩
      rw [t1]
      refine o_X (n := 7 * n + 1) (nA2 rfl) (by omega) ?_
      refine o_X (n := 7 * n + 2) (nA2 rfl) (by omega) ?_
      refine o_X (n := 7 * n + 3) (nA2 rfl) (by omega) ?_
      refine o_I e2 ?_
      rintro x T ⟨y1, t2⟩
      rw [t2, y1]
      exact o_t rfl (nx S2 A2 a2 c2 m2 f (by omega))
    refine o_if (fun _ => ?_) (fun _ => ?_)
    · obtain ⟨v, S1, S2, A2, e1, e2, a2, c2, m2⟩ := Both.st (B_move (n := n) (f := f) (by omega)) hC hM hA
      refine o_I e1 ?_
      rintro x T ⟨rfl, t1⟩
      rw [t1]
      refine o_I e2 ?_
      rintro x T ⟨y1, t2⟩
      rw [t2, y1]
      exact o_t rfl (nx S2 A2 a2 c2 m2 f (by omega))
    refine o_if (fun _ => ?_) (fun _ => ?_)
    · obtain ⟨v, S1, S2, A2, e1, e2, a2, c2, m2⟩ := Both.st (B_full (n := n) (f := f) (by omega) (by omega)) hC hM hA
      refine o_I e1 ?_
      rintro x T ⟨rfl, t1⟩
      rw [t1]
      refine o_I e2 ?_
      rintro x T ⟨y1, t2⟩
      rw [t2, y1]
      exact o_t rfl (nx S2 A2 a2 c2 m2 f (by omega))
    refine o_if (fun _ => ?_) (fun _ => ?_)
    · refine o_X (n := 7 * n + 1) (nA2 rfl) (by omega) ?_
      obtain ⟨v, S1, S2, A2, e1, e2, a2, c2, m2⟩ := Both.st (B_without (n := n) (f := f) (by omega)) hC hM hA
      refine o_I e1 ?_
      rintro x T ⟨rfl, t1⟩
      rw [t1]
      refine o_X (n := 7 * n + 1) (nA2 rfl) (by omega) ?_
      refine o_I e2 ?_
      rintro x T ⟨y1, t2⟩
      rw [t2, y1]
      exact o_t rfl (nx S2 A2 a2 c2 m2 f (by omega))
    refine o_if (fun _ => ?_) (fun _ => ?_)
    · refine o_X (n := 7 * n + 1) (nA2 rfl) (by omega) ?_
      obtain ⟨v, S1, S2, A2, e1, e2, a2, c2, m2⟩ := Both.st (B_hands (n := n) (f := f) (by omega)) hC hM hA
      refine o_I e1 ?_
      rintro x T ⟨rfl, t1⟩
      rw [t1]
      refine o_X (n := 7 * n + 1) (nA2 rfl) (by omega) ?_
      refine o_I e2 ?_
      rintro x T ⟨y1, t2⟩
      rw [t2, y1]
      exact o_t rfl (nx S2 A2 a2 c2 m2 f (by omega))
    refine o_if (fun _ => ?_) (fun _ => ?_)
    · refine o_X (n := 7 * n + 1) (nA2 rfl) (by omega) ?_
      refine o_X (n := 7 * n + 2) (nA2 rfl) (by omega) ?_
      obtain ⟨v, S1, S2, A2, e1, e2, a2, c2, m2⟩ := Both.st (B_grows (n := n) (f := f) (by omega)) hC hM hA
      refine o_I e1 ?_
      rintro x T ⟨rfl, t1⟩
      rw [t1]
      refine o_X (n := 7 * n + 1) (nA2 rfl) (by omega) ?_
      refine o_X (n := 7 * n + 2) (nA2 rfl) (by omega) ?_
      refine o_I e2 ?_
      rintro x T ⟨y1, t2⟩
      rw [t2, y1]
      exact o_t rfl (nx S2 A2 a2 c2 m2 f (by omega))
    refine o_if (fun _ => ?_) (fun _ => ?_)
    · refine o_X (n := 7 * n + 1) (nA2 rfl) (by omega) ?_
      obtain ⟨v, S1, S2, A2, e1, e2, a2, c2, m2⟩ := Both.st (B_order (n := n) (f := f) (by omega)) hC hM hA
      refine o_I e1 ?_
      rintro x T ⟨rfl, t1⟩
      rw [t1]
      refine o_X (n := 7 * n + 1) (nA2 rfl) (by omega) ?_
      refine o_I e2 ?_
      rintro x T ⟨y1, t2⟩
      rw [t2, y1]
      exact o_t rfl (nx S2 A2 a2 c2 m2 f (by omega))
    refine o_if (fun _ => ?_) (fun _ => ?_)
    · refine o_X (n := 7 * n + 1) (nA2 rfl) (by omega) ?_
      refine o_X (n := 7 * n + 2) (nA2 rfl) (by omega) ?_
      refine o_X (n := 7 * n + 3) (nA2 rfl) (by omega) ?_
      obtain ⟨v, S1, S2, A2, e1, e2, a2, c2, m2⟩ := Both.st (B_rounds (n := n) (f := f) (by omega) (by omega)) hC hM hA
      refine o_I e1 ?_
      rintro x T ⟨rfl, t1⟩
      rw [t1]
      refine o_X (n := 7 * n + 1) (nA2 rfl) (by omega) ?_
      refine o_X (n := 7 * n + 2) (nA2 rfl) (by omega) ?_
      refine o_X (n := 7 * n + 3) (nA2 rfl) (by omega) ?_
      refine o_I e2 ?_
      rintro x T ⟨y1, t2⟩
      rw [t2, y1]
      exact o_t rfl (nx S2 A2 a2 c2 m2 f (by omega))
    refine o_if (fun _ => ?_) (fun _ => ?_)
    · refine o_X (n := 7 * n + 1) (nA2 rfl) (by omega) ?_
      refine o_X (n := 7 * n + 2) (nA2 rfl) (by omega) ?_
      obtain ⟨v, S1, S2, A2, e1, e2, a2, c2, m2⟩ := Both.st (B_from (n := n) (f := f) (by omega)) hC hM hA
      refine o_I e1 ?_
      rintro x T ⟨rfl, t1⟩
      rw [t1]
      refine o_X (n := 7 * n + 1) (nA2 rfl) (by omega) ?_
      refine o_X (n := 7 * n + 2) (nA2 rfl) (by omega) ?_
      refine o_I e2 ?_
      rintro x T ⟨y1, t2⟩
      rw [t2, y1]
      exact o_t rfl (nx S2 A2 a2 c2 m2 f (by omega))
    refine o_if (fun _ => ?_) (fun _ => ?_)
    · refine o_X (n := 7 * n + 1) (nA2 rfl) (by omega) ?_
      obtain ⟨v, S1, S2, A2, e1, e2, a2, c2, m2⟩ := Both.st (B_bare (n := n) (f := f) (by omega) (by omega)) hC hM hA
      refine o_I e1 ?_
      rintro x T ⟨rfl, t1⟩
      rw [t1]
      refine o_X (n := 7 * n + 1) (nA2 rfl) (by omega) ?_
      refine o_I e2 ?_
      rintro x T ⟨y1, t2⟩
      rw [t2, y1]
      exact o_t rfl (nx S2 A2 a2 c2 m2 f (by omega))
    refine o_if (fun _ => ?_) (fun _ => ?_)
    · refine o_X (n := 7 * n + 1) (nA2 rfl) (by omega) ?_
      obtain ⟨v, S1, S2, A2, e1, e2, a2, c2, m2⟩ := Both.st (B_deposit (n := n) (f := f) (by omega)) hC hM hA
      refine o_I e1 ?_
      rintro x T ⟨rfl, t1⟩
      rw [t1]
      refine o_X (n := 7 * n + 1) (nA2 rfl) (by omega) ?_
      refine o_I e2 ?_
      rintro x T ⟨y1, t2⟩
      rw [t2, y1]
      exact o_t rfl (nx S2 A2 a2 c2 m2 f (by omega))
    refine o_if (fun _ => ?_) (fun _ => ?_)
    · refine o_X (n := 7 * n + 1) (nA2 rfl) (by omega) ?_
      refine o_X (n := 7 * n + 2) (nA2 rfl) (by omega) ?_
      obtain ⟨v, S1, S2, A2, e1, e2, a2, c2, m2⟩ := Both.st (B_find (n := n) (f := f) (by omega)) hC hM hA
      refine o_I e1 ?_
      rintro x T ⟨rfl, t1⟩
      rw [t1]
      refine o_X (n := 7 * n + 1) (nA2 rfl) (by omega) ?_
      refine o_X (n := 7 * n + 2) (nA2 rfl) (by omega) ?_
      refine o_I e2 ?_
      rintro x T ⟨y1, t2⟩
      rw [t2, y1]
      exact o_t rfl (nx S2 A2 a2 c2 m2 f (by omega))
    refine o_if (fun _ => ?_) (fun _ => ?_)
    · obtain ⟨v, S1, S2, A2, e1, e2, a2, c2, m2⟩ := Both.st (B_who (n := n) (f := f) (by omega)) hC hM hA
      refine o_I e1 ?_
      rintro x T ⟨rfl, t1⟩
      rw [t1]
      refine o_I e2 ?_
      rintro x T ⟨y1, t2⟩
      rw [t2, y1]
      exact o_t rfl (nx S2 A2 a2 c2 m2 f (by omega))
    refine o_if (fun _ => ?_) (fun _ => ?_)
    · obtain ⟨v, S1, S2, A2, e1, e2, a2, c2, m2⟩ := Both.st (B_look (n := n) (f := f) (by omega)) hC hM hA
      refine o_I e1 ?_
      rintro x T ⟨rfl, t1⟩
      rw [t1]
      refine o_I e2 ?_
      rintro x T ⟨y1, t2⟩
      rw [t2, y1]
      exact o_t rfl (nx S2 A2 a2 c2 m2 f (by omega))
    refine o_if (fun _ => ?_) (fun _ => ?_)
    · refine o_X (n := 7 * n + 1) (nA2 rfl) (by omega) ?_
      obtain ⟨v, S1, S2, A2, e1, e2, a2, c2, m2⟩ := Both.st (B_mean (n := n) (f := f) (by omega)) hC hM hA
      refine o_I e1 ?_
      rintro x T ⟨rfl, t1⟩
      rw [t1]
      refine o_X (n := 7 * n + 1) (nA2 rfl) (by omega) ?_
      refine o_I e2 ?_
      rintro x T ⟨y1, t2⟩
      rw [t2, y1]
      exact o_t rfl (nx S2 A2 a2 c2 m2 f (by omega))
    refine o_if (fun _ => ?_) (fun _ => ?_)
    · refine o_X (n := 7 * n + 1) (nA2 rfl) (by omega) ?_
      refine o_X (n := 7 * n + 2) (nA2 rfl) (by omega) ?_
      refine o_X (n := 7 * n + 3) (nA2 rfl) (by omega) ?_
      obtain ⟨o, eo, ho⟩ := T_X12_rests (S := S) (f := f) (a := xs (7 * n + 1)) (b := xs (7 * n + 2)) (c := xs (7 * n + 3)) (by omega)
      have key : ∃ x S1, F_L_rests f 0 [.ref 0, .int (xs (7 * n + 1)), .int (xs (7 * n + 2)), .int (xs (7 * n + 3)), .ref 207] S = some (some (.int x), S1) ∧ x = (if o = none then 1 else 0) ∧ Fg (fun x _ => x = 207) (fun _ => False) S S1 ∧ ∀ v, o = some v → gJ S1 207 0 = v.toInt64 := by
        have e : F_L_rests f 0 [.ref 0, .int (xs (7 * n + 1)), .int (xs (7 * n + 2)), .int (xs (7 * n + 3)), .ref 207] S = (match F_X12_rests f 0 [.ref 0, .int (xs (7 * n + 1)), .int (xs (7 * n + 2)), .int (xs (7 * n + 3))] S with
          | some (some (.int x), S1) => some (some (.int 0), sJ S1 207 0 x.toInt64)
          | some (none, S1) => some (some (.int 1), S1)
          | _ => none) := rfl
        rw [e, eo]
        rcases o with _ | x
        · exact ⟨1, S, rfl, rfl, Fg.refl S, fun v h => absurd h (by simp)⟩
        · refine ⟨0, sJ S 207 0 x.toInt64, rfl, rfl, (Fg.refl S).sJ rfl rfl, fun v h => ?_⟩
          rw [gJ_sJ, if_pos ⟨rfl, rfl⟩, Option.some.inj h]
      obtain ⟨x, S1, ex, hx, f1, hv⟩ := key
      have hC1 : CI S1 A := hC.f7m (f1.mono (fun q k d => by omega) (fun q d => d.elim))
      have hM1 : MI S1 A := hM.f7 hA f1 (fun x k d => by omega) (fun x d => d.elim)
      refine o_I (P := fun y T => y = x ∧ T = S1) ⟨_, S1, ex, x, rfl, rfl, rfl⟩ ?_
      rintro y T ⟨y1, t1⟩
      rw [y1, t1]
      refine o_X (n := 7 * n + 1) (nA2 rfl) (by omega) ?_
      refine o_X (n := 7 * n + 2) (nA2 rfl) (by omega) ?_
      refine o_X (n := 7 * n + 3) (nA2 rfl) (by omega) ?_
      refine o_I (T_X13_rests (by omega)) ?_
      rintro z T2 ⟨z1, z2, z3⟩
      rw [← ho] at z1 z2
      have hM2 : MI T2 A := hM1.fg hA z3.g (fun x k d => Or.inl d) (fun x d => d.elim)
      have hC2 : CI T2 A := hC1.f7m (z3.g.mono (fun q k d => by unfold mJ at d; omega) (fun q d => d.elim))
      have th : zI (F_X13_thrown f 0 [.ref 186] T2) (fun y T => y = gI T2 186 0 ∧ T = T2) := by
        obtain ⟨g, rfl⟩ : ∃ h, f = h + 1 := ⟨f - 1, by omega⟩
        rw [E_X13_thrown_0]; unfold F_X13_thrown_0
        exact i_r ⟨rfl, rfl⟩
      refine o_I th ?_
      rintro y T3 ⟨y3, t3⟩
      rw [y3, t3]
      have two : ∀ g, 43700 + 3 * d + 2 ≤ g → zI (F_L_law xs L g 2 [.ref 0, .ref 186, .ref 207, .int (nI (7 * n))] T2) (fun x _ => x = 1) := by
        intro g hg
        obtain ⟨g, rfl⟩ : ∃ h, g = h + 1 := ⟨g - 1, by omega⟩
        show zI (F_L_law_2 xs L g (F_L_law xs L g) 0 186 207 (nI (7 * n)) T2) _
        unfold F_L_law_2
        exact nx T2 A (hA.up (by omega)) hC2 hM2 g (by omega)
      refine o_t (by rw [z2, hx]) ?_
      rw [hx]
      rcases o with _ | v
      · exact o_f (by decide) (two f (by omega))
      · refine o_t rfl ?_
        refine o_X (n := 0) rfl (by omega) ?_
        refine o_t ?_ (two f (by omega))
        rw [lg_cmp_eq, z3.J, hv v rfl, z1 v rfl]
    refine o_if (fun _ => ?_) (fun _ => ?_)
    · refine o_X (n := 7 * n + 1) (nA2 rfl) (by omega) ?_
      refine o_X (n := 7 * n + 2) (nA2 rfl) (by omega) ?_
      refine o_X (n := 7 * n + 3) (nA2 rfl) (by omega) ?_
      obtain ⟨v, S1, S2, A2, e1, e2, a2, c2, m2⟩ := Both.st (B_weeks (n := n) (f := f) (by omega) (by omega)) hC hM hA
      refine o_I e1 ?_
      rintro x T ⟨rfl, t1⟩
      rw [t1]
      refine o_X (n := 7 * n + 1) (nA2 rfl) (by omega) ?_
      refine o_X (n := 7 * n + 2) (nA2 rfl) (by omega) ?_
      refine o_X (n := 7 * n + 3) (nA2 rfl) (by omega) ?_
      refine o_I e2 ?_
      rintro x T ⟨y1, t2⟩
      rw [t2, y1]
      exact o_t rfl (nx S2 A2 a2 c2 m2 f (by omega))
    refine o_if (fun _ => ?_) (fun _ => ?_)
    · refine o_X (n := 7 * n + 1) (nA2 rfl) (by omega) ?_
      refine o_X (n := 7 * n + 2) (nA2 rfl) (by omega) ?_
      obtain ⟨v, S1, S2, A2, e1, e2, a2, c2, m2⟩ := Both.st (B_mark (n := n) (f := f) (by omega)) hC hM hA
      refine o_I e1 ?_
      rintro x T ⟨rfl, t1⟩
      rw [t1]
      refine o_X (n := 7 * n + 1) (nA2 rfl) (by omega) ?_
      refine o_X (n := 7 * n + 2) (nA2 rfl) (by omega) ?_
      refine o_I e2 ?_
      rintro x T ⟨y1, t2⟩
      rw [t2, y1]
      exact o_t rfl (nx S2 A2 a2 c2 m2 f (by omega))
    refine o_if (fun _ => ?_) (fun _ => ?_)
    · refine o_X (n := 7 * n + 1) (nA2 rfl) (by omega) ?_
      obtain ⟨v, S1, S2, A2, e1, e2, a2, c2, m2⟩ := Both.st (B_count (n := n) (f := f) (by omega) (by omega)) hC hM hA
      refine o_I e1 ?_
      rintro x T ⟨rfl, t1⟩
      rw [t1]
      refine o_X (n := 7 * n + 1) (nA2 rfl) (by omega) ?_
      refine o_I e2 ?_
      rintro x T ⟨y1, t2⟩
      rw [t2, y1]
      exact o_t rfl (nx S2 A2 a2 c2 m2 f (by omega))
    exact nx S A (hA.up (by omega)) hC hM f (by omega)
end LLP

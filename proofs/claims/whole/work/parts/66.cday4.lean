/-! the class reads a day: all lines -/
section CD4
variable {S T : aS} {f n t k q a pn N : Nat} {tp : List Nat} {nm : Nat → List Nat} {P : aP}
theorem dBe_e {e : Nat × Nat} (hN : nT tp N) (hn : n ≤ N) (h : dBe tp nm pn a n = .error e) : (1 ≤ e.1 ∧ e.1 ≤ 5) ∧ e.2 ≤ N := by
  unfold dBe at h
  by_cases c5 : a = 5
  · rw [if_pos c5] at h; exact absurd h (by simp)
  rw [if_neg c5] at h
  by_cases c0 : a = 0
  · rw [if_pos c0] at h
    by_cases q : qA tp n = true
    · rw [if_pos q] at h
      rcases eo : nmO nm (tk tp n).2.1 pn 0 with _ | i
      · rw [eo] at h
        have h2 := Except.error.inj h
        rw [← h2]
        exact ⟨⟨by simp, by simp⟩, hn⟩
      · rw [eo] at h; exact absurd h (by simp)
    · rw [if_neg q] at h
      have h2 := Except.error.inj h
      rw [← h2]
      exact ⟨⟨by simp, by simp⟩, hn⟩
  rw [if_neg c0] at h
  by_cases q : nW tp n 0 7 = 0
  · rw [if_pos q] at h
    have hs := qN.s hN hn (nW_0 q).1
    by_cases c2 : a = 2
    · rw [if_pos c2] at h
      by_cases r : nW tp (n + 1) 1 30 = 0
      · rw [if_pos r] at h; exact absurd h (by simp)
      · rw [if_neg r] at h
        have h2 := Except.error.inj h
        rw [← h2]
        exact ⟨nW_k r, hs⟩
    · rw [if_neg c2] at h; exact absurd h (by simp)
  · rw [if_neg q] at h
    have h2 := Except.error.inj h
    rw [← h2]
    exact ⟨nW_k q, hn⟩
theorem act_5 (h : qAct tp n = true) : actN tp n ≤ 5 := by
  unfold qAct at h
  simp only [Bool.and_eq_true, beq_iff_eq, decide_eq_true_eq] at h
  unfold actN
  omega
theorem dLn_e {e : Nat × Nat} (hN : nT tp N) (hn : n ≤ N) (hp : pn ≤ 6) (h : dLn tp nm pn k n = .error e) : (1 ≤ e.1 ∧ e.1 ≤ 5) ∧ e.2 ≤ N := by
  unfold dLn at h
  by_cases q : qAct tp n = true
  · rw [if_pos q] at h
    have hs := qAct.s hN hn q
    by_cases c : 40 ≤ k
    · rw [if_pos c] at h
      have h2 := Except.error.inj h
      rw [← h2]
      exact ⟨⟨by simp, by simp⟩, hn⟩
    · rw [if_neg c] at h
      rcases eo : dBe tp nm pn (actN tp n) (n + 1) with e2 | ⟨x, m⟩
      · rw [eo] at h
        have h2 := Except.error.inj h
        rw [← h2]
        exact dBe_e hN hs eo
      · rw [eo] at h
        have hb := dBe_ok hN hs (act_5 q) hp eo
        have h' : (if qS tp m 59 = true then Except.ok (x, m + 1) else Except.error (1, m) : dR) = .error e := h
        by_cases c59 : qS tp m 59 = true
        · rw [if_pos c59] at h'; exact absurd h' (by simp)
        · rw [if_neg c59] at h'
          have h2 := Except.error.inj h'
          rw [← h2]
          exact ⟨⟨by simp, by simp⟩, hb.1.2⟩
  · rw [if_neg q] at h
    have h2 := Except.error.inj h
    rw [← h2]
    exact ⟨⟨by simp, by simp⟩, hn⟩
theorem dLn_ok {x : Nat × Nat × Nat} {m : Nat} (hN : nT tp N) (hn : n ≤ N) (hp : pN P ≤ 6) (h : dLn tp nm (pN P) k n = .ok (x, m)) : okD P x ∧ k < 40 ∧ n + 2 ≤ m ∧ m ≤ N := by
  unfold dLn at h
  by_cases q : qAct tp n = true
  · rw [if_pos q] at h
    have hs := qAct.s hN hn q
    by_cases c : 40 ≤ k
    · rw [if_pos c] at h; exact absurd h (by simp)
    · rw [if_neg c] at h
      rcases eo : dBe tp nm (pN P) (actN tp n) (n + 1) with e2 | ⟨y, m2⟩
      · rw [eo] at h; exact absurd h (by simp)
      · rw [eo] at h
        have hb := dBe_ok hN hs (act_5 q) hp eo
        have h' : (if qS tp m2 59 = true then Except.ok (y, m2 + 1) else Except.error (1, m2) : dR) = .ok (x, m) := h
        by_cases c59 : qS tp m2 59 = true
        · rw [if_pos c59] at h'
          have h2 := Except.ok.inj h'
          obtain ⟨rfl, rfl⟩ := Prod.mk.inj h2
          have h5 := act_5 q
          obtain ⟨b1, b2, b3, b4, b5, b6⟩ := hb
          exact ⟨⟨by omega, fun h => b3 (by omega), b4, b5, fun h => b6 (by omega)⟩, by omega, by omega, qS.s hN b1.2 c59⟩
        · rw [if_neg c59] at h'; exact absurd h' (by simp)
  · rw [if_neg q] at h; exact absurd h (by simp)
theorem dAl_i (hN : nT tp N) (hp : pN P ≤ 6) : ∀ φ k n, k ≤ 40 → n ≤ N → 1001 - n ≤ φ → match dAl tp nm (pN P) φ k n with
    | .error e => (1 ≤ e.1 ∧ e.1 ≤ 5) ∧ e.2 ≤ N
    | .ok l => k + l.length ≤ 40 ∧ ∀ x, x ∈ l → okD P x
  | 0, k, n, _, hn, hf => by have := hN.1; omega
  | φ + 1, k, n, hk, hn, hf => by
    unfold dAl
    by_cases c : (tk tp n).1 = 0
    · rw [if_pos c]
      exact ⟨hk, fun x hx => by simp at hx⟩
    · rw [if_neg c]
      rcases eo : dLn tp nm (pN P) k n with e | ⟨x, m⟩
      · exact dLn_e hN hn hp eo
      · obtain ⟨h1, h2, h3, h4⟩ := dLn_ok hN hn hp eo
        have ih := dAl_i hN hp φ (k + 1) m (by omega) h4 (by omega)
        show match (match dAl tp nm (pN P) φ (k + 1) m with
          | .error e => .error e
          | .ok l => .ok (x :: l) : Except (Nat × Nat) (List (Nat × Nat × Nat))) with
          | .error e => (1 ≤ e.1 ∧ e.1 ≤ 5) ∧ e.2 ≤ N
          | .ok l => k + l.length ≤ 40 ∧ ∀ x, x ∈ l → okD P x
        rcases er : dAl tp nm (pN P) φ (k + 1) m with e | l
        · rw [er] at ih; exact ih
        · rw [er] at ih
          refine ⟨by have := ih.1; rw [List.length_cons]; omega, fun y hy => ?_⟩
          rcases List.mem_cons.mp hy with hy | hy
          · rw [hy]; exact h1
          · exact ih.2 y hy
abbrev dDa (t k : Nat) : Nat → Nat → Prop := fun x j => (x = 1 ∧ j ≠ 1) ∨ ((t + 1 ≤ x ∧ x ≤ t + 3) ∧ k ≤ j) ∨ (x = t ∧ j = 3)
def dQa (tp : List Nat) (t k : Nat) (S : aS) (r : Except (Nat × Nat) (List (Nat × Nat × Nat))) (x : Int32) (T : aS) : Prop := match r with
  | .error e => x = nI (e.1 + 16 * tP tp e.2) ∧ CTp T tp ∧ Fx (dDa t k) S T
  | .ok l => x = 0 ∧ CTp T tp ∧ gI T t 3 = nI (k + l.length) ∧ (∀ i, i < l.length → gI T (t + 1) (k + i) = nI (l.getD i (0, 0, 0)).1 ∧ ((l.getD i (0, 0, 0)).1 ≠ 5 → gI T (t + 2) (k + i) = nI (l.getD i (0, 0, 0)).2.1) ∧ gI T (t + 3) (k + i) = nI (l.getD i (0, 0, 0)).2.2) ∧ Fx (dDa t k) S T
theorem CNm.x {D : Nat → Nat → Prop} (hm : CNm S q pn nm) (hf : Fx D S T) (h2 : 2 ≤ q) (hD : ¬ D q 1 ∧ ∀ i, ¬ D (q + 1) i) : CNm T q pn nm := ⟨by rw [hf.2 _ _ (by omega)]; exact hm.1, by rw [hf.I hD.1]; exact hm.2.1, fun i hi => ⟨(hm.2.2 i hi).1, by rw [hf.J (hD.2 i)]; exact (hm.2.2 i hi).2⟩⟩
theorem T_dall (ho : okTp tp) (hN : nT tp N) (ht : 10 ≤ t) (hqt : q + 1 < t) (h10 : 2 ≤ q) (hp : pN P ≤ 6) : ∀ (φ n k v f : Nat) (S : aS), 1001 - n ≤ φ → 6501 + φ + 2 ≤ f → n ≤ N → k ≤ 40 → v ≤ n → CTk S tp (tP tp n) → CDt S t k → CNm S q (pN P) nm → zI (F_X1_read f 1 [.ref t, .ref 1, .ref q, .int (nI v)] S) (dQa tp t k S (dAl tp nm (pN P) φ k n))
  | 0, n, k, v, f, S, hf, _, hn, _, _, _, _, _ => by have := hN.1; omega
  | φ + 1, n, k, v, f, S, hf, hg, hn, hk, hv, h, hd, hm => by
    have hN1 := hN.1
    replace hg : (6503 + φ) + 1 ≤ f := by omega
    obtain ⟨g, ge, hG⟩ := g1 hg; subst ge; clear hg; have hg := hG; clear hG; rw [E_X1_read_1]; unfold F_X1_read_1
    refine o_f (fun hh => ?_) ?_
    · rw [show (1000 : Int32) = nI 1000 from rfl, nI_ltI (by omega) (by omega)] at hh; omega
    refine o_I (T_atEnd h (by omega)) ?_
    rintro x T1 ⟨rfl, t1⟩
    rw [t1]
    unfold dAl
    by_cases c : (tk tp n).1 = 0
    · rw [if_pos c, if_pos c]
      refine o_f (by decide) ?_
      obtain ⟨g, rfl, hg2⟩ := g1 (n := 0) (f := g) (by omega)
      rw [E_X1_read_2]; unfold F_X1_read_2
      exact i_r ⟨rfl, h.1.1, by rw [hd.2.2.2]; rfl, fun i hi => by simp at hi, Fx.refl S⟩
    · rw [if_neg c, if_neg c]
      refine o_t rfl ?_
      refine o_I (T_dline ho h hd hk ht hqt hm h10 hp (by omega)) ?_
      intro x T2 hx
      rcases eo : dLn tp nm (pN P) k n with e | ⟨y, m⟩
      · rw [eo] at hx
        obtain ⟨rfl, x1, x2, x3⟩ := hx
        refine o_t rfl ?_
        exact i_r ⟨x1, x2, x3.mono (fun q j d => by unfold dDl at d; unfold dDa; omega)⟩
      · rw [eo] at hx
        obtain ⟨rfl, x1, x2, x3, x4, x5, x6⟩ := hx
        refine o_f (by decide) ?_
        obtain ⟨h1, h2, h3, h4⟩ := dLn_ok hN hn hp eo
        rw [nI_1]
        have ih := T_dall ho hN ht hqt h10 hp φ m (k + 1) (v + 1) g T2 (by omega) (by omega) h4 (by omega) (by omega) x1 x2 (hm.x x6 h10 (by unfold dDl; refine ⟨?_, fun i => ?_⟩ <;> omega))
        refine i_m ih (fun z U hz => ?_)
        show dQa tp t k S (match dAl tp nm (pN P) φ (k + 1) m with
          | .error e => .error e
          | .ok l => .ok (y :: l)) z U
        have f6 : Fx (dDa t k) S T2 := x6.mono (fun q j d => by unfold dDl at d; unfold dDa; omega)
        rcases er : dAl tp nm (pN P) φ (k + 1) m with e | l
        · rw [er] at hz
          obtain ⟨z1, z2, z3⟩ := hz
          exact ⟨z1, z2, f6.tr (z3.mono (fun q j d => by unfold dDa at d; unfold dDa; omega))⟩
        · rw [er] at hz
          obtain ⟨z1, z2, z3, z4, z5⟩ := hz
          refine ⟨z1, z2, by rw [z3, List.length_cons, Nat.add_assoc, Nat.add_comm 1], fun i hi => ?_, f6.tr (z5.mono (fun q j d => by unfold dDa at d; unfold dDa; omega))⟩
          rcases i with _ | i
          · show gI U (t + 1) k = nI y.1 ∧ (y.1 ≠ 5 → gI U (t + 2) k = nI y.2.1) ∧ gI U (t + 3) k = nI y.2.2
            rw [z5.I (by unfold dDa; omega), z5.I (by unfold dDa; omega), z5.I (by unfold dDa; omega)]
            exact ⟨x3, x4, x5⟩
          · have := z4 i (by rw [List.length_cons] at hi; omega)
            rw [show k + 1 + i = k + (i + 1) by omega] at this
            exact this
theorem T_X8_rewind (hT : CTp S tp) (ho : okTp tp) (hr : gR S 1 0 = 2) (hg : 6201 ≤ f) : zU (F_X8_rewind f 0 [.ref 1] S) (fun U => CTk U tp (tP tp 0) ∧ Fx (fun x k => x = 1 ∧ k ≠ 1) S U) := by
  replace hg : 6200 + 1 ≤ f := hg
  obtain ⟨g, ge, hG⟩ := g1 hg; subst ge; clear hg; have hg := hG; clear hG; rw [E_X8_rewind_0]; unfold F_X8_rewind_0
  refine o_s (fun S1 s1 => ?_)
  refine o_s (fun S2 s2 => ?_)
  have f2 : Fx (fun x k => x = 1 ∧ k ≠ 1) S S2 := ((Fx.refl S).sI s1 (by omega)).sI s2 (by omega)
  refine o_V (T_advance (i := 0) (hT.x f2 ⟨by omega, fun k => by omega⟩) ho (by rw [f2.2 _ _ (by omega)]; exact hr) (by rw [s2, gI_sI, if_neg (by omega), s1, gI_sI, if_pos ⟨rfl, rfl⟩]; rfl) (Nat.zero_le _) (by omega)) ?_
  rintro U ⟨u1, u2⟩
  exact u_r ⟨u1, f2.tr (u2.mono (fun q j d => by unfold dT at d; omega))⟩
theorem T_X1_read (ho : okTp tp) (hN : nT tp N) (hT : CTp S tp) (hr : gR S 1 0 = 2) (ht : 10 ≤ t) (hqt : q + 1 < t) (h10 : 2 ≤ q) (hp : pN P ≤ 6) (hd : gR S t 0 = t + 1 ∧ gR S t 1 = t + 2 ∧ gR S t 2 = t + 3) (hm : CNm S q (pN P) nm) (hg : 8000 ≤ f) : zI (F_X1_read f 0 [.ref t, .ref 1, .ref q] S) (dQa tp t 0 S (dAl tp nm (pN P) 1001 0 0)) := by
  replace hg : 7999 + 1 ≤ f := hg
  obtain ⟨g, ge, hG⟩ := g1 hg; subst ge; clear hg; have hg := hG; clear hG; rw [E_X1_read_0]; unfold F_X1_read_0
  refine o_s (fun S1 s1 => ?_)
  have f1 : Fx (fun x k => x = t ∧ k = 3) S S1 := (Fx.refl S).sI s1 (by omega)
  refine o_V (T_X8_rewind (hT.x f1 ⟨by omega, fun k => by omega⟩) ho (by rw [f1.2 _ _ (by omega)]; exact hr) (by omega)) ?_
  rintro U ⟨u1, u2⟩
  have fU : Fx (dDa t 0) S U := (f1.mono (fun q j d => by unfold dDa; omega)).tr (u2.mono (fun q j d => by unfold dDa; omega))
  have dU : CDt U t 0 := by
    refine ⟨?_, ?_, ?_, ?_⟩
    · rw [fU.2 _ _ (by omega)]; exact hd.1
    · rw [fU.2 _ _ (by omega)]; exact hd.2.1
    · rw [fU.2 _ _ (by omega)]; exact hd.2.2
    · rw [u2.I (by omega), s1, gI_sI, if_pos ⟨rfl, rfl⟩]; rfl
  have ih := T_dall ho hN ht hqt h10 hp 1001 0 0 0 g U (by omega) (by omega) (Nat.zero_le _) (by omega) (Nat.le_refl _) u1 dU (hm.x fU h10 (by unfold dDa; refine ⟨?_, fun i => ?_⟩ <;> omega))
  refine i_m ih (fun z V hz => ?_)
  rcases er : dAl tp nm (pN P) 1001 0 0 with e | l
  · rw [er] at hz
    obtain ⟨z1, z2, z3⟩ := hz
    exact ⟨z1, z2, fU.tr z3⟩
  · rw [er] at hz
    obtain ⟨z1, z2, z3, z4, z5⟩ := hz
    exact ⟨z1, z2, z3, z4, fU.tr z5⟩
end CD4

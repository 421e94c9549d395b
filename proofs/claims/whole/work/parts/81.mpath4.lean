/-! the reference reads a path: persons -/
abbrev dQn (i : Nat) : Nat → Nat → Prop := fun x k => (x = 186 ∧ (k = 7 ∨ k = 8 ∨ k = 17)) ∨ (x = 196 ∧ k = i) ∨ (x = 192 ∧ (k = 71 ∨ (78 + 3 * i ≤ k ∧ k < 78 + 3 * i + 3)))
section MP4
variable {S T U : aS} {f n x N a b c : Nat} {tp : List Nat} {D : Nat → Nat → Prop} {R : Nat → Prop} {Q Q2 : aQ}
theorem MQs.per {l : List Nat} {k d b : Nat} (h : MQs S Q c) (h12 : pW Q.1 ≤ 12) (h6 : pN Q.1 < 6) (hf : Fg (dQn (pN Q.1)) nR S T) (h1 : gI T 192 71 = nI (pN Q.1 + 1)) (h2 : gI T 186 17 = nI (pN Q.1 + 1)) (h3 : gJ T 196 (pN Q.1) = lN (k37 l)) (h4 : gI T 192 (78 + 3 * pN Q.1) = nI k) (h5 : gI T 192 (78 + 3 * pN Q.1 + 1) = nI d) (h7 : gI T 192 (78 + 3 * pN Q.1 + 2) = nI b) : MQs T (nQ Q l k d b) c := by
  have o : ∀ {x j : Nat}, ¬ dQn (pN Q.1) x j → gI T x j = gI S x j := fun h => hf.I h
  obtain ⟨⟨a1, a2, a3⟩, _, a5, a6⟩ := id h.1
  refine ⟨h.1.up (fun x k a b c => o (by unfold dQn; omega)) ⟨o (by unfold dQn; omega), o (by unfold dQn; omega), o (by unfold dQn; omega)⟩ ⟨rfl, rfl⟩ ?_ (fun i hi => ?_) (fun j hj => ?_) ⟨h2, fun i hi => ?_⟩ ?_, ?_⟩
  · rw [o (j := 70) (by unfold dQn; omega), o (j := 73) (by unfold dQn; omega), o (j := 74) (by unfold dQn; omega)]; exact ⟨a1.1, h1, a1.2.2⟩
  · have hi' : i < pN Q.1 + 1 := hi
    show gI T 192 (78 + 3 * i) = nI (tS (tS (tS (pT Q.1) 0 (pN Q.1) k) 1 (pN Q.1) d) 2 (pN Q.1) b 0 i) ∧ gI T 192 (78 + 3 * i + 1) = nI (tS (tS (tS (pT Q.1) 0 (pN Q.1) k) 1 (pN Q.1) d) 2 (pN Q.1) b 1 i) ∧ gI T 192 (78 + 3 * i + 2) = nI (tS (tS (tS (pT Q.1) 0 (pN Q.1) k) 1 (pN Q.1) d) 2 (pN Q.1) b 2 i)
    rw [tS_ne (by omega), tS_ne (by omega), tS_ne (a := 2) (x := 1) (by omega)]
    by_cases ei : i = pN Q.1
    · rw [ei, tS_eq, tS_eq, tS_eq]; exact ⟨h4, h5, h7⟩
    · rw [tS_ne (by omega), tS_ne (by omega), tS_ne (by omega), tS_ne (by omega), tS_ne (by omega), tS_ne (by omega), o (by unfold dQn; omega), o (by unfold dQn; omega), o (by unfold dQn; omega)]; exact a2 i (by omega)
  · rw [nQ_T (by omega), nQ_T (by omega), o (by unfold dQn; omega), o (by unfold dQn; omega)]; exact a3 j hj
  · have hi' : i < pN Q.1 + 1 := hi
    show gJ T 196 i = lN (k37 (up1 Q.2.1 (pN Q.1) l i))
    rw [up1_at]
    by_cases ei : i = pN Q.1
    · rw [if_pos ei, ei]; exact h3
    · rw [if_neg ei, (hf.1 _ _ (by unfold dQn; omega)).2]; exact a5.2 i (by omega)
  · rw [o (by unfold dQn; omega)]; exact a6
  · have hw := h.2.g (T := T) (fun k hk => o (by unfold dQn; omega)) h12
    rcases hw with hw | ⟨w1, w2, w3⟩
    · exact Or.inl hw
    · refine Or.inr ⟨w1, w2, fun j hj => ?_⟩
      rw [nQ_T (by omega)]; exact w3 j hj
theorem M_per (ho : tp.length ≤ 1000) (h : MTk S tp N n) (hw : qW tp n 8 = true) (hq : MQs S Q c) (hc : c ≤ n) (hI : QI Q) (hg : 100 ≤ f) : zU (F_X13_readPerson f 0 [.ref 186] S) (fun T => eE (if 6 ≤ pN Q.1 then .error (5, n) else xPer tp Q (n + 1)) (mX tp S T) (mY tp N S T)) := by
  have h12 := hI.1.1.1.2.2.2.1
  have h6 := hI.1.1.1.2.2.1
  have hN := h.2.1.1
  have hs := qW.s hN h.2.2.1.2 hw
  replace hg : 99 + 1 ≤ f := hg
  obtain ⟨g, ge, hG⟩ := g1 hg; subst ge; clear hg; have hg := hG; clear hG; rw [E_X13_readPerson_0]; unfold F_X13_readPerson_0
  refine o_X (n := 71) rfl (by omega) ?_
  rw [h.1.paths, hq.1.1.1.2.1]
  by_cases c6 : 6 ≤ pN Q.1
  · rw [if_pos c6]
    refine o_t (by rw [show pN Q.1 = 6 by omega]; rfl) ?_
    refine o_V (M_wrong (k := 5) h (by omega)) ?_
    rintro T2 ⟨u1, u2⟩
    exact u_r ⟨u1, g78 (d8_78 u2)⟩
  rw [if_neg c6]
  refine o_f (nI_ne (b := 6) (by omega) (by omega) (by omega)) ?_
  rw [h.2.2.1.1, nI_1]
  refine o_s (fun S1 s1 => ?_)
  have f1 : Fr d7 S S1 := (Fr.refl S).sI s1 ⟨rfl, rfl⟩
  have h1 := h.at f1 (by rw [s1, gI_sI, if_pos ⟨rfl, rfl⟩]) hs
  have q1 := hq.f78 h12 (d7_78 f1)
  have g1' : Fg (dQn (pN Q.1)) nR S S1 := f1.g.mono (fun q k d => by unfold d7 at d; unfold dQn; omega) (fun _ d => d)
  have up : ∀ {A B : aS}, Fg (dQn (pN Q.1)) nR A B → Fg dPm nR A B := fun hf => hf.mono (fun q k d => by unfold dQn at d; unfold dPm; omega) (fun _ d => d)
  have un : ∀ {A B : aS}, Fr d78 A B → Fg (dQn (pN Q.1)) nR A B := fun hf => hf.g.mono (fun q k d => by unfold d78 at d; unfold dQn; omega) (fun _ d => d)
  have badp : ∀ (g : Nat) (A : aS) (z k : Nat), 2 ≤ g → MFt A z → zU (F_X13_readPerson g 1 [.ref 186, .int (nI k)] A) (fun T => T = A) := by
    intro g A z k hg hz
    obtain ⟨g, rfl, hg2⟩ := g1 (n := 1) (f := g) (by omega)
    rw [E_X13_readPerson_1]; unfold F_X13_readPerson_1
    exact o_f hz.p (u_r rfl)
  unfold xPer
  refine o_I (M_isName h1 (by omega)) ?_
  rintro _ T1 ⟨rfl, t1⟩
  rw [t1]
  by_cases qa : ¬ qA tp (n + 1) = true
  · have ex : xNam tp Q (n + 1) = .error (1, n + 1) := if_neg qa
    rw [if_neg qa, ex, eb_er]
    refine o_t rfl ?_
    refine o_V (M_wrong (k := 1) h1 (by omega)) ?_
    rintro T2 ⟨u1, u2⟩
    refine u_m (badp g T2 _ _ (by omega) (mf_n ho (by omega) (by omega) u1)) (fun V v => ?_)
    rw [v]
    exact ⟨u1, (up g1').tr (g78 (d8_78 u2))⟩
  replace qa : qA tp (n + 1) = true := Decidable.not_not.mp qa
  rw [if_pos qa]
  refine o_f (by decide) ?_
  have k1 : (tk tp (n + 1)).1 = 1 := by unfold qA at qa; simp at qa; exact qa.1
  refine o_I (M_nameAt (nm := Q.2.1) (m := pN Q.1) (z := 1) h1 k1 (Or.inr rfl) h6 q1.1.2.2.1.1 (fun i hi => ⟨hI.1.2 i hi, q1.1.2.2.1.2 i hi⟩) (by omega)) ?_
  rintro _ T2 ⟨rfl, t2⟩
  rw [t2]
  rcases eo : nmO Q.2.1 (tk tp (n + 1)).2.1 (pN Q.1) 0 with _ | i
  rotate_left
  · have hb := nmO_b _ 0 i eo
    have ex : xNam tp Q (n + 1) = .error (3, n + 1) := by unfold xNam; rw [if_pos qa, eo, if_neg (by simp)]
    rw [ex, eb_er]
    refine o_f (show ¬ nI i < (0 : Int32) from nI_nlt (b := 0) (Nat.zero_le _) (by omega)) ?_
    refine o_V (M_wrong (k := 3) h1 (by omega)) ?_
    rintro T2 ⟨u1, u2⟩
    refine u_m (badp g T2 _ _ (by omega) (mf_n ho (by omega) (by omega) u1)) (fun V v => ?_)
    rw [v]
    exact ⟨u1, (up g1').tr (g78 (d8_78 u2))⟩
  have ex : xNam tp Q (n + 1) = .ok ((tk tp (n + 1)).2.1, n + 1 + 1) := by unfold xNam; rw [if_pos qa, eo, if_pos rfl]
  rw [ex, eb_ok]
  refine o_t (show (-1 : Int32) < 0 by decide) ?_
  replace hg : 98 + 1 ≤ g := hg
  obtain ⟨g, ge, hG⟩ := g1 hg; subst ge; clear hg; have hg := hG; clear hG; rw [E_X13_readPerson_1]; unfold F_X13_readPerson_1
  refine o_t (by rw [h1.2.2.2.1]; decide) ?_
  rw [h1.2.2.1.1]
  refine o_X rfl h1.lt ?_
  rw [q1.1.2.2.1.1]
  refine o_X (n := pN Q.1) rfl (by omega) ?_
  rw [h1.1.rnames, h1.1.value, h1.tk.2.2.1 k1]
  refine o_sJ (fun S2 s2 => ?_)
  have g2 : Fg (dQn (pN Q.1)) nR S S2 := g1'.sJ s2 (by unfold dQn; omega)
  rw [show gI S2 186 17 = nI (pN Q.1) by rw [s2]; exact q1.1.2.2.1.1, nI_1]
  refine o_s (fun S3 s3 => ?_)
  have g3 : Fg (dQn (pN Q.1)) nR S S3 := g2.sI s3 (by unfold dQn; omega)
  rw [show gI S3 186 7 = nI (n + 1) by rw [s3, gI_sI, if_neg (by omega), s2]; exact h1.2.2.1.1, nI_1]
  refine o_s (fun S4 s4 => ?_)
  have g4 : Fg (dQn (pN Q.1)) nR S S4 := g3.sI s4 (by unfold dQn; omega)
  have h3 : MTk S3 tp N (n + 1) := by
    have gg : Fg (fun x k => (x = 186 ∧ k = 17) ∨ x = 196) nR S1 S3 := ((Fg.refl (D := fun x k => (x = 186 ∧ k = 17) ∨ x = 196) (R := nR) S1).sJ s2 (by omega)).sI s3 (by omega)
    exact h1.fg gg id ⟨⟨by omega, by omega⟩, fun k => ⟨by omega, by omega, by omega⟩, fun k => by omega⟩
  have h4 := h3.at ((Fr.refl S3).sI s4 ⟨rfl, rfl⟩) (by rw [s4, gI_sI, if_pos ⟨rfl, rfl⟩]) (qA.s hN hs qa)
  have j4 : gJ S4 196 (pN Q.1) = lN (k37 (tk tp (n + 1)).2.1) := by rw [s4, gJ_sI, s3, gJ_sI, s2, gJ_sJ, if_pos ⟨rfl, rfl⟩]
  have i4 : gI S4 186 17 = nI (pN Q.1 + 1) := by rw [s4, gI_sI, if_neg (by omega), s3, gI_sI, if_pos ⟨rfl, rfl⟩]
  have e71 : gI S4 192 71 = nI (pN Q.1) := by rw [s4, gI_sI, if_neg (by omega), s3, gI_sI, if_neg (by omega), s2]; exact q1.1.1.1.2.1
  rw [i3 (c := 78) (v := 78) rfl, nI_1, nA2 (n := 2) (c := 2) rfl, h4.1.paths]
  -- the tails, behind a fault
  have bad0 : ∀ (A : aS) (z : Nat), MR A → MFt A z → zU (bX 71 140 fun q35 => bX 71 140 fun q36 => fS (sI A (gR A 186 10) q36 ((gI A (gR A 186 10) q35) + (1 : Int32))) fun S37 => some (none, S37)) (fun T => gI T 186 8 = nI z ∧ Fg dPm nR A T) := by
    intro A z hA hz
    refine o_X (n := 71) rfl (by omega) (o_X (n := 71) rfl (by omega) ?_)
    rw [hA.paths]
    exact o_s (fun B b => u_r ⟨by rw [b, gI_sI, if_neg (by omega)]; exact hz.1, g192 b (by omega)⟩)
  have put : ∀ (A B : aS) (j z : Nat) (v : Int32), B = sI A 192 j v → MR A → MFt A z → MR B ∧ MFt B z := by
    intro A B j z v e hA hz
    exact ⟨hA.fr ((Fr.refl A).sI (D := fun x k => x = 192) e rfl), hz.fr ((Fr.refl A).sI (D := fun x k => x = 192) e rfl) (by omega)⟩
  have bad1 : ∀ (A : aS) (z : Nat), MR A → MFt A z → zU (bI (F_X13_takeAfter g 0 [.ref 186, .int 3, .int 0, .int 9] A) fun x31 S31 => bX (nI (78 + 3 * pN Q.1 + 2)) 140 fun q32 => fS (sI S31 (gR A 186 10) q32 x31) fun S33 => bX 71 140 fun q35 => bX 71 140 fun q36 => fS (sI S33 (gR S33 186 10) q36 ((gI S33 (gR S33 186 10) q35) + (1 : Int32))) fun S37 => some (none, S37)) (fun T => gI T 186 8 = nI z ∧ Fg dPm nR A T) := by
    intro A z hA hz
    refine o_I (M_after0 hz (by omega)) ?_
    rintro v B ⟨rfl, b⟩
    refine o_X (n := 78 + 3 * pN Q.1 + 2) rfl (by omega) ?_
    rw [hA.paths]
    refine o_s (fun C c => ?_)
    obtain ⟨p1, p2⟩ := put B C _ z _ c (hA.fr b) (hz.fr b (fun d => d))
    exact u_m (bad0 C z p1 p2) (fun T t => ⟨t.1, ((g78 (d0_a b)).tr (g192 c (by omega))).tr t.2⟩)
  have bad2 : ∀ (A : aS) (z : Nat), MR A → MFt A z → zU (bI (F_X13_takeAfter g 0 [.ref 186, .int 2, .int 0, .int 9] A) fun x27 S27 => bX (nI (78 + 3 * pN Q.1 + 1)) 140 fun q28 => fS (sI S27 (gR A 186 10) q28 x27) fun S29 => bI (F_X13_takeAfter g 0 [.ref 186, .int 3, .int 0, .int 9] S29) fun x31 S31 => bX (nI (78 + 3 * pN Q.1 + 2)) 140 fun q32 => fS (sI S31 (gR S29 186 10) q32 x31) fun S33 => bX 71 140 fun q35 => bX 71 140 fun q36 => fS (sI S33 (gR S33 186 10) q36 ((gI S33 (gR S33 186 10) q35) + (1 : Int32))) fun S37 => some (none, S37)) (fun T => gI T 186 8 = nI z ∧ Fg dPm nR A T) := by
    intro A z hA hz
    refine o_I (M_after0 hz (by omega)) ?_
    rintro v B ⟨rfl, b⟩
    refine o_X (n := 78 + 3 * pN Q.1 + 1) rfl (by omega) ?_
    rw [hA.paths]
    refine o_s (fun C c => ?_)
    obtain ⟨p1, p2⟩ := put B C _ z _ c (hA.fr b) (hz.fr b (fun d => d))
    exact u_m (bad1 C z p1 p2) (fun T t => ⟨t.1, ((g78 (d0_a b)).tr (g192 c (by omega))).tr t.2⟩)
  refine o_I (M_takeOne ho h4 (by omega)) (fun x U hx => ?_)
  have hE := xKnd_i h4.2.1.1 h4.2.2.1.2
  refine o_X (n := 78 + 3 * pN Q.1) rfl (by omega) ?_
  refine o_s (fun V v => ?_)
  rcases er : xKnd tp (n + 1 + 1) with ⟨e1, e2⟩ | ⟨k, m⟩
  · rw [er] at hx hE
    obtain ⟨rfl, x2, x3⟩ := hx
    obtain ⟨p1, p2⟩ := put U V _ _ _ v (h4.1.fr x3) (mf_n ho hE.1.1 hE.1.2 x2)
    exact u_m (bad2 V _ p1 p2) (fun T t => ⟨t.1, (((up g4).tr (g78 x3)).tr (g192 v (by omega))).tr t.2⟩)
  rw [er] at hx hE
  obtain ⟨rfl, x2, x3⟩ := hx
  have m1 := hE.1.1
  rw [eb_ok]
  have hV := x2.s192 v
  have gV : Fg (dQn (pN Q.1)) nR S V := (g4.tr (un x3)).sI v (by unfold dQn; omega)
  have spec2 : ∀ Q', (eb (xWrd tp m 9) fun _ m => eb (xNum tp m 0 9) fun c m => Q' c m : eR aQ) = eb (eb (xWrd tp m 9) fun _ m => xNum tp m 0 9) Q' := by
    intro Q'
    rcases xWrd tp m 9 with e | ⟨u, m2⟩ <;> rfl
  rw [spec2]
  refine o_I (M_after (i := 2) (a := 0) (b := 9) ho hV (by omega) (by omega) (by omega) (by omega)) (fun x A hx => ?_)
  have hE2 : eE (eb (xWrd tp m 9) fun _ m => xNum tp m 0 9) (fun k m => (1 ≤ k ∧ k ≤ 5) ∧ m ≤ N) (fun v m2 => (m2 = m + 2 ∧ m2 ≤ N) ∧ v ≤ 9) := eE_b (xWrd_i hV.2.1.1 hV.2.2.1.2) (fun _ _ h => h) (fun _ m2 _ hh => eE_m (xNum_i hV.2.1.1 hh.2) (fun _ _ h => h) (fun v m3 h3 => ⟨⟨by omega, h3.1.2⟩, h3.2.2⟩))
  have hx : eE (eb (xWrd tp m 9) fun _ m => xNum tp m 0 9) (fun k m => x = 0 ∧ mE0 tp V A k m) (fun v m => x = nI v ∧ MTk A tp N m ∧ Fr d78 V A) := hx
  refine o_X (n := 78 + 3 * pN Q.1 + 1) rfl (by omega) ?_
  rw [hV.1.paths]
  refine o_s (fun B b => ?_)
  rcases er2 : (eb (xWrd tp m 9) fun _ m => xNum tp m 0 9 : eR Nat) with ⟨e1, e2⟩ | ⟨d, m2⟩
  · rw [er2] at hx hE2
    obtain ⟨rfl, y2, y3⟩ := hx
    obtain ⟨p1, p2⟩ := put A B _ _ _ b (hV.1.fr y3) (mf_n ho hE2.1.1 hE2.1.2 y2)
    exact u_m (bad1 B _ p1 p2) (fun T t => ⟨t.1, (((up gV).tr (g78 y3)).tr (g192 b (by omega))).tr t.2⟩)
  rw [er2] at hx hE2
  obtain ⟨rfl, y2, y3⟩ := hx
  rw [eb_ok]
  have hB := y2.s192 b
  have gB : Fg (dQn (pN Q.1)) nR S B := (gV.tr (un y3)).sI b (by unfold dQn; omega)
  have spec3 : ∀ Q', (eb (xWrd tp m2 10) fun _ m => eb (xNum tp m 0 9) fun c m => Q' c m : eR aQ) = eb (eb (xWrd tp m2 10) fun _ m => xNum tp m 0 9) Q' := by
    intro Q'
    rcases xWrd tp m2 10 with e | ⟨u, m2⟩ <;> rfl
  rw [spec3]
  refine o_I (M_after (i := 3) (a := 0) (b := 9) ho hB (by omega) (by omega) (by omega) (by omega)) (fun x C hx => ?_)
  have hE3 : eE (eb (xWrd tp m2 10) fun _ m => xNum tp m 0 9) (fun k m => (1 ≤ k ∧ k ≤ 5) ∧ m ≤ N) (fun v m3 => (m3 = m2 + 2 ∧ m3 ≤ N) ∧ v ≤ 9) := eE_b (xWrd_i hB.2.1.1 hB.2.2.1.2) (fun _ _ h => h) (fun _ m2 _ hh => eE_m (xNum_i hB.2.1.1 hh.2) (fun _ _ h => h) (fun v m3 h3 => ⟨⟨by omega, h3.1.2⟩, h3.2.2⟩))
  have hx : eE (eb (xWrd tp m2 10) fun _ m => xNum tp m 0 9) (fun k m => x = 0 ∧ mE0 tp B C k m) (fun v m => x = nI v ∧ MTk C tp N m ∧ Fr d78 B C) := hx
  refine o_X (n := 78 + 3 * pN Q.1 + 2) rfl (by omega) ?_
  rw [hB.1.paths]
  refine o_s (fun E e => ?_)
  rcases er3 : (eb (xWrd tp m2 10) fun _ m => xNum tp m 0 9 : eR Nat) with ⟨e1, e2⟩ | ⟨b', m3⟩
  · rw [er3] at hx hE3
    obtain ⟨rfl, y2, y3⟩ := hx
    obtain ⟨p1, p2⟩ := put C E _ _ _ e (hB.1.fr y3) (mf_n ho hE3.1.1 hE3.1.2 y2)
    exact u_m (bad0 E _ p1 p2) (fun T t => ⟨t.1, (((up gB).tr (g78 y3)).tr (g192 e (by omega))).tr t.2⟩)
  rw [er3] at hx hE3
  obtain ⟨rfl, z2, z3⟩ := hx
  rw [eb_ok]
  have hE' := z2.s192 e
  have gE : Fg (dQn (pN Q.1)) nR S E := (gB.tr (un z3)).sI e (by unfold dQn; omega)
  refine o_X (n := 71) rfl (by omega) (o_X (n := 71) rfl (by omega) ?_)
  have oE : ∀ {x k : Nat}, ¬ (x = 192 ∧ 78 ≤ k) → ¬ (x = 186 ∧ (k = 7 ∨ k = 8)) → gI E x k = gI S4 x k := by
    intro x k o1 o2
    rw [e, gI_sI, if_neg (by omega), z3.2 _ _ (by unfold d78; omega), b, gI_sI, if_neg (by omega), y3.2 _ _ (by unfold d78; omega), v, gI_sI, if_neg (by omega), x3.2 _ _ (by unfold d78; omega)]
  rw [hE'.1.paths, oE (x := 192) (k := 71) (by omega) (by omega), e71, nI_1]
  refine o_s (fun W w => ?_)
  have gW : Fg (dQn (pN Q.1)) nR S W := gE.sI w (by unfold dQn; omega)
  refine u_r ⟨hE'.s192 w, ⟨c, ?_, hq.per h12 (by omega) gW ?_ ?_ ?_ ?_ ?_ ?_⟩, up gW⟩
  · have := hE.1.1; have := hE2.1.1; have := hE3.1.1; omega
  · rw [w, gI_sI, if_pos ⟨rfl, rfl⟩]
  · rw [w, gI_sI, if_neg (by omega), oE (by omega) (by omega)]; exact i4
  · rw [w, gJ_sI, e, gJ_sI, z3.J, b, gJ_sI, y3.J, v, gJ_sI, x3.J]; exact j4
  · rw [w, gI_sI, if_neg (by omega), e, gI_sI, if_neg (by omega), z3.2 _ _ (by unfold d78; omega), b, gI_sI, if_neg (by omega), y3.2 _ _ (by unfold d78; omega), v, gI_sI, if_pos ⟨rfl, rfl⟩]
  · rw [w, gI_sI, if_neg (by omega), e, gI_sI, if_neg (by omega), z3.2 _ _ (by unfold d78; omega), b, gI_sI, if_pos ⟨rfl, rfl⟩]
  · rw [w, gI_sI, if_neg (by omega), e, gI_sI, if_pos ⟨rfl, rfl⟩]
end MP4

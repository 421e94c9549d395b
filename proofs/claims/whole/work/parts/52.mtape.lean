/-! the reference's tape: all tokens cut at once -/
theorem o_loopW {F : Nat → List Value → aS → aR} {c B : Nat} {Q : Option Value → aS → Prop} (I : Nat → List Value → aS → Prop)
    (step : ∀ k vs S g, I k vs S → B + c * (k + 1) ≤ g → (∀ k' g' vs' S', k' < k → B + c * (k' + 1) ≤ g' → I k' vs' S' → zO (F g' vs' S') Q) → zO (F g vs S) Q) : ∀ k vs S g, I k vs S → B + c * (k + 1) ≤ g → zO (F g vs S) Q := by
  intro k
  induction k using Nat.strongRecOn with
  | _ k ih => exact fun vs S g h hg => step k vs S g h hg (fun k' g' vs' S' hk hg' h' => ih k' hk vs' S' g' h' hg')
abbrev nR : Nat → Prop := fun _ => False
abbrev dCu : Nat → Nat → Prop := fun x k => (x = 186 ∧ (k = 2 ∨ k = 3 ∨ k = 7 ∨ k = 8)) ∨ x = 188 ∨ x = 189 ∨ x = 190
/-- the m-th token as the reference keeps it -/
def MTo (S : aS) (tp : List Nat) (m : Nat) : Prop := gI S 188 m = nI (tk tp m).1 ∧ gI S 189 m = nI (tP tp m) ∧ ((tk tp m).1 = 1 → gJ S 190 m = lN (k37 (tk tp m).2.1)) ∧ ((tk tp m).1 = 2 ∨ (tk tp m).1 = 3 → gJ S 190 m = lN (tk tp m).2.2)
def nT (tp : List Nat) (N : Nat) : Prop := N ≤ 1000 ∧ tP tp N = tp.length ∧ ∀ m, m < N → tP tp m < tp.length
def MTs (S : aS) (tp : List Nat) (N : Nat) : Prop := nT tp N ∧ ∀ m, m ≤ N → MTo S tp m
section MT
variable {S T : aS} {f i c : Nat} {tp l : List Nat} {D : Nat → Nat → Prop} {R : Nat → Prop}
theorem MTo.fg {m : Nat} (h : MTo S tp m) (hf : Fg D R S T) (hD : ¬ D 188 m ∧ ¬ D 189 m ∧ ¬ D 190 m) : MTo T tp m := by
  obtain ⟨h1, h2, h3, h4⟩ := h
  refine ⟨by rw [hf.I hD.1]; exact h1, by rw [hf.I hD.2.1]; exact h2, fun h => ?_, fun h => ?_⟩ <;> rw [(hf.1 _ _ hD.2.2).2]
  · exact h3 h
  · exact h4 h
theorem MTs.fg {N : Nat} (h : MTs S tp N) (hf : Fg D R S T) (hD : ∀ k, ¬ D 188 k ∧ ¬ D 189 k ∧ ¬ D 190 k) : MTs T tp N := ⟨h.1, fun m hm => (h.2 m hm).fg hf (hD m)⟩
theorem M_isL (hc : c < 128) (hg : 1 ≤ f) : zI (F_X13_isLetter f 0 [.int (nI c)] S) (fun x T => x = (if isL c = true then 1 else 0) ∧ T = S) := by
  have h := T_isL (S := S) hc hg
  obtain ⟨g, rfl, _⟩ := g1 (n := 0) hg
  exact h
theorem M_isG (hc : c < 128) (hg : 1 ≤ f) : zI (F_X13_isDigit f 0 [.int (nI c)] S) (fun x T => x = (if isG c = true then 1 else 0) ∧ T = S) := by
  have h := T_isG (S := S) hc hg
  obtain ⟨g, rfl, _⟩ := g1 (n := 0) hg
  exact h
theorem isSO : ∀ c, c < 128 → (if nI c = (59 : Int32) then (1 : Int32) else if nI c = (61 : Int32) then (1 : Int32) else if nI c = (60 : Int32) then (1 : Int32) else if nI c = (43 : Int32) then (1 : Int32) else if nI c = (45 : Int32) then (1 : Int32) else if nI c = (42 : Int32) then (1 : Int32) else (0 : Int32)) = (if isS c = true ∧ c ≠ 40 ∧ c ≠ 41 then 1 else 0) := fun c hc => co_dec (N := 128) (P := fun c => (if nI c = (59 : Int32) then (1 : Int32) else if nI c = (61 : Int32) then (1 : Int32) else if nI c = (60 : Int32) then (1 : Int32) else if nI c = (43 : Int32) then (1 : Int32) else if nI c = (45 : Int32) then (1 : Int32) else if nI c = (42 : Int32) then (1 : Int32) else (0 : Int32)) = (if isS c = true ∧ c ≠ 40 ∧ c ≠ 41 then 1 else 0)) (by decide +kernel) hc
theorem M_isS (hc : c < 128) (hg : 3 ≤ f) : zI (F_X13_isSignOf f 0 [.int (nI c)] S) (fun x T => x = (if isS c = true then 1 else 0) ∧ T = S) := by
  replace hg : 2 + 1 ≤ f := hg
  obtain ⟨g, ge, hG⟩ := g1 hg; subst ge; clear hg; have hg := hG; clear hG; rw [E_X13_isSignOf_0]; unfold F_X13_isSignOf_0
  have one : zI (F_X13_isSignOf g 1 [] S) (fun x T => x = 1 ∧ T = S) := by
    replace hg : 1 + 1 ≤ g := hg
    obtain ⟨g, ge, hG⟩ := g1 hg; subst ge; clear hg; have hg := hG; clear hG; rw [E_X13_isSignOf_1]; unfold F_X13_isSignOf_1
    replace hg : 0 + 1 ≤ g := hg
    obtain ⟨g, ge, hG⟩ := g1 hg; subst ge; clear hg; have hg := hG; clear hG; rw [E_X13_isSignOf_2]; unfold F_X13_isSignOf_2
    exact o_Z (Or.inr rfl) (i_r ⟨rfl, rfl⟩)
  by_cases h1 : c = 40
  · subst h1
    exact o_t rfl one
  refine o_f (nI_ne (b := 40) h1 (by omega) (by omega)) ?_
  by_cases h2 : c = 41
  · subst h2
    exact o_t rfl one
  refine o_f (nI_ne (b := 41) h2 (by omega) (by omega)) ?_
  rw [isSO c hc]
  refine o_Z (by split <;> simp) (i_r ⟨?_, rfl⟩)
  by_cases h3 : isS c = true
  · rw [if_pos ⟨h3, h1, h2⟩, if_pos h3]
  · rw [if_neg (fun h => h3 h.1), if_neg h3]
theorem M_rank (hc : c < 128) (hL : isL c = true) (hg : 2 ≤ f) : zI (F_X13_rank f 0 [.int (nI c)] S) (fun x T => x = nI (c - 96) ∧ T = S) := by
  replace hg : 1 + 1 ≤ f := hg
  obtain ⟨g, ge, hG⟩ := g1 hg; subst ge; clear hg; have hg := hG; clear hG; rw [E_X13_rank_0]; unfold F_X13_rank_0
  have h := of_decide_eq_true hL
  refine o_I (M_isL hc (by omega)) ?_
  rintro _ S ⟨rfl, rfl⟩
  rw [if_pos hL, if_neg (by decide), show (96 : Int32) = nI 96 from rfl, pk_sub (by omega)]
  exact i_r ⟨rfl, rfl⟩
theorem M_cut (hR : MR S) (hT : MTp S tp) (ho : okTp tp) (hg : 9000 ≤ f) : zU (F_X13_cutAll f 0 [.ref 186] S) (fun U => (∃ N, MTs U tp N) ∧ gI U 186 7 = nI 0 ∧ gI U 186 8 = 0 ∧ gI U 186 2 = nI 0 ∧ Fg dCu nR S U) := by
  obtain ⟨g, ge, hG⟩ := g1 hg; subst ge; clear hg; have hg := hG; clear hG; rw [E_X13_cutAll_0]; unfold F_X13_cutAll_0
  have hl := ho.1
  rw [hT.1]
  refine o_s (fun S1 s1 => ?_)
  refine o_s (fun S2 s2 => ?_)
  have f2 : Fg dCu nR S S2 := ((Fg.refl S).sI s1 (by unfold dCu; omega)).sI s2 (by unfold dCu; omega)
  have a3 : gI S2 186 3 = nI tp.length := by rw [s2, gI_sI, if_neg (by omega), s1, gI_sI, if_pos ⟨rfl, rfl⟩]
  have a2 : gI S2 186 2 = nI 0 := by rw [s2, gI_sI, if_pos ⟨rfl, rfl⟩]; rfl
  refine o_loopW (F := fun f vs S => F_X13_cutAll f 1 vs S) (c := 8) (B := 20) (fun k vs T => ∃ m j, k = tp.length - j ∧ j ≤ tp.length ∧ m ≤ j ∧ vs = [.ref 186, .int (nI m), .int (nI j)] ∧ en isB tp j = tP tp m ∧ (∀ a, a < m → tP tp a < tp.length ∧ MTo T tp a) ∧ gI T 186 3 = nI tp.length ∧ gI T 186 2 = nI 0 ∧ Fg dCu nR S T) ?_ tp.length _ S2 g ⟨0, 0, rfl, by omega, by omega, rfl, rfl, fun a h => absurd h (by omega), a3, a2, f2⟩ (by omega)
  rintro k _ T g ⟨m, j, rfl, hj, hm, rfl, he, hall, t3, t2, tf⟩ hg rk
  have rp : ∀ k, gR T 186 k = R0 186 k := fun k => by rw [tf.2 _ _ (fun h => h)]; exact hR k
  show zO (F_X13_cutAll g 1 _ _) _
  obtain ⟨g, rfl, hg'⟩ := g1 (n := 19 + 8 * (tp.length - j + 1)) (f := g) (by omega)
  rw [E_X13_cutAll_1]; unfold F_X13_cutAll_1
  rw [t3]
  by_cases c0 : tp.length ≤ j
  · refine o_t (nI_le c0 (by omega)) ?_
    have ej : j = tp.length := by omega
    have eP : tP tp m = tp.length := by rw [← he, en_e c0, ej]
    have eK : tk tp m = (0, [], 0) := if_pos (by rw [eP]; omega)
    refine o_X rfl (show m < 1002 by omega) ?_
    rw [show gR T 186 4 = 188 from rp 4]
    refine o_s (fun U1 u1 => ?_)
    have f1 : Fg (fun x k => (x = 186 ∧ (k = 7 ∨ k = 8)) ∨ ((x = 188 ∨ x = 189) ∧ k = m)) nR T U1 := (Fg.refl T).sI u1 (by omega)
    refine o_X rfl (show m < 1002 by omega) ?_
    rw [show gR U1 186 5 = 189 by rw [f1.2 _ _ (fun h => h)]; exact rp 5, show gI U1 186 3 = nI tp.length by rw [f1.I (by omega)]; exact t3]
    refine o_s (fun U2 u2 => ?_)
    have f2 := f1.sI u2 (by omega)
    refine o_s (fun U3 u3 => ?_)
    have f3 := f2.sI u3 (by omega)
    refine o_s (fun U4 u4 => ?_)
    have f4 := f3.sI u4 (by omega)
    refine u_r ⟨⟨m, ⟨by omega, eP, fun a ha => (hall a ha).1⟩, fun a ha => ?_⟩, ?_, ?_, ?_, tf.tr (f4.mono (fun q k d => by unfold dCu; omega) (fun q h => h))⟩
    · by_cases e : a = m
      · subst e
        refine ⟨?_, ?_, fun h => absurd h (by rw [eK]; decide), fun h => absurd h (by rw [eK]; decide)⟩
        · rw [eK, u4, gI_sI, if_neg (by omega), u3, gI_sI, if_neg (by omega), u2, gI_sI, if_neg (by omega), u1, gI_sI, if_pos ⟨rfl, rfl⟩]; rfl
        · rw [eP, u4, gI_sI, if_neg (by omega), u3, gI_sI, if_neg (by omega), u2, gI_sI, if_pos ⟨rfl, rfl⟩]
      · exact (hall a (by omega)).2.fg f4 (by omega)
    · rw [u4, gI_sI, if_neg (by omega), u3, gI_sI, if_pos ⟨rfl, rfl⟩]; rfl
    · rw [u4, gI_sI, if_pos ⟨rfl, rfl⟩]
    · rw [f4.I (by omega)]; exact t2
  have hjl : j < tp.length := by omega
  refine o_f (nI_ge hjl (by omega)) ?_
  refine o_X rfl (show j < 1000 by omega) ?_
  rw [show gR T 186 1 = 187 from rp 1]
  have tT : ∀ k, k < tp.length → gI T 187 k = nI (cAt tp k) := fun k hk => by
    rw [tf.I (by unfold dCu; omega)]; exact hT.2 k hk
  rw [tT j hjl]
  have blank : isB (cAt tp j) = true → zU (F_X13_cutAll g 2 [.ref 186, .int (nI m), .int (nI j)] T) (fun U => (∃ N, MTs U tp N) ∧ gI U 186 7 = nI 0 ∧ gI U 186 8 = 0 ∧ gI U 186 2 = nI 0 ∧ Fg dCu nR S U) := by
    intro hb
    obtain ⟨g, rfl, hg''⟩ := g1 (n := 18 + 8 * (tp.length - j + 1)) (f := g) (by omega)
    rw [E_X13_cutAll_2]; unfold F_X13_cutAll_2
    rw [nI_1]
    exact rk (tp.length - (j + 1)) g _ _ (by omega) (by omega) ⟨m, j + 1, rfl, by omega, by omega, rfl, by rw [← he, en_t hjl hb], hall, t3, t2, tf⟩
  have hcc := ho.c j
  by_cases c1 : cAt tp j = 10
  · rw [c1]
    exact o_t rfl (blank (by rw [c1]; decide))
  refine o_f (nI_ne (b := 10) c1 (by omega) (by omega)) ?_
  by_cases c2 : cAt tp j = 32
  · rw [c2]
    exact o_t rfl (blank (by rw [c2]; decide))
  refine o_f (nI_ne (b := 32) c2 (by omega) (by omega)) ?_
  have hnb : ¬ isB (cAt tp j) = true := by unfold isB; rw [decide_eq_true_eq]; omega
  have eP : tP tp m = j := by rw [← he, en_f hjl hnb]
  have eK : tk tp m = tK tp j := by show tK tp (tP tp m) = _; rw [eP]
  have hE := tE_b (tp := tp) (i := j) hj
  have hlt := hE.2.2 hjl
  have done : ∀ (U : aS) (g' : Nat) (v : Int64), 21 + 8 * (tp.length - tE tp j + 1) ≤ g' → Fg (fun x k => (x = 188 ∨ x = 189 ∨ x = 190) ∧ k = m) nR T U → gI U 188 m = nI (tK tp j).1 → gI U 189 m = nI j → ((tK tp j).1 = 1 → v = lN (k37 (tK tp j).2.1)) → ((tK tp j).1 = 2 ∨ (tK tp j).1 = 3 → v = lN (tK tp j).2.2) → zU (F_X13_cutAll g' 3 [.ref 186, .int (nI m), .int (nI (tE tp j)), .long v] U) (fun U => (∃ N, MTs U tp N) ∧ gI U 186 7 = nI 0 ∧ gI U 186 8 = 0 ∧ gI U 186 2 = nI 0 ∧ Fg dCu nR S U) := by
    intro U g' v hg3 uf u8 u9 v1 v2
    obtain ⟨g', rfl, hg4⟩ := g1 (n := 20 + 8 * (tp.length - tE tp j + 1)) (f := g') (by omega)
    rw [E_X13_cutAll_3]; unfold F_X13_cutAll_3
    refine o_X rfl (show m < 1002 by omega) ?_
    rw [show gR U 186 6 = 190 by rw [uf.2 _ _ (fun h => h)]; exact rp 6]
    refine o_sJ (fun V w => ?_)
    rw [nI_1]
    have vf := uf.sJ w (by omega)
    refine rk (tp.length - tE tp j) g' _ _ (by omega) (by omega) ⟨m + 1, tE tp j, rfl, hE.2.1, by omega, rfl, ?_, fun a ha => ?_, by rw [vf.I (by omega)]; exact t3, by rw [vf.I (by omega)]; exact t2, tf.tr (vf.mono (fun q k d => by unfold dCu; omega) (fun q h => h))⟩
    · show _ = en isB tp (tE tp (tP tp m))
      rw [eP]
    · by_cases e : a = m
      · subst e
        refine ⟨by rw [eP]; exact hjl, ?_, ?_, fun h => ?_, fun h => ?_⟩
        · rw [eK, w]; exact u8
        · rw [eP, w]; exact u9
        · rw [w, gJ_sJ, if_pos ⟨rfl, rfl⟩, eK]; rw [eK] at h; exact v1 h
        · rw [w, gJ_sJ, if_pos ⟨rfl, rfl⟩, eK]; rw [eK] at h; exact v2 h
      · exact ⟨(hall a (by omega)).1, (hall a (by omega)).2.fg vf (by omega)⟩
  refine o_X rfl (show m < 1002 by omega) ?_
  rw [show gR T 186 5 = 189 from rp 5]
  refine o_s (fun U u1 => ?_)
  have uf : Fg (fun x k => (x = 188 ∨ x = 189 ∨ x = 190) ∧ k = m) nR T U := (Fg.refl T).sI u1 (by omega)
  have u9 : gI U 189 m = nI j := by rw [u1, gI_sI, if_pos ⟨rfl, rfl⟩]
  have up : ∀ k, gR U 186 k = R0 186 k := fun k => by rw [uf.2 _ _ (fun h => h)]; exact rp k
  have u3 : gI U 186 3 = nI tp.length := by rw [uf.I (by omega)]; exact t3
  have uT : ∀ k, k < tp.length → gI U 187 k = nI (cAt tp k) := fun k hk => by
    rw [uf.I (by omega)]; exact tT k hk
  refine o_I (M_isL hcc (by omega)) ?_
  rintro _ U ⟨rfl, rfl⟩
  by_cases cL : isL (cAt tp j) = true
  · rw [if_pos cL]
    refine o_f (by decide) ?_
    have eE : tE tp j = en isL tp j := by unfold tE; rw [if_neg c0, if_pos cL]
    obtain ⟨e, he⟩ : ∃ e, e = en isL tp j := ⟨_, rfl⟩
    have hin : ∀ k, j ≤ k → k < e → isL (cAt tp k) = true := fun k a b => en_in _ j k rfl a (by rw [← he]; exact b)
    have hout : e < tp.length → ¬ isL (cAt tp e) = true := fun h => by
      rw [he]; exact en_out _ j rfl (by omega) (by rw [← he]; exact h)
    rw [eE, ← he] at done hE hlt
    have fin : ∀ (g' : Nat) (v : Int64), 22 + 8 * (tp.length - e + 1) + 1 ≤ g' → (e - j ≤ 8 → v = lN (k37 (sl tp j (e - j)))) → zU (F_X13_cutAll g' 8 [.ref 186, .int (nI m), .int (nI e), .int (nI j), .long v] U) (fun U => (∃ N, MTs U tp N) ∧ gI U 186 7 = nI 0 ∧ gI U 186 8 = 0 ∧ gI U 186 2 = nI 0 ∧ Fg dCu nR S U) := by
      intro g' v hg3 hv
      obtain ⟨g', rfl, hg4⟩ := g1 hg3
      rw [E_X13_cutAll_8]; unfold F_X13_cutAll_8
      refine o_X rfl (show m < 1002 by omega) ?_
      rw [show gR U 186 4 = 188 from up 4, pk_sub hE.1, show (8 : Int32) = nI 8 from rfl]
      refine o_s (fun V w => ?_)
      have vf := uf.sI w (by omega)
      have w9 : gI V 189 m = nI j := by rw [w, gI_sI, if_neg (by omega)]; exact u9
      by_cases c8 : e - j ≤ 8
      · have eK : tK tp j = (1, sl tp j (e - j), 0) := by unfold tK; rw [if_neg c0, if_pos cL, eE, ← he, if_pos c8]
        refine done V g' v (by omega) vf ?_ w9 (fun _ => by rw [eK]; exact hv c8) (fun h => absurd h (by rw [eK]; simp))
        rw [w, gI_sI, if_pos ⟨rfl, rfl⟩, if_pos (nI_le (b := 8) c8 (by omega)), eK]; rfl
      · have eK : tK tp j = (4, [], 0) := by unfold tK; rw [if_neg c0, if_pos cL, eE, ← he, if_neg c8]
        refine done V g' v (by omega) vf ?_ w9 (fun h => absurd h (by rw [eK]; simp)) (fun h => absurd h (by rw [eK]; simp))
        rw [w, gI_sI, if_pos ⟨rfl, rfl⟩, if_neg (nI_ge (a := 8) (by omega) (by omega)), eK]; rfl
    refine o_loopT (F := fun f vs S => F_X13_cutAll f 5 vs S) (c := 2) (B := 10) (y := e - j) (G := g) (fun k vs T => T = U ∧ ∃ v, vs = [.ref 186, .int (nI m), .int (nI (j + k)), .int (nI j), .long v] ∧ (k ≤ 8 → v = lN (k37 (sl tp j k)))) ?_ ?_ _ U ⟨rfl, _, rfl, fun _ => rfl⟩ (by omega)
    · rintro k _ T1 g hk ⟨t1, v, rfl, hv⟩ hg rk
      rw [t1]
      show zO (F_X13_cutAll g 5 _ _) _
      obtain ⟨g, rfl, hg4⟩ := g1 (n := 11) (f := g) (by omega)
      rw [E_X13_cutAll_5]; unfold F_X13_cutAll_5
      have hL := hin (j + k) (by omega) (by omega)
      rw [u3]
      refine o_f (nI_ge (by omega) (by omega)) ?_
      refine o_X rfl (show j + k < 1000 by omega) ?_
      rw [show gR U 186 1 = 187 from up 1, uT _ (by omega)]
      refine o_I (M_isL (ho.c _) (by omega)) ?_
      rintro _ T1 ⟨rfl, rfl⟩
      rw [if_pos hL]
      refine o_f (by decide) ?_
      rw [pk_sub (show j ≤ j + k by omega), show j + k - j = k by omega, show (8 : Int32) = nI 8 from rfl]
      by_cases c8 : 8 ≤ k
      · refine o_t (nI_le c8 (by omega)) ?_
        obtain ⟨g, rfl, hg5⟩ := g1 (n := 10) (f := g) (by omega)
        rw [E_X13_cutAll_9]; unfold F_X13_cutAll_9
        rw [nI_1]
        exact rk g _ _ (by omega) ⟨rfl, _, rfl, fun h => absurd h (by omega)⟩
      · refine o_f (nI_ge (by omega) (by omega)) ?_
        refine o_X rfl (show j + k < 1000 by omega) ?_
        rw [show gR _ 186 1 = 187 from up 1, uT _ (by omega)]
        refine o_I (M_rank (ho.c _) hL (by omega)) ?_
        rintro _ T1 ⟨rfl, rfl⟩
        obtain ⟨g, rfl, hg5⟩ := g1 (n := 10) (f := g) (by omega)
        rw [E_X13_cutAll_9]; unfold F_X13_cutAll_9
        have hcb := ho.c (j + k)
        rw [nI_1, hv (by omega), show (37 : Int64) = lN 37 from rfl, nI_l (by omega), lN_mul, lN_add, ← k37_s, ← sl_s]
        exact rk g _ _ (by omega) ⟨rfl, _, rfl, fun _ => rfl⟩
    · rintro _ T1 g' ⟨t1, v, rfl, hv⟩ hg3 hG
      rw [t1]
      show zO (F_X13_cutAll g' 5 _ _) _
      obtain ⟨g', rfl, hg4⟩ := g1 (n := 11) (f := g') (by omega)
      rw [E_X13_cutAll_5]; unfold F_X13_cutAll_5
      rw [show j + (e - j) = e by omega, u3]
      by_cases c : e < tp.length
      · refine o_f (nI_ge c (by omega)) ?_
        refine o_X rfl (show e < 1000 by omega) ?_
        rw [show gR U 186 1 = 187 from up 1, uT _ c]
        refine o_I (M_isL (ho.c _) (by omega)) ?_
        rintro _ U ⟨rfl, rfl⟩
        rw [if_neg (hout c)]
        exact o_t rfl (fin g' v (by omega) hv)
      · exact o_t (nI_le (by omega) (by omega)) (fin g' v (by omega) hv)
  rw [if_neg cL]
  refine o_t rfl ?_
  refine o_I (M_isG hcc (by omega)) ?_
  rintro _ U ⟨rfl, rfl⟩
  by_cases cG : isG (cAt tp j) = true
  · rw [if_pos cG]
    refine o_f (by decide) ?_
    have eE : tE tp j = en isG tp j := by unfold tE; rw [if_neg c0, if_neg cL, if_pos cG]
    obtain ⟨e, he⟩ : ∃ e, e = en isG tp j := ⟨_, rfl⟩
    have hin : ∀ k, j ≤ k → k < e → isG (cAt tp k) = true := fun k a b => en_in _ j k rfl a (by rw [← he]; exact b)
    have hout : e < tp.length → ¬ isG (cAt tp e) = true := fun h => by
      rw [he]; exact en_out _ j rfl (by omega) (by rw [← he]; exact h)
    rw [eE, ← he] at done hE hlt
    have fin : ∀ (g' : Nat) (v : Int64), 22 + 8 * (tp.length - e + 1) + 1 ≤ g' → (e - j ≤ 4 → v = lN (k10 (dg tp j (e - j)))) → zU (F_X13_cutAll g' 6 [.ref 186, .int (nI m), .int (nI e), .int (nI j), .long v] U) (fun U => (∃ N, MTs U tp N) ∧ gI U 186 7 = nI 0 ∧ gI U 186 8 = 0 ∧ gI U 186 2 = nI 0 ∧ Fg dCu nR S U) := by
      intro g' v hg3 hv
      obtain ⟨g', rfl, hg4⟩ := g1 hg3
      rw [E_X13_cutAll_6]; unfold F_X13_cutAll_6
      refine o_X rfl (show m < 1002 by omega) ?_
      rw [show gR U 186 4 = 188 from up 4, pk_sub hE.1, show (4 : Int32) = nI 4 from rfl]
      refine o_s (fun V w => ?_)
      have vf := uf.sI w (by omega)
      have w9 : gI V 189 m = nI j := by rw [w, gI_sI, if_neg (by omega)]; exact u9
      by_cases c8 : e - j ≤ 4
      · have eK : tK tp j = (2, [], k10 (dg tp j (e - j))) := by unfold tK; rw [if_neg c0, if_neg cL, if_pos cG, eE, ← he, if_pos c8]
        refine done V g' v (by omega) vf ?_ w9 (fun h => absurd h (by rw [eK]; simp)) (fun _ => by rw [eK]; exact hv c8)
        rw [w, gI_sI, if_pos ⟨rfl, rfl⟩, if_pos (nI_le (b := 4) c8 (by omega)), eK]; rfl
      · have eK : tK tp j = (4, [], 0) := by unfold tK; rw [if_neg c0, if_neg cL, if_pos cG, eE, ← he, if_neg c8]
        refine done V g' v (by omega) vf ?_ w9 (fun h => absurd h (by rw [eK]; simp)) (fun h => absurd h (by rw [eK]; simp))
        rw [w, gI_sI, if_pos ⟨rfl, rfl⟩, if_neg (nI_ge (a := 4) (by omega) (by omega)), eK]
    refine o_loopT (F := fun f vs S => F_X13_cutAll f 4 vs S) (c := 2) (B := 10) (y := e - j) (G := g) (fun k vs T => T = U ∧ ∃ v, vs = [.ref 186, .int (nI m), .int (nI (j + k)), .int (nI j), .long v] ∧ (k ≤ 4 → v = lN (k10 (dg tp j k)))) ?_ ?_ _ U ⟨rfl, _, rfl, fun _ => rfl⟩ (by omega)
    · rintro k _ T1 g hk ⟨t1, v, rfl, hv⟩ hg rk
      rw [t1]
      show zO (F_X13_cutAll g 4 _ _) _
      obtain ⟨g, rfl, hg4⟩ := g1 (n := 11) (f := g) (by omega)
      rw [E_X13_cutAll_4]; unfold F_X13_cutAll_4
      have hL := hin (j + k) (by omega) (by omega)
      have hcd := of_decide_eq_true hL
      rw [u3]
      refine o_f (nI_ge (by omega) (by omega)) ?_
      refine o_X rfl (show j + k < 1000 by omega) ?_
      rw [show gR U 186 1 = 187 from up 1, uT _ (by omega)]
      refine o_I (M_isG (ho.c _) (by omega)) ?_
      rintro _ T1 ⟨rfl, rfl⟩
      rw [if_pos hL]
      refine o_f (by decide) ?_
      rw [pk_sub (show j ≤ j + k by omega), show j + k - j = k by omega, show (4 : Int32) = nI 4 from rfl]
      by_cases c8 : 4 ≤ k
      · refine o_t (nI_le c8 (by omega)) ?_
        obtain ⟨g, rfl, hg5⟩ := g1 (n := 10) (f := g) (by omega)
        rw [E_X13_cutAll_7]; unfold F_X13_cutAll_7
        rw [nI_1]
        exact rk g _ _ (by omega) ⟨rfl, _, rfl, fun h => absurd h (by omega)⟩
      · refine o_f (nI_ge (by omega) (by omega)) ?_
        refine o_X rfl (show j + k < 1000 by omega) ?_
        rw [show gR _ 186 1 = 187 from up 1, uT _ (by omega)]
        obtain ⟨g, rfl, hg5⟩ := g1 (n := 10) (f := g) (by omega)
        rw [E_X13_cutAll_7]; unfold F_X13_cutAll_7
        have hcb := ho.c (j + k)
        rw [nI_1, hv (by omega), show (10 : Int64) = lN 10 from rfl, show (48 : Int64) = lN 48 from rfl, nI_l (by omega), lN_mul, lN_add, lN_sub (by omega), show 10 * k10 (dg tp j k) + cAt tp (j + k) - 48 = k10 (dg tp j k) * 10 + (cAt tp (j + k) - 48) by omega, ← k10_s, ← dg_s]
        exact rk g _ _ (by omega) ⟨rfl, _, rfl, fun _ => rfl⟩
    · rintro _ T1 g' ⟨t1, v, rfl, hv⟩ hg3 hG
      rw [t1]
      show zO (F_X13_cutAll g' 4 _ _) _
      obtain ⟨g', rfl, hg4⟩ := g1 (n := 11) (f := g') (by omega)
      rw [E_X13_cutAll_4]; unfold F_X13_cutAll_4
      rw [show j + (e - j) = e by omega, u3]
      by_cases c : e < tp.length
      · refine o_f (nI_ge c (by omega)) ?_
        refine o_X rfl (show e < 1000 by omega) ?_
        rw [show gR U 186 1 = 187 from up 1, uT _ c]
        refine o_I (M_isG (ho.c _) (by omega)) ?_
        rintro _ U ⟨rfl, rfl⟩
        rw [if_neg (hout c)]
        exact o_t rfl (fin g' v (by omega) hv)
      · exact o_t (nI_le (by omega) (by omega)) (fin g' v (by omega) hv)
  rw [if_neg cG]
  refine o_t rfl ?_
  have eE : tE tp j = j + 1 := by unfold tE; rw [if_neg c0, if_neg cL, if_neg cG]
  rw [eE] at done
  refine o_I (M_isS hcc (by omega)) ?_
  rintro _ U ⟨rfl, rfl⟩
  refine o_X rfl (show m < 1002 by omega) ?_
  rw [show gR U 186 4 = 188 from up 4]
  refine o_s (fun V w => ?_)
  have vf := uf.sI w (by omega)
  have w9 : gI V 189 m = nI j := by rw [w, gI_sI, if_neg (by omega)]; exact u9
  rw [nI_1, nI_l (by omega)]
  by_cases c8 : isS (cAt tp j) = true
  · have eK : tK tp j = (3, [], cAt tp j) := by unfold tK; rw [if_neg c0, if_neg cL, if_neg cG, if_pos c8]
    refine done V g _ (by omega) vf ?_ w9 (fun h => absurd h (by rw [eK]; simp)) (fun _ => by rw [eK])
    rw [w, gI_sI, if_pos ⟨rfl, rfl⟩, if_pos c8, eK]; rfl
  · have eK : tK tp j = (4, [], 0) := by unfold tK; rw [if_neg c0, if_neg cL, if_neg cG, if_neg c8]
    refine done V g _ (by omega) vf ?_ w9 (fun h => absurd h (by rw [eK]; simp)) (fun h => absurd h (by rw [eK]; simp))
    rw [w, gI_sI, if_pos ⟨rfl, rfl⟩, if_neg c8, eK]; rfl
end MT

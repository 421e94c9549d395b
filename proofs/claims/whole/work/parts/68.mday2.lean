/-! the reference reads a day: all lines -/
abbrev dMe : Nat → Nat → Prop := fun x k => (x = 186 ∧ (k = 7 ∨ k = 8)) ∨ x = 197
def mQa (tp : List Nat) (S : aS) (acc : List (Nat × Nat × Nat)) (r : Except (Nat × Nat) (List (Nat × Nat × Nat))) (x : Int32) (T : aS) : Prop := match r with
  | .error e => x = nI (e.1 + 16 * tP tp e.2) ∧ Fr dMd S T
  | .ok l => x = 0 ∧ gI T 197 0 = nI (acc ++ l).length ∧ MDa T 1 (acc ++ l) ∧ Fr dMe S T
section MD2
variable {S T : aS} {f n k x pn N a b : Nat} {tp : List Nat} {nm : Nat → List Nat} {D : Nat → Nat → Prop} {P : aP} {acc : List (Nat × Nat × Nat)}
theorem MDa.fr (h : MDa S b acc) (hf : Fr D S T) (hD : ∀ k, b ≤ k → k < b + 3 * acc.length → ¬ D 197 k) : MDa T b acc := fun i hi => by
  rw [hf.2 _ _ (hD _ (by omega) (by omega)), hf.2 _ _ (hD _ (by omega) (by omega)), hf.2 _ _ (hD _ (by omega) (by omega))]
  exact h i hi
theorem MDa.ap {y : Nat × Nat × Nat} (h : MDa S b acc) (h1 : gI S 197 (b + 3 * acc.length) = nI y.1) (h2 : y.1 ≠ 5 → gI S 197 (b + 1 + 3 * acc.length) = nI y.2.1) (h3 : gI S 197 (b + 2 + 3 * acc.length) = nI y.2.2) : MDa S b (acc ++ [y]) := fun i hi => by
  rw [List.length_append, List.length_singleton] at hi
  have e : (acc ++ [y]).getD i (0, 0, 0) = if i = acc.length then y else acc.getD i (0, 0, 0) := by
    rw [List.getD_eq_getElem?_getD, List.getD_eq_getElem?_getD]
    by_cases c : i = acc.length
    · rw [if_pos c, c, List.getElem?_append_right (Nat.le_refl _), Nat.sub_self]; rfl
    · rw [if_neg c, List.getElem?_append_left (by omega)]
  rw [e]
  by_cases c : i = acc.length
  · rw [if_pos c, c]; exact ⟨h1, h2, h3⟩
  · rw [if_neg c]; exact h i (by omega)
theorem md5 (hR : MR S) (hk : k ≤ 40) (hg : 200 ≤ f) : zI (F_X13_day f 5 [.ref 186, .int (nI k), .int 0] S) (fun x T => x = 0 ∧ (∀ v, v < 3 * k → gI T 197 (1 + v) = gI S 197 (125 + v)) ∧ Fr (fun x k => x = 197 ∧ 1 ≤ k ∧ k < 125) S T) := by
  refine o_loop (F := fun f vs S => F_X13_day f 5 vs S) (c := 1) (B := 10) (y := 3 * k) (fun j vs T => vs = [.ref 186, .int (nI k), .int (nI j)] ∧ (∀ v, v < j → gI T 197 (1 + v) = gI S 197 (125 + v)) ∧ Fr (fun x k => x = 197 ∧ 1 ≤ k ∧ k < 125) S T) ?_ ?_ 0 _ S f (by omega) ⟨rfl, fun v h => absurd h (by omega), Fr.refl S⟩ (by omega)
  · rintro j _ T g hj ⟨rfl, h1, h2⟩ hg rk
    show zO (F_X13_day g 5 _ _) _
    obtain ⟨g, ge, hG⟩ := g1 hg; subst ge; clear hg; have hg := hG; clear hG; rw [E_X13_day_5]; unfold F_X13_day_5
    rw [show (3 : Int32) = nI 3 from rfl, pk_mul]
    refine o_f (nI_ge hj (by omega)) ?_
    refine o_X (n := 125 + j) (nA2' rfl) (by omega) ?_
    refine o_X (n := 1 + j) (nA2' rfl) (by omega) ?_
    rw [(hR.fr h2).lines, h2.2 _ _ (by omega), nI_1]
    refine o_s (fun U u => ?_)
    refine rk g _ _ (by omega) ⟨rfl, fun v hv => ?_, h2.sI u ⟨rfl, by omega, by omega⟩⟩
    rw [u, gI_sI]
    by_cases c : v = j
    · rw [if_pos ⟨rfl, by rw [c]⟩, c]
    · rw [if_neg (by omega)]; exact h1 v (by omega)
  · rintro _ T g ⟨rfl, h1, h2⟩ hg
    show zO (F_X13_day g 5 _ _) _
    obtain ⟨g, ge, hG⟩ := g1 hg; subst ge; clear hg; have hg := hG; clear hG; rw [E_X13_day_5]; unfold F_X13_day_5
    rw [show (3 : Int32) = nI 3 from rfl, pk_mul]
    exact o_t (nI_le (Nat.le_refl _) (by omega)) (i_r ⟨rfl, h1, h2⟩)
theorem tk_5 : (tk tp n).1 < 5 := by
  show (tK tp (tP tp n)).1 < 5
  unfold tK
  repeat' split
  all_goals simp
theorem T_mdall (ho : tp.length ≤ 1000) (hp : pN P ≤ 6) : ∀ (φ n f : Nat) (S : aS) (acc : List (Nat × Nat × Nat)), 1001 - n ≤ φ → 300 + 4 * φ ≤ f → acc.length ≤ 40 → MTk S tp N n → MNm S 0 (pN P) nm → MDa S 125 acc → zI (F_X13_day f 1 [.ref 186, .int (nI acc.length)] S) (mQa tp S acc (dAl tp nm (pN P) φ acc.length n))
  | 0, n, f, S, acc, hf, _, _, h, _, _ => by have := h.2.1.1.1; have := h.2.2.1.2; omega
  | φ + 1, n, f, S, acc, hf, hg, hk, h, hm, ha => by
    have hN := h.2.1.1
    have hn := h.2.2.1.2
    have hN1 := hN.1
    replace hg : (303 + 4 * φ) + 1 ≤ f := by omega
    obtain ⟨g, ge, hG⟩ := g1 hg; subst ge; clear hg; have hg := hG; clear hG; rw [E_X13_day_1]; unfold F_X13_day_1
    refine o_t h.2.2.2.1 ?_
    rw [h.2.2.1.1]
    refine o_X rfl h.lt ?_
    rw [h.1.sort, h.tk.1]
    unfold dAl
    by_cases c : (tk tp n).1 = 0
    · rw [if_pos c]
      refine o_t (by rw [c]; rfl) ?_
      replace hg : (302 + 4 * φ) + 1 ≤ g := by omega
      obtain ⟨g, ge, hG⟩ := g1 hg; subst ge; clear hg; have hg := hG; clear hG; rw [E_X13_day_2]; unfold F_X13_day_2
      refine o_t (by rw [h.2.2.2.1]; decide) ?_
      refine o_X (n := 0) rfl (by omega) ?_
      rw [h.1.lines]
      refine o_s (fun S1 s1 => ?_)
      have f1 : Fr (fun x k => x = 197 ∧ k = 0) S S1 := (Fr.refl S).sI s1 ⟨rfl, rfl⟩
      refine i_m (md5 (h.1.fr f1) hk (by omega)) ?_
      rintro x T ⟨rfl, t1, t2⟩
      refine ⟨rfl, ?_, ?_, (f1.mono (fun q k d => by unfold dMe; omega)).tr (t2.mono (fun q k d => by unfold dMe; omega))⟩
      · rw [List.append_nil, t2.2 _ _ (by omega), s1, gI_sI, if_pos ⟨rfl, rfl⟩]
      · rw [List.append_nil]
        intro i hi
        have hb := ha i hi
        rw [show 1 + 1 + 3 * i = 1 + (1 + 3 * i) by omega, show 1 + 2 + 3 * i = 1 + (2 + 3 * i) by omega, t1 (3 * i) (by omega), t1 (1 + 3 * i) (by omega), t1 (2 + 3 * i) (by omega), f1.2 _ _ (by omega), f1.2 _ _ (by omega), f1.2 _ _ (by omega), show 125 + (1 + 3 * i) = 125 + 1 + 3 * i by omega, show 125 + (2 + 3 * i) = 125 + 2 + 3 * i by omega]
        exact hb
    rw [if_neg c]
    refine o_f (nI_ne (b := 0) c (by have := tk_5 (tp := tp) (n := n); omega) (by omega)) ?_
    refine o_I (M_act h (by omega)) ?_
    rintro x T1 ⟨t1, hx⟩
    rw [t1]
    by_cases qa : ¬ qAct tp n = true
    · rw [if_neg qa] at hx
      refine o_f (by rw [hx]; decide) ?_
      refine o_V (M_wrong (k := 1) h (by omega)) ?_
      rintro T2 ⟨u1, u2⟩
      refine i_m (md4 (mf_n ho (by omega) (by omega) u1) (by omega)) ?_
      rintro y T ⟨rfl, t⟩
      rw [t]
      have e : dLn tp nm (pN P) acc.length n = .error (1, n) := by unfold dLn; rw [if_neg qa]
      rw [e]
      exact ⟨rfl, u2.mono (fun q k d => by unfold d8 at d; unfold dMd; omega)⟩
    replace qa : qAct tp n = true := Decidable.not_not.mp qa
    rw [if_pos qa] at hx
    have h5 := act_5 qa
    have hs := qAct.s hN hn qa
    obtain ⟨a, ea⟩ : ∃ a, a = actN tp n := ⟨_, rfl⟩
    rw [← ea] at hx h5
    refine o_t (by rw [hx]; exact nI_pos' (by omega)) ?_
    by_cases c40 : 40 ≤ acc.length
    · refine o_t (by rw [show acc.length = 40 by omega]; rfl) ?_
      refine o_V (M_wrong (k := 5) h (by omega)) ?_
      rintro T2 ⟨u1, u2⟩
      refine i_m (md4 (mf_n ho (by omega) (by omega) u1) (by omega)) ?_
      rintro y T ⟨rfl, t⟩
      rw [t]
      have e : dLn tp nm (pN P) acc.length n = .error (5, n) := by unfold dLn; rw [if_pos qa, if_pos c40]
      rw [e]
      exact ⟨rfl, u2.mono (fun q k d => by unfold d8 at d; unfold dMd; omega)⟩
    refine o_f (nI_ne (b := 40) (by omega) (by omega) (by omega)) ?_
    rw [h.2.2.1.1, nI_1]
    refine o_s (fun S1 s1 => ?_)
    have f1 : Fr d7 S S1 := (Fr.refl S).sI s1 ⟨rfl, rfl⟩
    have h1 := h.at f1 (by rw [s1, gI_sI, if_pos ⟨rfl, rfl⟩]) hs
    rw [i3 (c := 125) (v := 125) rfl]
    refine o_X rfl (show 125 + 3 * acc.length < 250 by omega) ?_
    rw [h1.1.lines, hx]
    refine o_s (fun S2 s2 => ?_)
    have f2' : Fr (fun x k => x = 197 ∧ k = 125 + 3 * acc.length) S1 S2 := (Fr.refl S1).sI s2 ⟨rfl, rfl⟩
    have h2 : MTk S2 tp N (n + 1) := h1.fr f2' (by refine ⟨⟨by omega, by omega⟩, fun k => ⟨by omega, by omega, by omega⟩⟩)
    have f2 : Fr (fun x k => (x = 186 ∧ (k = 7 ∨ k = 8)) ∨ (x = 197 ∧ 125 + 3 * acc.length ≤ k)) S S2 := (f1.mono (fun q k d => by unfold d7 at d; omega)).tr (f2'.mono (fun q k d => by omega))
    have g2 : gI S2 197 (125 + 3 * acc.length) = nI a := by rw [s2, gI_sI, if_pos ⟨rfl, rfl⟩]
    rw [h2.1.lines, i3 (c := 126) (v := 126) rfl]
    have up : ∀ {A B : aS}, Fr (fun x k => (x = 186 ∧ (k = 7 ∨ k = 8)) ∨ (x = 197 ∧ 125 + 3 * acc.length ≤ k)) A B → Fr dMd A B := fun hf => hf.mono (fun q k d => by unfold dMd; omega)
    have up8 : ∀ {A B : aS}, Fr d8 A B → Fr (fun x k => (x = 186 ∧ (k = 7 ∨ k = 8)) ∨ (x = 197 ∧ 125 + 3 * acc.length ≤ k)) A B := fun hf => hf.mono (fun q k d => by unfold d8 at d; omega)
    have up7 : ∀ {A B : aS}, Fr d7 A B → Fr (fun x k => (x = 186 ∧ (k = 7 ∨ k = 8)) ∨ (x = 197 ∧ 125 + 3 * acc.length ≤ k)) A B := fun hf => hf.mono (fun q k d => by unfold d7 at d; omega)
    have bad : ∀ (e : Nat × Nat) (y : Int32) (T : aS), dBe tp nm (pN P) a (n + 1) = .error e → y = nI (e.1 + 16 * tP tp e.2) → Fr dMd S T → mQa tp S acc (match dLn tp nm (pN P) acc.length n with
        | .error e => .error e
        | .ok x => match dAl tp nm (pN P) φ (acc.length + 1) x.2 with
          | .error e => .error e
          | .ok l => .ok (x.1 :: l)) y T := by
      intro e y T hb hy hT
      have e' : dLn tp nm (pN P) acc.length n = .error e := by unfold dLn; rw [if_pos qa, if_neg c40, ← ea, hb]
      rw [e']
      exact ⟨hy, hT⟩
    have fin : ∀ (y : Nat × Nat × Nat) (m g : Nat) (U : aS), 302 + 4 * φ ≤ g → dBe tp nm (pN P) a (n + 1) = .ok (y, m) → MTk U tp N m → n + 1 ≤ m → Fr (fun x k => (x = 186 ∧ (k = 7 ∨ k = 8)) ∨ (x = 197 ∧ 125 + 3 * acc.length ≤ k)) S U → gI U 197 (125 + 3 * acc.length) = nI a → (a ≠ 5 → gI U 197 (126 + 3 * acc.length) = nI y.2.1) → zI (F_X13_day g 6 [.ref 186, .int (nI acc.length), .int (nI y.2.2), .int (nI (127 + 3 * acc.length)), .ref 197] U) (mQa tp S acc (match dLn tp nm (pN P) acc.length n with
        | .error e => .error e
        | .ok x => match dAl tp nm (pN P) φ (acc.length + 1) x.2 with
          | .error e => .error e
          | .ok l => .ok (x.1 :: l))) := by
      intro y m g U hg hb hU hm' fU u1 u2
      obtain ⟨g, rfl, hg2⟩ := g1 (n := 301 + 4 * φ) (f := g) (by omega)
      rw [E_X13_day_6]; unfold F_X13_day_6
      refine o_X rfl (show 127 + 3 * acc.length < 250 by omega) ?_
      rw [nI_1]
      refine o_s (fun V v => ?_)
      have fv' : Fr (fun x k => x = 197 ∧ k = 127 + 3 * acc.length) U V := (Fr.refl U).sI v ⟨rfl, rfl⟩
      have hV : MTk V tp N m := hU.fr fv' (by refine ⟨⟨by omega, by omega⟩, fun k => ⟨by omega, by omega, by omega⟩⟩)
      have fV := fU.tr (fv'.mono (fun q k d => by omega))
      have hy1 : y.1 = a := dBe_1 hb
      obtain ⟨g, rfl, hg2⟩ := g1 (n := 300 + 4 * φ) (f := g) (by omega)
      rw [E_X13_day_4]; unfold F_X13_day_4
      refine o_V (M_takeSign (c := 59) hV (by omega) (by omega)) ?_
      intro W hw
      by_cases s : qS tp m 59 = true
      · rw [if_pos s] at hw
        have e' : dLn tp nm (pN P) acc.length n = .ok (y, m + 1) := by
          unfold dLn; rw [if_pos qa, if_neg c40, ← ea, hb]
          show (if qS tp m 59 = true then Except.ok (y, m + 1) else Except.error (1, m) : dR) = _
          rw [if_pos s]
        rw [e']
        have fW := fV.tr (up7 hw.2)
        have aW : MDa W 125 (acc ++ [y]) := by
          refine (ha.fr fW (fun k a b => by omega)).ap ?_ (fun h5' => ?_) ?_
          · rw [hw.2.2 _ _ (by unfold d7; omega), fv'.2 _ _ (by omega), u1, hy1]
          · rw [hw.2.2 _ _ (by unfold d7; omega), fv'.2 _ _ (by omega)]; exact u2 (by rw [← hy1]; exact h5')
          · rw [hw.2.2 _ _ (by unfold d7; omega), v, gI_sI, if_pos ⟨rfl, rfl⟩]
        have hl : (acc ++ [y]).length = acc.length + 1 := by rw [List.length_append, List.length_singleton]
        have ih := T_mdall ho hp φ (m + 1) g W (acc ++ [y]) (by omega) (by omega) (by omega) hw.1 (hm.fr fW (by omega)) aW
        rw [hl] at ih
        refine i_m ih (fun z Z hz => ?_)
        show mQa tp S acc (match dAl tp nm (pN P) φ (acc.length + 1) (m + 1) with
          | .error e => .error e
          | .ok l => .ok (y :: l)) z Z
        rcases er : dAl tp nm (pN P) φ (acc.length + 1) (m + 1) with e | l
        · rw [er] at hz
          exact ⟨hz.1, (up fW).tr hz.2⟩
        · rw [er] at hz
          obtain ⟨z1, z2, z3, z4⟩ := hz
          rw [List.append_assoc] at z2 z3
          exact ⟨z1, z2, z3, (fW.mono (fun q k d => by unfold dMe; omega)).tr z4⟩
      · rw [if_neg s] at hw
        have e' : dLn tp nm (pN P) acc.length n = .error (1, m) := by
          unfold dLn; rw [if_pos qa, if_neg c40, ← ea, hb]
          show (if qS tp m 59 = true then Except.ok (y, m + 1) else Except.error (1, m) : dR) = _
          rw [if_neg s]
        rw [e']
        refine i_m (md1 (mf_n ho (by omega) (by omega) hw.1) (by omega)) ?_
        rintro z Z ⟨rfl, z⟩
        rw [z]
        exact ⟨rfl, up (fV.tr (up8 hw.2))⟩
    by_cases c0 : a = 0
    · refine o_t (by rw [c0]; rfl) ?_
      refine o_I (M_takePerson ho h2 (hm.fr f2 (by omega)) hp (by omega)) ?_
      intro x U hU
      rw [← c0] at hU
      rcases eo : dBe tp nm (pN P) a (n + 1) with e | ⟨y, m⟩
      · rw [eo] at hU
        obtain ⟨rfl, u1, u2⟩ := hU
        have hk := dBe_e hN hs eo
        have fU : Fr (fun x k => (x = 186 ∧ (k = 7 ∨ k = 8)) ∨ (x = 197 ∧ 125 + 3 * acc.length ≤ k)) S U := f2.tr (u2.mono (fun q k d => by unfold d78 at d; omega))
        refine i_m (md3 (h.1.fr fU) (mf_n ho hk.1.1 hk.1.2 u1) (by omega) (by omega)) ?_
        rintro z Z ⟨rfl, z⟩
        exact bad e _ Z eo rfl ((up fU).tr z)
      · rw [eo] at hU
        obtain ⟨x0, u1, u2⟩ := hU
        have x1 : x = nI y.2.1 := x0
        have fU : Fr (fun x k => (x = 186 ∧ (k = 7 ∨ k = 8)) ∨ (x = 197 ∧ 125 + 3 * acc.length ≤ k)) S U := f2.tr (u2.mono (fun q k d => by unfold d78 at d; omega))
        have hb := dBe_ok hN hs h5 hp eo
        have y0 : y.2.2 = 0 := by
          unfold dBe at eo
          rw [if_neg (show ¬ a = 5 by omega), if_pos c0] at eo
          by_cases qq : qA tp (n + 1) = true
          · rw [if_pos qq] at eo
            rcases er : nmO nm (tk tp (n + 1)).2.1 (pN P) 0 with _ | i
            · rw [er] at eo; exact absurd eo (by simp)
            · rw [er] at eo
              have := (Prod.mk.inj (Except.ok.inj eo)).1
              rw [← this]
          · rw [if_neg qq] at eo; exact absurd eo (by simp)
        replace hg : (302 + 4 * φ) + 1 ≤ g := by omega
        obtain ⟨g, ge, hG⟩ := g1 hg; subst ge; clear hg; have hg := hG; clear hG; rw [E_X13_day_3]; unfold F_X13_day_3
        refine o_X rfl (show 126 + 3 * acc.length < 250 by omega) ?_
        refine o_s (fun V v => ?_)
        have fv' : Fr (fun x k => x = 197 ∧ k = 126 + 3 * acc.length) U V := (Fr.refl U).sI v ⟨rfl, rfl⟩
        have hV : MTk V tp N m := u1.fr fv' (by refine ⟨⟨by omega, by omega⟩, fun k => ⟨by omega, by omega, by omega⟩⟩)
        have fV := fU.tr (fv'.mono (fun q k d => by omega))
        refine o_f (by rw [c0]; decide) ?_
        rw [hV.1.lines, i3 (c := 127) (v := 127) rfl]
        have := fin y m g V (by omega) eo hV (by omega) fV (by rw [fv'.2 _ _ (by omega), u2.2 _ _ (by unfold d78; omega)]; exact g2) (fun _ => by rw [v, gI_sI, if_pos ⟨rfl, rfl⟩]; exact x1)
        rw [y0] at this
        exact this
    refine o_f (nI_ne (b := 0) c0 (by omega) (by omega)) ?_
    by_cases c5 : a = 5
    · refine o_t (by rw [c5]; rfl) ?_
      have eo : dBe tp nm (pN P) a (n + 1) = .ok ((5, 0, 0), n + 1) := by unfold dBe; rw [if_pos c5]
      replace hg : (302 + 4 * φ) + 1 ≤ g := by omega
      obtain ⟨g, ge, hG⟩ := g1 hg; subst ge; clear hg; have hg := hG; clear hG; rw [E_X13_day_3]; unfold F_X13_day_3
      refine o_X rfl (show 126 + 3 * acc.length < 250 by omega) ?_
      refine o_s (fun V v => ?_)
      have fv' : Fr (fun x k => x = 197 ∧ k = 126 + 3 * acc.length) S2 V := (Fr.refl S2).sI v ⟨rfl, rfl⟩
      have hV : MTk V tp N (n + 1) := h2.fr fv' (by refine ⟨⟨by omega, by omega⟩, fun k => ⟨by omega, by omega, by omega⟩⟩)
      have fV := f2.tr (fv'.mono (fun q k d => by omega))
      refine o_f (by rw [c5]; decide) ?_
      rw [hV.1.lines, i3 (c := 127) (v := 127) rfl]
      exact fin _ _ g V (by omega) eo hV (by omega) fV (by rw [fv'.2 _ _ (by omega)]; exact g2) (fun hh => absurd c5 hh)
    refine o_f (nI_ne (b := 5) c5 (by omega) (by omega)) ?_
    refine o_I (M_takeNumber (a := 0) (b := 7) ho h2 (by omega) (by omega) (by omega)) ?_
    intro x U hU
    by_cases q : nW tp (n + 1) 0 7 = 0
    · rw [if_pos q] at hU
      obtain ⟨x1, u1, u2⟩ := hU
      have fU := f2.tr (up7 u2)
      replace hg : (302 + 4 * φ) + 1 ≤ g := by omega
      obtain ⟨g, ge, hG⟩ := g1 hg; subst ge; clear hg; have hg := hG; clear hG; rw [E_X13_day_3]; unfold F_X13_day_3
      refine o_X rfl (show 126 + 3 * acc.length < 250 by omega) ?_
      refine o_s (fun V v => ?_)
      have fv' : Fr (fun x k => x = 197 ∧ k = 126 + 3 * acc.length) U V := (Fr.refl U).sI v ⟨rfl, rfl⟩
      have hV : MTk V tp N (n + 1 + 1) := u1.fr fv' (by refine ⟨⟨by omega, by omega⟩, fun k => ⟨by omega, by omega, by omega⟩⟩)
      have fV := fU.tr (fv'.mono (fun q k d => by omega))
      have v1 : gI V 197 (125 + 3 * acc.length) = nI a := by rw [fv'.2 _ _ (by omega), u2.2 _ _ (by unfold d7; omega)]; exact g2
      have v2 : gI V 197 (126 + 3 * acc.length) = nI (tk tp (n + 1)).2.2 := by rw [v, gI_sI, if_pos ⟨rfl, rfl⟩]; exact x1
      rw [hV.1.lines, i3 (c := 127) (v := 127) rfl]
      by_cases c2 : a = 2
      · refine o_t (by rw [c2]; rfl) ?_
        refine o_I (M_takeNumber (a := 1) (b := 30) ho hV (by omega) (by omega) (by omega)) ?_
        intro x W hW
        by_cases r : nW tp (n + 1 + 1) 1 30 = 0
        · rw [if_pos r] at hW
          obtain ⟨rfl, w1, w2⟩ := hW
          have eo : dBe tp nm (pN P) a (n + 1) = .ok ((2, (tk tp (n + 1)).2.2, (tk tp (n + 1 + 1)).2.2), n + 1 + 2) := by unfold dBe; rw [if_neg c5, if_neg c0, if_pos q, if_pos c2, if_pos r]
          exact fin _ _ g W (by omega) eo w1 (by omega) (fV.tr (up7 w2)) (by rw [w2.2 _ _ (by unfold d7; omega)]; exact v1) (fun _ => by rw [w2.2 _ _ (by unfold d7; omega)]; exact v2)
        · rw [if_neg r] at hW
          obtain ⟨rfl, w1, w2⟩ := hW
          have eo : dBe tp nm (pN P) a (n + 1) = .error (nW tp (n + 1 + 1) 1 30, n + 1 + 1) := by unfold dBe; rw [if_neg c5, if_neg c0, if_pos q, if_pos c2, if_neg r]
          have hk := nW_k r
          refine i_m (md6 (mf_n ho hk.1 hk.2 w1) (by omega) (by omega)) ?_
          rintro z Z ⟨rfl, z⟩
          exact bad _ _ Z eo rfl ((up (fV.tr (up8 w2))).tr z)
      · refine o_f (nI_ne (b := 2) c2 (by omega) (by omega)) ?_
        have eo : dBe tp nm (pN P) a (n + 1) = .ok ((a, (tk tp (n + 1)).2.2, 0), n + 1 + 1) := by unfold dBe; rw [if_neg c5, if_neg c0, if_pos q, if_neg c2]
        exact fin _ _ g V (by omega) eo hV (by omega) fV v1 (fun _ => v2)
    · rw [if_neg q] at hU
      obtain ⟨rfl, u1, u2⟩ := hU
      have eo : dBe tp nm (pN P) a (n + 1) = .error (nW tp (n + 1) 0 7, n + 1) := by unfold dBe; rw [if_neg c5, if_neg c0, if_neg q]
      have hk := nW_k q
      have fU := f2.tr (up8 u2)
      refine i_m (md3 (h.1.fr fU) (mf_n ho hk.1 hk.2 u1) (by omega) (by omega)) ?_
      rintro z Z ⟨rfl, z⟩
      exact bad _ _ Z eo rfl ((up fU).tr z)
end MD2

/-! the reference reads an E -/
abbrev dEj (j : Nat) : Nat → Nat → Prop := fun x k => (x = 186 ∧ (k = 7 ∨ k = 8 ∨ k = 13)) ∨ ((x = 193 ∨ x = 194) ∧ 1100 + j ≤ k)
def mEr (S : aS) (tp : List Nat) (N p j : Nat) (T : aS) (k m : Nat) : Prop := (1 ≤ k ∧ k ≤ 5 ∧ m ≤ N) ∧ gI T 186 8 = nI (k + 16 * tP tp m) ∧ (∃ i, gI T 186 13 = nI i ∧ j ≤ i ∧ i + p ≤ m) ∧ Fr (dEj j) S T
def mOk (S : aS) (tp : List Nat) (N j : Nat) (cs : List Int32) (T : aS) (c : List Int32) (m : Nat) : Prop := MTk T tp N m ∧ MLc T j (cs ++ c) ∧ Fr (dEj j) S T
def MQr (S : aS) (tp : List Nat) (N p j : Nat) (cs : List Int32) (r : pR) (T : aS) : Prop := pE r (mEr S tp N p j T) (mOk S tp N j cs T)
section ME
variable {S T U : aS} {N p p' j n w e f x : Nat} {tp : List Nat} {cs bs : List Int32}
theorem mEr.keep {k m : Nat} (h : mEr S tp N p j T k m) (hf : Fr d0 T U) : mEr S tp N p j U k m := by
  obtain ⟨h1, h2, ⟨i, h3, h4⟩, h5⟩ := h
  exact ⟨h1, by rw [hf.2 _ _ (fun h => h)]; exact h2, ⟨i, by rw [hf.2 _ _ (fun h => h)]; exact h3, h4⟩, h5.tr (hf.mono (fun q k d => d.elim))⟩
theorem mEr.ft {k m : Nat} (h : mEr S tp N p j T k m) (ho : tp.length ≤ 1000) : MFt T (k + 16 * tP tp m) := by
  have := tP_b (tp := tp) m
  exact ⟨h.2.1, by have := h.1.1; omega, by have := h.1.2.1; omega⟩
theorem MQr.b {r : pR} {k : List Int32 × Nat → pR} {a : aR} {K : aS → aR} (h : zU a (MQr T tp N p' j bs r)) (hf : Fr (dEj j) S T) (he : ∀ k m U, mEr S tp N p' j U k m → zU (K U) (fun V => mEr S tp N p j V k m)) (hk : ∀ c m U, r = .ok (c, m) → MTk U tp N m → MLc U j (bs ++ c) → Fr (dEj j) S U → zU (K U) (MQr S tp N p j cs (k (c, m)))) : zU (bV a K) (MQr S tp N p j cs (pb r k)) := by
  refine o_V h (fun U hq => ?_)
  rcases r with ⟨e1, e2⟩ | ⟨c, m⟩
  · obtain ⟨q1, q2, q3, q4⟩ := hq
    exact he e1 e2 U ⟨q1, q2, q3, hf.tr q4⟩
  · obtain ⟨q1, q2, q3⟩ := hq
    exact hk c m U rfl q1 q2 (hf.tr q3)
theorem MQr.a {r : pR} {k : List Int32 × Nat → pR} {a : aR} {c : List Int32} (h : zU a (MQr T tp N p j (cs ++ c) r)) (hf : Fr (dEj j) S T) (hk : ∀ y m, k (y, m) = .ok (c ++ y, m)) : zU a (MQr S tp N p j cs (pb r k)) := by
  refine u_m h (fun U hq => ?_)
  rcases r with ⟨e1, e2⟩ | ⟨y, m⟩
  · obtain ⟨q1, q2, q3, q4⟩ := hq
    exact ⟨q1, q2, q3, hf.tr q4⟩
  · obtain ⟨q1, q2, q3⟩ := hq
    show pE (k (y, m)) _ _
    rw [hk]
    refine ⟨q1, ?_, hf.tr q3⟩
    rw [← List.append_assoc]
    exact q2
theorem ft5 (h : MFt S x) (hg : 10 ≤ f) : zU (F_gExp f e 5 [.ref 186, .int (nI w)] S) (fun U => Fr d0 S U) := by
  obtain ⟨g, rfl, hg⟩ := g1 (n := 9) (f := f) (by omega)
  rw [E_gExp_5]; unfold F_gExp_5
  refine o_I (M_isWord0 h (by omega)) ?_
  rintro y T1 ⟨rfl, t1⟩
  rw [t1]
  refine o_t rfl ?_
  refine o_I (M_isWord0 h (by omega)) ?_
  rintro y T1 ⟨rfl, t1⟩
  rw [t1]
  exact o_t rfl (u_r (Fr.refl S))
theorem ft9 (h : MFt S x) (hg : 10 ≤ f) : zU (F_gExp f e 9 [.ref 186, .int (nI w)] S) (fun U => Fr d0 S U) := by
  obtain ⟨g, rfl, hg⟩ := g1 (n := 9) (f := f) (by omega)
  rw [E_gExp_9]; unfold F_gExp_9
  refine o_I (M_isSign0 h (by omega)) ?_
  rintro y T1 ⟨rfl, t1⟩
  rw [t1]
  refine o_t rfl ?_
  refine o_I (M_isSign0 h (by omega)) ?_
  rintro y T1 ⟨rfl, t1⟩
  rw [t1]
  exact o_t rfl (u_r (Fr.refl S))
theorem ft11 (h : MFt S x) (hg : 10 ≤ f) (he : 1 ≤ e) : zU (F_gExp f e 11 [.ref 186, .int (nI w)] S) (fun U => Fr d0 S U) := by
  obtain ⟨g, rfl, hg⟩ := g1 (n := 9) (f := f) (by omega)
  obtain ⟨e1, rfl⟩ : ∃ e1, e = e1 + 1 := ⟨e - 1, by omega⟩
  rw [E_gExp_11]; unfold F_gExp_11
  refine o_dE rfl ?_
  refine o_I (M_hasSign0 h (by omega)) ?_
  rintro y T1 ⟨rfl, t1⟩
  exact o_t rfl (u_r t1)
theorem em0 {k m : Nat} {o a : Int32} (hR : MR S) (h : mEr S tp N (p + 1) j T k m) (hN : N ≤ 1000) (hg : 1 ≤ f) : zU (F_X13_emit f 0 [.ref 186, .int o, .int a] T) (fun V => mEr S tp N p j V k m) := by
  obtain ⟨h1, h2, ⟨i, h3, h4, h5⟩, h6⟩ := h
  have hm := h1.2.2
  refine u_m (M_emit (hR.fr h6) h3 (by omega) hg) (fun V ⟨v1, v2, v3, v4⟩ => ?_)
  exact ⟨h1, by rw [v4.2 _ _ (by omega)]; exact h2, ⟨i + 1, v1, by omega, by omega⟩, h6.tr (v4.mono (fun q k d => by unfold dEj; omega))⟩
theorem Fr.j7 (h : Fr d7 S T) : Fr (dEj j) S T := h.mono (fun q k d => by unfold d7 at d; unfold dEj; omega)
theorem Fr.j8 (h : Fr d8 S T) : Fr (dEj j) S T := h.mono (fun q k d => by unfold d8 at d; unfold dEj; omega)
theorem Fr.je {b : Nat} (h : Fr (fun x k => (x = 186 ∧ k = 13) ∨ ((x = 193 ∨ x = 194) ∧ k = 1100 + (j + b))) S T) : Fr (dEj j) S T := h.mono (fun q k d => by unfold dEj; omega)
theorem MTk.em {b : Nat} (h : MTk S tp N n) (hf : Fr (fun x k => (x = 186 ∧ k = 13) ∨ ((x = 193 ∨ x = 194) ∧ k = 1100 + (j + b))) S T) : MTk T tp N n := h.fr hf ⟨⟨by omega, by omega⟩, fun k => ⟨by omega, by omega, by omega⟩⟩
theorem MLc.c7 (h : MLc S j cs) (hf : Fr d7 S T) : MLc T j cs := h.fr hf (by unfold d7; refine ⟨?_, fun k => ⟨?_, ?_⟩⟩ <;> omega)
def mlab (lab : Nat) : Nat := if lab = 12 then 11 else lab
theorem T_gExp (ho : tp.length ≤ 1000) : ∀ (φ lab n w e f : Nat) (S : aS) (j p : Nat) (cs : List Int32), okLb lab → 8 * (1001 - n) + lrk lab + 1 ≤ φ → 100 + 4 * φ ≤ f → lew lab w ≤ e → w ≤ 5 → j + cs.length + p ≤ n → MTk S tp N n → MLc S j cs → zU (F_gExp f e (mlab lab) [.ref 186, .int (nI w)] S) (MQr S tp N p j cs (pL tp φ lab n w)) := by
  intro φ
  induction φ with
  | zero => intro lab n w e f S j p cs _ h; omega
  | succ φ ih =>
    intro lab n w e f S j p cs hlb hφ hf he hw hcs hT hL
    have hN := hT.2.1.1
    have hN1 := hN.1
    have hn := hT.2.2.1.2
    have hR := hT.1
    have o : ∀ a, a ≤ 4 → okLb a := fun a h => Or.inl (by omega)
    obtain ⟨g, rfl, hg⟩ := g1 (n := 103 + 4 * φ) (f := f) (by omega)
    clear hf
    rcases (show lab = 0 ∨ lab = 1 ∨ lab = 2 ∨ lab = 3 ∨ lab = 4 ∨ lab = 5 ∨ lab = 9 ∨ lab = 12 by unfold okLb at hlb; omega) with rfl | rfl | rfl | rfl | rfl | rfl | rfl | rfl
    · show zU (F_gExp (g + 1) e 0 [.ref 186, .int (nI w)] S) _
      rw [E_gExp_0, pL_0]; unfold F_gExp_0
      simp [lrk, lew] at hφ he
      obtain ⟨e1, rfl⟩ : ∃ e1, e = e1 + 1 := ⟨e - 1, by omega⟩
      refine o_dE rfl ?_
      refine MQr.b (ih 1 n w e1 g S j p cs (o _ (by omega)) (by simp [lrk]; omega) (by omega) (by simp [lew]; omega) hw hcs hT hL) (Fr.refl S) (fun k m U hu => ?_) (fun c m T hr t1 t2 t3 => ?_)
      · exact u_m (ft5 (hu.ft ho) (by omega)) (fun V hv => hu.keep hv)
      have hm := pE_ok (pL_len hN φ 1 n w (o _ (by omega)) hn) hr
      have := hm.2.2 (by omega)
      exact MQr.a (ih 5 m w (e1 + 1) g T j p (cs ++ c) (Or.inl (by omega)) (by simp [lrk]; omega) (by omega) (by simp [lew]; omega) hw (by rw [List.length_append]; omega) t1 t2) t3 (fun y m => rfl)
    · show zU (F_gExp (g + 1) e 1 [.ref 186, .int (nI w)] S) _
      rw [E_gExp_1, pL_1]; unfold F_gExp_1
      simp [lrk, lew] at hφ he
      obtain ⟨e1, rfl⟩ : ∃ e1, e = e1 + 1 := ⟨e - 1, by omega⟩
      refine o_dE rfl ?_
      have out : ∀ (T : aS), zU (F_gExp g (e1 + 1) 8 [] T) (fun U => U = T) := by
        intro T
        obtain ⟨g, rfl, hg2⟩ := g1 (n := 102 + 4 * φ) (f := g) (by omega)
        rw [E_gExp_8]; unfold F_gExp_8
        exact u_r rfl
      refine MQr.b (ih 2 n w e1 g S j p cs (o _ (by omega)) (by simp [lrk]; omega) (by omega) (by simp [lew]; omega) hw hcs hT hL) (Fr.refl S) (fun k m U hu => ?_) (fun c m T hr t1 t2 t3 => ?_)
      · have ft := hu.ft ho
        refine o_I (M_isSign0 ft (by omega)) ?_
        rintro y T1 ⟨rfl, v1⟩
        rw [v1]
        refine o_I (M_hasSign0 ft (by omega)) ?_
        rintro y T2 ⟨rfl, v2⟩
        refine o_t rfl ?_
        refine o_I (M_hasSign0 (ft.fr v2 (fun h => h)) (by omega)) ?_
        rintro y T3 ⟨rfl, v3⟩
        refine o_t rfl ?_
        refine u_m (out T3) (fun V hv => ?_)
        rw [hv]
        exact hu.keep (v2.tr v3)
      have hm := pE_ok (pL_len hN φ 2 n w (o _ (by omega)) hn) hr
      have hc1 := hm.2.2 (by omega)
      have two : ∀ (T1 : aS) (y : Int32), qS tp m 60 = true ∨ qS tp m 61 = true → y = (if qS tp m 60 = true then 1 else 0) → MTk T1 tp N (m + 1) → MLc T1 j (cs ++ c) → Fr (dEj j) S T1 → zU (F_gExp g (e1 + 1) 7 [.ref 186, .int (nI w), .int y] T1) (MQr S tp N p j cs (pb (pL tp φ 2 (m + 1) w) fun y => .ok (c ++ (y.1 ++ [if qS tp m 60 = true then -8 else -9]), y.2))) := by
        intro T1 y hq hy v1 v2 v3
        have hm1 := v1.2.2.1.2
        obtain ⟨g, rfl, hg2⟩ := g1 (n := 102 + 4 * φ) (f := g) (by omega)
        rw [E_gExp_7]; unfold F_gExp_7
        refine o_dE rfl ?_
        have out : ∀ (T : aS), zU (F_gExp g (e1 + 1) 8 [] T) (fun U => U = T) := by
          intro T
          obtain ⟨g, rfl, hg2⟩ := g1 (n := 101 + 4 * φ) (f := g) (by omega)
          rw [E_gExp_8]; unfold F_gExp_8
          exact u_r rfl
        refine MQr.b (p' := p + 1) (ih 2 (m + 1) w e1 g T1 j (p + 1) (cs ++ c) (o _ (by omega)) (by simp [lrk]; omega) (by omega) (by simp [lew]; omega) hw (by rw [List.length_append]; omega) v1 v2) v3 (fun k m U hu => ?_) (fun y2 m2 U hr2 u1 u2 u3 => ?_)
        · refine o_V (em0 hR hu hN1 (by omega)) (fun V hv => ?_)
          exact u_m (out V) (fun W hw => by rw [hw]; exact hv)
        have hm2 := pE_ok (pL_len hN φ 2 (m + 1) w (o _ (by omega)) hm1) hr2
        have hs : crl (if y = (0 : Int32) then (8 : Int32) else (7 : Int32)) 0 (if qS tp m 60 = true then -8 else -9) := by
          by_cases c60 : qS tp m 60 = true
          · rw [hy, if_pos c60, if_pos c60, if_neg (by decide)]; unfold crl; simp
          · rw [hy, if_neg c60, if_neg c60, if_pos rfl]; unfold crl; simp
        refine o_V (M_emitc u1.1 u2 (by rw [List.length_append, List.length_append]; omega) hs (by omega)) ?_
        rintro U2 ⟨w1, w2⟩
        refine u_m (out U2) (fun V hv => ?_)
        rw [hv]
        rw [List.append_assoc, List.append_assoc] at w1
        exact ⟨u1.em w2, w1, u3.tr w2.je⟩
      show zU _ (MQr S tp N p j cs (if qS tp m 60 = true ∨ qS tp m 61 = true then pb (pL tp φ 2 (m + 1) w) fun y => .ok (c ++ (y.1 ++ [if qS tp m 60 = true then -8 else -9]), y.2) else .ok (c, m)))
      refine o_I (M_isSign (c := 60) t1 (by omega) (by omega)) ?_
      rintro y T1 ⟨hy, v1⟩
      rw [v1]
      refine o_I (M_hasSign (c := 60) t1 (by omega) (by omega)) ?_
      rintro y2 T2 ⟨rfl, v2, v3⟩
      by_cases h60 : qS tp m 60 = true
      · rw [if_pos (Or.inl h60)]
        rw [if_pos h60] at v2 ⊢
        refine o_f (by decide) ?_
        exact two T2 y (Or.inl h60) hy v2 (t2.c7 v3) (t3.tr v3.j7)
      rw [if_neg h60] at v2 ⊢
      refine o_t rfl ?_
      refine o_I (M_hasSign (c := 61) v2 (by omega) (by omega)) ?_
      rintro y2 T3 ⟨rfl, v4, v5⟩
      have f5 := v3.tr v5
      by_cases h61 : qS tp m 61 = true
      · rw [if_pos (Or.inr h61)]
        rw [if_pos h61] at v4 ⊢
        refine o_f (by decide) ?_
        exact two T3 y (Or.inr h61) hy v4 (t2.c7 f5) (t3.tr f5.j7)
      rw [if_neg h61] at v4 ⊢
      refine o_t rfl ?_
      rw [if_neg (fun h => h.elim h60 h61)]
      exact u_m (out T3) (fun V hv => by rw [hv]; exact ⟨v4, t2.c7 f5, t3.tr f5.j7⟩)
    · show zU (F_gExp (g + 1) e 2 [.ref 186, .int (nI w)] S) _
      rw [E_gExp_2, pL_2]; unfold F_gExp_2
      simp [lrk, lew] at hφ he
      obtain ⟨e1, rfl⟩ : ∃ e1, e = e1 + 1 := ⟨e - 1, by omega⟩
      refine o_dE rfl ?_
      refine MQr.b (ih 3 n w e1 g S j p cs (o _ (by omega)) (by simp [lrk]; omega) (by omega) (by simp [lew]; omega) hw hcs hT hL) (Fr.refl S) (fun k m U hu => ?_) (fun c m T hr t1 t2 t3 => ?_)
      · exact u_m (ft9 (hu.ft ho) (by omega)) (fun V hv => hu.keep hv)
      have hm := pE_ok (pL_len hN φ 3 n w (o _ (by omega)) hn) hr
      have := hm.2.2 (by omega)
      exact MQr.a (ih 9 m w (e1 + 1) g T j p (cs ++ c) (Or.inr (Or.inl rfl)) (by simp [lrk]; omega) (by omega) (by simp [lew]; omega) hw (by rw [List.length_append]; omega) t1 t2) t3 (fun y m => rfl)
    · show zU (F_gExp (g + 1) e 3 [.ref 186, .int (nI w)] S) _
      rw [E_gExp_3, pL_3]; unfold F_gExp_3
      simp [lrk, lew] at hφ he
      obtain ⟨e1, rfl⟩ : ∃ e1, e = e1 + 1 := ⟨e - 1, by omega⟩
      refine o_dE rfl ?_
      refine MQr.b (ih 4 n w e1 g S j p cs (o _ (by omega)) (by simp [lrk]; omega) (by omega) (by simp [lew]; omega) hw hcs hT hL) (Fr.refl S) (fun k m U hu => ?_) (fun c m T hr t1 t2 t3 => ?_)
      · exact u_m (ft11 (hu.ft ho) (by omega) (by omega)) (fun V hv => hu.keep hv)
      have hm := pE_ok (pL_len hN φ 4 n w (o _ (by omega)) hn) hr
      have := hm.2.2 (by omega)
      exact MQr.a (ih 12 m w (e1 + 1) g T j p (cs ++ c) (Or.inr (Or.inr rfl)) (by simp [lrk]; omega) (by omega) (by simp [lew]; omega) hw (by rw [List.length_append]; omega) t1 t2) t3 (fun y m => rfl)
    · show zU (F_gExp (g + 1) e 4 [.ref 186, .int (nI w)] S) _
      rw [E_gExp_4, pL_4]; unfold F_gExp_4
      simp [lrk, lew] at hφ he
      obtain ⟨e1, rfl⟩ : ∃ e1, e = e1 + 1 := ⟨e - 1, by omega⟩
      obtain ⟨k1, k2, k3, k4⟩ := hT.tk
      refine o_t (by rw [hT.2.2.2.1]; decide) ?_
      rw [hT.2.2.1.1]
      refine o_X rfl hT.lt ?_
      rw [hT.1.sort, k1]
      have hs5 : (tk tp n).1 < 5 := by
        show (tK tp (tP tp n)).1 < 5
        unfold tK
        repeat' split
        all_goals simp
      have ey : (if nI (tk tp n).1 = (2 : Int32) then (1 : Int32) else (0 : Int32)) = (if qN tp n = true then 1 else 0) := by
        refine if_iff ?_
        unfold qN
        rw [show (2 : Int32) = nI 2 from rfl, nI_eq (by omega) (by omega), beq_iff_eq]
      rw [ey]
      refine o_lI ?_
      have err : ∀ (T : aS) (k : Nat), 1 ≤ k → k ≤ 5 → gI T 186 8 = nI (k + 16 * tP tp n) → Fr d8 S T → mEr S tp N p j T k n := by
        intro T k h1 h2 h3 h4
        exact ⟨⟨h1, h2, hn⟩, h3, ⟨j + cs.length, by rw [h4.2 _ _ (by unfold d8; omega)]; exact hL.1, by omega, by omega⟩, h4.j8⟩
      have f13 : ∀ (g k : Nat) (T : aS) (y z : Int32), 1 ≤ g → mEr S tp N p j T k n → zU (F_gExp g (e1 + 1) 13 [.ref 186, .int (nI w), .int y, .int z] T) (fun V => mEr S tp N p j V k n) := by
        intro g k T y z hg hm
        obtain ⟨g, rfl, hg2⟩ := g1 (n := 0) (f := g) (by omega)
        rw [E_gExp_13]; unfold F_gExp_13
        refine o_dE rfl ?_
        exact o_f (hm.ft ho).p (u_r hm)
      have p12 : ∀ (g : Nat) (z : Int32), 102 + 4 * φ ≤ g → (if qF tp n = true then ∃ i, i < 4 ∧ z = nI i ∧ zval (wdO (tk tp n).2.1) = (-1 : Int32) - nI i else z = -1) → (qN tp n = true ∨ qF tp n = true ∨ qW tp n 24 = true ∨ qS tp n 40 = true) → zU (F_gExp g (e1 + 1) 12 [.ref 186, .int (nI w), .int (if qN tp n = true then 1 else 0), .int z] S) (MQr S tp N p j cs (if 5 ≤ w then .error (5, n) else if qN tp n = true then .ok ([nI (tk tp n).2.2], n + 1) else if qF tp n = true then .ok ([zval (wdO (tk tp n).2.1)], n + 1) else if qS tp n 40 = true then pb (pL tp φ 0 (n + 1) (w + 1)) fun x => if qS tp x.2 41 = true then .ok (x.1, x.2 + 1) else .error (1, x.2) else pb (pL tp φ 4 (n + 1) (w + 1)) fun x => .ok (x.1 ++ [-5], x.2))) := by
        intro g z hg hz hq
        have hn1 : n + 1 ≤ N := by
          rcases hq with h | h | h | h
          · exact qN.s hN hn h
          · exact qF.s hN hn h
          · exact qW.s hN hn h
          · exact qS.s hN hn h
        obtain ⟨g, rfl, hg2⟩ := g1 (n := 101 + 4 * φ) (f := g) (by omega)
        rw [E_gExp_12]; unfold F_gExp_12
        by_cases hw5 : 5 ≤ w
        · rw [if_pos hw5, show w = 5 by omega]
          refine o_t rfl ?_
          refine o_V (M_wrong (k := 5) hT (by omega)) ?_
          rintro T ⟨t1, t2⟩
          have := f13 g 5 T (if qN tp n = true then 1 else 0) z (by omega) (err T 5 (by omega) (by omega) t1 t2)
          rw [show w = 5 by omega] at this
          exact this
        rw [if_neg hw5]
        refine o_f (nI_ne (b := 5) (by omega) (by omega) (by omega)) ?_
        obtain ⟨g, rfl, hg3⟩ := g1 (n := 100 + 4 * φ) (f := g) (by omega)
        rw [E_gExp_13]; unfold F_gExp_13
        refine o_dE rfl ?_
        refine o_t (by rw [hT.2.2.2.1]; decide) ?_
        have out : ∀ (g : Nat) (T : aS), 1 ≤ g → zU (F_gExp g (e1 + 1) 15 [] T) (fun U => U = T) := by
          intro g T hg
          obtain ⟨g, rfl, hg2⟩ := g1 (n := 0) (f := g) (by omega)
          rw [E_gExp_15]; unfold F_gExp_15
          exact u_r rfl
        have leaf : ∀ (T : aS) (o a s : Int32), Fr d7 S T → MTk T tp N n → crl o a s → zU (F_gExp g (e1 + 1) 14 [.ref 186, .int a, .int o, .ref 186] T) (MQr S tp N p j cs (.ok ([s], n + 1))) := by
          intro T o a s hf t1 hs
          obtain ⟨g, rfl, hg2⟩ := g1 (n := 99 + 4 * φ) (f := g) (by omega)
          rw [E_gExp_14]; unfold F_gExp_14
          refine o_V (M_emitc t1.1 (hL.c7 hf) (by omega) hs (by omega)) ?_
          rintro U1 ⟨u1, u2⟩
          have m1 := t1.em u2
          rw [m1.2.2.1.1, nI_1]
          refine o_s (fun U2 s2 => ?_)
          have f2 : Fr d7 U1 U2 := (Fr.refl U1).sI s2 (by unfold d7; omega)
          refine u_m (out g U2 (by omega)) (fun V hv => ?_)
          rw [hv]
          exact ⟨m1.at f2 (by rw [s2, gI_sI, if_pos ⟨rfl, rfl⟩]) hn1, u1.c7 f2, (hf.j7.tr u2.je).tr f2.j7⟩
        have x24 : qN tp n = true ∨ qF tp n = true → ¬ qW tp n 24 = true ∧ ¬ qS tp n 40 = true := by
          intro h
          rcases h with h | h
          · unfold qN at h
            unfold qW qS
            simp only [beq_iff_eq] at h
            simp [h]
          · obtain ⟨h1, h2⟩ := qF_l h
            unfold qW qS
            simp only [h1]
            refine ⟨?_, by simp⟩
            rcases h2 with h2 | h2 | h2 | h2 <;> rw [h2] <;> decide
        refine o_I (M_hasWord (i := 22) hT (by omega) (by omega)) ?_
        rintro x1 T1 ⟨rfl, v1, v2⟩
        rw [show cm 22 = 24 from rfl] at v1 ⊢
        by_cases h24 : qW tp n 24 = true
        · have nq : ¬ qN tp n = true := fun h => (x24 (Or.inl h)).1 h24
          have nf : ¬ qF tp n = true := fun h => (x24 (Or.inr h)).1 h24
          have n40 : ¬ qS tp n 40 = true := fun h => by
            unfold qS at h; unfold qW at h24
            simp only [Bool.and_eq_true, beq_iff_eq] at h h24
            omega
          rw [if_pos h24] at v1 ⊢
          refine o_f (by decide) ?_
          rw [if_neg nq, if_neg nf, if_neg n40]
          rw [show (1 : Int32) = nI 1 from rfl, nI_add]
          refine MQr.b (p' := p + 1) (ih 4 (n + 1) (w + 1) e1 g T1 j (p + 1) cs (o _ (by omega)) (by simp [lrk]; omega) (by omega) (by simp [lew]; omega) (by omega) (by omega) v1 (hL.c7 v2)) v2.j7 (fun k m U hu => ?_) (fun c m U hr u1 u2 u3 => ?_)
          · refine o_V (em0 hR hu hN1 (by omega)) (fun V hv => ?_)
            exact u_m (out g V (by omega)) (fun W hw => by rw [hw]; exact hv)
          have hm := pE_ok (pL_len hN φ 4 (n + 1) (w + 1) (o _ (by omega)) hn1) hr
          refine o_V (M_emitc (s := -5) u1.1 u2 (by rw [List.length_append]; omega) (by unfold crl; simp) (by omega)) ?_
          rintro U2 ⟨w1, w2⟩
          refine u_m (out g U2 (by omega)) (fun V hv => ?_)
          rw [hv]
          rw [List.append_assoc] at w1
          exact ⟨u1.em w2, w1, u3.tr w2.je⟩
        rw [if_neg h24] at v1 ⊢
        refine o_t rfl ?_
        refine o_I (M_hasSign (c := 40) v1 (by omega) (by omega)) ?_
        rintro x2 T2 ⟨rfl, v3, v4⟩
        have f4 := v2.tr v4
        by_cases h40 : qS tp n 40 = true
        · have nq : ¬ qN tp n = true := fun h => (x24 (Or.inl h)).2 h40
          have nf : ¬ qF tp n = true := fun h => (x24 (Or.inr h)).2 h40
          rw [if_pos h40] at v3
          rw [show (if qS tp n 40 = true then (1 : Int32) else 0) = 1 from if_pos h40]
          refine o_f (by decide) ?_
          rw [if_neg nq, if_neg nf, if_pos h40]
          rw [show (1 : Int32) = nI 1 from rfl, nI_add]
          refine MQr.b (p' := p) (ih 0 (n + 1) (w + 1) e1 g T2 j p cs (o _ (by omega)) (by simp [lrk]; omega) (by omega) (by simp [lew]; omega) (by omega) (by omega) v3 (hL.c7 f4)) f4.j7 (fun k m U hu => ?_) (fun c m U hr u1 u2 u3 => ?_)
          · refine o_V (M_takeSign0 (hu.ft ho) (by omega)) (fun V hv => ?_)
            rw [hv]
            exact u_m (out g U (by omega)) (fun W hw => by rw [hw]; exact hu)
          have hm := pE_ok (pL_len hN φ 0 (n + 1) (w + 1) (o _ (by omega)) hn1) hr
          refine o_V (M_takeSign (c := 41) u1 (by omega) (by omega)) (fun V hv => ?_)
          refine u_m (out g V (by omega)) (fun W hw => ?_)
          rw [hw]
          show MQr S tp N p j cs (if qS tp m 41 = true then .ok (c, m + 1) else .error (1, m)) V
          by_cases h41 : qS tp m 41 = true
          · rw [if_pos h41] at hv ⊢
            exact ⟨hv.1, u2.c7 hv.2, u3.tr hv.2.j7⟩
          · rw [if_neg h41] at hv ⊢
            refine ⟨⟨by omega, by omega, hm.2.1⟩, hv.1, ⟨j + (cs ++ c).length, by rw [hv.2.2 _ _ (by unfold d8; omega)]; exact u2.1, by omega, ?_⟩, u3.tr hv.2.j8⟩
            rw [List.length_append]
            have : n + 1 + c.length ≤ m := hm.1
            omega
        rw [if_neg h40] at v3 ⊢
        refine o_t rfl ?_
        have hq2 : qN tp n = true ∨ qF tp n = true := by
          rcases hq with h | h | h | h
          · exact Or.inl h
          · exact Or.inr h
          · exact absurd h h24
          · exact absurd h h40
        by_cases hqn : qN tp n = true
        · rw [if_pos hqn, if_pos hqn]
          refine o_f (by decide) ?_
          rw [v3.2.2.1.1]
          refine o_X rfl v3.lt ?_
          have h2 : (tk tp n).1 = 2 := by unfold qN at hqn; simpa using hqn
          rw [v3.1.value, v3.tk.2.2.2 (Or.inl h2), lN_i, if_neg (by decide)]
          exact leaf T2 1 _ _ f4 v3 (Or.inl ⟨rfl, rfl, nI_pos' (by have := tk_n h2; omega)⟩)
        · have hqf := hq2.resolve_left hqn
          rw [if_neg hqn, if_neg hqn, if_pos hqf]
          rw [if_pos hqf] at hz
          obtain ⟨i, i1, i2, i3⟩ := hz
          refine o_t rfl ?_
          rw [if_pos rfl]
          exact leaf T2 2 _ _ f4 v3 (Or.inr (Or.inl ⟨rfl, i, i1, i2, i3⟩))
      refine o_I (M_wordHere4 hT (by omega)) ?_
      rintro z T0 ⟨t0, hz⟩
      rw [t0]
      have hz' := hz
      by_cases hqf : qF tp n = true
      · rw [if_pos hqf] at hz
        obtain ⟨i, i1, i2, i3⟩ := hz
        refine o_t (by rw [i2]; exact nI_pos' (by omega)) ?_
        rw [if_pos (Or.inr (Or.inl hqf))]
        exact p12 g z (by omega) hz' (Or.inr (Or.inl hqf))
      rw [if_neg hqf] at hz
      refine o_f (by rw [hz]; decide) ?_
      by_cases hqn : qN tp n = true
      · refine o_f (by rw [if_pos hqn]; decide) ?_
        rw [if_pos (Or.inl hqn)]
        exact p12 g z (by omega) hz' (Or.inl hqn)
      refine o_t (by rw [if_neg hqn]) ?_
      refine o_I (M_isSign (c := 40) hT (by omega) (by omega)) ?_
      rintro x1 T1 ⟨hx1, t1⟩
      rw [t1]
      by_cases h40 : qS tp n 40 = true
      · refine o_f (by rw [hx1, if_pos h40]; decide) ?_
        rw [if_pos (Or.inr (Or.inr (Or.inr h40)))]
        exact p12 g z (by omega) hz' (Or.inr (Or.inr (Or.inr h40)))
      refine o_t (by rw [hx1, if_neg h40]) ?_
      refine o_I (M_isWord (i := 22) hT (by omega) (by omega)) ?_
      rintro x2 T2 ⟨hx2, t2⟩
      rw [t2]
      rw [show cm 22 = 24 from rfl] at hx2
      by_cases h24 : qW tp n 24 = true
      · refine o_f (by rw [hx2, if_pos h24]; decide) ?_
        rw [if_pos (Or.inr (Or.inr (Or.inl h24)))]
        exact p12 g z (by omega) hz' (Or.inr (Or.inr (Or.inl h24)))
      refine o_t (by rw [hx2, if_neg h24]) ?_
      rw [if_neg (show ¬ (qN tp n = true ∨ qF tp n = true ∨ qW tp n 24 = true ∨ qS tp n 40 = true) from fun h => h.elim hqn (fun h => h.elim hqf (fun h => h.elim h24 h40)))]
      refine o_V (M_wrong (k := 1) hT (by omega)) ?_
      rintro T3 ⟨t3, t4⟩
      exact f13 g 1 T3 _ _ (by omega) (err T3 1 (by omega) (by omega) t3 t4)
    · show zU (F_gExp (g + 1) e 5 [.ref 186, .int (nI w)] S) _
      rw [E_gExp_5, pL_5]; unfold F_gExp_5
      simp [lrk, lew] at hφ he
      obtain ⟨e1, rfl⟩ : ∃ e1, e = e1 + 1 := ⟨e - 1, by omega⟩
      have two : qW tp n 25 = true ∨ qW tp n 26 = true → zU (F_gExp g (e1 + 1) 6 [.ref 186, .int (nI w)] S) (MQr S tp N p j cs (pb (pL tp φ 1 (n + 1) w) fun x => pb (pL tp φ 5 x.2 w) fun y => .ok (x.1 ++ ((if qW tp n 25 = true then -6 else -7) :: y.1), y.2))) := by
        intro hq
        have hn1 : n + 1 ≤ N := by rcases hq with h | h <;> exact qW.s hN hn h
        obtain ⟨g, rfl, hg2⟩ := g1 (n := 102 + 4 * φ) (f := g) (by omega)
        rw [E_gExp_6]; unfold F_gExp_6
        refine o_dE rfl ?_
        refine o_I (M_isWord (i := 23) hT (by omega) (by omega)) ?_
        rintro y T0 ⟨rfl, t0⟩
        rw [t0]
        rw [show cm 23 = 25 from rfl]
        rw [hT.2.2.1.1, nI_1]
        refine o_s (fun T1 s1 => ?_)
        have f1 : Fr d7 S T1 := (Fr.refl S).sI s1 (by unfold d7; omega)
        have v1 : MTk T1 tp N (n + 1) := hT.at f1 (by rw [s1, gI_sI, if_pos ⟨rfl, rfl⟩]) hn1
        refine MQr.b (p' := p + 1) (ih 1 (n + 1) w e1 g T1 j (p + 1) cs (o _ (by omega)) (by simp [lrk]; omega) (by omega) (by simp [lew]; omega) hw (by omega) v1 (hL.c7 f1)) f1.j7 (fun k m U hu => ?_) (fun c m U hr u1 u2 u3 => ?_)
        · refine o_V (em0 hR hu hN1 (by omega)) (fun V hv => ?_)
          exact u_m (ft5 (hv.ft ho) (by omega)) (fun W hw => hv.keep hw)
        have hm := pE_ok (pL_len hN φ 1 (n + 1) w (o _ (by omega)) hn1) hr
        have hs : crl (if (if qW tp n 25 = true then (1 : Int32) else 0) = (0 : Int32) then (10 : Int32) else (9 : Int32)) 0 (if qW tp n 25 = true then -6 else -7) := by
          by_cases cc : qW tp n 25 = true
          · rw [if_pos cc, if_pos cc, if_neg (by decide)]; unfold crl; simp
          · rw [if_neg cc, if_neg cc, if_pos rfl]; unfold crl; simp
        refine o_V (M_emitc u1.1 u2 (by rw [List.length_append]; omega) hs (by omega)) ?_
        rintro U2 ⟨w1, w2⟩
        rw [List.append_assoc] at w1
        exact MQr.a (ih 5 m w (e1 + 1) g U2 j p _ (Or.inl (by omega)) (by simp [lrk]; omega) (by omega) (by simp [lew]; omega) hw (by rw [List.length_append, List.length_append, List.length_singleton]; omega) (u1.em w2) w1) (u3.tr w2.je) (fun y m => by simp)
      refine o_I (M_isWord (i := 23) hT (by omega) (by omega)) ?_
      rintro y T0 ⟨rfl, t0⟩
      rw [t0]
      rw [show cm 23 = 25 from rfl]
      by_cases ha : qW tp n 25 = true
      · rw [if_pos ha, if_pos (Or.inl ha)]
        refine o_f (by decide) ?_
        exact two (Or.inl ha)
      rw [if_neg ha]
      refine o_t rfl ?_
      refine o_I (M_isWord (i := 24) hT (by omega) (by omega)) ?_
      rintro y T1 ⟨rfl, t1⟩
      rw [t1]
      rw [show cm 24 = 26 from rfl]
      by_cases hb : qW tp n 26 = true
      · rw [if_pos hb, if_pos (Or.inr hb)]
        refine o_f (by decide) ?_
        exact two (Or.inr hb)
      rw [if_neg hb, if_neg (show ¬ (qW tp n 25 = true ∨ qW tp n 26 = true) from fun h => h.elim ha hb)]
      exact o_t rfl (u_r ⟨hT, by rw [List.append_nil]; exact hL, Fr.refl S⟩)
    · show zU (F_gExp (g + 1) e 9 [.ref 186, .int (nI w)] S) _
      rw [E_gExp_9, pL_9]; unfold F_gExp_9
      simp [lrk, lew] at hφ he
      obtain ⟨e1, rfl⟩ : ∃ e1, e = e1 + 1 := ⟨e - 1, by omega⟩
      have two : qS tp n 43 = true ∨ qS tp n 45 = true → zU (F_gExp g (e1 + 1) 10 [.ref 186, .int (nI w)] S) (MQr S tp N p j cs (pb (pL tp φ 3 (n + 1) w) fun x => pb (pL tp φ 9 x.2 w) fun y => .ok (x.1 ++ ((if qS tp n 43 = true then -10 else -11) :: y.1), y.2))) := by
        intro hq
        have hn1 : n + 1 ≤ N := by rcases hq with h | h <;> exact qS.s hN hn h
        obtain ⟨g, rfl, hg2⟩ := g1 (n := 102 + 4 * φ) (f := g) (by omega)
        rw [E_gExp_10]; unfold F_gExp_10
        refine o_dE rfl ?_
        refine o_I (M_isSign (c := 43) hT (by omega) (by omega)) ?_
        rintro y T0 ⟨rfl, t0⟩
        rw [t0]
        rw [hT.2.2.1.1, nI_1]
        refine o_s (fun T1 s1 => ?_)
        have f1 : Fr d7 S T1 := (Fr.refl S).sI s1 (by unfold d7; omega)
        have v1 : MTk T1 tp N (n + 1) := hT.at f1 (by rw [s1, gI_sI, if_pos ⟨rfl, rfl⟩]) hn1
        refine MQr.b (p' := p + 1) (ih 3 (n + 1) w e1 g T1 j (p + 1) cs (o _ (by omega)) (by simp [lrk]; omega) (by omega) (by simp [lew]; omega) hw (by omega) v1 (hL.c7 f1)) f1.j7 (fun k m U hu => ?_) (fun c m U hr u1 u2 u3 => ?_)
        · refine o_V (em0 hR hu hN1 (by omega)) (fun V hv => ?_)
          exact u_m (ft9 (hv.ft ho) (by omega)) (fun W hw => hv.keep hw)
        have hm := pE_ok (pL_len hN φ 3 (n + 1) w (o _ (by omega)) hn1) hr
        have hs : crl (if (if qS tp n 43 = true then (1 : Int32) else 0) = (0 : Int32) then (5 : Int32) else (4 : Int32)) 0 (if qS tp n 43 = true then -10 else -11) := by
          by_cases cc : qS tp n 43 = true
          · rw [if_pos cc, if_pos cc, if_neg (by decide)]; unfold crl; simp
          · rw [if_neg cc, if_neg cc, if_pos rfl]; unfold crl; simp
        refine o_V (M_emitc u1.1 u2 (by rw [List.length_append]; omega) hs (by omega)) ?_
        rintro U2 ⟨w1, w2⟩
        rw [List.append_assoc] at w1
        exact MQr.a (ih 9 m w (e1 + 1) g U2 j p _ (Or.inr (Or.inl rfl)) (by simp [lrk]; omega) (by omega) (by simp [lew]; omega) hw (by rw [List.length_append, List.length_append, List.length_singleton]; omega) (u1.em w2) w1) (u3.tr w2.je) (fun y m => by simp)
      refine o_I (M_isSign (c := 43) hT (by omega) (by omega)) ?_
      rintro y T0 ⟨rfl, t0⟩
      rw [t0]
      by_cases ha : qS tp n 43 = true
      · rw [if_pos ha, if_pos (Or.inl ha)]
        refine o_f (by decide) ?_
        exact two (Or.inl ha)
      rw [if_neg ha]
      refine o_t rfl ?_
      refine o_I (M_isSign (c := 45) hT (by omega) (by omega)) ?_
      rintro y T1 ⟨rfl, t1⟩
      rw [t1]
      by_cases hb : qS tp n 45 = true
      · rw [if_pos hb, if_pos (Or.inr hb)]
        refine o_f (by decide) ?_
        exact two (Or.inr hb)
      rw [if_neg hb, if_neg (show ¬ (qS tp n 43 = true ∨ qS tp n 45 = true) from fun h => h.elim ha hb)]
      exact o_t rfl (u_r ⟨hT, by rw [List.append_nil]; exact hL, Fr.refl S⟩)
    · show zU (F_gExp (g + 1) e 11 [.ref 186, .int (nI w)] S) _
      rw [E_gExp_11, pL_12]; unfold F_gExp_11
      simp [lrk, lew] at hφ he
      obtain ⟨e1, rfl⟩ : ∃ e1, e = e1 + 1 := ⟨e - 1, by omega⟩
      refine o_dE rfl ?_
      refine o_I (M_hasSign (c := 42) hT (by omega) (by omega)) ?_
      rintro y T1 ⟨rfl, v1, f1⟩
      by_cases ha : qS tp n 42 = true
      · rw [if_pos ha] at v1 ⊢
        rw [if_pos ha]
        refine o_f (by decide) ?_
        have hn1 := v1.2.2.1.2
        refine MQr.b (p' := p + 1) (ih 4 (n + 1) w e1 g T1 j (p + 1) cs (o _ (by omega)) (by simp [lrk]; omega) (by omega) (by simp [lew]; omega) hw (by omega) v1 (hL.c7 f1)) f1.j7 (fun k m U hu => ?_) (fun c m U hr u1 u2 u3 => ?_)
        · refine o_V (em0 hR hu hN1 (by omega)) (fun V hv => ?_)
          exact u_m (ft11 (hv.ft ho) (by omega) (by omega)) (fun W hw => hv.keep hw)
        have hm := pE_ok (pL_len hN φ 4 (n + 1) w (o _ (by omega)) hn1) hr
        refine o_V (M_emitc (s := -12) u1.1 u2 (by rw [List.length_append]; omega) (by unfold crl; simp) (by omega)) ?_
        rintro U2 ⟨w1, w2⟩
        rw [List.append_assoc] at w1
        exact MQr.a (ih 12 m w (e1 + 1) g U2 j p _ (Or.inr (Or.inr rfl)) (by simp [lrk]; omega) (by omega) (by simp [lew]; omega) hw (by rw [List.length_append, List.length_append, List.length_singleton]; omega) (u1.em w2) w1) (u3.tr w2.je) (fun y m => by simp)
      rw [if_neg ha] at v1 ⊢
      rw [if_neg ha]
      exact o_t rfl (u_r ⟨v1, by rw [List.append_nil]; exact hL.c7 f1, f1.j7⟩)
end ME

/-! the reference reads a path: bins and heaps -/
def mX (tp : List Nat) (S T : aS) (k m : Nat) : Prop := gI T 186 8 = nI (k + 16 * tP tp m) ∧ Fg dPm nR S T
def mY (tp : List Nat) (N : Nat) (S T : aS) (Q : aQ) (m : Nat) : Prop := MTk T tp N m ∧ (∃ c, c ≤ m ∧ MQs T Q c) ∧ Fg dPm nR S T
section MP3
variable {S T U : aS} {f n k x N a b c : Nat} {tp : List Nat} {D : Nat → Nat → Prop} {R : Nat → Prop} {Q Q2 : aQ}
theorem g78 (h : Fr d78 S T) : Fg dPm nR S T := h.g.mono (fun q k d => by unfold d78 at d; unfold dPm; omega) (fun _ d => d)
theorem g192 {j : Nat} {v : Int32} (e : T = sI S 192 j v) (hj : 70 ≤ j) : Fg dPm nR S T := (Fg.refl (D := dPm) (R := nR) S).sI e (by unfold dPm; omega)
theorem rl1 (hg : 1 ≤ f) : zU (F_X13_readLine f 1 [] S) (fun T => T = S) := by
  obtain ⟨g, ge, hG⟩ := g1 hg; subst ge; clear hg; have hg := hG; clear hG; rw [E_X13_readLine_1]; unfold F_X13_readLine_1
  exact u_r rfl
theorem MTk.s192 {j : Nat} {v : Int32} (h : MTk S tp N n) (e : T = sI S 192 j v) : MTk T tp N n := h.fr ((Fr.refl S).sI (D := fun x k => x = 192) e rfl) (by refine ⟨⟨by omega, by omega⟩, fun k => ⟨by omega, by omega, by omega⟩⟩)
theorem cell_le {v : Nat} (hv : v < 1000) : nI v ≤ (0 : Int32) ↔ ¬ 0 < v := by
  rw [show (0 : Int32) = nI 0 from rfl, nI_leI (by omega) (by omega)]
  omega
theorem M_bin (ho : tp.length ≤ 1000) (h : MTk S tp N n) (hq : MQs S Q c) (hc : c ≤ n) (hI : QI Q) (hg : 20 ≤ f) : zU (bI (F_X13_yardHere f 0 [.ref 186, .int 26] S) fun x20 S20 => bV (F_X13_takeWord f 0 [.ref 186, .int 5] S20) fun S21 => bI (F_X13_takeNumber f 0 [.ref 186, .int 1, .int 30] S21) fun x22 S22 => bX ((96 : Int32) + x20) 140 fun q26 => fS (sI S22 (gR S22 186 10) q26 (if (gI S22 186 8) ≤ (0 : Int32) then x22 else (0 : Int32))) fun S27 => F_X13_readLine f 1 [] S27) (fun T => eE (xBin tp Q n) (mX tp S T) (mY tp N S T)) := by
  have h12 := hI.1.1.1.2.2.2.1
  have h6 := hI.1.1.1.2.2.1
  have spec : xBin tp Q n = eb (eb (xNum tp n 0 7) fun y m => if decide (0 < pT Q.1 3 y) = true then .error (3, n) else .ok (y, m)) fun y m => eb (xWrd tp m 12) fun _ m => eb (xNum tp m 1 30) fun v m => .ok (tQ Q 3 y v, m) := by
    unfold xBin
    rcases xNum tp n 0 7 with e | ⟨y, m⟩
    · rfl
    · rw [eb_ok, eb_ok]
      by_cases c : 0 < pT Q.1 3 y
      · rw [if_pos c, if_pos (decide_eq_true c)]; rfl
      · rw [if_neg c, if_neg (by simpa using c)]; rfl
  -- the end of it
  have fin : ∀ (A : aS) (y : Nat) (v : Int32) (P : aS → Prop), MR A → y < 8 → (∀ B, B = sI A 192 (96 + y) (if (gI A 186 8) ≤ (0 : Int32) then v else (0 : Int32)) → P B) → zU (bX ((96 : Int32) + nI y) 140 fun q26 => fS (sI A (gR A 186 10) q26 (if (gI A 186 8) ≤ (0 : Int32) then v else (0 : Int32))) fun S27 => F_X13_readLine f 1 [] S27) P := by
    intro A y v P hA hy hP
    refine o_X (n := 96 + y) (nA2' rfl) (by omega) ?_
    rw [hA.paths]
    exact o_s (fun B b => u_m (rl1 (by omega)) (fun W w => by rw [w]; exact hP B b))
  have bad2 : ∀ (A : aS) (y z : Nat), MR A → y < 8 → MFt A z → zU (bI (F_X13_takeNumber f 0 [.ref 186, .int 1, .int 30] A) fun x22 S22 => bX ((96 : Int32) + nI y) 140 fun q26 => fS (sI S22 (gR S22 186 10) q26 (if (gI S22 186 8) ≤ (0 : Int32) then x22 else (0 : Int32))) fun S27 => F_X13_readLine f 1 [] S27) (fun T => gI T 186 8 = nI z ∧ Fg dPm nR A T) := by
    intro A y z hA hy hz
    refine o_I (M_takeNumber0 hz (by omega)) ?_
    rintro v B ⟨rfl, b⟩
    rw [b]
    exact fin A y 0 _ hA hy (fun B b => ⟨by rw [b, gI_sI, if_neg (by omega)]; exact hz.1, g192 b (by omega)⟩)
  rw [spec]
  refine o_I (M_yard (b := 26) (told := fun y => decide (0 < pT Q.1 3 y)) ho h (Or.inl rfl) (fun y hy => ?_) (by omega)) (fun x T1 hx => ?_)
  · rw [show 70 + 26 + y = 96 + y by omega, (hq.1.1.2.2 y hy).1, cell_le (by have := (hI.1.1.2.2.1 y hy).1; omega), decide_eq_true_eq]
  have hE : eE (eb (xNum tp n 0 7) fun y m => if decide (0 < pT Q.1 3 y) = true then .error (3, n) else .ok (y, m)) (fun k m => (1 ≤ k ∧ k ≤ 5) ∧ m ≤ N) (fun y m => m = n + 1 ∧ m ≤ N) := eE_b (xNum_i h.2.1.1 h.2.2.1.2) (fun _ _ h => h) (fun y m _ hh => eE_i (fun _ => ⟨⟨by simp, by simp⟩, h.2.2.1.2⟩) (fun _ => hh.1))
  rcases er : (eb (xNum tp n 0 7) fun y m => if decide (0 < pT Q.1 3 y) = true then .error (3, n) else .ok (y, m) : eR Nat) with ⟨e1, e2⟩ | ⟨y, m⟩
  · rw [er] at hx hE
    obtain ⟨⟨j, j1, rfl⟩, x2, x3⟩ := hx
    have hf := mf_n ho hE.1.1 hE.1.2 x2
    refine o_V (M_takeWord0 hf (by omega)) (fun T2 t2 => ?_)
    refine u_m (bad2 T2 j _ ((h.1.fr x3).fr t2) j1 (hf.fr t2 (fun d => d))) (fun V hv => ?_)
    exact ⟨hv.1, ((g78 x3).tr (g78 (d0_a t2))).tr hv.2⟩
  · rw [er] at hx hE
    obtain ⟨⟨rfl, hy⟩, x2, x3⟩ := hx
    rw [eb_ok]
    refine o_V (M_wrd (i := 5) x2 (by omega) (by omega)) (fun T2 t2 => ?_)
    have hE2 := xWrd_i (q := 12) x2.2.1.1 x2.2.2.1.2
    have t2 : eE (xWrd tp m 12) (fun k m => mE0 tp T1 T2 k m) (fun _ m => MTk T2 tp N m ∧ Fr d78 T1 T2) := t2
    rcases er2 : xWrd tp m 12 with ⟨e1, e2⟩ | ⟨u, m2⟩
    · rw [er2] at t2 hE2
      have hf := mf_n ho hE2.1.1 hE2.1.2 t2.1
      refine u_m (bad2 T2 y _ ((h.1.fr x3).fr t2.2) hy hf) (fun V hv => ?_)
      exact ⟨hv.1, ((g78 x3).tr (g78 t2.2)).tr hv.2⟩
    · rw [er2] at t2 hE2
      rw [eb_ok]
      refine o_I (M_num (a := 1) (b := 30) ho t2.1 (by omega) (by omega) (by omega)) (fun x T3 hx => ?_)
      have hE3 := xNum_i (a := 1) (b := 30) t2.1.2.1.1 t2.1.2.2.1.2
      have f3 := x3.tr t2.2
      rcases er3 : xNum tp m2 1 30 with ⟨e1, e2⟩ | ⟨v, m3⟩
      · rw [er3] at hx hE3
        obtain ⟨rfl, y1, y2⟩ := hx
        refine fin T3 y 0 _ (h.1.fr (f3.tr y2)) hy (fun B b => ⟨by rw [b, gI_sI, if_neg (by omega)]; exact y1, (g78 (f3.tr y2)).tr (g192 b (by omega))⟩)
      · rw [er3] at hx hE3
        obtain ⟨rfl, y1, y2⟩ := hx
        refine fin T3 y _ _ (h.1.fr (f3.tr y2)) hy (fun B b => ?_)
        rw [if_pos (by rw [y1.2.2.2.1]; decide)] at b
        refine ⟨y1.s192 b, ⟨c, ?_, (hq.f78 h12 (f3.tr y2)).bin h12 h6 hy b⟩, (g78 (f3.tr y2)).tr (g192 b (by omega))⟩
        have := hE.1; have := hE2.1; have := hE3.1.1; omega
theorem M_hea (ho : tp.length ≤ 1000) (h : MTk S tp N n) (hq : MQs S Q c) (hc : c ≤ n) (hI : QI Q) (hg : 20 ≤ f) : zU (bI (F_X13_yardHere f 0 [.ref 186, .int 34] S) fun x12 S12 => bI (F_X13_takeNumber f 0 [.ref 186, .int 0, .int 99] S12) fun x13 S13 => bX ((104 : Int32) + x12) 140 fun q17 => fS (sI S13 (gR S13 186 10) q17 (if (gI S13 186 8) ≤ (0 : Int32) then (x13 + (1 : Int32)) else (0 : Int32))) fun S18 => F_X13_readLine f 1 [] S18) (fun T => eE (xHea tp Q n) (mX tp S T) (mY tp N S T)) := by
  have h12 := hI.1.1.1.2.2.2.1
  have h6 := hI.1.1.1.2.2.1
  have spec : xHea tp Q n = eb (eb (xNum tp n 0 7) fun y m => if Q.2.2.2 y = true then .error (3, n) else .ok (y, m)) fun y m => eb (xNum tp m 0 99) fun v m => .ok (hQ Q y v, m) := by
    unfold xHea
    rcases xNum tp n 0 7 with e | ⟨y, m⟩
    · rfl
    · rw [eb_ok, eb_ok]
      by_cases c : Q.2.2.2 y = true
      · rw [if_pos c, if_pos c]; rfl
      · rw [if_neg c, if_neg c]; rfl
  have fin : ∀ (A : aS) (y : Nat) (v : Int32) (P : aS → Prop), MR A → y < 8 → (∀ B, B = sI A 192 (104 + y) (if (gI A 186 8) ≤ (0 : Int32) then v + (1 : Int32) else (0 : Int32)) → P B) → zU (bX ((104 : Int32) + nI y) 140 fun q26 => fS (sI A (gR A 186 10) q26 (if (gI A 186 8) ≤ (0 : Int32) then (v + (1 : Int32)) else (0 : Int32))) fun S27 => F_X13_readLine f 1 [] S27) P := by
    intro A y v P hA hy hP
    refine o_X (n := 104 + y) (nA2' rfl) (by omega) ?_
    rw [hA.paths]
    exact o_s (fun B b => u_m (rl1 (by omega)) (fun W w => by rw [w]; exact hP B b))
  rw [spec]
  refine o_I (M_yard (b := 34) (told := Q.2.2.2) ho h (Or.inr rfl) (fun y hy => ?_) (by omega)) (fun x T1 hx => ?_)
  · rw [show 70 + 34 + y = 104 + y by omega, (hq.1.1.2.2 y hy).2]
    by_cases c : Q.2.2.2 y = true
    · rw [if_pos c, cell_le (by have := (hI.1.1.2.2.1 y hy).2; omega)]
      exact ⟨fun hh => absurd (Nat.succ_pos _) hh, fun hh => absurd c hh⟩
    · rw [if_neg c]
      exact ⟨fun _ => c, fun _ => by decide⟩
  have hE : eE (eb (xNum tp n 0 7) fun y m => if Q.2.2.2 y = true then .error (3, n) else .ok (y, m)) (fun k m => (1 ≤ k ∧ k ≤ 5) ∧ m ≤ N) (fun y m => m = n + 1 ∧ m ≤ N) := eE_b (xNum_i h.2.1.1 h.2.2.1.2) (fun _ _ h => h) (fun y m _ hh => eE_i (fun _ => ⟨⟨by simp, by simp⟩, h.2.2.1.2⟩) (fun _ => hh.1))
  rcases er : (eb (xNum tp n 0 7) fun y m => if Q.2.2.2 y = true then .error (3, n) else .ok (y, m) : eR Nat) with ⟨e1, e2⟩ | ⟨y, m⟩
  · rw [er] at hx hE
    obtain ⟨⟨j, j1, rfl⟩, x2, x3⟩ := hx
    have hf := mf_n ho hE.1.1 hE.1.2 x2
    refine o_I (M_takeNumber0 hf (by omega)) ?_
    rintro v B ⟨rfl, b⟩
    rw [b]
    exact fin T1 j 0 _ (h.1.fr x3) j1 (fun B b => ⟨by rw [b, gI_sI, if_neg (by omega)]; exact hf.1, (g78 x3).tr (g192 b (by omega))⟩)
  · rw [er] at hx hE
    obtain ⟨⟨rfl, hy⟩, x2, x3⟩ := hx
    rw [eb_ok]
    refine o_I (M_num (a := 0) (b := 99) ho x2 (by omega) (by omega) (by omega)) (fun x T3 hx => ?_)
    have hE3 := xNum_i (a := 0) (b := 99) x2.2.1.1 x2.2.2.1.2
    rcases er3 : xNum tp m 0 99 with ⟨e1, e2⟩ | ⟨v, m3⟩
    · rw [er3] at hx hE3
      obtain ⟨rfl, y1, y2⟩ := hx
      refine fin T3 y 0 _ (h.1.fr (x3.tr y2)) hy (fun B b => ⟨by rw [b, gI_sI, if_neg (by omega)]; exact y1, (g78 (x3.tr y2)).tr (g192 b (by omega))⟩)
    · rw [er3] at hx hE3
      obtain ⟨rfl, y1, y2⟩ := hx
      refine fin T3 y _ _ (h.1.fr (x3.tr y2)) hy (fun B b => ?_)
      rw [if_pos (by rw [y1.2.2.2.1]; decide), nI_1] at b
      refine ⟨y1.s192 b, ⟨c, ?_, (hq.f78 h12 (x3.tr y2)).hea h12 h6 hy b⟩, (g78 (x3.tr y2)).tr (g192 b (by omega))⟩
      have := hE.1; have := hE3.1.1; omega
end MP3

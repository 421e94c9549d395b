/-! the class's tape: words, numbers, the next token -/
theorem en_out {p : Nat → Bool} {tp : List Nat} : ∀ (n i : Nat), tp.length - i = n → i ≤ tp.length → en p tp i < tp.length → ¬ p (cAt tp (en p tp i)) = true := by
  intro n
  induction n with
  | zero => intro i h h0 h1; rw [en_e (by omega)] at h1; omega
  | succ n ih =>
    intro i h h0 h1
    by_cases c : p (cAt tp i) = true
    · rw [en_t (by omega) c] at h1 ⊢
      exact ih (i + 1) (by omega) (by omega) h1
    · rw [en_f (by omega) c]; exact c
/-- the class's tape stands at the token that begins at i -/
def CTk (S : aS) (tp : List Nat) (i : Nat) : Prop := (CTp S tp ∧ gR S 1 0 = 2 ∧ gI S 1 3 = nI (tE tp i) ∧ gI S 1 4 = nI i) ∧ gI S 1 5 = (if (tK tp i).1 = 0 then 1 else 0) ∧ gR S 1 6 = (if (tK tp i).1 = 1 then wdO (tK tp i).2.1 else 0) ∧ ((tK tp i).1 = 1 → gJ S 1 7 = lN (k32 (tK tp i).2.1)) ∧ gI S 1 8 = (if (tK tp i).1 = 2 then nI (tK tp i).2.2 else -1) ∧ ((tK tp i).1 = 3 → gI S 1 9 = nI (tK tp i).2.2) ∧ ((tK tp i).1 ≠ 3 → ∀ c, isS c = true → ¬ gI S 1 9 = nI c)
theorem isS_b {c : Nat} (h : isS c = true) : c < 62 ∧ isL c = false ∧ isG c = false := by
  unfold isS at h
  have h1 : c ∈ [40, 41, 59, 61, 60, 43, 45, 42] := by simpa using h
  simp only [List.mem_cons, List.not_mem_nil, or_false] at h1
  rcases h1 with h | h | h | h | h | h | h | h <;> subst h <;> decide
section CU
variable {S T : aS} {f i c : Nat} {tp l : List Nat}
theorem CTp.at (h : CTp S tp) (hi : i < tp.length) : gI S 2 i = nI (cAt tp i) := h.2 i hi
theorem T_keyWith {a : Nat} (hc : 97 ≤ c) (hc2 : c < 128) (hg : 1 ≤ f) : zO (F_X11_keyWith f 0 [.long (lN a), .int (nI c)] S) (fun v T => ∃ x, v = some (.long x) ∧ x = lN (a * 32 + (c - 96)) ∧ T = S) := by
  obtain ⟨g, ge, hG⟩ := g1 hg; subst ge; clear hg; have hg := hG; clear hG; rw [E_X11_keyWith_0]; unfold F_X11_keyWith_0
  refine o_r ⟨_, rfl, ?_, rfl⟩
  rw [show (97 : Int32) = nI 97 from rfl, pk_sub hc, nI_1, nI_l (by omega), show (32 : Int64) = lN 32 from rfl, lN_mul, lN_add, show c - 97 + 1 = c - 96 by omega]
theorem T_readWord (hT : CTp S tp) (ho : okTp tp) (hr : gR S 1 0 = 2) (h3 : gI S 1 3 = nI i) (h4 : gI S 1 4 = nI i) (hi : i < tp.length) (hL : isL (cAt tp i) = true) (hg : 3100 ≤ f) : zU (F_X8_readWord f 0 [.ref 1] S) (fun U => gI U 1 3 = nI (en isL tp i) ∧ gR U 1 6 = (if en isL tp i - i ≤ 8 then wdO (sl tp i (en isL tp i - i)) else gR S 1 6) ∧ gJ U 1 7 = lN (k32 (sl tp i (en isL tp i - i))) ∧ Fx (fun x k => x = 1 ∧ (k = 3 ∨ k = 7)) S U) := by
  obtain ⟨g, ge, hG⟩ := g1 hg; subst ge; clear hg; have hg := hG; clear hG; rw [E_X8_readWord_0]; unfold F_X8_readWord_0
  refine o_sJ (fun S1 s1 => ?_)
  obtain ⟨e, he⟩ : ∃ e, e = en isL tp i := ⟨_, rfl⟩
  have hb := en_b (p := isL) (tp := tp) (i := i) (by omega)
  have hin : ∀ k, i ≤ k → k < e → isL (cAt tp k) = true := fun k a b => en_in _ i k rfl a (by rw [← he]; exact b)
  have hout : e < tp.length → ¬ isL (cAt tp e) = true := fun h => by
    rw [he]; exact en_out _ i rfl (by omega) (by rw [← he]; exact h)
  have hwd := wd_ok hi hL
  have hl := ho.1
  rw [← he] at hb hwd ⊢
  have fin : ∀ (U : aS) (g : Nat), 101 + 4 ≤ g → gI U 1 3 = nI e → gJ U 1 7 = lN (k32 (sl tp i (e - i))) → Fx (fun x k => x = 1 ∧ (k = 3 ∨ k = 7)) S U → gR U 1 6 = gR S 1 6 → zU (F_X8_readWord g 2 [.ref 1] U) (fun U => gI U 1 3 = nI e ∧ gR U 1 6 = (if e - i ≤ 8 then wdO (sl tp i (e - i)) else gR S 1 6) ∧ gJ U 1 7 = lN (k32 (sl tp i (e - i))) ∧ Fx (fun x k => x = 1 ∧ (k = 3 ∨ k = 7)) S U) := by
    intro U g hg u3 u7 uf u6
    obtain ⟨g, ge, hG⟩ := g1 hg; subst ge; clear hg; have hg := hG; clear hG; rw [E_X8_readWord_2]; unfold F_X8_readWord_2
    rw [u3, uf.I (by omega), h4, pk_sub hb.1, show (8 : Int32) = nI 8 from rfl]
    by_cases c8 : e - i ≤ 8
    · refine o_f (nI_nlt (by omega) (by omega)) ?_
      rw [u7]
      refine o_R (T_X11_of (hwd c8) (by omega)) ?_
      rintro _ U ⟨rfl, rfl⟩
      refine o_sR (fun V v => ?_)
      replace hg : 100 + 1 ≤ g := by omega
      obtain ⟨g, ge, hG⟩ := g1 hg; subst ge; clear hg; have hg := hG; clear hG; rw [E_X8_readWord_3]; unfold F_X8_readWord_3
      refine u_r ⟨?_, ?_, ?_, uf.sR v⟩
      · rw [v]; exact u3
      · rw [v, gR_sR, if_pos ⟨rfl, rfl⟩, if_pos c8]
      · rw [v]; exact u7
    · refine o_t (nI_lt (by omega) (by omega)) ?_
      replace hg : 100 + 1 ≤ g := by omega
      obtain ⟨g, ge, hG⟩ := g1 hg; subst ge; clear hg; have hg := hG; clear hG; rw [E_X8_readWord_3]; unfold F_X8_readWord_3
      rw [if_neg c8]
      exact u_r ⟨u3, u6, u7, uf⟩
  refine o_loop (F := fun f vs S => F_X8_readWord f 1 vs S) (c := 2) (B := 200) (y := e - i) (fun k vs T => vs = [.ref 1] ∧ gI T 1 3 = nI (i + k) ∧ gJ T 1 7 = lN (k32 (sl tp i k)) ∧ Fx (fun x k => x = 1 ∧ (k = 3 ∨ k = 7)) S T ∧ gR T 1 6 = gR S 1 6) ?_ ?_ 0 _ S1 g (by omega) ⟨rfl, by rw [s1]; exact h3, by rw [s1, gJ_sJ, if_pos ⟨rfl, rfl⟩]; rfl, (Fx.refl S).sJ s1 (by omega), by rw [s1]; rfl⟩ (by omega)
  · rintro k _ T g hk ⟨rfl, t3, t7, tf, t6⟩ hg rk
    show zO (F_X8_readWord g 1 _ _) _
    replace hg : 200 + 1 + 1 ≤ g := hg
    obtain ⟨g, ge, hG⟩ := g1 hg; subst ge; clear hg; have hg := hG; clear hG; rw [E_X8_readWord_1]; unfold F_X8_readWord_1
    have cT := hT.x tf (by refine ⟨?_, fun k => ?_⟩ <;> omega)
    have hL := hin (i + k) (by omega) (by omega)
    have hc := of_decide_eq_true hL
    rw [cT.1, t3]
    refine o_f (nI_ge (by omega) (by omega)) ?_
    refine o_X rfl (show i + k < 1000 by omega) ?_
    rw [tf.2 1 0 (by omega), hr, cT.at (show i + k < tp.length by omega)]
    refine o_I (T_isL (ho.c _) (by omega)) ?_
    rintro _ T ⟨rfl, rfl⟩
    rw [if_pos hL]
    refine o_f (by decide) ?_
    rw [t3]
    refine o_X rfl (show i + k < 1000 by omega) ?_
    rw [tf.2 1 0 (by omega), hr, cT.at (show i + k < tp.length by omega), t7]
    refine o_J (T_keyWith hc.1 (ho.c _) (by omega)) ?_
    rintro _ T ⟨rfl, rfl⟩
    refine o_sJ (fun U1 u1 => ?_)
    have e3 : gI U1 1 3 = nI (i + k) := by rw [u1]; exact t3
    rw [e3, nI_1]
    refine o_s (fun U2 u2 => ?_)
    refine rk g _ _ (by omega) ⟨rfl, by rw [u2, gI_sI, if_pos ⟨rfl, rfl⟩]; rfl, ?_, (tf.sJ u1 (by omega)).sI u2 (by omega), by rw [u2, u1]; exact t6⟩
    rw [sl_s, k32_s, u2, u1]
    show gJ (sJ T 1 7 _) 1 7 = _
    rw [gJ_sJ, if_pos ⟨rfl, rfl⟩]
  · rintro _ T g ⟨rfl, t3, t7, tf, t6⟩ hg
    show zO (F_X8_readWord g 1 _ _) _
    replace hg : 200 + 1 + 1 ≤ g := hg
    obtain ⟨g, ge, hG⟩ := g1 hg; subst ge; clear hg; have hg := hG; clear hG; rw [E_X8_readWord_1]; unfold F_X8_readWord_1
    have cT := hT.x tf (by refine ⟨?_, fun k => ?_⟩ <;> omega)
    rw [show i + (e - i) = e by omega] at t3
    rw [cT.1, t3]
    by_cases c : e < tp.length
    · refine o_f (nI_ge c (by omega)) ?_
      refine o_X rfl (show e < 1000 by omega) ?_
      rw [tf.2 1 0 (by omega), hr, cT.at c]
      refine o_I (T_isL (ho.c _) (by omega)) ?_
      rintro _ T ⟨rfl, rfl⟩
      rw [if_neg (hout c)]
      refine o_t rfl ?_
      exact fin _ g (by omega) t3 t7 tf t6
    · refine o_t (nI_le (by omega) (by omega)) ?_
      exact fin _ g (by omega) t3 t7 tf t6
theorem T_readNumber (hT : CTp S tp) (ho : okTp tp) (hr : gR S 1 0 = 2) (h3 : gI S 1 3 = nI i) (h4 : gI S 1 4 = nI i) (hi : i < tp.length) (hL : isG (cAt tp i) = true) (hg : 3100 ≤ f) : zU (F_X8_readNumber f 0 [.ref 1] S) (fun U => gI U 1 3 = nI (en isG tp i) ∧ gI U 1 8 = (if en isG tp i - i ≤ 4 then nI (k10 (dg tp i (en isG tp i - i))) else gI S 1 8) ∧ Fx (fun x k => x = 1 ∧ (k = 3 ∨ k = 8)) S U ∧ gR U 1 6 = gR S 1 6) := by
  obtain ⟨g, ge, hG⟩ := g1 hg; subst ge; clear hg; have hg := hG; clear hG; rw [E_X8_readNumber_0]; unfold F_X8_readNumber_0
  obtain ⟨e, he⟩ : ∃ e, e = en isG tp i := ⟨_, rfl⟩
  have hb := en_b (p := isG) (tp := tp) (i := i) (by omega)
  have hin : ∀ k, i ≤ k → k < e → isG (cAt tp k) = true := fun k a b => en_in _ i k rfl a (by rw [← he]; exact b)
  have hout : e < tp.length → ¬ isG (cAt tp e) = true := fun h => by
    rw [he]; exact en_out _ i rfl (by omega) (by rw [← he]; exact h)
  have hl := ho.1
  rw [← he] at hb ⊢
  have fin : ∀ (U : aS) (g : Nat), 101 + 4 ≤ g → gI U 1 3 = nI e → Fx (fun x k => x = 1 ∧ k = 3) S U → gR U 1 6 = gR S 1 6 → zU (F_X8_readNumber g 2 [.ref 1, .int (nI (k10 (dg tp i (e - i))))] U) (fun U => gI U 1 3 = nI e ∧ gI U 1 8 = (if e - i ≤ 4 then nI (k10 (dg tp i (e - i))) else gI S 1 8) ∧ Fx (fun x k => x = 1 ∧ (k = 3 ∨ k = 8)) S U ∧ gR U 1 6 = gR S 1 6) := by
    intro U g hg u3 uf u6
    have uf' : Fx (fun x k => x = 1 ∧ (k = 3 ∨ k = 8)) S U := uf.mono (fun q k d => by omega)
    obtain ⟨g, ge, hG⟩ := g1 hg; subst ge; clear hg; have hg := hG; clear hG; rw [E_X8_readNumber_2]; unfold F_X8_readNumber_2
    rw [u3, uf.I (by omega), h4, pk_sub hb.1, show (4 : Int32) = nI 4 from rfl]
    by_cases c8 : e - i ≤ 4
    · refine o_f (nI_nlt (by omega) (by omega)) ?_
      refine o_s (fun V v => ?_)
      replace hg : 100 + 1 ≤ g := by omega
      obtain ⟨g, ge, hG⟩ := g1 hg; subst ge; clear hg; have hg := hG; clear hG; rw [E_X8_readNumber_3]; unfold F_X8_readNumber_3
      refine u_r ⟨?_, ?_, uf'.sI v (by omega), by rw [v]; exact u6⟩
      · rw [v, gI_sI, if_neg (by omega)]; exact u3
      · rw [v, gI_sI, if_pos ⟨rfl, rfl⟩, if_pos c8]
    · refine o_t (nI_lt (by omega) (by omega)) ?_
      replace hg : 100 + 1 ≤ g := by omega
      obtain ⟨g, ge, hG⟩ := g1 hg; subst ge; clear hg; have hg := hG; clear hG; rw [E_X8_readNumber_3]; unfold F_X8_readNumber_3
      rw [if_neg c8]
      exact u_r ⟨u3, uf.I (by omega), uf', u6⟩
  refine o_loop (F := fun f vs S => F_X8_readNumber f 1 vs S) (c := 2) (B := 200) (y := e - i) (fun k vs T => vs = [.ref 1, .int (nI (k10 (dg tp i k)))] ∧ gI T 1 3 = nI (i + k) ∧ Fx (fun x k => x = 1 ∧ k = 3) S T ∧ gR T 1 6 = gR S 1 6) ?_ ?_ 0 _ S g (by omega) ⟨rfl, h3, Fx.refl S, rfl⟩ (by omega)
  · rintro k _ T g hk ⟨rfl, t3, tf, t6⟩ hg rk
    show zO (F_X8_readNumber g 1 _ _) _
    replace hg : 200 + 1 + 1 ≤ g := hg
    obtain ⟨g, ge, hG⟩ := g1 hg; subst ge; clear hg; have hg := hG; clear hG; rw [E_X8_readNumber_1]; unfold F_X8_readNumber_1
    have cT := hT.x tf (by refine ⟨?_, fun k => ?_⟩ <;> omega)
    have hL := hin (i + k) (by omega) (by omega)
    have hc := of_decide_eq_true hL
    rw [cT.1, t3]
    refine o_f (nI_ge (by omega) (by omega)) ?_
    refine o_X rfl (show i + k < 1000 by omega) ?_
    rw [tf.2 1 0 (by omega), hr, cT.at (show i + k < tp.length by omega)]
    refine o_I (T_isG (ho.c _) (by omega)) ?_
    rintro _ T ⟨rfl, rfl⟩
    rw [if_pos hL]
    refine o_f (by decide) ?_
    rw [t3]
    refine o_X rfl (show i + k < 1000 by omega) ?_
    rw [tf.2 1 0 (by omega), hr, cT.at (show i + k < tp.length by omega)]
    rw [show (10 : Int32) = nI 10 from rfl, show (48 : Int32) = nI 48 from rfl, pk_mul, pk_sub hc.1, nI_add, nI_1, ← k10_s, ← dg_s]
    refine o_lI ?_
    refine o_s (fun U2 u2 => ?_)
    exact rk g _ _ (by omega) ⟨rfl, by rw [u2, gI_sI, if_pos ⟨rfl, rfl⟩]; rfl, tf.sI u2 (by omega), by rw [u2]; exact t6⟩
  · rintro _ T g ⟨rfl, t3, tf, t6⟩ hg
    show zO (F_X8_readNumber g 1 _ _) _
    replace hg : 200 + 1 + 1 ≤ g := hg
    obtain ⟨g, ge, hG⟩ := g1 hg; subst ge; clear hg; have hg := hG; clear hG; rw [E_X8_readNumber_1]; unfold F_X8_readNumber_1
    have cT := hT.x tf (by refine ⟨?_, fun k => ?_⟩ <;> omega)
    rw [show i + (e - i) = e by omega] at t3
    rw [cT.1, t3]
    by_cases c : e < tp.length
    · refine o_f (nI_ge c (by omega)) ?_
      refine o_X rfl (show e < 1000 by omega) ?_
      rw [tf.2 1 0 (by omega), hr, cT.at c]
      refine o_I (T_isG (ho.c _) (by omega)) ?_
      rintro _ T ⟨rfl, rfl⟩
      rw [if_neg (hout c)]
      refine o_t rfl ?_
      exact fin _ g (by omega) t3 tf t6
    · refine o_t (nI_le (by omega) (by omega)) ?_
      exact fin _ g (by omega) t3 tf t6
end CU

/-! the class's tape: one token read -/
/-- a frame that leaves the tape's word free -/
def Fx (D : Nat → Nat → Prop) (S T : aS) : Prop := (∀ q k, ¬ D q k → gI T q k = gI S q k ∧ gJ T q k = gJ S q k) ∧ ∀ q k, ¬ (q = 1 ∧ k = 6) → gR T q k = gR S q k
section FX
variable {D E : Nat → Nat → Prop} {S T U : aS}
theorem Fx.refl (S : aS) : Fx D S S := ⟨fun _ _ _ => ⟨rfl, rfl⟩, fun _ _ _ => rfl⟩
theorem Fx.tr (h : Fx D S T) (h2 : Fx D T U) : Fx D S U := ⟨fun q k n => ⟨(h2.1 q k n).1.trans (h.1 q k n).1, (h2.1 q k n).2.trans (h.1 q k n).2⟩, fun q k n => (h2.2 q k n).trans (h.2 q k n)⟩
theorem Fx.mono (h : Fx D S T) (hh : ∀ q k, D q k → E q k) : Fx E S T := ⟨fun q k n => h.1 q k (fun d => n (hh q k d)), h.2⟩
theorem Fx.I (h : Fx D S T) {q k : Nat} (n : ¬ D q k) : gI T q k = gI S q k := (h.1 q k n).1
theorem Fx.J (h : Fx D S T) {q k : Nat} (n : ¬ D q k) : gJ T q k = gJ S q k := (h.1 q k n).2
theorem Fx.sI {p j : Nat} {v : Int32} (h : Fx D S T) (e : U = sI T p j v) (hd : D p j) : Fx D S U := by
  subst e
  refine ⟨fun q k n => ?_, fun q k n => h.2 q k n⟩
  rw [gI_sI, if_neg (fun ⟨a, b⟩ => n (by rw [a, b]; exact hd))]
  exact h.1 q k n
theorem Fx.sJ {p j : Nat} {v : Int64} (h : Fx D S T) (e : U = sJ T p j v) (hd : D p j) : Fx D S U := by
  subst e
  refine ⟨fun q k n => ?_, fun q k n => h.2 q k n⟩
  rw [gJ_sJ, if_neg (fun ⟨a, b⟩ => n (by rw [a, b]; exact hd))]
  exact h.1 q k n
theorem Fx.sR {v : Nat} (h : Fx D S T) (e : U = sR T 1 6 v) : Fx D S U := by
  subst e
  refine ⟨fun q k n => h.1 q k n, fun q k n => ?_⟩
  rw [gR_sR, if_neg n]
  exact h.2 q k n
theorem Fx.fg (h : Fx D S T) : Fg D (fun x => x = 1) S T := ⟨h.1, fun q k n => h.2 q k (fun c => n c.1)⟩
theorem Fr.x (h : Fr D S T) : Fx D S T := ⟨fun q k n => ⟨h.2 q k n, h.J q k⟩, fun q k _ => h.R q k⟩
theorem CTp.x {tp : List Nat} (h : CTp S tp) (hf : Fx D S T) (hD : ¬ D 1 1 ∧ ∀ k, ¬ D 2 k) : CTp T tp := h.fg hf.fg hD
end FX
def okTp (tp : List Nat) : Prop := tp.length ≤ 1000 ∧ ∀ c, c ∈ tp → c = 10 ∨ (32 ≤ c ∧ c ≤ 126)
theorem okTp.c {tp : List Nat} (h : okTp tp) (i : Nat) : cAt tp i < 128 := by
  unfold cAt
  by_cases c : i < tp.length
  · rw [List.getD_eq_getElem?_getD, List.getElem?_eq_getElem c]
    show tp[i] < 128
    have := h.2 tp[i] (List.getElem_mem c); omega
  · rw [List.getD_eq_getElem?_getD, List.getElem?_eq_none (by omega)]
    show 0 < 128
    omega
theorem sl_ok {tp : List Nat} {i : Nat} : ∀ n, (∀ k, k < n → isL (cAt tp (i + k)) = true) → ∀ c, c ∈ sl tp i n → 1 ≤ c ∧ c ≤ 26 := by
  intro n h c hc
  unfold sl at hc
  obtain ⟨k, hk, e⟩ := List.mem_map.mp hc
  have := of_decide_eq_true (h k (List.mem_range.mp hk))
  omega
theorem en_in {p : Nat → Bool} {tp : List Nat} : ∀ (n i k : Nat), tp.length - i = n → i ≤ k → k < en p tp i → p (cAt tp k) = true := by
  intro n
  induction n with
  | zero => intro i k h h1 h2; rw [en_e (by omega)] at h2; omega
  | succ n ih =>
    intro i k h h1 h2
    by_cases c : p (cAt tp i) = true
    · by_cases e : k = i
      · rw [e]; exact c
      · rw [en_t (by omega) c] at h2
        exact ih (i + 1) k (by omega) (by omega) h2
    · rw [en_f (by omega) c] at h2; omega
theorem sl_len (tp : List Nat) (i n : Nat) : (sl tp i n).length = n := by unfold sl; rw [List.length_map, List.length_range]
theorem wd_ok {tp : List Nat} {i : Nat} (hi : i < tp.length) (h : isL (cAt tp i) = true) (h8 : en isL tp i - i ≤ 8) : okN (sl tp i (en isL tp i - i)) := by
  have h1 : i < en isL tp i := by
    rw [en_t hi h]
    have := en_b (p := isL) (tp := tp) (i := i + 1) (by omega); omega
  refine ⟨by rw [sl_len]; omega, by rw [sl_len]; exact h8, sl_ok _ (fun k hk => en_in _ i (i + k) rfl (by omega) (by omega))⟩
section CT
variable {S T : aS} {f i c : Nat} {tp l : List Nat}
theorem T_isL (hc : c < 128) (hg : 1 ≤ f) : zI (F_X8_isLetter f 0 [.int (nI c)] S) (fun x T => x = (if isL c = true then 1 else 0) ∧ T = S) := by
  obtain ⟨g, ge, hG⟩ := g1 hg; subst ge; clear hg; have hg := hG; clear hG; rw [E_X8_isLetter_0]; unfold F_X8_isLetter_0
  have e : (if nI c < (97 : Int32) then (0 : Int32) else if (122 : Int32) < nI c then (0 : Int32) else (1 : Int32)) = (if isL c = true then 1 else 0) := by
    rw [show (97 : Int32) = nI 97 from rfl, show (122 : Int32) = nI 122 from rfl]
    simp only [nI_ltI (show c < 2 ^ 31 by omega) (show 97 < 2 ^ 31 by omega), nI_ltI (show 122 < 2 ^ 31 by omega) (show c < 2 ^ 31 by omega)]
    unfold isL
    by_cases h1 : c < 97
    · rw [if_pos h1, if_neg (by rw [decide_eq_true_eq]; omega)]
    · rw [if_neg h1]
      by_cases h2 : 122 < c
      · rw [if_pos h2, if_neg (by rw [decide_eq_true_eq]; omega)]
      · rw [if_neg h2, if_pos (by rw [decide_eq_true_eq]; omega)]
  rw [e]
  exact o_Z (by split <;> simp) (i_r ⟨rfl, rfl⟩)
theorem T_isG (hc : c < 128) (hg : 1 ≤ f) : zI (F_X8_isDigit f 0 [.int (nI c)] S) (fun x T => x = (if isG c = true then 1 else 0) ∧ T = S) := by
  obtain ⟨g, ge, hG⟩ := g1 hg; subst ge; clear hg; have hg := hG; clear hG; rw [E_X8_isDigit_0]; unfold F_X8_isDigit_0
  have e : (if nI c < (48 : Int32) then (0 : Int32) else if (57 : Int32) < nI c then (0 : Int32) else (1 : Int32)) = (if isG c = true then 1 else 0) := by
    rw [show (48 : Int32) = nI 48 from rfl, show (57 : Int32) = nI 57 from rfl]
    simp only [nI_ltI (show c < 2 ^ 31 by omega) (show 48 < 2 ^ 31 by omega), nI_ltI (show 57 < 2 ^ 31 by omega) (show c < 2 ^ 31 by omega)]
    unfold isG
    by_cases h1 : c < 48
    · rw [if_pos h1, if_neg (by rw [decide_eq_true_eq]; omega)]
    · rw [if_neg h1]
      by_cases h2 : 57 < c
      · rw [if_pos h2, if_neg (by rw [decide_eq_true_eq]; omega)]
      · rw [if_neg h2, if_pos (by rw [decide_eq_true_eq]; omega)]
  rw [e]
  exact o_Z (by split <;> simp) (i_r ⟨rfl, rfl⟩)
theorem T_X11_of (hl : okN l) (hg : 100 ≤ f) : zO (F_X11_of f 0 [.long (lN (k32 l))] S) (fun v T => ∃ x, v = some (.ref x) ∧ x = wdO l ∧ T = S) := by
  obtain ⟨g, ge, hG⟩ := g1 hg; subst ge; clear hg; have hg := hG; clear hG; rw [E_X11_of_0]; unfold F_X11_of_0
  have k0 : ¬ lN (k32 l) = (0 : Int64) := by
    intro e
    have b1 := (k_b (b := 32) (by omega) k32 rfl k32_s l.length l rfl hl.2.2)
    have p1 : 32 ^ l.length ≤ 32 ^ 8 := Nat.pow_le_pow_right (by omega) hl.2.1
    rw [show (0 : Int64) = lN (k32 []) from rfl, pk_lEQ (Nat.lt_of_lt_of_le b1.1 (Nat.le_trans p1 (by decide))) (by decide)] at e
    have := b1.2 [] (by simp) e.symm
    have := hl.1
    subst l
    exact absurd this (by simp)
  refine o_loop (F := fun f vs S => F_X11_of f 1 vs S) (c := 1) (B := 20) (y := 31) (fun k vs T => vs = [.long (lN (k32 l)), .int (Int32.ofNat 31), .int (nI k)] ∧ T = S ∧ (2 ≤ k → wdO l = wdq l (31 - k) k)) ?_ ?_ 0 _ S g (by omega) ⟨rfl, rfl, by omega⟩ (by omega)
  · rintro k _ S g hk ⟨rfl, rfl, hw⟩ hg rk
    show zO (F_X11_of g 1 _ _) _
    replace hg : 20 + 1 ≤ g := hg
    obtain ⟨g, ge, hG⟩ := g1 hg; subst ge; clear hg; have hg := hG; clear hG; rw [E_X11_of_1]; unfold F_X11_of_1
    refine o_f (nI_ge (b := 31) hk (by omega)) ?_
    refine o_X rfl hk ?_
    by_cases h2 : k < 2
    · have hz : zkey k = 0 := by
        rcases (show k = 0 ∨ k = 1 by omega) with rfl | rfl <;> rfl
      rw [hz]
      refine o_f (by rw [lg_cmp_eq]; exact fun e => k0 e.symm) ?_
      rw [nI_1]
      refine rk g _ _ (by omega) ⟨rfl, rfl, fun h3 => ?_⟩
      rw [show k + 1 = 2 by omega]
      rfl
    · have hz := zkey_k (q := k - 2) (by omega)
      rw [show k - 2 + 2 = k by omega] at hz
      rw [hz.1]
      have hw2 := hw (by omega)
      rw [show 31 - k = (31 - (k + 1)) + 1 by omega] at hw2
      have hw3 : wdO l = if kwd k = l then k else wdq l (31 - (k + 1)) (k + 1) := hw2
      by_cases e : kwd k = l
      · refine o_t (by rw [lg_cmp_eq, k32_i hl hz.2]; exact e) ?_
        rw [if_pos e] at hw3
        exact o_r ⟨k, rfl, hw3.symm, rfl⟩
      · refine o_f (by rw [lg_cmp_eq, k32_i hl hz.2]; exact e) ?_
        rw [if_neg e] at hw3
        rw [nI_1]
        exact rk g _ _ (by omega) ⟨rfl, rfl, fun _ => hw3⟩
  · rintro _ S g ⟨rfl, rfl, hw⟩ hg
    show zO (F_X11_of g 1 _ _) _
    replace hg : 20 + 1 ≤ g := hg
    obtain ⟨g, ge, hG⟩ := g1 hg; subst ge; clear hg; have hg := hG; clear hG; rw [E_X11_of_1]; unfold F_X11_of_1
    refine o_t (nI_le (a := 31) (b := 31) (by omega) (by omega)) ?_
    exact o_r ⟨1, rfl, (hw (by omega)).symm, rfl⟩
end CT

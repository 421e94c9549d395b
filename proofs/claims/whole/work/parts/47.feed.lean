/-! feed: both sides -/
def byA (v : Int64) (s : Int32) : Int32 := (Int64.toInt32 ((v.toUInt64 >>> ((Int32.toInt64 s).toUInt64 &&& Int64.toUInt64 63)).toInt64)) &&& (255 : Int32)
def byB (v : Int64) (s : Int32) : Int32 := (Int64.toInt32 (v >>> ((Int32.toInt64 s) &&& 63))) &&& (255 : Int32)
theorem byAB {v : Int64} {s : Int32} {k : Nat} (hk : k ≤ 56) (h1 : (((Int32.toInt64 s) &&& 63).toBitVec.smod 64).toNat = k) (h2 : (((Int32.toInt64 s).toUInt64 &&& Int64.toUInt64 63).toBitVec % 64).toNat = k) : byB v s = byA v s := by
  unfold byA byB
  apply Int32.toBitVec_inj.mp
  rw [Int32.toBitVec_and, Int32.toBitVec_and, Int64.toBitVec_toInt32, Int64.toBitVec_toInt32]
  apply BitVec.eq_of_getLsbD_eq
  intro i hi
  rw [BitVec.getLsbD_and, BitVec.getLsbD_and]
  by_cases h8 : i < 8
  · congr 1
    have e1 : (v >>> ((Int32.toInt64 s) &&& 63)).toBitVec = v.toBitVec.sshiftRight k := by
      rw [Int64.toBitVec_shiftRight, BitVec.sshiftRight', h1]
    have e2 : ((v.toUInt64 >>> ((Int32.toInt64 s).toUInt64 &&& Int64.toUInt64 63)).toInt64).toBitVec = v.toBitVec >>> k := by
      show (v.toUInt64 >>> ((Int32.toInt64 s).toUInt64 &&& Int64.toUInt64 63)).toBitVec = _
      rw [UInt64.toBitVec_shiftRight, BitVec.ushiftRight_eq', h2]
      rfl
    rw [e1, e2]
    simp only [BitVec.getLsbD_signExtend]
    rw [BitVec.getLsbD_sshiftRight, BitVec.getLsbD_ushiftRight]
    have : k + i < 64 := by omega
    simp [this, show i < 64 by omega, show i < 32 by omega]
  · have : (255 : Int32).toBitVec.getLsbD i = false := by
      show (BitVec.ofNat 32 255).getLsbD i = false
      rw [BitVec.getLsbD_ofNat, show (255 : Nat) = 2 ^ 8 - 1 from rfl, Nat.testBit_two_pow_sub_one, decide_eq_false h8, Bool.and_false]
    rw [this, Bool.and_false, Bool.and_false]
/-- the shifts -/
def shf (j : Nat) : Int32 := nI (8 * j) - 8
theorem shf_AB {v : Int64} {j : Nat} (h : j < 8) : byB v (shf (j + 1)) = byA v (shf (j + 1)) := by
  have hd := co_dec (N := 8) (P := fun j => 8 * j ≤ 56 ∧ (((Int32.toInt64 (shf (j + 1))) &&& 63).toBitVec.smod 64).toNat = 8 * j ∧ (((Int32.toInt64 (shf (j + 1))).toUInt64 &&& Int64.toUInt64 63).toBitVec % 64).toNat = 8 * j) (by decide +kernel) h
  exact byAB hd.1 hd.2.1 hd.2.2
def okC (c : Nat) : Bool := decide (c = 10 ∨ (32 ≤ c ∧ c ≤ 126))
def byN (v : Int64) (j : Nat) : Nat := (byA v (shf (j + 1))).toBitVec.toNat
theorem byN_e (v : Int64) (j : Nat) : byA v (shf (j + 1)) = nI (byN v j) ∧ byN v j < 256 := by
  unfold byN
  have h := pk_and (Int64.toInt32 ((v.toUInt64 >>> ((Int32.toInt64 (shf (j + 1))).toUInt64 &&& Int64.toUInt64 63)).toInt64)) (m := 255) 8 rfl
  have h' : byA v (shf (j + 1)) = nI ((Int64.toInt32 ((v.toUInt64 >>> ((Int32.toInt64 (shf (j + 1))).toUInt64 &&& Int64.toUInt64 63)).toInt64)).toBitVec.toNat % 2 ^ 8) := h
  have hm := Nat.mod_lt (Int64.toInt32 ((v.toUInt64 >>> ((Int32.toInt64 (shf (j + 1))).toUInt64 &&& Int64.toUInt64 63)).toInt64)).toBitVec.toNat (show 0 < 2 ^ 8 by omega)
  rw [h', pk_tn (by omega)]
  exact ⟨rfl, by omega⟩
/-- one sign more, if it may be -/
def ad1 (tp : List Nat) (c : Nat) : List Nat := if okC c = true ∧ tp.length < 1000 then tp ++ [c] else tp
/-- the bytes of a long from the j-th one down -/
def adN (v : Int64) (tp : List Nat) : Nat → List Nat
  | 0 => tp
  | j + 1 => adN v (ad1 tp (byN v j)) j
theorem ad1_i {tp : List Nat} {c : Nat} (h : tp.length ≤ 1000) (hc : ∀ x, x ∈ tp → x = 10 ∨ (32 ≤ x ∧ x ≤ 126)) : (ad1 tp c).length ≤ 1000 ∧ ∀ x, x ∈ ad1 tp c → x = 10 ∨ (32 ≤ x ∧ x ≤ 126) := by
  unfold ad1
  split
  · rename_i hh
    refine ⟨by rw [List.length_append, List.length_singleton]; omega, fun x hx => ?_⟩
    rcases List.mem_append.mp hx with hx | hx
    · exact hc x hx
    · rw [List.mem_singleton.mp hx]
      exact of_decide_eq_true hh.1
  · exact ⟨h, hc⟩
theorem adN_i {v : Int64} : ∀ {tp : List Nat} (j : Nat), tp.length ≤ 1000 → (∀ x, x ∈ tp → x = 10 ∨ (32 ≤ x ∧ x ≤ 126)) → (adN v tp j).length ≤ 1000 ∧ ∀ x, x ∈ adN v tp j → x = 10 ∨ (32 ≤ x ∧ x ≤ 126)
  | tp, 0, h, hc => ⟨h, hc⟩
  | tp, j + 1, h, hc => by
    obtain ⟨h1, h2⟩ := ad1_i (c := byN v j) h hc
    exact adN_i j h1 h2
theorem getD_app {l : List Nat} {c k : Nat} (hk : k < l.length + 1) : (l ++ [c]).getD k 0 = if k = l.length then c else l.getD k 0 := by
  rw [List.getD_eq_getElem?_getD, List.getD_eq_getElem?_getD]
  by_cases e : k = l.length
  · rw [if_pos e, e, List.getElem?_append_right (Nat.le_refl _), Nat.sub_self]; rfl
  · rw [if_neg e, List.getElem?_append_left (by omega)]
section FE
variable {S T : aS} {A : aA} {q f n : Nat} {P : aP}
theorem okC_w {b : Nat} (hb : b < 256) : (nI b = (10 : Int32) ∨ ¬ wI (nI b) 32 126 = 0) ↔ okC b = true := by
  unfold okC
  rw [decide_eq_true_eq, show (10 : Int32) = nI 10 from rfl, nI_eq (by omega) (by omega)]
  unfold wI
  rw [show (32 : Int32) = nI 32 from rfl, show (126 : Int32) = nI 126 from rfl]
  simp only [nI_ltI (show b < 2 ^ 31 by omega) (show 32 < 2 ^ 31 by omega), nI_ltI (show 126 < 2 ^ 31 by omega) (show b < 2 ^ 31 by omega)]
  by_cases h1 : b < 32
  · rw [if_pos h1]
    constructor
    · intro h; exact Or.inl (h.resolve_right (fun hh => hh rfl))
    · intro h; exact Or.inl (h.resolve_right (by omega))
  · rw [if_neg h1]
    by_cases h2 : 126 < b
    · rw [if_pos h2]
      constructor
      · intro h; exact Or.inl (h.resolve_right (fun hh => hh rfl))
      · intro h; exact Or.inl (h.resolve_right (by omega))
    · rw [if_neg h2]
      exact ⟨fun _ => Or.inr (by omega), fun _ => Or.inr (by decide)⟩
theorem T_X8_add {v : Int64} {tp : List Nat} (hX : CX S q P) (hT : CTp S tp) (hl : tp.length ≤ 1000) (hc : ∀ x, x ∈ tp → x = 10 ∨ (32 ≤ x ∧ x ≤ 126)) (hg : 60 ≤ f) : zU (F_X8_add f 0 [.ref 1, .long v] S) (fun T => CTp T (adN v tp 8) ∧ Fr (fun x k => x = 2 ∨ (x = 1 ∧ k = 1)) S T) := by
  have rr : gR S 1 0 = 2 := hX.1.1 1 0 (by omega) rfl
  obtain ⟨g, ge, hG⟩ := g1 hg; subst ge; clear hg; have hg := hG; clear hG; rw [E_X8_add_0]; unfold F_X8_add_0
  obtain ⟨R, eR⟩ : ∃ R, R = adN v tp 8 := ⟨_, rfl⟩
  rw [← eR]
  refine o_loopD (F := fun f vs S => F_X8_add f 1 vs S) (c := 3) (B := 10) (fun j vs T => j ≤ 8 ∧ vs = [.ref 1, .long v, .int (shf j)] ∧ ∃ t, CTp T t ∧ t.length ≤ 1000 ∧ (∀ x, x ∈ t → x = 10 ∨ (32 ≤ x ∧ x ≤ 126)) ∧ R = adN v t j ∧ Fr (fun x k => x = 2 ∨ (x = 1 ∧ k = 1)) S T) ?_ ?_ 8 _ S g ⟨Nat.le_refl _, rfl, tp, hT, hl, hc, eR, Fr.refl S⟩ (by omega)
  · rintro j _ T g ⟨hj, rfl, t, cT, tl, tc, eT, hf⟩ hg rk
    have hs0 : ¬ shf (j + 1) < 0 := by
      have := co_dec (N := 8) (P := fun j => ¬ shf (j + 1) < 0) (by decide +kernel) (show j < 8 by omega)
      exact this
    have hsn : shf (j + 1) + (-8) = shf j := by
      have := co_dec (N := 8) (P := fun j => shf (j + 1) + (-8) = shf j) (by decide +kernel) (show j < 8 by omega)
      exact this
    obtain ⟨eb, hb⟩ := byN_e v j
    have ea : adN v t (j + 1) = adN v (ad1 t (byN v j)) j := rfl
    rw [ea] at eT
    obtain ⟨d1, d2⟩ := ad1_i (c := byN v j) tl tc
    have nxt : ∀ (U : aS) (g3 : Nat), g ≤ g3 + 2 → CTp U (ad1 t (byN v j)) → Fr (fun x k => x = 2 ∨ (x = 1 ∧ k = 1)) S U → zU (F_X8_add g3 3 [.ref 1, .long v, .int (shf (j + 1))] U) (fun T => CTp T R ∧ Fr (fun x k => x = 2 ∨ (x = 1 ∧ k = 1)) S T) := by
      intro U g3 hg3 cU hfU
      obtain ⟨g3, rfl, hg4⟩ := g1 (n := 10) (f := g3) (by omega)
      rw [E_X8_add_3]; unfold F_X8_add_3
      rw [hsn]
      exact rk g3 _ _ (by omega) ⟨by omega, rfl, _, cU, d1, d2, eT, hfU⟩
    have put : ∀ (g3 : Nat), g ≤ g3 + 1 → okC (byN v j) = true → zU (F_X8_add g3 2 [.ref 1, .long v, .int (shf (j + 1)), .int (nI (byN v j))] T) (fun T => CTp T R ∧ Fr (fun x k => x = 2 ∨ (x = 1 ∧ k = 1)) S T) := by
      intro g3 hg3 hok
      obtain ⟨g3, rfl, hg4⟩ := g1 (n := 11) (f := g3) (by omega)
      rw [E_X8_add_2]; unfold F_X8_add_2
      rw [cT.1]
      by_cases c : t.length < 1000
      · have e1 : ad1 t (byN v j) = t ++ [byN v j] := if_pos ⟨hok, c⟩
        refine o_f (nI_ge (b := 1000) c (by omega)) ?_
        refine o_X rfl c ?_
        rw [show gR T 1 0 = 2 by rw [hf.R]; exact rr]
        have ev : vp_nar .char ((Int32.toUInt32 (nI (byN v j)) % 65536).toInt32) = nI (byN v j) := by
          rw [pk_vc, pk_char, pk_tn (by omega), Nat.mod_eq_of_lt (by omega)]
        rw [ev]
        refine o_s (fun T1 t1 => ?_)
        have l1 : gI T1 1 1 = nI t.length := by subst t1; rw [gI_sI, if_neg (by omega)]; exact cT.1
        rw [l1, nI_1]
        refine o_s (fun T2 t2 => ?_)
        refine nxt T2 g3 (by omega) ?_ ((hf.sI t1 (Or.inl rfl)).sI t2 (Or.inr ⟨rfl, rfl⟩))
        rw [e1]
        refine ⟨?_, fun k hk => ?_⟩
        · subst t2
          rw [gI_sI, if_pos ⟨rfl, rfl⟩, List.length_append, List.length_singleton]
        · rw [List.length_append, List.length_singleton] at hk
          rw [getD_app hk]
          subst t2 t1
          rw [gI_sI, if_neg (by omega), gI_sI]
          by_cases e : k = t.length
          · rw [if_pos ⟨rfl, e⟩, if_pos e]
          · rw [if_neg (by omega), if_neg e]
            exact cT.2 k (by omega)
      · have e1 : ad1 t (byN v j) = t := if_neg (fun h => c h.2)
        refine o_t (nI_le (a := 1000) (by omega) (by omega)) ?_
        exact nxt T g3 (by omega) (by rw [e1]; exact cT) hf
    show zO (F_X8_add g 1 _ _) _
    replace hg : 12 + 1 ≤ g := by omega
    obtain ⟨g, ge, hG⟩ := g1 hg; subst ge; clear hg; have hg := hG; clear hG; rw [E_X8_add_1]; unfold F_X8_add_1
    refine o_f hs0 ?_
    have ey : (Int64.toInt32 ((v.toUInt64 >>> ((Int32.toInt64 (shf (j + 1))).toUInt64 &&& Int64.toUInt64 63)).toInt64)) &&& (255 : Int32) = nI (byN v j) := eb
    rw [ey]
    refine o_lI ?_
    by_cases c10 : nI (byN v j) = (10 : Int32)
    · refine o_t c10 ?_
      exact put g (by omega) ((okC_w hb).mp (Or.inl c10))
    · refine o_f c10 ?_
      refine o_I (T_X12_isWithin (by omega)) ?_
      rintro _ T ⟨rfl, rfl⟩
      by_cases cw : wI (nI (byN v j)) 32 126 = 0
      · refine o_t cw ?_
        have hno : ¬ okC (byN v j) = true := fun h => ((okC_w hb).mpr h).elim c10 (fun h => h cw)
        have e1 : ad1 t (byN v j) = t := if_neg (fun h => hno h.1)
        exact nxt T g (by omega) (by rw [e1]; exact cT) hf
      · refine o_f cw ?_
        exact put g (by omega) ((okC_w hb).mp (Or.inr cw))
  · rintro _ T g ⟨hj, rfl, t, cT, tl, tc, eT, hf⟩ hg
    show zO (F_X8_add g 1 _ _) _
    obtain ⟨g, ge, hG⟩ := g1 hg; subst ge; clear hg; have hg := hG; clear hG; rw [E_X8_add_1]; unfold F_X8_add_1
    refine o_t (by decide) (u_r ⟨?_, hf⟩)
    rw [eT]
    exact cT
theorem T_X13_lay {v : Int64} {tp : List Nat} (hR : MR S) (hT : MTp S tp) (hl : tp.length ≤ 1000) (hc : ∀ x, x ∈ tp → x = 10 ∨ (32 ≤ x ∧ x ≤ 126)) (hg : 60 ≤ f) : zU (F_X13_lay f 0 [.ref 186, .long v] S) (fun T => MTp T (adN v tp 8) ∧ Fr (fun x k => x = 187 ∨ (x = 186 ∧ k = 2)) S T) := by
  obtain ⟨g, ge, hG⟩ := g1 hg; subst ge; clear hg; have hg := hG; clear hG; rw [E_X13_lay_0]; unfold F_X13_lay_0
  obtain ⟨R, eR⟩ : ∃ R, R = adN v tp 8 := ⟨_, rfl⟩
  rw [← eR]
  refine o_loopD (F := fun f vs S => F_X13_lay f 1 vs S) (c := 3) (B := 10) (fun j vs T => j ≤ 8 ∧ vs = [.ref 186, .long v, .int (shf j)] ∧ ∃ t, MTp T t ∧ t.length ≤ 1000 ∧ (∀ x, x ∈ t → x = 10 ∨ (32 ≤ x ∧ x ≤ 126)) ∧ R = adN v t j ∧ Fr (fun x k => x = 187 ∨ (x = 186 ∧ k = 2)) S T) ?_ ?_ 8 _ S g ⟨Nat.le_refl _, rfl, tp, hT, hl, hc, eR, Fr.refl S⟩ (by omega)
  · rintro j _ T g ⟨hj, rfl, t, cT, tl, tc, eT, hf⟩ hg rk
    have hs0 : ¬ shf (j + 1) < 0 := by
      have := co_dec (N := 8) (P := fun j => ¬ shf (j + 1) < 0) (by decide +kernel) (show j < 8 by omega)
      exact this
    have hsn : shf (j + 1) + (-8) = shf j := by
      have := co_dec (N := 8) (P := fun j => shf (j + 1) + (-8) = shf j) (by decide +kernel) (show j < 8 by omega)
      exact this
    obtain ⟨eb, hb⟩ := byN_e v j
    have ea : adN v t (j + 1) = adN v (ad1 t (byN v j)) j := rfl
    rw [ea] at eT
    obtain ⟨d1, d2⟩ := ad1_i (c := byN v j) tl tc
    have nxt : ∀ (U : aS) (g3 : Nat), g ≤ g3 + 2 → MTp U (ad1 t (byN v j)) → Fr (fun x k => x = 187 ∨ (x = 186 ∧ k = 2)) S U → zU (F_X13_lay g3 3 [.ref 186, .long v, .int (shf (j + 1))] U) (fun T => MTp T R ∧ Fr (fun x k => x = 187 ∨ (x = 186 ∧ k = 2)) S T) := by
      intro U g3 hg3 cU hfU
      obtain ⟨g3, rfl, hg4⟩ := g1 (n := 10) (f := g3) (by omega)
      rw [E_X13_lay_3]; unfold F_X13_lay_3
      rw [hsn]
      exact rk g3 _ _ (by omega) ⟨by omega, rfl, _, cU, d1, d2, eT, hfU⟩
    have put : ∀ (g3 : Nat), g ≤ g3 + 1 → okC (byN v j) = true → zU (F_X13_lay g3 2 [.ref 186, .long v, .int (shf (j + 1)), .int (nI (byN v j))] T) (fun T => MTp T R ∧ Fr (fun x k => x = 187 ∨ (x = 186 ∧ k = 2)) S T) := by
      intro g3 hg3 hok
      obtain ⟨g3, rfl, hg4⟩ := g1 (n := 11) (f := g3) (by omega)
      rw [E_X13_lay_2]; unfold F_X13_lay_2
      rw [cT.1]
      by_cases c : t.length < 1000
      · have e1 : ad1 t (byN v j) = t ++ [byN v j] := if_pos ⟨hok, c⟩
        refine o_f (nI_ge (b := 1000) c (by omega)) ?_
        refine o_X rfl c ?_
        rw [(hR.fr hf).tape]
        refine o_s (fun T1 t1 => ?_)
        have l1 : gI T1 186 2 = nI t.length := by subst t1; rw [gI_sI, if_neg (by omega)]; exact cT.1
        rw [l1, nI_1]
        refine o_s (fun T2 t2 => ?_)
        refine nxt T2 g3 (by omega) ?_ ((hf.sI t1 (Or.inl rfl)).sI t2 (Or.inr ⟨rfl, rfl⟩))
        rw [e1]
        refine ⟨?_, fun k hk => ?_⟩
        · subst t2
          rw [gI_sI, if_pos ⟨rfl, rfl⟩, List.length_append, List.length_singleton]
        · rw [List.length_append, List.length_singleton] at hk
          rw [getD_app hk]
          subst t2 t1
          rw [gI_sI, if_neg (by omega), gI_sI]
          by_cases e : k = t.length
          · rw [if_pos ⟨rfl, e⟩, if_pos e]
          · rw [if_neg (by omega), if_neg e]
            exact cT.2 k (by omega)
      · have e1 : ad1 t (byN v j) = t := if_neg (fun h => c h.2)
        refine o_t (nI_le (a := 1000) (by omega) (by omega)) ?_
        exact nxt T g3 (by omega) (by rw [e1]; exact cT) hf
    have nop : ¬ okC (byN v j) = true → zU (F_X13_lay (g - 1) 3 [.ref 186, .long v, .int (shf (j + 1))] T) (fun T => MTp T R ∧ Fr (fun x k => x = 187 ∨ (x = 186 ∧ k = 2)) S T) := by
      intro hno
      have e1 : ad1 t (byN v j) = t := if_neg (fun h => hno h.1)
      exact nxt T (g - 1) (by omega) (by rw [e1]; exact cT) hf
    show zO (F_X13_lay g 1 _ _) _
    replace hg : 12 + 1 ≤ g := by omega
    obtain ⟨g, ge, hG⟩ := g1 hg; subst ge; clear hg; have hg := hG; clear hG; rw [E_X13_lay_1]; unfold F_X13_lay_1
    rw [Nat.add_sub_cancel] at nop
    refine o_f hs0 ?_
    have ey : (Int64.toInt32 (v >>> ((Int32.toInt64 (shf (j + 1))) &&& 63))) &&& (255 : Int32) = nI (byN v j) := (shf_AB (show j < 8 by omega)).trans eb
    rw [ey]
    refine o_lI ?_
    by_cases c10 : nI (byN v j) = (10 : Int32)
    · refine o_t c10 ?_
      exact put g (by omega) ((okC_w hb).mp (Or.inl c10))
    · refine o_f c10 ?_
      have c10' : ¬ byN v j = 10 := fun h => c10 (by rw [h]; rfl)
      refine o_if (fun c => ?_) (fun c => ?_)
      · rw [show (32 : Int32) = nI 32 from rfl, nI_ltI (by omega) (by omega)] at c
        exact nop (fun h => by have := of_decide_eq_true h; omega)
      · rw [show (32 : Int32) = nI 32 from rfl, nI_ltI (by omega) (by omega)] at c
        refine o_if (fun c2 => ?_) (fun c2 => ?_)
        · rw [show (126 : Int32) = nI 126 from rfl, nI_ltI (by omega) (by omega)] at c2
          exact nop (fun h => by have := of_decide_eq_true h; omega)
        · rw [show (126 : Int32) = nI 126 from rfl, nI_ltI (by omega) (by omega)] at c2
          exact put g (by omega) (decide_eq_true (by omega))
  · rintro _ T g ⟨hj, rfl, t, cT, tl, tc, eT, hf⟩ hg
    show zO (F_X13_lay g 1 _ _) _
    obtain ⟨g, ge, hG⟩ := g1 hg; subst ge; clear hg; have hg := hG; clear hG; rw [E_X13_lay_1]; unfold F_X13_lay_1
    refine o_t (by decide) (u_r ⟨?_, hf⟩)
    rw [eT]
    exact cT
def tpM (A : aA) (tp : List Nat) : aA := ((tp, nmA A), A.2)
theorem B_feed {a b c : Int64} (hg : 200 ≤ f) : Both n (fun S => F_X12_feed f 0 [.ref 0, .long a, .long b, .long c] S) (fun S => F_X13_feed f 0 [.ref 186, .long a, .long b, .long c] S) := by
  refine Both.of (fun S T A hC hM hA => ?_)
  obtain ⟨q, ⟨hX, hb0, hL, hF⟩, ⟨hH, hMk⟩, h6, h7, h8⟩ := id hC
  have hq := hX.2.2.2
  have mx := hM.x hA
  obtain ⟨i1, i2⟩ := adN_i (v := a) 8 hA.1.1 hA.1.2.1
  obtain ⟨j1, j2⟩ := adN_i (v := b) 8 i1 i2
  obtain ⟨k1, k2'⟩ := adN_i (v := c) 8 j1 j2
  refine ⟨nI (adN c (adN b (adN a (tpA A) 8) 8) 8).length, tpM A (adN c (adN b (adN a (tpA A) 8) 8) 8), ?_, ?_, ?_⟩
  · have h := hA.up (m := n + 1) (by omega)
    exact ⟨⟨k1, k2', h.1.2.2⟩, h.2⟩
  · show zI _ _
    obtain ⟨g, ge, hG⟩ := g1 hg; subst ge; clear hg; have hg := hG; clear hG; rw [E_X12_feed_0]; unfold F_X12_feed_0
    rw [hX.c0]
    refine o_V (T_X8_add hX h7 hA.1.1 hA.1.2.1 (by omega)) ?_
    rintro S1 ⟨c1, f1⟩
    have xx : ∀ U, Fr (fun x k => x = 2 ∨ (x = 1 ∧ k = 1)) S U → CX U q (plA A) := fun U hf => ⟨hX.1.fr hf, hX.cp.fr hf (fun x k a b c d e => by omega), hX.2.2⟩
    have x1 := xx S1 f1
    rw [x1.c0]
    refine o_V (T_X8_add x1 c1 i1 i2 (by omega)) ?_
    rintro S2 ⟨c2, f2⟩
    have f2 := f1.tr f2
    have x2 := xx S2 f2
    rw [x2.c0]
    refine o_V (T_X8_add x2 c2 j1 j2 (by omega)) ?_
    rintro S3 ⟨c3, f3⟩
    have f3 := f2.tr f3
    have x3 := xx S3 f3
    rw [x3.c0]
    refine i_r ⟨c3.1, ⟨q, ⟨x3, by rw [f3.R]; exact hb0, hL.fr f3 (fun x k a b d => by omega), hF.fg f3.g (fun k => ⟨by omega, by omega⟩)⟩, ⟨hH.fr f3 (fun x k a b d => by omega), hMk.fg f3.g (by omega) (fun x k a b d => by omega) (fun x a b => id)⟩, h6.fg f3.g (fun x k a b d => by omega) id, c3, fun i hi => ?_⟩, f3.g.mono (fun q k d => by omega) (fun q h => h.elim)⟩
    rw [f3.J]
    exact h8 i hi
  · show zI _ _
    obtain ⟨g, ge, hG⟩ := g1 hg; subst ge; clear hg; have hg := hG; clear hG; rw [E_X13_feed_0]; unfold F_X13_feed_0
    refine o_s (fun T1 e1 => ?_)
    have f1 := (Fr.refl (D := mJ) T).sI e1 (by unfold mJ; omega)
    have hM1 := hM.fg hA f1.g (fun x k d => Or.inl d) (fun x hx => hx.elim)
    obtain ⟨⟨h1, h2, h3, h4⟩, ⟨h5, h6⟩, h7, h8, ⟨h9, h10⟩, h11⟩ := hM1
    refine o_V (T_X13_lay h1.1 h8 hA.1.1 hA.1.2.1 (by omega)) ?_
    rintro T2 ⟨c2, f2⟩
    refine o_V (T_X13_lay (h1.1.fr f2) c2 i1 i2 (by omega)) ?_
    rintro T3 ⟨c3, f3⟩
    have f3 := f2.tr f3
    refine o_V (T_X13_lay (h1.1.fr f3) c3 j1 j2 (by omega)) ?_
    rintro T4 ⟨c4, f4⟩
    have ff := f3.tr f4
    refine i_r ⟨c4.1, ⟨⟨h1.fr ff (fun x k a b d => by omega), h2.fr ff (fun k a b d => by omega), h3.fg ff.g (fun k a b d => by omega), by rw [ff.2 _ _ (by omega)]; exact h4⟩, ⟨h5.fr hA.2.2.1.1 ff (by omega) (fun k a b d => by omega), h6.fg ff.g (fun k d => by omega) (fun k a b d => by omega)⟩, h7.fg ff.g (fun k d => by omega), c4, ⟨by rw [ff.2 _ _ (by omega)]; exact h9, fun i hi => ?_⟩, fun k hk => ?_⟩, (f1.g.mono (fun q k d => by unfold mJ at d; omega) (fun q h => h.elim)).tr (ff.g.mono (fun q k d => by omega) (fun q h => h.elim))⟩
    · rw [ff.J]; exact h10 i hi
    · rw [ff.J]; exact h11 k hk
end FE

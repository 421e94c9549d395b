/-! the reference reads a path: the copy that is being read -/
abbrev dPm : Nat → Nat → Prop := fun x k => (x = 186 ∧ (k = 7 ∨ k = 8 ∨ k = 13 ∨ k = 17 ∨ k = 18)) ∨ (x = 192 ∧ 70 ≤ k) ∨ ((x = 193 ∨ x = 194) ∧ 1100 ≤ k) ∨ x = 196
def MLr (S : aS) (x : Int32) (o : Option (List Int32)) (c : Nat) : Prop := (o = none ∧ x = -1) ∨ ∃ cs j, o = some cs ∧ x = nI j ∧ j + cs.length < c ∧ gI S 193 (1100 + (j + cs.length)) = 0 ∧ ∀ k, k < cs.length → crl (gI S 193 (1100 + (j + k))) (gI S 194 (1100 + (j + k))) (cs.getD k 0)
def MQo (S : aS) (Q : aQ) (c : Nat) : Prop := ((gI S 192 70 = nI (pY Q.1) ∧ gI S 192 71 = nI (pN Q.1) ∧ gI S 192 73 = nI (pPe Q.1) ∧ gI S 192 74 = nI (pDe Q.1)) ∧ (∀ i, i < pN Q.1 → gI S 192 (78 + 3 * i) = nI (pT Q.1 0 i) ∧ gI S 192 (78 + 3 * i + 1) = nI (pT Q.1 1 i) ∧ gI S 192 (78 + 3 * i + 2) = nI (pT Q.1 2 i)) ∧ ∀ k, k < 8 → gI S 192 (96 + k) = nI (pT Q.1 3 k) ∧ gI S 192 (104 + k) = if Q.2.2.2 k = true then nI (pT Q.1 4 k + 1) else 0) ∧ (MLr S (gI S 192 75) (pDr Q.1) c ∧ MLr S (gI S 192 76) (pTk Q.1) c ∧ gI S 186 13 = nI c) ∧ (gI S 186 17 = nI (pN Q.1) ∧ ∀ i, i < pN Q.1 → gJ S 196 i = lN (k37 (Q.2.1 i))) ∧ gI S 186 18 = nI (bs Q.2.2.1 6)
def MQw (S : aS) (P : aP) : Prop := (pW P = 0 ∧ gI S 192 72 = 1 ∧ gI S 192 112 = 0) ∨ (0 < pW P ∧ gI S 192 72 = nI (pW P) ∧ ∀ k, k < pW P → gI S 192 (112 + k) = nI (pT P 5 k))
def MQs (S : aS) (Q : aQ) (c : Nat) : Prop := MQo S Q c ∧ MQw S Q.1
section MP2
variable {S T U : aS} {f n k x N a b c : Nat} {tp : List Nat} {D : Nat → Nat → Prop} {R : Nat → Prop} {Q Q2 : aQ}
theorem MLr.g {x : Int32} {o : Option (List Int32)} {c2 : Nat} (h : MLr S x o c) (hc : c ≤ c2) (hA : ∀ x k, (x = 193 ∨ x = 194) → 1100 ≤ k → k < 1100 + c → gI T x k = gI S x k) : MLr T x o c2 := by
  rcases h with h | ⟨cs, j, h1, h2, h3, h4, h5⟩
  · exact Or.inl h
  · refine Or.inr ⟨cs, j, h1, h2, by omega, by rw [hA _ _ (by omega) (by omega) (by omega)]; exact h4, fun k hk => ?_⟩
    rw [hA _ _ (by omega) (by omega) (by omega), hA _ _ (by omega) (by omega) (by omega)]
    exact h5 k hk
/-- as it was, but for what is told anew -/
theorem MQo.up (h : MQo S Q c) (hA : ∀ x k, (x = 193 ∨ x = 194) → 1100 ≤ k → k < 1100 + c → gI T x k = gI S x k) (hL : gI T 192 75 = gI S 192 75 ∧ gI T 192 76 = gI S 192 76 ∧ gI T 186 13 = gI S 186 13) (hl : pDr Q2.1 = pDr Q.1 ∧ pTk Q2.1 = pTk Q.1) (h1 : gI T 192 70 = nI (pY Q2.1) ∧ gI T 192 71 = nI (pN Q2.1) ∧ gI T 192 73 = nI (pPe Q2.1) ∧ gI T 192 74 = nI (pDe Q2.1)) (h2 : ∀ i, i < pN Q2.1 → gI T 192 (78 + 3 * i) = nI (pT Q2.1 0 i) ∧ gI T 192 (78 + 3 * i + 1) = nI (pT Q2.1 1 i) ∧ gI T 192 (78 + 3 * i + 2) = nI (pT Q2.1 2 i)) (h3 : ∀ k, k < 8 → gI T 192 (96 + k) = nI (pT Q2.1 3 k) ∧ gI T 192 (104 + k) = if Q2.2.2.2 k = true then nI (pT Q2.1 4 k + 1) else 0) (h4 : gI T 186 17 = nI (pN Q2.1) ∧ ∀ i, i < pN Q2.1 → gJ T 196 i = lN (k37 (Q2.2.1 i))) (h5 : gI T 186 18 = nI (bs Q2.2.2.1 6)) : MQo T Q2 c := by
  obtain ⟨_, ⟨l1, l2, l3⟩, _⟩ := h
  refine ⟨⟨h1, h2, h3⟩, ⟨?_, ?_, by rw [hL.2.2]; exact l3⟩, h4, h5⟩
  · rw [hL.1, hl.1]; exact l1.g (Nat.le_refl _) hA
  · rw [hL.2.1, hl.2]; exact l2.g (Nat.le_refl _) hA
theorem MQo.g (h : MQo S Q c) (hf : Fg D R S T) (hD : ∀ x k, (x = 186 ∧ (k = 13 ∨ k = 17 ∨ k = 18)) ∨ (x = 192 ∧ ((70 ≤ k ∧ k ≤ 76 ∧ k ≠ 72) ∨ (78 ≤ k ∧ k < 78 + 3 * pN Q.1) ∨ (96 ≤ k ∧ k < 112))) ∨ ((x = 193 ∨ x = 194) ∧ 1100 ≤ k ∧ k < 1100 + c) ∨ (x = 196 ∧ k < pN Q.1) → ¬ D x k) : MQo T Q c := by
  have e : ∀ {x k : Nat}, (x = 186 ∧ (k = 13 ∨ k = 17 ∨ k = 18)) ∨ (x = 192 ∧ ((70 ≤ k ∧ k ≤ 76 ∧ k ≠ 72) ∨ (78 ≤ k ∧ k < 78 + 3 * pN Q.1) ∨ (96 ≤ k ∧ k < 112))) ∨ ((x = 193 ∨ x = 194) ∧ 1100 ≤ k ∧ k < 1100 + c) ∨ (x = 196 ∧ k < pN Q.1) → gI T x k = gI S x k := fun h => hf.I (hD _ _ h)
  obtain ⟨⟨a1, a2, a3⟩, _, a5, a6⟩ := id h
  refine h.up (fun x k a b c => e (by omega)) ⟨e (by omega), e (by omega), e (by omega)⟩ ⟨rfl, rfl⟩ ?_ (fun i hi => ?_) (fun k hk => ?_) ⟨?_, fun i hi => ?_⟩ ?_
  · rw [e (by omega), e (by omega), e (by omega), e (by omega)]; exact a1
  · rw [e (by omega), e (by omega), e (by omega)]; exact a2 i hi
  · rw [e (by omega), e (by omega)]; exact a3 k hk
  · rw [e (by omega)]; exact a5.1
  · rw [(hf.1 _ _ (hD _ _ (by omega))).2]; exact a5.2 i hi
  · rw [e (by omega)]; exact a6
theorem MQw.g {P : aP} (h : MQw S P) (hD : ∀ k, k = 72 ∨ (112 ≤ k ∧ k < 140) → gI T 192 k = gI S 192 k) (h12 : pW P ≤ 12) : MQw T P := by
  rcases h with ⟨h1, h2, h3⟩ | ⟨h1, h2, h3⟩
  · exact Or.inl ⟨h1, by rw [hD _ (by omega)]; exact h2, by rw [hD _ (by omega)]; exact h3⟩
  · exact Or.inr ⟨h1, by rw [hD _ (by omega)]; exact h2, fun k hk => by rw [hD _ (by omega)]; exact h3 k hk⟩
theorem MQs.g (h : MQs S Q c) (h12 : pW Q.1 ≤ 12) (hf : Fg D R S T) (hD : ∀ x k, (x = 186 ∧ (k = 13 ∨ k = 17 ∨ k = 18)) ∨ (x = 192 ∧ ((70 ≤ k ∧ k ≤ 76) ∨ (78 ≤ k ∧ k < 78 + 3 * pN Q.1) ∨ (96 ≤ k ∧ k < 140))) ∨ ((x = 193 ∨ x = 194) ∧ 1100 ≤ k ∧ k < 1100 + c) ∨ (x = 196 ∧ k < pN Q.1) → ¬ D x k) : MQs T Q c := ⟨h.1.g hf (fun x k h => hD x k (by omega)), h.2.g (fun k hk => hf.I (hD _ _ (by omega))) h12⟩
theorem MQs.f78 (h : MQs S Q c) (h12 : pW Q.1 ≤ 12) (hf : Fr d78 S T) : MQs T Q c := h.g h12 hf.g (fun x k h => by unfold d78; omega)
theorem MQs.bin {y v : Nat} (h : MQs S Q c) (h12 : pW Q.1 ≤ 12) (h6 : pN Q.1 ≤ 6) (hy : y < 8) (e : T = sI S 192 (96 + y) (nI v)) : MQs T (tQ Q 3 y v) c := by
  have o : ∀ {x k : Nat}, ¬ (x = 192 ∧ k = 96 + y) → gI T x k = gI S x k := fun h => by rw [e, gI_sI, if_neg h]
  obtain ⟨⟨a1, a2, a3⟩, _, a5, a6⟩ := id h.1
  refine ⟨h.1.up (fun x k a b c => o (by omega)) ⟨o (by omega), o (by omega), o (by omega)⟩ ⟨rfl, rfl⟩ ?_ (fun i hi => ?_) (fun k hk => ?_) ⟨?_, fun i hi => ?_⟩ ?_, ?_⟩
  · rw [o (by omega), o (by omega), o (by omega), o (by omega)]; exact a1
  · have hi' : i < pN Q.1 := hi
    show gI T 192 (78 + 3 * i) = nI (tS (pT Q.1) 3 y v 0 i) ∧ gI T 192 (78 + 3 * i + 1) = nI (tS (pT Q.1) 3 y v 1 i) ∧ gI T 192 (78 + 3 * i + 2) = nI (tS (pT Q.1) 3 y v 2 i)
    rw [o (by omega), o (by omega), o (by omega), tS_ne (by omega), tS_ne (by omega), tS_ne (by omega)]; exact a2 i hi
  · show gI T 192 (96 + k) = nI (tS (pT Q.1) 3 y v 3 k) ∧ gI T 192 (104 + k) = if Q.2.2.2 k = true then nI (tS (pT Q.1) 3 y v 4 k + 1) else 0
    rw [o (x := 192) (k := 104 + k) (by omega), tS_ne (x := 4) (by omega)]
    refine ⟨?_, (a3 k hk).2⟩
    by_cases ck : k = y
    · rw [ck, tS_eq, e, gI_sI, if_pos ⟨rfl, rfl⟩]
    · rw [tS_ne (by omega), o (by omega)]; exact (a3 k hk).1
  · rw [o (by omega)]; exact a5.1
  · rw [show gJ T 196 i = gJ S 196 i by rw [e]; rfl]; exact a5.2 i hi
  · rw [o (by omega)]; exact a6
  · have hw := h.2.g (T := T) (fun k hk => o (by omega)) h12
    rcases hw with hw | ⟨w1, w2, w3⟩
    · exact Or.inl hw
    · refine Or.inr ⟨w1, w2, fun k hk => ?_⟩
      show gI T 192 (112 + k) = nI (tS (pT Q.1) 3 y v 5 k)
      rw [tS_ne (by omega)]; exact w3 k hk
theorem MQs.hea {y v : Nat} (h : MQs S Q c) (h12 : pW Q.1 ≤ 12) (h6 : pN Q.1 ≤ 6) (hy : y < 8) (e : T = sI S 192 (104 + y) (nI (v + 1))) : MQs T (hQ Q y v) c := by
  have o : ∀ {x k : Nat}, ¬ (x = 192 ∧ k = 104 + y) → gI T x k = gI S x k := fun h => by rw [e, gI_sI, if_neg h]
  obtain ⟨⟨a1, a2, a3⟩, _, a5, a6⟩ := id h.1
  refine ⟨h.1.up (fun x k a b c => o (by omega)) ⟨o (by omega), o (by omega), o (by omega)⟩ ⟨rfl, rfl⟩ ?_ (fun i hi => ?_) (fun k hk => ?_) ⟨?_, fun i hi => ?_⟩ ?_, ?_⟩
  · rw [o (by omega), o (by omega), o (by omega), o (by omega)]; exact a1
  · have hi' : i < pN Q.1 := hi
    show gI T 192 (78 + 3 * i) = nI (tS (pT Q.1) 4 y v 0 i) ∧ gI T 192 (78 + 3 * i + 1) = nI (tS (pT Q.1) 4 y v 1 i) ∧ gI T 192 (78 + 3 * i + 2) = nI (tS (pT Q.1) 4 y v 2 i)
    rw [o (by omega), o (by omega), o (by omega), tS_ne (by omega), tS_ne (by omega), tS_ne (by omega)]; exact a2 i hi
  · show gI T 192 (96 + k) = nI (tS (pT Q.1) 4 y v 3 k) ∧ gI T 192 (104 + k) = if up1 Q.2.2.2 y true k = true then nI (tS (pT Q.1) 4 y v 4 k + 1) else 0
    rw [o (x := 192) (k := 96 + k) (by omega), tS_ne (x := 3) (by omega), up1_at]
    refine ⟨(a3 k hk).1, ?_⟩
    by_cases ck : k = y
    · rw [ck, tS_eq, e, gI_sI, if_pos ⟨rfl, rfl⟩, if_pos rfl, if_pos rfl]
    · rw [tS_ne (by omega), o (by omega), if_neg ck]; exact (a3 k hk).2
  · rw [o (by omega)]; exact a5.1
  · rw [show gJ T 196 i = gJ S 196 i by rw [e]; rfl]; exact a5.2 i hi
  · rw [o (by omega)]; exact a6
  · have hw := h.2.g (T := T) (fun k hk => o (by omega)) h12
    rcases hw with hw | ⟨w1, w2, w3⟩
    · exact Or.inl hw
    · refine Or.inr ⟨w1, w2, fun k hk => ?_⟩
      show gI T 192 (112 + k) = nI (tS (pT Q.1) 4 y v 5 k)
      rw [tS_ne (by omega)]; exact w3 k hk
/-- one number of the plan's own: 70 yards, 73 pence, 74 deposit -/
theorem MQs.one {j v : Nat} (h : MQs S Q c) (h12 : pW Q.1 ≤ 12) (h6 : pN Q.1 ≤ 6) (hj : j = 70 ∨ j = 73 ∨ j = 74) (e : T = sI S 192 j (nI v)) : MQs T (if j = 70 then yQ Q v else if j = 73 then cQ Q v else fQ Q v) c := by
  have o : ∀ {x k : Nat}, ¬ (x = 192 ∧ k = j) → gI T x k = gI S x k := fun h => by rw [e, gI_sI, if_neg h]
  have n1 : gI T 192 j = nI v := by rw [e, gI_sI, if_pos ⟨rfl, rfl⟩]
  obtain ⟨⟨a1, a2, a3⟩, _, a5, a6⟩ := id h.1
  have gen : ∀ Q2 : aQ, pT Q2.1 = pT Q.1 → pN Q2.1 = pN Q.1 → pW Q2.1 = pW Q.1 → Q2.2 = Q.2 → pDr Q2.1 = pDr Q.1 ∧ pTk Q2.1 = pTk Q.1 → (gI T 192 70 = nI (pY Q2.1) ∧ gI T 192 73 = nI (pPe Q2.1) ∧ gI T 192 74 = nI (pDe Q2.1)) → MQs T Q2 c := by
    intro Q2 e1 e2 e3 e4 e5 e6
    refine ⟨h.1.up (fun x k a b c => o (by omega)) ⟨o (by omega), o (by omega), o (by omega)⟩ e5 ⟨e6.1, ?_, e6.2.1, e6.2.2⟩ (fun i hi => ?_) (fun k hk => ?_) ⟨?_, fun i hi => ?_⟩ ?_, ?_⟩
    · rw [o (by omega), e2]; exact a1.2.1
    · rw [e2] at hi
      rw [o (by omega), o (by omega), o (by omega), e1]; exact a2 i hi
    · rw [o (by omega), o (by omega), e1, e4]; exact a3 k hk
    · rw [o (by omega), e2]; exact a5.1
    · rw [e2] at hi
      rw [show gJ T 196 i = gJ S 196 i by rw [e]; rfl, e4]; exact a5.2 i hi
    · rw [o (by omega), e4]; exact a6
    · have hw := h.2.g (T := T) (fun k hk => o (by omega)) h12
      unfold MQw at hw ⊢
      rw [e3, e1]; exact hw
  rcases hj with rfl | rfl | rfl
  · rw [if_pos rfl]
    exact gen _ rfl rfl rfl rfl ⟨rfl, rfl⟩ ⟨n1, by rw [o (by omega)]; exact a1.2.2.1, by rw [o (by omega)]; exact a1.2.2.2⟩
  · rw [if_neg (by decide), if_pos rfl]
    exact gen _ rfl rfl rfl rfl ⟨rfl, rfl⟩ ⟨by rw [o (by omega)]; exact a1.1, n1, by rw [o (by omega)]; exact a1.2.2.2⟩
  · rw [if_neg (by decide), if_neg (by decide)]
    exact gen _ rfl rfl rfl rfl ⟨rfl, rfl⟩ ⟨by rw [o (by omega)]; exact a1.1, by rw [o (by omega)]; exact a1.2.2.1, n1⟩
theorem MQs.onc {k : Nat} (h : MQs S Q c) (h12 : pW Q.1 ≤ 12) (hk : k < 6) (e : T = sI S 186 18 (nI (bs Q.2.2.1 6) ||| nI (2 ^ k))) : MQs T (oQ Q k) c := by
  have o : ∀ {x j : Nat}, ¬ (x = 186 ∧ j = 18) → gI T x j = gI S x j := fun h => by rw [e, gI_sI, if_neg h]
  obtain ⟨⟨a1, a2, a3⟩, _, a5, a6⟩ := id h.1
  refine ⟨h.1.up (fun x k a b c => o (by omega)) ⟨o (by omega), o (by omega), o (by omega)⟩ ⟨rfl, rfl⟩ ?_ (fun i hi => ?_) (fun k hk => ?_) ⟨?_, fun i hi => ?_⟩ ?_, ?_⟩
  · rw [o (by omega), o (by omega), o (by omega), o (by omega)]; exact a1
  · rw [o (by omega), o (by omega), o (by omega)]; exact a2 i hi
  · rw [o (by omega), o (by omega)]; exact a3 k hk
  · rw [o (by omega)]; exact a5.1
  · rw [show gJ T 196 i = gJ S 196 i by rw [e]; rfl]; exact a5.2 i hi
  · show gI T 186 18 = nI (bs (up1 Q.2.2.1 k true) 6)
    rw [e, gI_sI, if_pos ⟨rfl, rfl⟩, nI_or, bs_set hk]
  · exact h.2.g (T := T) (fun k hk => o (by omega)) h12
theorem once_t {g : Nat → Bool} {k : Nat} (hk : k < 6) : ((nI (bs g 6) >>> (nI k &&& 31)) &&& (1 : Int32)) = (1 : Int32) ↔ g k = true := by
  have hb := bs_lt g 6
  have hd := co_dec (N := 384) (P := fun m => ((nI (m / 6) >>> (nI (m % 6) &&& 31)) &&& (1 : Int32)) = (1 : Int32) ↔ (m / 6).testBit (m % 6) = true) (by decide +kernel) (show bs g 6 * 6 + k < 384 by omega)
  rw [show (bs g 6 * 6 + k) / 6 = bs g 6 by omega, show (bs g 6 * 6 + k) % 6 = k by omega, bs_tb] at hd
  rw [hd]
  simp [hk]
end MP2

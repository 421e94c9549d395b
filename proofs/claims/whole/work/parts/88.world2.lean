/-! the world at the law's entry -/
section WLD
variable {s : State} {b : Nat}
theorem all_31 {P : Nat → Cond} {L : List Cond} (h : (List.range 31).all (fun i => decide (P i ∈ L)) = true) (i : Nat) (hi : i < 31) : P i ∈ L := of_decide_eq_true (List.all_eq_true.mp h i (List.mem_range.mpr hi))
theorem wOF_inj {o n d : String} {v w : Value} {t : Nat} {A : Nat → Prop} {U : State} {H : Heap} (h1 : va_OF o n d v t A U H) (h2 : va_OF o n d w t A U H) : v = w := by
  obtain ⟨cf, k, i, f, cell, a1, a2, a3, a4, a5, a6⟩ := h1
  obtain ⟨cf', k', i', f', cell', b1, b2, b3, b4, b5, b6⟩ := h2
  cases a1.symm.trans b1
  cases a3.symm.trans b3
  exact Option.some.inj (a5.symm.trans b5)
theorem K_cls (hts : ∀ w ∈ ztb, w.before #[Value.ref b] s = true) (hin : (Cond.instantiable RNS 6).before #[Value.ref b] s = true) : ∀ c : Nat, ∃ p : ClassId × (Nat → Nat), ∀ q : vw_C, zcl[c]? = some q → u_Kn s q.1 q.2.1 q.2.2 p.1 p.2 := by
  have mk : ∀ (C : String) (T : u_T) (N n : Nat), (∀ w ∈ u_ws C T N, w ∈ ztb) → (Cond.instantiable C n).before #[Value.ref b] s = true → ∃ p : ClassId × (Nat → Nat), ∀ q : vw_C, some (C, T, N) = some q → u_Kn s q.1 q.2.1 q.2.2 p.1 p.2 := by
    intro C T N n h1 h2
    obtain ⟨cC, iS, h⟩ := u_known hts h1 h2
    exact ⟨(cC, iS), fun q hq => by cases hq; exact h⟩
  intro c
  rcases (show c = 0 ∨ c = 1 ∨ c = 2 ∨ c = 3 ∨ c = 4 ∨ c = 5 ∨ c = 6 ∨ c = 7 ∨ c = 8 ∨ c = 9 ∨ c = 10 ∨ c = 11 ∨ c = 12 ∨ 13 ≤ c by omega) with rfl | rfl | rfl | rfl | rfl | rfl | rfl | rfl | rfl | rfl | rfl | rfl | rfl | hc
  · exact mk _ _ _ _ wsRX1 (hts _ in0)
  · exact mk _ _ _ _ wsRX2 (hts _ in1)
  · exact mk _ _ _ _ wsRX3 (hts _ in2)
  · exact mk _ _ _ _ wsRX4 (hts _ in3)
  · exact mk _ _ _ _ wsRX5 (hts _ in4)
  · exact mk _ _ _ _ wsRX6 (hts _ in5)
  · exact mk _ _ _ _ wsRX7 (hts _ in6)
  · exact mk _ _ _ _ wsRX8 (hts _ in7)
  · exact mk _ _ _ _ wsRX9 (hts _ in8)
  · exact mk _ _ _ _ wsRX10 (hts _ in9)
  · exact mk _ _ _ _ wsRX12 (hts _ in10)
  · exact mk _ _ _ _ wsRX13 (hts _ in11)
  · exact mk _ _ _ _ (fun w hw => absurd hw (by simp [u_ws])) hin
  · exact ⟨(0, fun _ => 0), fun q hq => by
      have := (List.getElem?_eq_some_iff.mp hq).1
      have e : zcl.length = 13 := rfl
      omega⟩
theorem K_arr (hts : ∀ w ∈ ztb, w.before #[Value.ref b] s = true) (hta : ∀ w ∈ tables_1, w.before #[Value.ref b] s = true) : ∃ t : Nat → ClassId, ∀ (G : zG), G.2.1 = t → ∀ (k : Nat) (q : ClassId × FieldType), (ztys G)[k]? = some q → ArrOfT s q.1 q.2 ∧ va_RA s q.1 q.2 := by
  obtain ⟨c0, k0, m0, a0, b0, d0⟩ := Cond.arrayClass_spec (hts _ ac0)
  obtain ⟨c1, k1, m1, a1, b1, d1⟩ := Cond.arrayClass_spec (hts _ ac1)
  obtain ⟨c2, k2, m2, a2, b2, d2⟩ := Cond.arrayClass_spec (hts _ ac2)
  obtain ⟨c3, k3, m3, a3, b3, d3⟩ := Cond.arrayClass_spec (hts _ ac3)
  obtain ⟨m4, c4, k4, a4, _, b4, d4, e4⟩ := Cond.arrayOver_spec (hta _ ao4)
  obtain ⟨m5, c5, k5, a5, _, b5, d5, e5⟩ := Cond.arrayOver_spec (hta _ ao5)
  obtain ⟨m6, c6, k6, a6, b6, d6, e6⟩ := Cond.arrayOver_specA (hta _ tb_aa)
  have ar : ∀ (c : ClassId) (k : Class) (m : ClassId) (ty : FieldType), s.vm.classes[c]? = some k → k.kind = .array m ty → ArrOfT s c ty := fun c k m ty h1 h2 n z => ⟨fun k h => (by cases h), k, h1, m, h2⟩
  refine ⟨fun k => [c0, c1, c2, c3, c4, c5, c6].getD k c0, fun G hG k q hq => ?_⟩
  have e : ztys G = [(c0, .int), (c1, .long), (c2, .char), (c3, .boolean), (c4, .object "LakeBins$Lake"), (c5, .object "LakeBins$Found"), (c6, .array .int)] := by
    show [(G.2.1 0, _), (G.2.1 1, _), (G.2.1 2, _), (G.2.1 3, _), (G.2.1 4, _), (G.2.1 5, _), (G.2.1 6, _)] = _
    rw [hG]; rfl
  rw [e] at hq
  rcases (show k = 0 ∨ k = 1 ∨ k = 2 ∨ k = 3 ∨ k = 4 ∨ k = 5 ∨ k = 6 ∨ 7 ≤ k by omega) with rfl | rfl | rfl | rfl | rfl | rfl | rfl | hk
  · cases hq; exact ⟨ar _ _ _ _ b0 d0, a0⟩
  · cases hq; exact ⟨ar _ _ _ _ b1 d1, a1⟩
  · cases hq; exact ⟨ar _ _ _ _ b2 d2, a2⟩
  · cases hq; exact ⟨ar _ _ _ _ b3 d3, a3⟩
  · cases hq; exact ⟨ar _ _ _ _ b4 d4, k4, m4, b4, d4, a4, e4⟩
  · cases hq; exact ⟨ar _ _ _ _ b5 d5, k5, m5, b5, d5, a5, e5⟩
  · cases hq; exact ⟨ar _ _ _ _ b6 d6, e6⟩
  · have := (List.getElem?_eq_some_iff.mp hq).1
    simp at this
    omega
theorem K_cst (hta : ∀ w ∈ tables_1, w.before #[Value.ref b] s = true) (hfl : ∀ w ∈ fl1, w.before #[Value.ref b] s = true) : ∃ ad : Nat → Nat, ∀ G : zG, zB G = s.heap.size → zN G = s.heap → (∀ i, i < 33 → zC G i = ad i) → zSs G s := by
  obtain ⟨A, eA⟩ : ∃ A : Nat → Prop, A = fun q => s.heap.size ≤ q := ⟨_, rfl⟩
  have hA : ∀ a : Nat, a < s.heap.size → ¬ A a := fun a h h2 => by rw [eA] at h2; exact absurd h (Nat.not_lt.mpr h2)
  have h0 : ∀ i : Nat, ∃ t : Nat, i < 31 → (wT i).eval #[Value.ref b] s none [] s = some (.ref t) ∧ va_O "LakeBins$Word" t A s s.heap := by
    intro i
    by_cases hi : i < 31
    · have hex := hfl _ (all_31 fl_ex i hi)
      obtain ⟨a, c, cell, k, q1, q2, q3, q4, q5, q6, -⟩ := Cond.exactly_spec hex
      exact ⟨a, fun _ => ⟨q1, va_Oof hex q1 hA⟩⟩
    · exact ⟨0, fun h => absurd h hi⟩
  obtain ⟨ad, had⟩ := Classical.axiomOfChoice h0
  obtain ⟨tW, eW, hW⟩ := va_Tof (args := #[Value.ref b]) (s := s) (N := 31) (f := fun j => .ref (ad j)) (A := A) (by omega) (hfl _ fl_w1) (va_eqv (hfl _ fl_w2) rfl) (fun j hj => va_eqv (hfl _ (all_31 fl_el j hj)) (had j hj).1) hA
  obtain ⟨tM, eM, hM⟩ := va_Tof (args := #[Value.ref b]) (s := s) (N := 31) (f := fun j => .int (zsw j)) (A := A) (by omega) (hfl _ fl_m1) (va_eqv (hfl _ fl_m2) rfl) (fun j hj => va_eqv (hfl _ (all_31 fl_sw j hj)) rfl) hA
  have hini := hta _ tb_iw
  have or : ∀ i, i < 31 → va_OF "java/lang/Enum" "ordinal" "I" (.int (nI i)) (ad i) A s s.heap := fun i hi => vk_OFof (had i hi).1 (va_eqv (hfl _ (all_31 fl_or i hi)) rfl) hA
  refine ⟨fun i => if i = 31 then tW else if i = 32 then tM else ad i, fun G hB hN hC => ?_⟩
  have hC : ∀ i, i < 33 → zC G i = (if i = 31 then tW else if i = 32 then tM else ad i) := hC
  have eG : zA G = A := by rw [eA]; unfold zA; rw [hB]
  have c1 : ∀ i, i < 31 → zC G i = ad i := fun i hi => by rw [hC i (by omega), if_neg (by omega), if_neg (by omega)]
  have c31 : zC G 31 = tW := by rw [hC 31 (by omega), if_pos rfl]
  have c32 : zC G 32 = tM := by rw [hC 32 (by omega), if_neg (by omega), if_pos rfl]
  unfold zSs zS
  rw [eG, hN, c31, c32]
  refine ⟨fun i hi => ?_, fun i j hi hj e => ?_, va_Zof (hta _ tb_lw) hini eW hA, ?_, va_Zof (hta _ tb_lm) (hta _ tb_im) eM hA, hM⟩
  · rw [c1 i hi]
    exact ⟨va_Zof (hta _ (all_31 tb_la i hi)) hini (had i hi).1 hA, (had i hi).2, vk_OFof (had i hi).1 (va_eqv (hfl _ (all_31 fl_ke i hi)) rfl) hA, vk_OFof (had i hi).1 (va_eqv (hfl _ (all_31 fl_va i hi)) rfl) hA, vk_OFof (had i hi).1 (va_eqv (hfl _ (all_31 fl_ma i hi)) rfl) hA, or i hi⟩
  · rw [c1 i hi, c1 j hj] at e
    have h1 := or i hi
    rw [e] at h1
    have h2 := Value.int.inj (wOF_inj h1 (or j hj))
    exact (nI_eq (by omega) (by omega)).mp h2
  · obtain ⟨cell, h1, h2, h3, h4, h5, h6, h7⟩ := hW
    exact ⟨cell, h1, h2, h3, h4, h5, fun j hj => by show cell.slots[j]? = some (Value.ref (zC G j)); rw [c1 j hj]; exact h6 j hj, h7⟩
theorem zK_ex (hts : ∀ w ∈ lw_tbl, w.before #[Value.ref b] s = true) (hgv : (Jvm.Cond.and given_1 narrow_1).before #[Value.ref b] s = true) : ∃ (D : va_G) (t : Nat → ClassId) (ad : Nat → Nat), ∀ z, zK (D, t, s.heap.size, s.heap, fun i => if i = 40 then z else ad i) s := by
  have hta : ∀ w ∈ tables_1, w.before #[Value.ref b] s = true := fun w hw => hts w (List.mem_append_right _ hw)
  have htz : ∀ w ∈ ztb, w.before #[Value.ref b] s = true := fun w hw => hts w (List.mem_filter.mp hw).1
  obtain ⟨D, hD⟩ := Classical.axiomOfChoice (K_cls htz (hta _ tb_in))
  obtain ⟨t, ht⟩ := K_arr htz hta
  obtain ⟨ad, had⟩ := K_cst hta (flat_of_before _ hgv)
  refine ⟨(fun c => (D c).1, fun c => (D c).2), t, ad, fun z => ⟨⟨fun c q hq => hD c q hq, ht _ rfl⟩, fun a i x b' h => va_Nw.of rfl (hta _ h), had _ rfl rfl (fun i hi => if_neg (by omega))⟩⟩
theorem zE_ex (hts : ∀ w ∈ lw_tbl, w.before #[Value.ref b] s = true) {G : zG} (h0 : zC G 40 = 0) : zE G s := by
  have hta : ∀ w ∈ tables_1, w.before #[Value.ref b] s = true := fun w hw => hts w (List.mem_append_right _ hw)
  exact ⟨h0, va_AO.of (hta _ ao4), va_AO.of (hta _ ao5), hta _ tb_aa⟩
theorem zE2_ex (hts : ∀ w ∈ lw_tbl, w.before #[Value.ref b] s = true) (hgv : (Jvm.Cond.and given_1 narrow_1).before #[Value.ref b] s = true) {G : zG} (h0 : zC G 40 ≠ 0) (hB : zB G = s.heap.size) (hN : zN G = s.heap) : zE2 G s := by
  have hta : ∀ w ∈ tables_1, w.before #[Value.ref b] s = true := fun w hw => hts w (List.mem_append_right _ hw)
  have hfl : ∀ w ∈ fl1, w.before #[Value.ref b] s = true := flat_of_before _ hgv
  have hA : ∀ a : Nat, a < s.heap.size → ¬ zA G a := fun a h h2 => by
    have h3 : zB G ≤ a := h2
    rw [hB] at h3; exact absurd h (Nat.not_lt.mpr h3)
  refine ⟨⟨h0, fun w hw => va_Nw.of (zBad_ot w hw) (hts _ (tb_bad w hw))⟩, va_Nw.of rfl (hta _ tb_ca), ?_, ?_⟩
  · rw [hN]; exact vx_Zqof (hta _ tb_l1) (hta _ tb_it) (hfl _ fl_t1) hA
  · rw [hN]; exact vx_Zqof (hta _ tb_l2) (hta _ tb_it) (hfl _ fl_t2) hA
end WLD

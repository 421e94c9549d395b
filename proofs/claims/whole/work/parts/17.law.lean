/-! the law's loop -/
section ZLW
variable {G : zG} {X : zX} {Q : State → Prop} {nL : Nat} {lv : zLv} {st : List Value} {kd : kD} {N0 : Nat} {S : aS} {pc k n d mc ms : Nat} {own : String} {cc : ByteArray} {h : zH} {b L : Nat} {xs : Nat → Int32}
theorem z_slen (C : zCt G X d mc ms own cc nL) (hX : va_X b L xs (zXs X) (zN G)) (hb : b < zB G) (hd : decode cc pc = .ok (.arraylength, 1)) (kk : zV G X Q nL lv (.int (Int32.ofNat L) :: st) h (pc + 1) k n) : zV G X Q nL lv (.ref b :: st) h pc k n := by
  intro H locs ls hW hL hl
  obtain ⟨scr, h1, h2, h3, h4, h5⟩ := hX
  exact W.alen (n := Int32.ofNat L) C.1 C.2.1 (by rw [hW.2.2 b hb]; exact h1) h2 (by rw [h4] <;> rfl) rfl rfl hd (kk H locs ls hW hL hl)
theorem z_sld (C : zCt G X d mc ms own cc nL) (hX : va_X b L xs (zXs X) (zN G)) (hb : b < zB G) {i : Int32} (hd : decode cc pc = .ok (.iaload, 1)) (hin : vp_in i L) (kk : zV G X Q nL lv (.int (xs i.toNatClampNeg) :: st) h (pc + 1) k n) : zV G X Q nL lv (.int i :: .ref b :: st) h pc k n := by
  intro H locs ls hW hL hl
  obtain ⟨scr, h1, h2, h3, h4, h5⟩ := hX
  have hlt : i.toNatClampNeg < L := Nat.not_le.mp fun q => hin (Or.inr q)
  exact W.iald (v := .int (xs i.toNatClampNeg)) C.1 C.2.1 (by rw [hW.2.2 b hb]; exact h1) h2 h3 (by rw [h4]; exact hin) (h5 _ hlt) rfl rfl hd (kk H locs ls hW hL hl)
section ZFCK
variable {y : MethodName} {cy : ByteArray} {maxL na d2 i p ci : Nat} {ret : Option FieldType} {As rest st2 : List Value} {T0 : u_T} {M0 : Nat} {res : Option Value × aS}
theorem g_cV (C : zCt G X d mc ms own cc nL) (hkn : k ≤ mc ∧ n ≤ ms) (hd : decode cc pc = .ok (.invokevirtual i, 3)) (hy : zY y cy maxL ret na) (hv : zYv y) (hlink : Cond.methodLink own i y ∈ ztb) (hM : zM G (zXl X) d2 0 0 y cy maxL ret (.ref (zB G + p) :: As) (cn G kd N0 S) (zPo G kd N0 res)) (hp : p < N0) (hk : kd p = .inl ci) (hc : zcl[ci]? = some (y.cls, T0, M0)) (hd2 : d2 < d) (hn : As.length = na) (hst : As.reverse ++ .ref (zB G + p) :: rest = st) (hw : (rest.map fun v => v.category).sum ≤ 8) (hrs : res.1.toList ++ rest = st2) (kk : zT0 kd N0 res.2 → zV G X Q nL lv st2 (cn G kd N0 res.2) (pc + 3) k n) : zV G X Q nL lv st (cn G kd N0 S) pc k n := z_callV C hd hy hv hlink hM (cn_obj hp hk) hc hd2 hn hst hw hkn (fun r h2 hP => by obtain ⟨rfl, rfl, hT⟩ := hP; rw [hrs]; exact kk hT)
end ZFCK
end ZLW
def F_L_rests (f : Nat) (_ : Nat) (vs : List Value) (S : aS) : aR := match F_X12_rests f 0 [.ref (vR vs 0), .int (vI vs 1), .int (vI vs 2), .int (vI vs 3)] S with
  | some (some (.int x), S1) => some (some (.int 0), sJ S1 (vR vs 4) 0 x.toInt64)
  | some (none, S1) => some (some (.int 1), S1)
  | _ => none

theorem g_cL {G : zG} {X : zX} {Q : State → Prop} {lv : zLv} {kd : kD} {N0 : Nat} {S S1 : aS} {pc k n d mc ms v0 p4 f : Nat} {cc : ByteArray} {nL : Nat} {v1 v2 v3 x : Int32} {rest st2 : List Value} (C : zCt G X d mc ms RL cc nL) (hE2 : zE2 G (zXs X)) (hst : (zXl X).stackTraces = false) (hkn : k + 1 ≤ mc ∧ n + 6 ≤ ms) (hd : decode cc pc = .ok (.invokestatic 159, 3)) (hT : zT0 kd N0 S) (hp0 : v0 < N0) (hk0 : kd v0 = .inl 10) (hp4 : p4 < N0) (hk4 : kd p4 = .inr (1, 1)) (hF : F_L_rests f 0 [.ref v0, .int v1, .int v2, .int v3, .ref p4] S = some (some (.int x), S1)) (hw : (rest.map fun v => v.category).sum ≤ 8) (hrs : .int x :: rest = st2) (kk : zT0 kd N0 S1 → zV G X Q nL lv st2 (cn G kd N0 S1) (pc + 3) (k + 1) (n + 6)) (hd8 : 8 < d := by decide) : zV G X Q nL lv (.ref (zB G + p4) :: .int v3 :: .int v2 :: .int v1 :: .ref (zB G + v0) :: rest) (cn G kd N0 S) pc k n := by
  intro H locs ls hW hL hl
  have hts := C.2.2.2.2.1
  have hR := C.2.2.2.2.2.2.2.2
  unfold F_L_rests at hF
  obtain ⟨res, hres, hF2⟩ : ∃ res, F_X12_rests f 0 [.ref v0, .int v1, .int v2, .int v3] S = some res ∧ ((∃ y, res.1 = some (.int y) ∧ x = 0 ∧ S1 = sJ res.2 p4 0 y.toInt64) ∨ (res.1 = none ∧ x = 1 ∧ S1 = res.2)) := by
    have e : (F_X12_rests f 0 [.ref (vR [Value.ref v0, .int v1, .int v2, .int v3, .ref p4] 0), .int (vI [Value.ref v0, .int v1, .int v2, .int v3, .ref p4] 1), .int (vI [Value.ref v0, .int v1, .int v2, .int v3, .ref p4] 2), .int (vI [Value.ref v0, .int v1, .int v2, .int v3, .ref p4] 3)] S) = F_X12_rests f 0 [.ref v0, .int v1, .int v2, .int v3] S := rfl
    rw [e] at hF
    split at hF
    · rename_i y S2 he
      simp only [Option.some.injEq, Prod.mk.injEq, Value.int.injEq] at hF
      exact ⟨_, he, Or.inl ⟨y, rfl, hF.1.symm, hF.2.symm⟩⟩
    · rename_i S2 he
      simp only [Option.some.injEq, Prod.mk.injEq, Value.int.injEq] at hF
      exact ⟨_, he, Or.inr ⟨rfl, hF.1.symm, hF.2.symm⟩⟩
    · cases hF
  have hM := K_L_rests (G := G) (l := zXl X) hst hT hp0 hk0 hp4 hk4 (by rcases hF2 with ⟨y, h, -⟩ | ⟨h, -⟩; exact Or.inr ⟨y, h⟩; exact Or.inl h) hres
  have hG : GoodIn ztb (.codeWith yL_rests cL_rests 6 (some .int) [(0, 12, 15, 13)] :: ztb) := fun w hw => by
    rcases List.mem_cons.mp hw with rfl | hw
    · exact ⟨cwL, ztb_good _ cwL⟩
    · exact ⟨hw, ztb_good _ hw⟩
  refine z_run (mc2 := 1) (ms2 := 6) (vx_runSW (hh := [(0, 12, 15, 13)]) (As := [.ref (zB G + v0), .int v1, .int v2, .int v3, .ref (zB G + p4)]) (rest := rest) ⟨C.1, C.2.1, C.2.2.1, C.2.2.2.1, hts⟩ hM ⟨⟨rfl, rfl, by show 8 + 1 ≤ _; have := hR.1; omega, by have := hR.2.1; show 8 + (6 + 11) + 64 * 8 ≤ _; omega, pay_in hts hG, List.mem_cons_self⟩, hts _ cwL, hts _ iniL, ⟨by decide, by decide⟩, fun sig h => ?_, hts _ lkL159, hts _ stL⟩ ⟨zPx.blind, fun U hU hWm => ⟨rfl, by rw [hU]; exact hW, C.2.2.2.2.2.1.warm hWm, hE2.warm hWm⟩⟩ rfl rfl hl.1 rfl (lv_room hw) hd ⟨Nat.le_trans hkn.1 hR.2.2.1, Nat.le_trans hkn.2 hR.2.2.2⟩) hL hl (fun r h2 hP => ?_)
  · have h2 : (parseMethodDescriptor yL_rests.desc).map (fun d => d.parameters.length) = some 5 := by decide +kernel
    rw [h] at h2
    exact (Option.some.inj h2).symm
  · rcases hP with ⟨y, e1, rfl, rfl, hT2⟩ | ⟨e1, rfl, rfl, hT2⟩
    · rcases hF2 with ⟨y2, e2, rfl, rfl⟩ | ⟨e2, -, -⟩
      · rw [e1] at e2
        cases e2
        rw [← hrs] at kk
        exact kk hT2
      · rw [e1] at e2; cases e2
    · rcases hF2 with ⟨y2, e2, -, -⟩ | ⟨e2, rfl, rfl⟩
      · rw [e1] at e2; cases e2
      · rw [← hrs] at kk
        exact kk hT2
theorem zl_ret {G : zG} {p : Program} {l : Launch} {e : Env} {s : State} {m : MethodId} {below : List Frame} {meth : Method} {c : Code} {b : Nat} {lv : zLv} {h : zH} {pc k n : Nat} (hbs : s.heap.size = zB G) (hlocks : meth.locks = false) (hb9 : c.code = code) (hx9 : p.tables.exec = Jvm.exec) (hr9 : meth.sig.returnType = ret) (hkn : k ≤ 601024 ∧ n ≤ 7293034) (hd : decode code pc = .ok (.ireturn, 1)) : zV G ((p, l, e, room_1, s, m, #[Value.ref b], below, meth, c) : zX) (lw_Z below #[Value.ref b] s) 7 lv [.int 1] h pc k n := fun H locs ls hW hL hl => va_forget (fun q hq => by rw [hbs]; exact hL q hq) (W.widen hkn.1 hkn.2 (lw_ret hx9 hb9 hr9 hlocks hd))
def F_L_law_0 (xs : Nat → Int32) (L : Nat) (f : Nat) (rc : Nat → List Value → aS → aR) (v1 : Nat) (v2 : Nat) (v3 : Nat) (v4 : Int32) (S : aS) : aR :=
  if ((Int32.ofNat L) - (7 : Int32)) < v4 then some (some (.int 1), S) else bX v4 L fun q2 => if ((xs q2) &&& (63 : Int32)) = 0 then bX (v4 + (1 : Int32)) L fun q4 => bX (v4 + (2 : Int32)) L fun q5 => bX (v4 + (3 : Int32)) L fun q6 => bX (v4 + (4 : Int32)) L fun q7 => bX (v4 + (5 : Int32)) L fun q8 => bX (v4 + (6 : Int32)) L fun q9 => bI (F_X12_feed f 0 [.ref v1, .long (((Int32.toInt64 (xs q4)) <<< ((Int32.toInt64 (32 : Int32)) &&& 63)) ||| ((Int32.toInt64 (xs q5)) &&& (4294967295 : Int64))), .long (((Int32.toInt64 (xs q6)) <<< ((Int32.toInt64 (32 : Int32)) &&& 63)) ||| ((Int32.toInt64 (xs q7)) &&& (4294967295 : Int64))), .long (((Int32.toInt64 (xs q8)) <<< ((Int32.toInt64 (32 : Int32)) &&& 63)) ||| ((Int32.toInt64 (xs q9)) &&& (4294967295 : Int64)))] S) fun x10 S10 => bX (v4 + (1 : Int32)) L fun q11 => bX (v4 + (2 : Int32)) L fun q12 => bX (v4 + (3 : Int32)) L fun q13 => bX (v4 + (4 : Int32)) L fun q14 => bX (v4 + (5 : Int32)) L fun q15 => bX (v4 + (6 : Int32)) L fun q16 => bI (F_X13_feed f 0 [.ref v2, .long (((Int32.toInt64 (xs q11)) <<< ((Int32.toInt64 (32 : Int32)) &&& 63)) ||| ((Int32.toInt64 (xs q12)) &&& (4294967295 : Int64))), .long (((Int32.toInt64 (xs q13)) <<< ((Int32.toInt64 (32 : Int32)) &&& 63)) ||| ((Int32.toInt64 (xs q14)) &&& (4294967295 : Int64))), .long (((Int32.toInt64 (xs q15)) <<< ((Int32.toInt64 (32 : Int32)) &&& 63)) ||| ((Int32.toInt64 (xs q16)) &&& (4294967295 : Int64)))] S10) fun x17 S17 => if x10 = x17 then rc 1 [.ref v1, .ref v2, .ref v3, .int v4] S17 else some (some (.int 0), S17) else if ((xs q2) &&& (63 : Int32)) = 1 then bI (F_X12_path f 0 [.ref v1] S) fun x20 S20 => bI (F_X13_path f 0 [.ref v2] S20) fun x21 S21 => if x20 = x21 then rc 1 [.ref v1, .ref v2, .ref v3, .int v4] S21 else some (some (.int 0), S21) else if ((xs q2) &&& (63 : Int32)) = 2 then bI (F_X12_day f 0 [.ref v1] S) fun x24 S24 => bI (F_X13_day f 0 [.ref v2] S24) fun x25 S25 => if x24 = x25 then rc 1 [.ref v1, .ref v2, .ref v3, .int v4] S25 else some (some (.int 0), S25) else if ((xs q2) &&& (63 : Int32)) = 3 then bX (v4 + (1 : Int32)) L fun q28 => bX (v4 + (2 : Int32)) L fun q29 => bI (F_X12_yard f 0 [.ref v1, .int (xs q28), .int (xs q29)] S) fun x30 S30 => bX (v4 + (1 : Int32)) L fun q31 => bX (v4 + (2 : Int32)) L fun q32 => bI (F_X13_yard f 0 [.ref v2, .int (xs q31), .int (xs q32)] S30) fun x33 S33 => if x30 = x33 then rc 1 [.ref v1, .ref v2, .ref v3, .int v4] S33 else some (some (.int 0), S33) else if ((xs q2) &&& (63 : Int32)) = 4 then bX (v4 + (1 : Int32)) L fun q36 => bX (v4 + (2 : Int32)) L fun q37 => bI (F_X12_person f 0 [.ref v1, .int (xs q36), .int (xs q37)] S) fun x38 S38 => bX (v4 + (1 : Int32)) L fun q39 => bX (v4 + (2 : Int32)) L fun q40 => bI (F_X13_person f 0 [.ref v2, .int (xs q39), .int (xs q40)] S38) fun x41 S41 => if x38 = x41 then rc 1 [.ref v1, .ref v2, .ref v3, .int v4] S41 else some (some (.int 0), S41) else if ((xs q2) &&& (63 : Int32)) = 5 then bI (F_X12_space f 0 [.ref v1] S) fun x44 S44 => bI (F_X13_space f 0 [.ref v2] S44) fun x45 S45 => if x44 = x45 then rc 1 [.ref v1, .ref v2, .ref v3, .int v4] S45 else some (some (.int 0), S45) else if ((xs q2) &&& (63 : Int32)) = 6 then bX (v4 + (1 : Int32)) L fun q48 => bI (F_X12_heaps f 0 [.ref v1, .int (xs q48)] S) fun x49 S49 => bX (v4 + (1 : Int32)) L fun q50 => bI (F_X13_heaps f 0 [.ref v2, .int (xs q50)] S49) fun x51 S51 => if x49 = x51 then rc 1 [.ref v1, .ref v2, .ref v3, .int v4] S51 else some (some (.int 0), S51) else if ((xs q2) &&& (63 : Int32)) = 7 then bI (F_X12_lies f 0 [.ref v1] S) fun x54 S54 => bI (F_X13_lies f 0 [.ref v2] S54) fun x55 S55 => if x54 = x55 then rc 1 [.ref v1, .ref v2, .ref v3, .int v4] S55 else some (some (.int 0), S55) else if ((xs q2) &&& (63 : Int32)) = 8 then bX (v4 + (1 : Int32)) L fun q58 => bI (F_X12_walk f 0 [.ref v1, .int (xs q58)] S) fun x59 S59 => bX (v4 + (1 : Int32)) L fun q60 => bI (F_X13_walk f 0 [.ref v2, .int (xs q60)] S59) fun x61 S61 => if x59 = x61 then rc 1 [.ref v1, .ref v2, .ref v3, .int v4] S61 else some (some (.int 0), S61) else if ((xs q2) &&& (63 : Int32)) = 9 then bX (v4 + (1 : Int32)) L fun q64 => bI (F_X12_empty f 0 [.ref v1, .int (xs q64)] S) fun x65 S65 => bX (v4 + (1 : Int32)) L fun q66 => bI (F_X13_empty f 0 [.ref v2, .int (xs q66)] S65) fun x67 S67 => if x65 = x67 then rc 1 [.ref v1, .ref v2, .ref v3, .int v4] S67 else some (some (.int 0), S67) else if ((xs q2) &&& (63 : Int32)) = 10 then bX (v4 + (1 : Int32)) L fun q70 => bX (v4 + (2 : Int32)) L fun q71 => bI (F_X12_put f 0 [.ref v1, .int (xs q70), .int (xs q71)] S) fun x72 S72 => bX (v4 + (1 : Int32)) L fun q73 => bX (v4 + (2 : Int32)) L fun q74 => bI (F_X13_put f 0 [.ref v2, .int (xs q73), .int (xs q74)] S72) fun x75 S75 => if x72 = x75 then rc 1 [.ref v1, .ref v2, .ref v3, .int v4] S75 else some (some (.int 0), S75) else if ((xs q2) &&& (63 : Int32)) = 11 then bX (v4 + (1 : Int32)) L fun q78 => bI (F_X12_off f 0 [.ref v1, .int (xs q78)] S) fun x79 S79 => bX (v4 + (1 : Int32)) L fun q80 => bI (F_X13_off f 0 [.ref v2, .int (xs q80)] S79) fun x81 S81 => if x79 = x81 then rc 1 [.ref v1, .ref v2, .ref v3, .int v4] S81 else some (some (.int 0), S81) else if ((xs q2) &&& (63 : Int32)) = 12 then bX (v4 + (1 : Int32)) L fun q84 => bI (F_X12_sweep f 0 [.ref v1, .int (xs q84)] S) fun x85 S85 => bX (v4 + (1 : Int32)) L fun q86 => bI (F_X13_sweep f 0 [.ref v2, .int (xs q86)] S85) fun x87 S87 => if x85 = x87 then rc 1 [.ref v1, .ref v2, .ref v3, .int v4] S87 else some (some (.int 0), S87) else if ((xs q2) &&& (63 : Int32)) = 13 then bI (F_X12_hour f 0 [.ref v1] S) fun x90 S90 => bI (F_X13_hour f 0 [.ref v2] S90) fun x91 S91 => if x90 = x91 then rc 1 [.ref v1, .ref v2, .ref v3, .int v4] S91 else some (some (.int 0), S91) else if ((xs q2) &&& (63 : Int32)) = 14 then bI (F_X12_undo f 0 [.ref v1] S) fun x94 S94 => bI (F_X13_undo f 0 [.ref v2] S94) fun x95 S95 => if x94 = x95 then rc 1 [.ref v1, .ref v2, .ref v3, .int v4] S95 else some (some (.int 0), S95) else if ((xs q2) &&& (63 : Int32)) = 15 then bX (v4 + (1 : Int32)) L fun q98 => bI (F_X12_judged f 0 [.ref v1, .int (xs q98)] S) fun x99 S99 => bX (v4 + (1 : Int32)) L fun q100 => bI (F_X13_judged f 0 [.ref v2, .int (xs q100)] S99) fun x101 S101 => if x99 = x101 then rc 1 [.ref v1, .ref v2, .ref v3, .int v4] S101 else some (some (.int 0), S101) else if ((xs q2) &&& (63 : Int32)) = 16 then bX (v4 + (1 : Int32)) L fun q104 => bX (v4 + (2 : Int32)) L fun q105 => bI (F_X12_leaves f 0 [.ref v1, .int (xs q104), .int (xs q105)] S) fun x106 S106 => bX (v4 + (1 : Int32)) L fun q107 => bX (v4 + (2 : Int32)) L fun q108 => bI (F_X13_leaves f 0 [.ref v2, .int (xs q107), .int (xs q108)] S106) fun x109 S109 => if x106 = x109 then rc 1 [.ref v1, .ref v2, .ref v3, .int v4] S109 else some (some (.int 0), S109) else if ((xs q2) &&& (63 : Int32)) = 17 then bI (F_X12_all f 0 [.ref v1] S) fun x112 S112 => bI (F_X13_all f 0 [.ref v2] S112) fun x113 S113 => if x112 = x113 then rc 1 [.ref v1, .ref v2, .ref v3, .int v4] S113 else some (some (.int 0), S113) else if ((xs q2) &&& (63 : Int32)) = 18 then bX (v4 + (1 : Int32)) L fun q116 => bX (v4 + (2 : Int32)) L fun q117 => bX (v4 + (3 : Int32)) L fun q118 => bI (F_X12_place f 0 [.ref v1, .int (xs q116), .int (xs q117), .int (xs q118)] S) fun x119 S119 => bX (v4 + (1 : Int32)) L fun q120 => bX (v4 + (2 : Int32)) L fun q121 => bX (v4 + (3 : Int32)) L fun q122 => bI (F_X13_place f 0 [.ref v2, .int (xs q120), .int (xs q121), .int (xs q122)] S119) fun x123 S123 => if x119 = x123 then rc 1 [.ref v1, .ref v2, .ref v3, .int v4] S123 else some (some (.int 0), S123) else if ((xs q2) &&& (63 : Int32)) = 19 then bI (F_X12_move f 0 [.ref v1] S) fun x126 S126 => bI (F_X13_move f 0 [.ref v2] S126) fun x127 S127 => if x126 = x127 then rc 1 [.ref v1, .ref v2, .ref v3, .int v4] S127 else some (some (.int 0), S127) else if ((xs q2) &&& (63 : Int32)) = 20 then bI (F_X12_full f 0 [.ref v1] S) fun x130 S130 => bI (F_X13_full f 0 [.ref v2] S130) fun x131 S131 => if x130 = x131 then rc 1 [.ref v1, .ref v2, .ref v3, .int v4] S131 else some (some (.int 0), S131) else if ((xs q2) &&& (63 : Int32)) = 21 then bX (v4 + (1 : Int32)) L fun q134 => bI (F_X12_without f 0 [.ref v1, .int (xs q134)] S) fun x135 S135 => bX (v4 + (1 : Int32)) L fun q136 => bI (F_X13_without f 0 [.ref v2, .int (xs q136)] S135) fun x137 S137 => if x135 = x137 then rc 1 [.ref v1, .ref v2, .ref v3, .int v4] S137 else some (some (.int 0), S137) else if ((xs q2) &&& (63 : Int32)) = 22 then bX (v4 + (1 : Int32)) L fun q140 => bI (F_X12_hands f 0 [.ref v1, .int (xs q140)] S) fun x141 S141 => bX (v4 + (1 : Int32)) L fun q142 => bI (F_X13_hands f 0 [.ref v2, .int (xs q142)] S141) fun x143 S143 => if x141 = x143 then rc 1 [.ref v1, .ref v2, .ref v3, .int v4] S143 else some (some (.int 0), S143) else if ((xs q2) &&& (63 : Int32)) = 23 then bX (v4 + (1 : Int32)) L fun q146 => bX (v4 + (2 : Int32)) L fun q147 => bI (F_X12_grows f 0 [.ref v1, .int (xs q146), .int (xs q147)] S) fun x148 S148 => bX (v4 + (1 : Int32)) L fun q149 => bX (v4 + (2 : Int32)) L fun q150 => bI (F_X13_grows f 0 [.ref v2, .int (xs q149), .int (xs q150)] S148) fun x151 S151 => if x148 = x151 then rc 1 [.ref v1, .ref v2, .ref v3, .int v4] S151 else some (some (.int 0), S151) else if ((xs q2) &&& (63 : Int32)) = 24 then bX (v4 + (1 : Int32)) L fun q154 => bI (F_X12_order f 0 [.ref v1, .int (xs q154)] S) fun x155 S155 => bX (v4 + (1 : Int32)) L fun q156 => bI (F_X13_order f 0 [.ref v2, .int (xs q156)] S155) fun x157 S157 => if x155 = x157 then rc 1 [.ref v1, .ref v2, .ref v3, .int v4] S157 else some (some (.int 0), S157) else if ((xs q2) &&& (63 : Int32)) = 25 then bX (v4 + (1 : Int32)) L fun q160 => bX (v4 + (2 : Int32)) L fun q161 => bX (v4 + (3 : Int32)) L fun q162 => bI (F_X12_rounds f 0 [.ref v1, .int (xs q160), .int (xs q161), .int (xs q162)] S) fun x163 S163 => bX (v4 + (1 : Int32)) L fun q164 => bX (v4 + (2 : Int32)) L fun q165 => bX (v4 + (3 : Int32)) L fun q166 => bI (F_X13_rounds f 0 [.ref v2, .int (xs q164), .int (xs q165), .int (xs q166)] S163) fun x167 S167 => if x163 = x167 then rc 1 [.ref v1, .ref v2, .ref v3, .int v4] S167 else some (some (.int 0), S167) else if ((xs q2) &&& (63 : Int32)) = 26 then bX (v4 + (1 : Int32)) L fun q170 => bX (v4 + (2 : Int32)) L fun q171 => bI (F_X12_from f 0 [.ref v1, .int (xs q170), .int (xs q171)] S) fun x172 S172 => bX (v4 + (1 : Int32)) L fun q173 => bX (v4 + (2 : Int32)) L fun q174 => bI (F_X13_from f 0 [.ref v2, .int (xs q173), .int (xs q174)] S172) fun x175 S175 => if x172 = x175 then rc 1 [.ref v1, .ref v2, .ref v3, .int v4] S175 else some (some (.int 0), S175) else if ((xs q2) &&& (63 : Int32)) = 27 then bX (v4 + (1 : Int32)) L fun q178 => bI (F_X12_bare f 0 [.ref v1, .int (xs q178)] S) fun x179 S179 => bX (v4 + (1 : Int32)) L fun q180 => bI (F_X13_bare f 0 [.ref v2, .int (xs q180)] S179) fun x181 S181 => if x179 = x181 then rc 1 [.ref v1, .ref v2, .ref v3, .int v4] S181 else some (some (.int 0), S181) else if ((xs q2) &&& (63 : Int32)) = 28 then bX (v4 + (1 : Int32)) L fun q184 => bI (F_X12_deposit f 0 [.ref v1, .int (xs q184)] S) fun x185 S185 => bX (v4 + (1 : Int32)) L fun q186 => bI (F_X13_deposit f 0 [.ref v2, .int (xs q186)] S185) fun x187 S187 => if x185 = x187 then rc 1 [.ref v1, .ref v2, .ref v3, .int v4] S187 else some (some (.int 0), S187) else if ((xs q2) &&& (63 : Int32)) = 29 then bX (v4 + (1 : Int32)) L fun q190 => bX (v4 + (2 : Int32)) L fun q191 => bI (F_X12_find f 0 [.ref v1, .int (xs q190), .int (xs q191)] S) fun x192 S192 => bX (v4 + (1 : Int32)) L fun q193 => bX (v4 + (2 : Int32)) L fun q194 => bI (F_X13_find f 0 [.ref v2, .int (xs q193), .int (xs q194)] S192) fun x195 S195 => if x192 = x195 then rc 1 [.ref v1, .ref v2, .ref v3, .int v4] S195 else some (some (.int 0), S195) else if ((xs q2) &&& (63 : Int32)) = 30 then bI (F_X12_who f 0 [.ref v1] S) fun x198 S198 => bI (F_X13_who f 0 [.ref v2] S198) fun x199 S199 => if x198 = x199 then rc 1 [.ref v1, .ref v2, .ref v3, .int v4] S199 else some (some (.int 0), S199) else if ((xs q2) &&& (63 : Int32)) = 31 then bI (F_X12_look f 0 [.ref v1] S) fun x202 S202 => bI (F_X13_look f 0 [.ref v2] S202) fun x203 S203 => if x202 = x203 then rc 1 [.ref v1, .ref v2, .ref v3, .int v4] S203 else some (some (.int 0), S203) else if ((xs q2) &&& (63 : Int32)) = 32 then bX (v4 + (1 : Int32)) L fun q206 => bI (F_X12_mean f 0 [.ref v1, .int (xs q206)] S) fun x207 S207 => bX (v4 + (1 : Int32)) L fun q208 => bI (F_X13_mean f 0 [.ref v2, .int (xs q208)] S207) fun x209 S209 => if x207 = x209 then rc 1 [.ref v1, .ref v2, .ref v3, .int v4] S209 else some (some (.int 0), S209) else if ((xs q2) &&& (63 : Int32)) = 33 then bX (v4 + (1 : Int32)) L fun q212 => bX (v4 + (2 : Int32)) L fun q213 => bX (v4 + (3 : Int32)) L fun q214 => bI (F_L_rests f 0 [.ref v1, .int (xs q212), .int (xs q213), .int (xs q214), .ref v3] S) fun x215 S215 => bX (v4 + (1 : Int32)) L fun q216 => bX (v4 + (2 : Int32)) L fun q217 => bX (v4 + (3 : Int32)) L fun q218 => bI (F_X13_rests f 0 [.ref v2, .int (xs q216), .int (xs q217), .int (xs q218)] S215) fun x219 S219 => bI (F_X13_thrown f 0 [.ref v2] S219) fun x220 S220 => if x220 = x215 then if x215 = (0 : Int32) then bX 0 1 fun q223 => if (lg_cmp (gJ S220 v3 q223) (Int32.toInt64 x219)) = (0 : Int32) then rc 2 [.ref v1, .ref v2, .ref v3, .int v4] S220 else some (some (.int 0), S220) else rc 2 [.ref v1, .ref v2, .ref v3, .int v4] S220 else some (some (.int 0), S220) else if ((xs q2) &&& (63 : Int32)) = 34 then bX (v4 + (1 : Int32)) L fun q226 => bX (v4 + (2 : Int32)) L fun q227 => bX (v4 + (3 : Int32)) L fun q228 => bI (F_X12_weeks f 0 [.ref v1, .int (xs q226), .int (xs q227), .int (xs q228)] S) fun x229 S229 => bX (v4 + (1 : Int32)) L fun q230 => bX (v4 + (2 : Int32)) L fun q231 => bX (v4 + (3 : Int32)) L fun q232 => bI (F_X13_weeks f 0 [.ref v2, .int (xs q230), .int (xs q231), .int (xs q232)] S229) fun x233 S233 => if x229 = x233 then rc 1 [.ref v1, .ref v2, .ref v3, .int v4] S233 else some (some (.int 0), S233) else if ((xs q2) &&& (63 : Int32)) = 35 then bX (v4 + (1 : Int32)) L fun q236 => bX (v4 + (2 : Int32)) L fun q237 => bI (F_X12_mark f 0 [.ref v1, .int (xs q236), .int (if (xs q237) = (0 : Int32) then (0 : Int32) else (1 : Int32))] S) fun x240 S240 => bX (v4 + (1 : Int32)) L fun q241 => bX (v4 + (2 : Int32)) L fun q242 => bI (F_X13_mark f 0 [.ref v2, .int (xs q241), .int (if (xs q242) = (0 : Int32) then (0 : Int32) else (1 : Int32))] S240) fun x245 S245 => if x240 = x245 then rc 1 [.ref v1, .ref v2, .ref v3, .int v4] S245 else some (some (.int 0), S245) else if ((xs q2) &&& (63 : Int32)) = 36 then bX (v4 + (1 : Int32)) L fun q248 => bI (F_X12_count f 0 [.ref v1, .int (xs q248)] S) fun x249 S249 => bX (v4 + (1 : Int32)) L fun q250 => bI (F_X13_count f 0 [.ref v2, .int (xs q250)] S249) fun x251 S251 => if x249 = x251 then rc 1 [.ref v1, .ref v2, .ref v3, .int v4] S251 else some (some (.int 0), S251) else rc 1 [.ref v1, .ref v2, .ref v3, .int v4] S
def F_L_law_1 (xs : Nat → Int32) (L : Nat) (f : Nat) (rc : Nat → List Value → aS → aR) (v1 : Nat) (v2 : Nat) (v3 : Nat) (v4 : Int32) (S : aS) : aR :=
  rc 0 [.ref v1, .ref v2, .ref v3, .int (v4 + 7)] S
def F_L_law_2 (xs : Nat → Int32) (L : Nat) (f : Nat) (rc : Nat → List Value → aS → aR) (v1 : Nat) (v2 : Nat) (v3 : Nat) (v4 : Int32) (S : aS) : aR :=
  rc 1 [.ref v1, .ref v2, .ref v3, .int v4] S
def F_L_law (xs : Nat → Int32) (L : Nat) : Nat → Nat → List Value → aS → aR
  | 0, _, _, _ => none
  | f + 1, 0, vs, S => F_L_law_0 xs L f (F_L_law xs L f) (vR vs 0) (vR vs 1) (vR vs 2) (vI vs 3) S
  | f + 1, 1, vs, S => F_L_law_1 xs L f (F_L_law xs L f) (vR vs 0) (vR vs 1) (vR vs 2) (vI vs 3) S
  | f + 1, 2, vs, S => F_L_law_2 xs L f (F_L_law xs L f) (vR vs 0) (vR vs 1) (vR vs 2) (vI vs 3) S
  | _ + 1, _, _, _ => none
theorem dL_law_0 : decode code 0 = .ok (.new 8, 3) := by decide +kernel
theorem dL_law_3 : decode code 3 = .ok (.dup, 1) := by decide +kernel
theorem dL_law_4 : decode code 4 = .ok (.invokespecial 15, 3) := by decide +kernel
theorem dL_law_7 : decode code 7 = .ok (.astore_n 1, 1) := by decide +kernel
theorem dL_law_8 : decode code 8 = .ok (.new 16, 3) := by decide +kernel
theorem dL_law_11 : decode code 11 = .ok (.dup, 1) := by decide +kernel
theorem dL_law_12 : decode code 12 = .ok (.invokespecial 18, 3) := by decide +kernel
theorem dL_law_15 : decode code 15 = .ok (.astore_n 2, 1) := by decide +kernel
theorem dL_law_16 : decode code 16 = .ok (.iconst 1, 1) := by decide +kernel
theorem dL_law_17 : decode code 17 = .ok (.newarray .long, 2) := by decide +kernel
theorem dL_law_19 : decode code 19 = .ok (.astore_n 3, 1) := by decide +kernel
theorem dL_law_20 : decode code 20 = .ok (.iconst 0, 1) := by decide +kernel
theorem dL_law_21 : decode code 21 = .ok (.istore 4, 2) := by decide +kernel
theorem dL_law_23 : decode code 23 = .ok (.iload 4, 2) := by decide +kernel
theorem dL_law_25 : decode code 25 = .ok (.aload_n 0, 1) := by decide +kernel
theorem dL_law_26 : decode code 26 = .ok (.arraylength, 1) := by decide +kernel
theorem dL_law_27 : decode code 27 = .ok (.bipush 7, 2) := by decide +kernel
theorem dL_law_29 : decode code 29 = .ok (.isub, 1) := by decide +kernel
theorem dL_law_30 : decode code 30 = .ok (.if_icmp .gt 1334, 3) := by decide +kernel
theorem dL_law_33 : decode code 33 = .ok (.aload_n 0, 1) := by decide +kernel
theorem dL_law_34 : decode code 34 = .ok (.iload 4, 2) := by decide +kernel
theorem dL_law_36 : decode code 36 = .ok (.iaload, 1) := by decide +kernel
theorem dL_law_37 : decode code 37 = .ok (.bipush 63, 2) := by decide +kernel
theorem dL_law_39 : decode code 39 = .ok (.iand, 1) := by decide +kernel
theorem dL_law_40 : decode code 40 = .ok (.tableswitch 1318 0 36 #[164, 311, 324, 337, 374, 411, 424, 449, 462, 487, 512, 549, 574, 599, 612, 625, 650, 687, 700, 749, 762, 775, 800, 825, 862, 887, 936, 973, 998, 1023, 1060, 1073, 1086, 1111, 1191, 1240, 1293], 164) := by decide +kernel
theorem dL_law_204 : decode code 204 = .ok (.aload_n 1, 1) := by decide +kernel
theorem dL_law_205 : decode code 205 = .ok (.aload_n 0, 1) := by decide +kernel
theorem dL_law_206 : decode code 206 = .ok (.iload 4, 2) := by decide +kernel
theorem dL_law_208 : decode code 208 = .ok (.iconst 1, 1) := by decide +kernel
theorem dL_law_209 : decode code 209 = .ok (.iadd, 1) := by decide +kernel
theorem dL_law_210 : decode code 210 = .ok (.iaload, 1) := by decide +kernel
theorem dL_law_211 : decode code 211 = .ok (.i2l, 1) := by decide +kernel
theorem dL_law_212 : decode code 212 = .ok (.bipush 32, 2) := by decide +kernel
theorem dL_law_214 : decode code 214 = .ok (.lshl, 1) := by decide +kernel
theorem dL_law_215 : decode code 215 = .ok (.aload_n 0, 1) := by decide +kernel
theorem dL_law_216 : decode code 216 = .ok (.iload 4, 2) := by decide +kernel
theorem dL_law_218 : decode code 218 = .ok (.iconst 2, 1) := by decide +kernel
theorem dL_law_219 : decode code 219 = .ok (.iadd, 1) := by decide +kernel
theorem dL_law_220 : decode code 220 = .ok (.iaload, 1) := by decide +kernel
theorem dL_law_221 : decode code 221 = .ok (.i2l, 1) := by decide +kernel
theorem dL_law_222 : decode code 222 = .ok (.ldc2_w 19, 3) := by decide +kernel
theorem dL_law_225 : decode code 225 = .ok (.land, 1) := by decide +kernel
theorem dL_law_226 : decode code 226 = .ok (.lor, 1) := by decide +kernel
theorem dL_law_227 : decode code 227 = .ok (.aload_n 0, 1) := by decide +kernel
theorem dL_law_228 : decode code 228 = .ok (.iload 4, 2) := by decide +kernel
theorem dL_law_230 : decode code 230 = .ok (.iconst 3, 1) := by decide +kernel
theorem dL_law_231 : decode code 231 = .ok (.iadd, 1) := by decide +kernel
theorem dL_law_232 : decode code 232 = .ok (.iaload, 1) := by decide +kernel
theorem dL_law_233 : decode code 233 = .ok (.i2l, 1) := by decide +kernel
theorem dL_law_234 : decode code 234 = .ok (.bipush 32, 2) := by decide +kernel
theorem dL_law_236 : decode code 236 = .ok (.lshl, 1) := by decide +kernel
theorem dL_law_237 : decode code 237 = .ok (.aload_n 0, 1) := by decide +kernel
theorem dL_law_238 : decode code 238 = .ok (.iload 4, 2) := by decide +kernel
theorem dL_law_240 : decode code 240 = .ok (.iconst 4, 1) := by decide +kernel
theorem dL_law_241 : decode code 241 = .ok (.iadd, 1) := by decide +kernel
theorem dL_law_242 : decode code 242 = .ok (.iaload, 1) := by decide +kernel
theorem dL_law_243 : decode code 243 = .ok (.i2l, 1) := by decide +kernel
theorem dL_law_244 : decode code 244 = .ok (.ldc2_w 19, 3) := by decide +kernel
theorem dL_law_247 : decode code 247 = .ok (.land, 1) := by decide +kernel
theorem dL_law_248 : decode code 248 = .ok (.lor, 1) := by decide +kernel
theorem dL_law_249 : decode code 249 = .ok (.aload_n 0, 1) := by decide +kernel
theorem dL_law_250 : decode code 250 = .ok (.iload 4, 2) := by decide +kernel
theorem dL_law_252 : decode code 252 = .ok (.iconst 5, 1) := by decide +kernel
theorem dL_law_253 : decode code 253 = .ok (.iadd, 1) := by decide +kernel
theorem dL_law_254 : decode code 254 = .ok (.iaload, 1) := by decide +kernel
theorem dL_law_255 : decode code 255 = .ok (.i2l, 1) := by decide +kernel
theorem dL_law_256 : decode code 256 = .ok (.bipush 32, 2) := by decide +kernel
theorem dL_law_258 : decode code 258 = .ok (.lshl, 1) := by decide +kernel
theorem dL_law_259 : decode code 259 = .ok (.aload_n 0, 1) := by decide +kernel
theorem dL_law_260 : decode code 260 = .ok (.iload 4, 2) := by decide +kernel
theorem dL_law_262 : decode code 262 = .ok (.bipush 6, 2) := by decide +kernel
theorem dL_law_264 : decode code 264 = .ok (.iadd, 1) := by decide +kernel
theorem dL_law_265 : decode code 265 = .ok (.iaload, 1) := by decide +kernel
theorem dL_law_266 : decode code 266 = .ok (.i2l, 1) := by decide +kernel
theorem dL_law_267 : decode code 267 = .ok (.ldc2_w 19, 3) := by decide +kernel
theorem dL_law_270 : decode code 270 = .ok (.land, 1) := by decide +kernel
theorem dL_law_271 : decode code 271 = .ok (.lor, 1) := by decide +kernel
theorem dL_law_272 : decode code 272 = .ok (.invokevirtual 21, 3) := by decide +kernel
theorem dL_law_275 : decode code 275 = .ok (.aload_n 2, 1) := by decide +kernel
theorem dL_law_276 : decode code 276 = .ok (.aload_n 0, 1) := by decide +kernel
theorem dL_law_277 : decode code 277 = .ok (.iload 4, 2) := by decide +kernel
theorem dL_law_279 : decode code 279 = .ok (.iconst 1, 1) := by decide +kernel
theorem dL_law_280 : decode code 280 = .ok (.iadd, 1) := by decide +kernel
theorem dL_law_281 : decode code 281 = .ok (.iaload, 1) := by decide +kernel
theorem dL_law_282 : decode code 282 = .ok (.i2l, 1) := by decide +kernel
theorem dL_law_283 : decode code 283 = .ok (.bipush 32, 2) := by decide +kernel
theorem dL_law_285 : decode code 285 = .ok (.lshl, 1) := by decide +kernel
theorem dL_law_286 : decode code 286 = .ok (.aload_n 0, 1) := by decide +kernel
theorem dL_law_287 : decode code 287 = .ok (.iload 4, 2) := by decide +kernel
theorem dL_law_289 : decode code 289 = .ok (.iconst 2, 1) := by decide +kernel
theorem dL_law_290 : decode code 290 = .ok (.iadd, 1) := by decide +kernel
theorem dL_law_291 : decode code 291 = .ok (.iaload, 1) := by decide +kernel
theorem dL_law_292 : decode code 292 = .ok (.i2l, 1) := by decide +kernel
theorem dL_law_293 : decode code 293 = .ok (.ldc2_w 19, 3) := by decide +kernel
theorem dL_law_296 : decode code 296 = .ok (.land, 1) := by decide +kernel
theorem dL_law_297 : decode code 297 = .ok (.lor, 1) := by decide +kernel
theorem dL_law_298 : decode code 298 = .ok (.aload_n 0, 1) := by decide +kernel
theorem dL_law_299 : decode code 299 = .ok (.iload 4, 2) := by decide +kernel
theorem dL_law_301 : decode code 301 = .ok (.iconst 3, 1) := by decide +kernel
theorem dL_law_302 : decode code 302 = .ok (.iadd, 1) := by decide +kernel
theorem dL_law_303 : decode code 303 = .ok (.iaload, 1) := by decide +kernel
theorem dL_law_304 : decode code 304 = .ok (.i2l, 1) := by decide +kernel
theorem dL_law_305 : decode code 305 = .ok (.bipush 32, 2) := by decide +kernel
theorem dL_law_307 : decode code 307 = .ok (.lshl, 1) := by decide +kernel
theorem dL_law_308 : decode code 308 = .ok (.aload_n 0, 1) := by decide +kernel
theorem dL_law_309 : decode code 309 = .ok (.iload 4, 2) := by decide +kernel
theorem dL_law_311 : decode code 311 = .ok (.iconst 4, 1) := by decide +kernel
theorem dL_law_312 : decode code 312 = .ok (.iadd, 1) := by decide +kernel
theorem dL_law_313 : decode code 313 = .ok (.iaload, 1) := by decide +kernel
theorem dL_law_314 : decode code 314 = .ok (.i2l, 1) := by decide +kernel
theorem dL_law_315 : decode code 315 = .ok (.ldc2_w 19, 3) := by decide +kernel
theorem dL_law_318 : decode code 318 = .ok (.land, 1) := by decide +kernel
theorem dL_law_319 : decode code 319 = .ok (.lor, 1) := by decide +kernel
theorem dL_law_320 : decode code 320 = .ok (.aload_n 0, 1) := by decide +kernel
theorem dL_law_321 : decode code 321 = .ok (.iload 4, 2) := by decide +kernel
theorem dL_law_323 : decode code 323 = .ok (.iconst 5, 1) := by decide +kernel
theorem dL_law_324 : decode code 324 = .ok (.iadd, 1) := by decide +kernel
theorem dL_law_325 : decode code 325 = .ok (.iaload, 1) := by decide +kernel
theorem dL_law_326 : decode code 326 = .ok (.i2l, 1) := by decide +kernel
theorem dL_law_327 : decode code 327 = .ok (.bipush 32, 2) := by decide +kernel
theorem dL_law_329 : decode code 329 = .ok (.lshl, 1) := by decide +kernel
theorem dL_law_330 : decode code 330 = .ok (.aload_n 0, 1) := by decide +kernel
theorem dL_law_331 : decode code 331 = .ok (.iload 4, 2) := by decide +kernel
theorem dL_law_333 : decode code 333 = .ok (.bipush 6, 2) := by decide +kernel
theorem dL_law_335 : decode code 335 = .ok (.iadd, 1) := by decide +kernel
theorem dL_law_336 : decode code 336 = .ok (.iaload, 1) := by decide +kernel
theorem dL_law_337 : decode code 337 = .ok (.i2l, 1) := by decide +kernel
theorem dL_law_338 : decode code 338 = .ok (.ldc2_w 19, 3) := by decide +kernel
theorem dL_law_341 : decode code 341 = .ok (.land, 1) := by decide +kernel
theorem dL_law_342 : decode code 342 = .ok (.lor, 1) := by decide +kernel
theorem dL_law_343 : decode code 343 = .ok (.invokevirtual 25, 3) := by decide +kernel
theorem dL_law_346 : decode code 346 = .ok (.if_icmp .eq 1012, 3) := by decide +kernel
theorem dL_law_349 : decode code 349 = .ok (.iconst 0, 1) := by decide +kernel
theorem dL_law_350 : decode code 350 = .ok (.ireturn, 1) := by decide +kernel
theorem dL_law_351 : decode code 351 = .ok (.aload_n 1, 1) := by decide +kernel
theorem dL_law_352 : decode code 352 = .ok (.invokevirtual 26, 3) := by decide +kernel
theorem dL_law_355 : decode code 355 = .ok (.aload_n 2, 1) := by decide +kernel
theorem dL_law_356 : decode code 356 = .ok (.invokevirtual 30, 3) := by decide +kernel
theorem dL_law_359 : decode code 359 = .ok (.if_icmp .eq 999, 3) := by decide +kernel
theorem dL_law_362 : decode code 362 = .ok (.iconst 0, 1) := by decide +kernel
theorem dL_law_363 : decode code 363 = .ok (.ireturn, 1) := by decide +kernel
theorem dL_law_364 : decode code 364 = .ok (.aload_n 1, 1) := by decide +kernel
theorem dL_law_365 : decode code 365 = .ok (.invokevirtual 31, 3) := by decide +kernel
theorem dL_law_368 : decode code 368 = .ok (.aload_n 2, 1) := by decide +kernel
theorem dL_law_369 : decode code 369 = .ok (.invokevirtual 34, 3) := by decide +kernel
theorem dL_law_372 : decode code 372 = .ok (.if_icmp .eq 986, 3) := by decide +kernel
theorem dL_law_375 : decode code 375 = .ok (.iconst 0, 1) := by decide +kernel
theorem dL_law_376 : decode code 376 = .ok (.ireturn, 1) := by decide +kernel
theorem dL_law_377 : decode code 377 = .ok (.aload_n 1, 1) := by decide +kernel
theorem dL_law_378 : decode code 378 = .ok (.aload_n 0, 1) := by decide +kernel
theorem dL_law_379 : decode code 379 = .ok (.iload 4, 2) := by decide +kernel
theorem dL_law_381 : decode code 381 = .ok (.iconst 1, 1) := by decide +kernel
theorem dL_law_382 : decode code 382 = .ok (.iadd, 1) := by decide +kernel
theorem dL_law_383 : decode code 383 = .ok (.iaload, 1) := by decide +kernel
theorem dL_law_384 : decode code 384 = .ok (.aload_n 0, 1) := by decide +kernel
theorem dL_law_385 : decode code 385 = .ok (.iload 4, 2) := by decide +kernel
theorem dL_law_387 : decode code 387 = .ok (.iconst 2, 1) := by decide +kernel
theorem dL_law_388 : decode code 388 = .ok (.iadd, 1) := by decide +kernel
theorem dL_law_389 : decode code 389 = .ok (.iaload, 1) := by decide +kernel
theorem dL_law_390 : decode code 390 = .ok (.invokevirtual 35, 3) := by decide +kernel
theorem dL_law_393 : decode code 393 = .ok (.aload_n 2, 1) := by decide +kernel
theorem dL_law_394 : decode code 394 = .ok (.aload_n 0, 1) := by decide +kernel
theorem dL_law_395 : decode code 395 = .ok (.iload 4, 2) := by decide +kernel
theorem dL_law_397 : decode code 397 = .ok (.iconst 1, 1) := by decide +kernel
theorem dL_law_398 : decode code 398 = .ok (.iadd, 1) := by decide +kernel
theorem dL_law_399 : decode code 399 = .ok (.iaload, 1) := by decide +kernel
theorem dL_law_400 : decode code 400 = .ok (.aload_n 0, 1) := by decide +kernel
theorem dL_law_401 : decode code 401 = .ok (.iload 4, 2) := by decide +kernel
theorem dL_law_403 : decode code 403 = .ok (.iconst 2, 1) := by decide +kernel
theorem dL_law_404 : decode code 404 = .ok (.iadd, 1) := by decide +kernel
theorem dL_law_405 : decode code 405 = .ok (.iaload, 1) := by decide +kernel
theorem dL_law_406 : decode code 406 = .ok (.invokevirtual 39, 3) := by decide +kernel
theorem dL_law_409 : decode code 409 = .ok (.if_icmp .eq 949, 3) := by decide +kernel
theorem dL_law_412 : decode code 412 = .ok (.iconst 0, 1) := by decide +kernel
theorem dL_law_413 : decode code 413 = .ok (.ireturn, 1) := by decide +kernel
theorem dL_law_414 : decode code 414 = .ok (.aload_n 1, 1) := by decide +kernel
theorem dL_law_415 : decode code 415 = .ok (.aload_n 0, 1) := by decide +kernel
theorem dL_law_416 : decode code 416 = .ok (.iload 4, 2) := by decide +kernel
theorem dL_law_418 : decode code 418 = .ok (.iconst 1, 1) := by decide +kernel
theorem dL_law_419 : decode code 419 = .ok (.iadd, 1) := by decide +kernel
theorem dL_law_420 : decode code 420 = .ok (.iaload, 1) := by decide +kernel
theorem dL_law_421 : decode code 421 = .ok (.aload_n 0, 1) := by decide +kernel
theorem dL_law_422 : decode code 422 = .ok (.iload 4, 2) := by decide +kernel
theorem dL_law_424 : decode code 424 = .ok (.iconst 2, 1) := by decide +kernel
theorem dL_law_425 : decode code 425 = .ok (.iadd, 1) := by decide +kernel
theorem dL_law_426 : decode code 426 = .ok (.iaload, 1) := by decide +kernel
theorem dL_law_427 : decode code 427 = .ok (.invokevirtual 40, 3) := by decide +kernel
theorem dL_law_430 : decode code 430 = .ok (.aload_n 2, 1) := by decide +kernel
theorem dL_law_431 : decode code 431 = .ok (.aload_n 0, 1) := by decide +kernel
theorem dL_law_432 : decode code 432 = .ok (.iload 4, 2) := by decide +kernel
theorem dL_law_434 : decode code 434 = .ok (.iconst 1, 1) := by decide +kernel
theorem dL_law_435 : decode code 435 = .ok (.iadd, 1) := by decide +kernel
theorem dL_law_436 : decode code 436 = .ok (.iaload, 1) := by decide +kernel
theorem dL_law_437 : decode code 437 = .ok (.aload_n 0, 1) := by decide +kernel
theorem dL_law_438 : decode code 438 = .ok (.iload 4, 2) := by decide +kernel
theorem dL_law_440 : decode code 440 = .ok (.iconst 2, 1) := by decide +kernel
theorem dL_law_441 : decode code 441 = .ok (.iadd, 1) := by decide +kernel
theorem dL_law_442 : decode code 442 = .ok (.iaload, 1) := by decide +kernel
theorem dL_law_443 : decode code 443 = .ok (.invokevirtual 43, 3) := by decide +kernel
theorem dL_law_446 : decode code 446 = .ok (.if_icmp .eq 912, 3) := by decide +kernel
theorem dL_law_449 : decode code 449 = .ok (.iconst 0, 1) := by decide +kernel
theorem dL_law_450 : decode code 450 = .ok (.ireturn, 1) := by decide +kernel
theorem dL_law_451 : decode code 451 = .ok (.aload_n 1, 1) := by decide +kernel
theorem dL_law_452 : decode code 452 = .ok (.invokevirtual 44, 3) := by decide +kernel
theorem dL_law_455 : decode code 455 = .ok (.aload_n 2, 1) := by decide +kernel
theorem dL_law_456 : decode code 456 = .ok (.invokevirtual 47, 3) := by decide +kernel
theorem dL_law_459 : decode code 459 = .ok (.if_icmp .eq 899, 3) := by decide +kernel
theorem dL_law_462 : decode code 462 = .ok (.iconst 0, 1) := by decide +kernel
theorem dL_law_463 : decode code 463 = .ok (.ireturn, 1) := by decide +kernel
theorem dL_law_464 : decode code 464 = .ok (.aload_n 1, 1) := by decide +kernel
theorem dL_law_465 : decode code 465 = .ok (.aload_n 0, 1) := by decide +kernel
theorem dL_law_466 : decode code 466 = .ok (.iload 4, 2) := by decide +kernel
theorem dL_law_468 : decode code 468 = .ok (.iconst 1, 1) := by decide +kernel
theorem dL_law_469 : decode code 469 = .ok (.iadd, 1) := by decide +kernel
theorem dL_law_470 : decode code 470 = .ok (.iaload, 1) := by decide +kernel
theorem dL_law_471 : decode code 471 = .ok (.invokevirtual 48, 3) := by decide +kernel
theorem dL_law_474 : decode code 474 = .ok (.aload_n 2, 1) := by decide +kernel
theorem dL_law_475 : decode code 475 = .ok (.aload_n 0, 1) := by decide +kernel
theorem dL_law_476 : decode code 476 = .ok (.iload 4, 2) := by decide +kernel
theorem dL_law_478 : decode code 478 = .ok (.iconst 1, 1) := by decide +kernel
theorem dL_law_479 : decode code 479 = .ok (.iadd, 1) := by decide +kernel
theorem dL_law_480 : decode code 480 = .ok (.iaload, 1) := by decide +kernel
theorem dL_law_481 : decode code 481 = .ok (.invokevirtual 52, 3) := by decide +kernel
theorem dL_law_484 : decode code 484 = .ok (.if_icmp .eq 874, 3) := by decide +kernel
theorem dL_law_487 : decode code 487 = .ok (.iconst 0, 1) := by decide +kernel
theorem dL_law_488 : decode code 488 = .ok (.ireturn, 1) := by decide +kernel
theorem dL_law_489 : decode code 489 = .ok (.aload_n 1, 1) := by decide +kernel
theorem dL_law_490 : decode code 490 = .ok (.invokevirtual 53, 3) := by decide +kernel
theorem dL_law_493 : decode code 493 = .ok (.aload_n 2, 1) := by decide +kernel
theorem dL_law_494 : decode code 494 = .ok (.invokevirtual 56, 3) := by decide +kernel
theorem dL_law_497 : decode code 497 = .ok (.if_icmp .eq 861, 3) := by decide +kernel
theorem dL_law_500 : decode code 500 = .ok (.iconst 0, 1) := by decide +kernel
theorem dL_law_501 : decode code 501 = .ok (.ireturn, 1) := by decide +kernel
theorem dL_law_502 : decode code 502 = .ok (.aload_n 1, 1) := by decide +kernel
theorem dL_law_503 : decode code 503 = .ok (.aload_n 0, 1) := by decide +kernel
theorem dL_law_504 : decode code 504 = .ok (.iload 4, 2) := by decide +kernel
theorem dL_law_506 : decode code 506 = .ok (.iconst 1, 1) := by decide +kernel
theorem dL_law_507 : decode code 507 = .ok (.iadd, 1) := by decide +kernel
theorem dL_law_508 : decode code 508 = .ok (.iaload, 1) := by decide +kernel
theorem dL_law_509 : decode code 509 = .ok (.invokevirtual 57, 3) := by decide +kernel
theorem dL_law_512 : decode code 512 = .ok (.aload_n 2, 1) := by decide +kernel
theorem dL_law_513 : decode code 513 = .ok (.aload_n 0, 1) := by decide +kernel
theorem dL_law_514 : decode code 514 = .ok (.iload 4, 2) := by decide +kernel
theorem dL_law_516 : decode code 516 = .ok (.iconst 1, 1) := by decide +kernel
theorem dL_law_517 : decode code 517 = .ok (.iadd, 1) := by decide +kernel
theorem dL_law_518 : decode code 518 = .ok (.iaload, 1) := by decide +kernel
theorem dL_law_519 : decode code 519 = .ok (.invokevirtual 60, 3) := by decide +kernel
theorem dL_law_522 : decode code 522 = .ok (.if_icmp .eq 836, 3) := by decide +kernel
theorem dL_law_525 : decode code 525 = .ok (.iconst 0, 1) := by decide +kernel
theorem dL_law_526 : decode code 526 = .ok (.ireturn, 1) := by decide +kernel
theorem dL_law_527 : decode code 527 = .ok (.aload_n 1, 1) := by decide +kernel
theorem dL_law_528 : decode code 528 = .ok (.aload_n 0, 1) := by decide +kernel
theorem dL_law_529 : decode code 529 = .ok (.iload 4, 2) := by decide +kernel
theorem dL_law_531 : decode code 531 = .ok (.iconst 1, 1) := by decide +kernel
theorem dL_law_532 : decode code 532 = .ok (.iadd, 1) := by decide +kernel
theorem dL_law_533 : decode code 533 = .ok (.iaload, 1) := by decide +kernel
theorem dL_law_534 : decode code 534 = .ok (.invokevirtual 61, 3) := by decide +kernel
theorem dL_law_537 : decode code 537 = .ok (.aload_n 2, 1) := by decide +kernel
theorem dL_law_538 : decode code 538 = .ok (.aload_n 0, 1) := by decide +kernel
theorem dL_law_539 : decode code 539 = .ok (.iload 4, 2) := by decide +kernel
theorem dL_law_541 : decode code 541 = .ok (.iconst 1, 1) := by decide +kernel
theorem dL_law_542 : decode code 542 = .ok (.iadd, 1) := by decide +kernel
theorem dL_law_543 : decode code 543 = .ok (.iaload, 1) := by decide +kernel
theorem dL_law_544 : decode code 544 = .ok (.invokevirtual 64, 3) := by decide +kernel
theorem dL_law_547 : decode code 547 = .ok (.if_icmp .eq 811, 3) := by decide +kernel
theorem dL_law_550 : decode code 550 = .ok (.iconst 0, 1) := by decide +kernel
theorem dL_law_551 : decode code 551 = .ok (.ireturn, 1) := by decide +kernel
theorem dL_law_552 : decode code 552 = .ok (.aload_n 1, 1) := by decide +kernel
theorem dL_law_553 : decode code 553 = .ok (.aload_n 0, 1) := by decide +kernel
theorem dL_law_554 : decode code 554 = .ok (.iload 4, 2) := by decide +kernel
theorem dL_law_556 : decode code 556 = .ok (.iconst 1, 1) := by decide +kernel
theorem dL_law_557 : decode code 557 = .ok (.iadd, 1) := by decide +kernel
theorem dL_law_558 : decode code 558 = .ok (.iaload, 1) := by decide +kernel
theorem dL_law_559 : decode code 559 = .ok (.aload_n 0, 1) := by decide +kernel
theorem dL_law_560 : decode code 560 = .ok (.iload 4, 2) := by decide +kernel
theorem dL_law_562 : decode code 562 = .ok (.iconst 2, 1) := by decide +kernel
theorem dL_law_563 : decode code 563 = .ok (.iadd, 1) := by decide +kernel
theorem dL_law_564 : decode code 564 = .ok (.iaload, 1) := by decide +kernel
theorem dL_law_565 : decode code 565 = .ok (.invokevirtual 65, 3) := by decide +kernel
theorem dL_law_568 : decode code 568 = .ok (.aload_n 2, 1) := by decide +kernel
theorem dL_law_569 : decode code 569 = .ok (.aload_n 0, 1) := by decide +kernel
theorem dL_law_570 : decode code 570 = .ok (.iload 4, 2) := by decide +kernel
theorem dL_law_572 : decode code 572 = .ok (.iconst 1, 1) := by decide +kernel
theorem dL_law_573 : decode code 573 = .ok (.iadd, 1) := by decide +kernel
theorem dL_law_574 : decode code 574 = .ok (.iaload, 1) := by decide +kernel
theorem dL_law_575 : decode code 575 = .ok (.aload_n 0, 1) := by decide +kernel
theorem dL_law_576 : decode code 576 = .ok (.iload 4, 2) := by decide +kernel
theorem dL_law_578 : decode code 578 = .ok (.iconst 2, 1) := by decide +kernel
theorem dL_law_579 : decode code 579 = .ok (.iadd, 1) := by decide +kernel
theorem dL_law_580 : decode code 580 = .ok (.iaload, 1) := by decide +kernel
theorem dL_law_581 : decode code 581 = .ok (.invokevirtual 69, 3) := by decide +kernel
theorem dL_law_584 : decode code 584 = .ok (.if_icmp .eq 774, 3) := by decide +kernel
theorem dL_law_587 : decode code 587 = .ok (.iconst 0, 1) := by decide +kernel
theorem dL_law_588 : decode code 588 = .ok (.ireturn, 1) := by decide +kernel
theorem dL_law_589 : decode code 589 = .ok (.aload_n 1, 1) := by decide +kernel
theorem dL_law_590 : decode code 590 = .ok (.aload_n 0, 1) := by decide +kernel
theorem dL_law_591 : decode code 591 = .ok (.iload 4, 2) := by decide +kernel
theorem dL_law_593 : decode code 593 = .ok (.iconst 1, 1) := by decide +kernel
theorem dL_law_594 : decode code 594 = .ok (.iadd, 1) := by decide +kernel
theorem dL_law_595 : decode code 595 = .ok (.iaload, 1) := by decide +kernel
theorem dL_law_596 : decode code 596 = .ok (.invokevirtual 70, 3) := by decide +kernel
theorem dL_law_599 : decode code 599 = .ok (.aload_n 2, 1) := by decide +kernel
theorem dL_law_600 : decode code 600 = .ok (.aload_n 0, 1) := by decide +kernel
theorem dL_law_601 : decode code 601 = .ok (.iload 4, 2) := by decide +kernel
theorem dL_law_603 : decode code 603 = .ok (.iconst 1, 1) := by decide +kernel
theorem dL_law_604 : decode code 604 = .ok (.iadd, 1) := by decide +kernel
theorem dL_law_605 : decode code 605 = .ok (.iaload, 1) := by decide +kernel
theorem dL_law_606 : decode code 606 = .ok (.invokevirtual 73, 3) := by decide +kernel
theorem dL_law_609 : decode code 609 = .ok (.if_icmp .eq 749, 3) := by decide +kernel
theorem dL_law_612 : decode code 612 = .ok (.iconst 0, 1) := by decide +kernel
theorem dL_law_613 : decode code 613 = .ok (.ireturn, 1) := by decide +kernel
theorem dL_law_614 : decode code 614 = .ok (.aload_n 1, 1) := by decide +kernel
theorem dL_law_615 : decode code 615 = .ok (.aload_n 0, 1) := by decide +kernel
theorem dL_law_616 : decode code 616 = .ok (.iload 4, 2) := by decide +kernel
theorem dL_law_618 : decode code 618 = .ok (.iconst 1, 1) := by decide +kernel
theorem dL_law_619 : decode code 619 = .ok (.iadd, 1) := by decide +kernel
theorem dL_law_620 : decode code 620 = .ok (.iaload, 1) := by decide +kernel
theorem dL_law_621 : decode code 621 = .ok (.invokevirtual 74, 3) := by decide +kernel
theorem dL_law_624 : decode code 624 = .ok (.aload_n 2, 1) := by decide +kernel
theorem dL_law_625 : decode code 625 = .ok (.aload_n 0, 1) := by decide +kernel
theorem dL_law_626 : decode code 626 = .ok (.iload 4, 2) := by decide +kernel
theorem dL_law_628 : decode code 628 = .ok (.iconst 1, 1) := by decide +kernel
theorem dL_law_629 : decode code 629 = .ok (.iadd, 1) := by decide +kernel
theorem dL_law_630 : decode code 630 = .ok (.iaload, 1) := by decide +kernel
theorem dL_law_631 : decode code 631 = .ok (.invokevirtual 77, 3) := by decide +kernel
theorem dL_law_634 : decode code 634 = .ok (.if_icmp .eq 724, 3) := by decide +kernel
theorem dL_law_637 : decode code 637 = .ok (.iconst 0, 1) := by decide +kernel
theorem dL_law_638 : decode code 638 = .ok (.ireturn, 1) := by decide +kernel
theorem dL_law_639 : decode code 639 = .ok (.aload_n 1, 1) := by decide +kernel
theorem dL_law_640 : decode code 640 = .ok (.invokevirtual 78, 3) := by decide +kernel
theorem dL_law_643 : decode code 643 = .ok (.aload_n 2, 1) := by decide +kernel
theorem dL_law_644 : decode code 644 = .ok (.invokevirtual 81, 3) := by decide +kernel
theorem dL_law_647 : decode code 647 = .ok (.if_icmp .eq 711, 3) := by decide +kernel
theorem dL_law_650 : decode code 650 = .ok (.iconst 0, 1) := by decide +kernel
theorem dL_law_651 : decode code 651 = .ok (.ireturn, 1) := by decide +kernel
theorem dL_law_652 : decode code 652 = .ok (.aload_n 1, 1) := by decide +kernel
theorem dL_law_653 : decode code 653 = .ok (.invokevirtual 82, 3) := by decide +kernel
theorem dL_law_656 : decode code 656 = .ok (.aload_n 2, 1) := by decide +kernel
theorem dL_law_657 : decode code 657 = .ok (.invokevirtual 86, 3) := by decide +kernel
theorem dL_law_660 : decode code 660 = .ok (.if_icmp .eq 698, 3) := by decide +kernel
theorem dL_law_663 : decode code 663 = .ok (.iconst 0, 1) := by decide +kernel
theorem dL_law_664 : decode code 664 = .ok (.ireturn, 1) := by decide +kernel
theorem dL_law_665 : decode code 665 = .ok (.aload_n 1, 1) := by decide +kernel
theorem dL_law_666 : decode code 666 = .ok (.aload_n 0, 1) := by decide +kernel
theorem dL_law_667 : decode code 667 = .ok (.iload 4, 2) := by decide +kernel
theorem dL_law_669 : decode code 669 = .ok (.iconst 1, 1) := by decide +kernel
theorem dL_law_670 : decode code 670 = .ok (.iadd, 1) := by decide +kernel
theorem dL_law_671 : decode code 671 = .ok (.iaload, 1) := by decide +kernel
theorem dL_law_672 : decode code 672 = .ok (.invokevirtual 87, 3) := by decide +kernel
theorem dL_law_675 : decode code 675 = .ok (.aload_n 2, 1) := by decide +kernel
theorem dL_law_676 : decode code 676 = .ok (.aload_n 0, 1) := by decide +kernel
theorem dL_law_677 : decode code 677 = .ok (.iload 4, 2) := by decide +kernel
theorem dL_law_679 : decode code 679 = .ok (.iconst 1, 1) := by decide +kernel
theorem dL_law_680 : decode code 680 = .ok (.iadd, 1) := by decide +kernel
theorem dL_law_681 : decode code 681 = .ok (.iaload, 1) := by decide +kernel
theorem dL_law_682 : decode code 682 = .ok (.invokevirtual 90, 3) := by decide +kernel
theorem dL_law_685 : decode code 685 = .ok (.if_icmp .eq 673, 3) := by decide +kernel
theorem dL_law_688 : decode code 688 = .ok (.iconst 0, 1) := by decide +kernel
theorem dL_law_689 : decode code 689 = .ok (.ireturn, 1) := by decide +kernel
theorem dL_law_690 : decode code 690 = .ok (.aload_n 1, 1) := by decide +kernel
theorem dL_law_691 : decode code 691 = .ok (.aload_n 0, 1) := by decide +kernel
theorem dL_law_692 : decode code 692 = .ok (.iload 4, 2) := by decide +kernel
theorem dL_law_694 : decode code 694 = .ok (.iconst 1, 1) := by decide +kernel
theorem dL_law_695 : decode code 695 = .ok (.iadd, 1) := by decide +kernel
theorem dL_law_696 : decode code 696 = .ok (.iaload, 1) := by decide +kernel
theorem dL_law_697 : decode code 697 = .ok (.aload_n 0, 1) := by decide +kernel
theorem dL_law_698 : decode code 698 = .ok (.iload 4, 2) := by decide +kernel
theorem dL_law_700 : decode code 700 = .ok (.iconst 2, 1) := by decide +kernel
theorem dL_law_701 : decode code 701 = .ok (.iadd, 1) := by decide +kernel
theorem dL_law_702 : decode code 702 = .ok (.iaload, 1) := by decide +kernel
theorem dL_law_703 : decode code 703 = .ok (.invokevirtual 91, 3) := by decide +kernel
theorem dL_law_706 : decode code 706 = .ok (.aload_n 2, 1) := by decide +kernel
theorem dL_law_707 : decode code 707 = .ok (.aload_n 0, 1) := by decide +kernel
theorem dL_law_708 : decode code 708 = .ok (.iload 4, 2) := by decide +kernel
theorem dL_law_710 : decode code 710 = .ok (.iconst 1, 1) := by decide +kernel
theorem dL_law_711 : decode code 711 = .ok (.iadd, 1) := by decide +kernel
theorem dL_law_712 : decode code 712 = .ok (.iaload, 1) := by decide +kernel
theorem dL_law_713 : decode code 713 = .ok (.aload_n 0, 1) := by decide +kernel
theorem dL_law_714 : decode code 714 = .ok (.iload 4, 2) := by decide +kernel
theorem dL_law_716 : decode code 716 = .ok (.iconst 2, 1) := by decide +kernel
theorem dL_law_717 : decode code 717 = .ok (.iadd, 1) := by decide +kernel
theorem dL_law_718 : decode code 718 = .ok (.iaload, 1) := by decide +kernel
theorem dL_law_719 : decode code 719 = .ok (.invokevirtual 94, 3) := by decide +kernel
theorem dL_law_722 : decode code 722 = .ok (.if_icmp .eq 636, 3) := by decide +kernel
theorem dL_law_725 : decode code 725 = .ok (.iconst 0, 1) := by decide +kernel
theorem dL_law_726 : decode code 726 = .ok (.ireturn, 1) := by decide +kernel
theorem dL_law_727 : decode code 727 = .ok (.aload_n 1, 1) := by decide +kernel
theorem dL_law_728 : decode code 728 = .ok (.invokevirtual 95, 3) := by decide +kernel
theorem dL_law_731 : decode code 731 = .ok (.aload_n 2, 1) := by decide +kernel
theorem dL_law_732 : decode code 732 = .ok (.invokevirtual 98, 3) := by decide +kernel
theorem dL_law_735 : decode code 735 = .ok (.if_icmp .eq 623, 3) := by decide +kernel
theorem dL_law_738 : decode code 738 = .ok (.iconst 0, 1) := by decide +kernel
theorem dL_law_739 : decode code 739 = .ok (.ireturn, 1) := by decide +kernel
theorem dL_law_740 : decode code 740 = .ok (.aload_n 1, 1) := by decide +kernel
theorem dL_law_741 : decode code 741 = .ok (.aload_n 0, 1) := by decide +kernel
theorem dL_law_742 : decode code 742 = .ok (.iload 4, 2) := by decide +kernel
theorem dL_law_744 : decode code 744 = .ok (.iconst 1, 1) := by decide +kernel
theorem dL_law_745 : decode code 745 = .ok (.iadd, 1) := by decide +kernel
theorem dL_law_746 : decode code 746 = .ok (.iaload, 1) := by decide +kernel
theorem dL_law_747 : decode code 747 = .ok (.aload_n 0, 1) := by decide +kernel
theorem dL_law_748 : decode code 748 = .ok (.iload 4, 2) := by decide +kernel
theorem dL_law_750 : decode code 750 = .ok (.iconst 2, 1) := by decide +kernel
theorem dL_law_751 : decode code 751 = .ok (.iadd, 1) := by decide +kernel
theorem dL_law_752 : decode code 752 = .ok (.iaload, 1) := by decide +kernel
theorem dL_law_753 : decode code 753 = .ok (.aload_n 0, 1) := by decide +kernel
theorem dL_law_754 : decode code 754 = .ok (.iload 4, 2) := by decide +kernel
theorem dL_law_756 : decode code 756 = .ok (.iconst 3, 1) := by decide +kernel
theorem dL_law_757 : decode code 757 = .ok (.iadd, 1) := by decide +kernel
theorem dL_law_758 : decode code 758 = .ok (.iaload, 1) := by decide +kernel
theorem dL_law_759 : decode code 759 = .ok (.invokevirtual 99, 3) := by decide +kernel
theorem dL_law_762 : decode code 762 = .ok (.aload_n 2, 1) := by decide +kernel
theorem dL_law_763 : decode code 763 = .ok (.aload_n 0, 1) := by decide +kernel
theorem dL_law_764 : decode code 764 = .ok (.iload 4, 2) := by decide +kernel
theorem dL_law_766 : decode code 766 = .ok (.iconst 1, 1) := by decide +kernel
theorem dL_law_767 : decode code 767 = .ok (.iadd, 1) := by decide +kernel
theorem dL_law_768 : decode code 768 = .ok (.iaload, 1) := by decide +kernel
theorem dL_law_769 : decode code 769 = .ok (.aload_n 0, 1) := by decide +kernel
theorem dL_law_770 : decode code 770 = .ok (.iload 4, 2) := by decide +kernel
theorem dL_law_772 : decode code 772 = .ok (.iconst 2, 1) := by decide +kernel
theorem dL_law_773 : decode code 773 = .ok (.iadd, 1) := by decide +kernel
theorem dL_law_774 : decode code 774 = .ok (.iaload, 1) := by decide +kernel
theorem dL_law_775 : decode code 775 = .ok (.aload_n 0, 1) := by decide +kernel
theorem dL_law_776 : decode code 776 = .ok (.iload 4, 2) := by decide +kernel
theorem dL_law_778 : decode code 778 = .ok (.iconst 3, 1) := by decide +kernel
theorem dL_law_779 : decode code 779 = .ok (.iadd, 1) := by decide +kernel
theorem dL_law_780 : decode code 780 = .ok (.iaload, 1) := by decide +kernel
theorem dL_law_781 : decode code 781 = .ok (.invokevirtual 102, 3) := by decide +kernel
theorem dL_law_784 : decode code 784 = .ok (.if_icmp .eq 574, 3) := by decide +kernel
theorem dL_law_787 : decode code 787 = .ok (.iconst 0, 1) := by decide +kernel
theorem dL_law_788 : decode code 788 = .ok (.ireturn, 1) := by decide +kernel
theorem dL_law_789 : decode code 789 = .ok (.aload_n 1, 1) := by decide +kernel
theorem dL_law_790 : decode code 790 = .ok (.invokevirtual 103, 3) := by decide +kernel
theorem dL_law_793 : decode code 793 = .ok (.aload_n 2, 1) := by decide +kernel
theorem dL_law_794 : decode code 794 = .ok (.invokevirtual 106, 3) := by decide +kernel
theorem dL_law_797 : decode code 797 = .ok (.if_icmp .eq 561, 3) := by decide +kernel
theorem dL_law_800 : decode code 800 = .ok (.iconst 0, 1) := by decide +kernel
theorem dL_law_801 : decode code 801 = .ok (.ireturn, 1) := by decide +kernel
theorem dL_law_802 : decode code 802 = .ok (.aload_n 1, 1) := by decide +kernel
theorem dL_law_803 : decode code 803 = .ok (.invokevirtual 107, 3) := by decide +kernel
theorem dL_law_806 : decode code 806 = .ok (.aload_n 2, 1) := by decide +kernel
theorem dL_law_807 : decode code 807 = .ok (.invokevirtual 110, 3) := by decide +kernel
theorem dL_law_810 : decode code 810 = .ok (.if_icmp .eq 548, 3) := by decide +kernel
theorem dL_law_813 : decode code 813 = .ok (.iconst 0, 1) := by decide +kernel
theorem dL_law_814 : decode code 814 = .ok (.ireturn, 1) := by decide +kernel
theorem dL_law_815 : decode code 815 = .ok (.aload_n 1, 1) := by decide +kernel
theorem dL_law_816 : decode code 816 = .ok (.aload_n 0, 1) := by decide +kernel
theorem dL_law_817 : decode code 817 = .ok (.iload 4, 2) := by decide +kernel
theorem dL_law_819 : decode code 819 = .ok (.iconst 1, 1) := by decide +kernel
theorem dL_law_820 : decode code 820 = .ok (.iadd, 1) := by decide +kernel
theorem dL_law_821 : decode code 821 = .ok (.iaload, 1) := by decide +kernel
theorem dL_law_822 : decode code 822 = .ok (.invokevirtual 111, 3) := by decide +kernel
theorem dL_law_825 : decode code 825 = .ok (.aload_n 2, 1) := by decide +kernel
theorem dL_law_826 : decode code 826 = .ok (.aload_n 0, 1) := by decide +kernel
theorem dL_law_827 : decode code 827 = .ok (.iload 4, 2) := by decide +kernel
theorem dL_law_829 : decode code 829 = .ok (.iconst 1, 1) := by decide +kernel
theorem dL_law_830 : decode code 830 = .ok (.iadd, 1) := by decide +kernel
theorem dL_law_831 : decode code 831 = .ok (.iaload, 1) := by decide +kernel
theorem dL_law_832 : decode code 832 = .ok (.invokevirtual 114, 3) := by decide +kernel
theorem dL_law_835 : decode code 835 = .ok (.if_icmp .eq 523, 3) := by decide +kernel
theorem dL_law_838 : decode code 838 = .ok (.iconst 0, 1) := by decide +kernel
theorem dL_law_839 : decode code 839 = .ok (.ireturn, 1) := by decide +kernel
theorem dL_law_840 : decode code 840 = .ok (.aload_n 1, 1) := by decide +kernel
theorem dL_law_841 : decode code 841 = .ok (.aload_n 0, 1) := by decide +kernel
theorem dL_law_842 : decode code 842 = .ok (.iload 4, 2) := by decide +kernel
theorem dL_law_844 : decode code 844 = .ok (.iconst 1, 1) := by decide +kernel
theorem dL_law_845 : decode code 845 = .ok (.iadd, 1) := by decide +kernel
theorem dL_law_846 : decode code 846 = .ok (.iaload, 1) := by decide +kernel
theorem dL_law_847 : decode code 847 = .ok (.invokevirtual 115, 3) := by decide +kernel
theorem dL_law_850 : decode code 850 = .ok (.aload_n 2, 1) := by decide +kernel
theorem dL_law_851 : decode code 851 = .ok (.aload_n 0, 1) := by decide +kernel
theorem dL_law_852 : decode code 852 = .ok (.iload 4, 2) := by decide +kernel
theorem dL_law_854 : decode code 854 = .ok (.iconst 1, 1) := by decide +kernel
theorem dL_law_855 : decode code 855 = .ok (.iadd, 1) := by decide +kernel
theorem dL_law_856 : decode code 856 = .ok (.iaload, 1) := by decide +kernel
theorem dL_law_857 : decode code 857 = .ok (.invokevirtual 118, 3) := by decide +kernel
theorem dL_law_860 : decode code 860 = .ok (.if_icmp .eq 498, 3) := by decide +kernel
theorem dL_law_863 : decode code 863 = .ok (.iconst 0, 1) := by decide +kernel
theorem dL_law_864 : decode code 864 = .ok (.ireturn, 1) := by decide +kernel
theorem dL_law_865 : decode code 865 = .ok (.aload_n 1, 1) := by decide +kernel
theorem dL_law_866 : decode code 866 = .ok (.aload_n 0, 1) := by decide +kernel
theorem dL_law_867 : decode code 867 = .ok (.iload 4, 2) := by decide +kernel
theorem dL_law_869 : decode code 869 = .ok (.iconst 1, 1) := by decide +kernel
theorem dL_law_870 : decode code 870 = .ok (.iadd, 1) := by decide +kernel
theorem dL_law_871 : decode code 871 = .ok (.iaload, 1) := by decide +kernel
theorem dL_law_872 : decode code 872 = .ok (.aload_n 0, 1) := by decide +kernel
theorem dL_law_873 : decode code 873 = .ok (.iload 4, 2) := by decide +kernel
theorem dL_law_875 : decode code 875 = .ok (.iconst 2, 1) := by decide +kernel
theorem dL_law_876 : decode code 876 = .ok (.iadd, 1) := by decide +kernel
theorem dL_law_877 : decode code 877 = .ok (.iaload, 1) := by decide +kernel
theorem dL_law_878 : decode code 878 = .ok (.invokevirtual 119, 3) := by decide +kernel
theorem dL_law_881 : decode code 881 = .ok (.aload_n 2, 1) := by decide +kernel
theorem dL_law_882 : decode code 882 = .ok (.aload_n 0, 1) := by decide +kernel
theorem dL_law_883 : decode code 883 = .ok (.iload 4, 2) := by decide +kernel
theorem dL_law_885 : decode code 885 = .ok (.iconst 1, 1) := by decide +kernel
theorem dL_law_886 : decode code 886 = .ok (.iadd, 1) := by decide +kernel
theorem dL_law_887 : decode code 887 = .ok (.iaload, 1) := by decide +kernel
theorem dL_law_888 : decode code 888 = .ok (.aload_n 0, 1) := by decide +kernel
theorem dL_law_889 : decode code 889 = .ok (.iload 4, 2) := by decide +kernel
theorem dL_law_891 : decode code 891 = .ok (.iconst 2, 1) := by decide +kernel
theorem dL_law_892 : decode code 892 = .ok (.iadd, 1) := by decide +kernel
theorem dL_law_893 : decode code 893 = .ok (.iaload, 1) := by decide +kernel
theorem dL_law_894 : decode code 894 = .ok (.invokevirtual 122, 3) := by decide +kernel
theorem dL_law_897 : decode code 897 = .ok (.if_icmp .eq 461, 3) := by decide +kernel
theorem dL_law_900 : decode code 900 = .ok (.iconst 0, 1) := by decide +kernel
theorem dL_law_901 : decode code 901 = .ok (.ireturn, 1) := by decide +kernel
theorem dL_law_902 : decode code 902 = .ok (.aload_n 1, 1) := by decide +kernel
theorem dL_law_903 : decode code 903 = .ok (.aload_n 0, 1) := by decide +kernel
theorem dL_law_904 : decode code 904 = .ok (.iload 4, 2) := by decide +kernel
theorem dL_law_906 : decode code 906 = .ok (.iconst 1, 1) := by decide +kernel
theorem dL_law_907 : decode code 907 = .ok (.iadd, 1) := by decide +kernel
theorem dL_law_908 : decode code 908 = .ok (.iaload, 1) := by decide +kernel
theorem dL_law_909 : decode code 909 = .ok (.invokevirtual 123, 3) := by decide +kernel
theorem dL_law_912 : decode code 912 = .ok (.aload_n 2, 1) := by decide +kernel
theorem dL_law_913 : decode code 913 = .ok (.aload_n 0, 1) := by decide +kernel
theorem dL_law_914 : decode code 914 = .ok (.iload 4, 2) := by decide +kernel
theorem dL_law_916 : decode code 916 = .ok (.iconst 1, 1) := by decide +kernel
theorem dL_law_917 : decode code 917 = .ok (.iadd, 1) := by decide +kernel
theorem dL_law_918 : decode code 918 = .ok (.iaload, 1) := by decide +kernel
theorem dL_law_919 : decode code 919 = .ok (.invokevirtual 126, 3) := by decide +kernel
theorem dL_law_922 : decode code 922 = .ok (.if_icmp .eq 436, 3) := by decide +kernel
theorem dL_law_925 : decode code 925 = .ok (.iconst 0, 1) := by decide +kernel
theorem dL_law_926 : decode code 926 = .ok (.ireturn, 1) := by decide +kernel
theorem dL_law_927 : decode code 927 = .ok (.aload_n 1, 1) := by decide +kernel
theorem dL_law_928 : decode code 928 = .ok (.aload_n 0, 1) := by decide +kernel
theorem dL_law_929 : decode code 929 = .ok (.iload 4, 2) := by decide +kernel
theorem dL_law_931 : decode code 931 = .ok (.iconst 1, 1) := by decide +kernel
theorem dL_law_932 : decode code 932 = .ok (.iadd, 1) := by decide +kernel
theorem dL_law_933 : decode code 933 = .ok (.iaload, 1) := by decide +kernel
theorem dL_law_934 : decode code 934 = .ok (.aload_n 0, 1) := by decide +kernel
theorem dL_law_935 : decode code 935 = .ok (.iload 4, 2) := by decide +kernel
theorem dL_law_937 : decode code 937 = .ok (.iconst 2, 1) := by decide +kernel
theorem dL_law_938 : decode code 938 = .ok (.iadd, 1) := by decide +kernel
theorem dL_law_939 : decode code 939 = .ok (.iaload, 1) := by decide +kernel
theorem dL_law_940 : decode code 940 = .ok (.aload_n 0, 1) := by decide +kernel
theorem dL_law_941 : decode code 941 = .ok (.iload 4, 2) := by decide +kernel
theorem dL_law_943 : decode code 943 = .ok (.iconst 3, 1) := by decide +kernel
theorem dL_law_944 : decode code 944 = .ok (.iadd, 1) := by decide +kernel
theorem dL_law_945 : decode code 945 = .ok (.iaload, 1) := by decide +kernel
theorem dL_law_946 : decode code 946 = .ok (.invokevirtual 127, 3) := by decide +kernel
theorem dL_law_949 : decode code 949 = .ok (.aload_n 2, 1) := by decide +kernel
theorem dL_law_950 : decode code 950 = .ok (.aload_n 0, 1) := by decide +kernel
theorem dL_law_951 : decode code 951 = .ok (.iload 4, 2) := by decide +kernel
theorem dL_law_953 : decode code 953 = .ok (.iconst 1, 1) := by decide +kernel
theorem dL_law_954 : decode code 954 = .ok (.iadd, 1) := by decide +kernel
theorem dL_law_955 : decode code 955 = .ok (.iaload, 1) := by decide +kernel
theorem dL_law_956 : decode code 956 = .ok (.aload_n 0, 1) := by decide +kernel
theorem dL_law_957 : decode code 957 = .ok (.iload 4, 2) := by decide +kernel
theorem dL_law_959 : decode code 959 = .ok (.iconst 2, 1) := by decide +kernel
theorem dL_law_960 : decode code 960 = .ok (.iadd, 1) := by decide +kernel
theorem dL_law_961 : decode code 961 = .ok (.iaload, 1) := by decide +kernel
theorem dL_law_962 : decode code 962 = .ok (.aload_n 0, 1) := by decide +kernel
theorem dL_law_963 : decode code 963 = .ok (.iload 4, 2) := by decide +kernel
theorem dL_law_965 : decode code 965 = .ok (.iconst 3, 1) := by decide +kernel
theorem dL_law_966 : decode code 966 = .ok (.iadd, 1) := by decide +kernel
theorem dL_law_967 : decode code 967 = .ok (.iaload, 1) := by decide +kernel
theorem dL_law_968 : decode code 968 = .ok (.invokevirtual 130, 3) := by decide +kernel
theorem dL_law_971 : decode code 971 = .ok (.if_icmp .eq 387, 3) := by decide +kernel
theorem dL_law_974 : decode code 974 = .ok (.iconst 0, 1) := by decide +kernel
theorem dL_law_975 : decode code 975 = .ok (.ireturn, 1) := by decide +kernel
theorem dL_law_976 : decode code 976 = .ok (.aload_n 1, 1) := by decide +kernel
theorem dL_law_977 : decode code 977 = .ok (.aload_n 0, 1) := by decide +kernel
theorem dL_law_978 : decode code 978 = .ok (.iload 4, 2) := by decide +kernel
theorem dL_law_980 : decode code 980 = .ok (.iconst 1, 1) := by decide +kernel
theorem dL_law_981 : decode code 981 = .ok (.iadd, 1) := by decide +kernel
theorem dL_law_982 : decode code 982 = .ok (.iaload, 1) := by decide +kernel
theorem dL_law_983 : decode code 983 = .ok (.aload_n 0, 1) := by decide +kernel
theorem dL_law_984 : decode code 984 = .ok (.iload 4, 2) := by decide +kernel
theorem dL_law_986 : decode code 986 = .ok (.iconst 2, 1) := by decide +kernel
theorem dL_law_987 : decode code 987 = .ok (.iadd, 1) := by decide +kernel
theorem dL_law_988 : decode code 988 = .ok (.iaload, 1) := by decide +kernel
theorem dL_law_989 : decode code 989 = .ok (.invokevirtual 131, 3) := by decide +kernel
theorem dL_law_992 : decode code 992 = .ok (.aload_n 2, 1) := by decide +kernel
theorem dL_law_993 : decode code 993 = .ok (.aload_n 0, 1) := by decide +kernel
theorem dL_law_994 : decode code 994 = .ok (.iload 4, 2) := by decide +kernel
theorem dL_law_996 : decode code 996 = .ok (.iconst 1, 1) := by decide +kernel
theorem dL_law_997 : decode code 997 = .ok (.iadd, 1) := by decide +kernel
theorem dL_law_998 : decode code 998 = .ok (.iaload, 1) := by decide +kernel
theorem dL_law_999 : decode code 999 = .ok (.aload_n 0, 1) := by decide +kernel
theorem dL_law_1000 : decode code 1000 = .ok (.iload 4, 2) := by decide +kernel
theorem dL_law_1002 : decode code 1002 = .ok (.iconst 2, 1) := by decide +kernel
theorem dL_law_1003 : decode code 1003 = .ok (.iadd, 1) := by decide +kernel
theorem dL_law_1004 : decode code 1004 = .ok (.iaload, 1) := by decide +kernel
theorem dL_law_1005 : decode code 1005 = .ok (.invokevirtual 134, 3) := by decide +kernel
theorem dL_law_1008 : decode code 1008 = .ok (.if_icmp .eq 350, 3) := by decide +kernel
theorem dL_law_1011 : decode code 1011 = .ok (.iconst 0, 1) := by decide +kernel
theorem dL_law_1012 : decode code 1012 = .ok (.ireturn, 1) := by decide +kernel
theorem dL_law_1013 : decode code 1013 = .ok (.aload_n 1, 1) := by decide +kernel
theorem dL_law_1014 : decode code 1014 = .ok (.aload_n 0, 1) := by decide +kernel
theorem dL_law_1015 : decode code 1015 = .ok (.iload 4, 2) := by decide +kernel
theorem dL_law_1017 : decode code 1017 = .ok (.iconst 1, 1) := by decide +kernel
theorem dL_law_1018 : decode code 1018 = .ok (.iadd, 1) := by decide +kernel
theorem dL_law_1019 : decode code 1019 = .ok (.iaload, 1) := by decide +kernel
theorem dL_law_1020 : decode code 1020 = .ok (.invokevirtual 135, 3) := by decide +kernel
theorem dL_law_1023 : decode code 1023 = .ok (.aload_n 2, 1) := by decide +kernel
theorem dL_law_1024 : decode code 1024 = .ok (.aload_n 0, 1) := by decide +kernel
theorem dL_law_1025 : decode code 1025 = .ok (.iload 4, 2) := by decide +kernel
theorem dL_law_1027 : decode code 1027 = .ok (.iconst 1, 1) := by decide +kernel
theorem dL_law_1028 : decode code 1028 = .ok (.iadd, 1) := by decide +kernel
theorem dL_law_1029 : decode code 1029 = .ok (.iaload, 1) := by decide +kernel
theorem dL_law_1030 : decode code 1030 = .ok (.invokevirtual 138, 3) := by decide +kernel
theorem dL_law_1033 : decode code 1033 = .ok (.if_icmp .eq 325, 3) := by decide +kernel
theorem dL_law_1036 : decode code 1036 = .ok (.iconst 0, 1) := by decide +kernel
theorem dL_law_1037 : decode code 1037 = .ok (.ireturn, 1) := by decide +kernel
theorem dL_law_1038 : decode code 1038 = .ok (.aload_n 1, 1) := by decide +kernel
theorem dL_law_1039 : decode code 1039 = .ok (.aload_n 0, 1) := by decide +kernel
theorem dL_law_1040 : decode code 1040 = .ok (.iload 4, 2) := by decide +kernel
theorem dL_law_1042 : decode code 1042 = .ok (.iconst 1, 1) := by decide +kernel
theorem dL_law_1043 : decode code 1043 = .ok (.iadd, 1) := by decide +kernel
theorem dL_law_1044 : decode code 1044 = .ok (.iaload, 1) := by decide +kernel
theorem dL_law_1045 : decode code 1045 = .ok (.invokevirtual 139, 3) := by decide +kernel
theorem dL_law_1048 : decode code 1048 = .ok (.aload_n 2, 1) := by decide +kernel
theorem dL_law_1049 : decode code 1049 = .ok (.aload_n 0, 1) := by decide +kernel
theorem dL_law_1050 : decode code 1050 = .ok (.iload 4, 2) := by decide +kernel
theorem dL_law_1052 : decode code 1052 = .ok (.iconst 1, 1) := by decide +kernel
theorem dL_law_1053 : decode code 1053 = .ok (.iadd, 1) := by decide +kernel
theorem dL_law_1054 : decode code 1054 = .ok (.iaload, 1) := by decide +kernel
theorem dL_law_1055 : decode code 1055 = .ok (.invokevirtual 142, 3) := by decide +kernel
theorem dL_law_1058 : decode code 1058 = .ok (.if_icmp .eq 300, 3) := by decide +kernel
theorem dL_law_1061 : decode code 1061 = .ok (.iconst 0, 1) := by decide +kernel
theorem dL_law_1062 : decode code 1062 = .ok (.ireturn, 1) := by decide +kernel
theorem dL_law_1063 : decode code 1063 = .ok (.aload_n 1, 1) := by decide +kernel
theorem dL_law_1064 : decode code 1064 = .ok (.aload_n 0, 1) := by decide +kernel
theorem dL_law_1065 : decode code 1065 = .ok (.iload 4, 2) := by decide +kernel
theorem dL_law_1067 : decode code 1067 = .ok (.iconst 1, 1) := by decide +kernel
theorem dL_law_1068 : decode code 1068 = .ok (.iadd, 1) := by decide +kernel
theorem dL_law_1069 : decode code 1069 = .ok (.iaload, 1) := by decide +kernel
theorem dL_law_1070 : decode code 1070 = .ok (.aload_n 0, 1) := by decide +kernel
theorem dL_law_1071 : decode code 1071 = .ok (.iload 4, 2) := by decide +kernel
theorem dL_law_1073 : decode code 1073 = .ok (.iconst 2, 1) := by decide +kernel
theorem dL_law_1074 : decode code 1074 = .ok (.iadd, 1) := by decide +kernel
theorem dL_law_1075 : decode code 1075 = .ok (.iaload, 1) := by decide +kernel
theorem dL_law_1076 : decode code 1076 = .ok (.invokevirtual 143, 3) := by decide +kernel
theorem dL_law_1079 : decode code 1079 = .ok (.aload_n 2, 1) := by decide +kernel
theorem dL_law_1080 : decode code 1080 = .ok (.aload_n 0, 1) := by decide +kernel
theorem dL_law_1081 : decode code 1081 = .ok (.iload 4, 2) := by decide +kernel
theorem dL_law_1083 : decode code 1083 = .ok (.iconst 1, 1) := by decide +kernel
theorem dL_law_1084 : decode code 1084 = .ok (.iadd, 1) := by decide +kernel
theorem dL_law_1085 : decode code 1085 = .ok (.iaload, 1) := by decide +kernel
theorem dL_law_1086 : decode code 1086 = .ok (.aload_n 0, 1) := by decide +kernel
theorem dL_law_1087 : decode code 1087 = .ok (.iload 4, 2) := by decide +kernel
theorem dL_law_1089 : decode code 1089 = .ok (.iconst 2, 1) := by decide +kernel
theorem dL_law_1090 : decode code 1090 = .ok (.iadd, 1) := by decide +kernel
theorem dL_law_1091 : decode code 1091 = .ok (.iaload, 1) := by decide +kernel
theorem dL_law_1092 : decode code 1092 = .ok (.invokevirtual 146, 3) := by decide +kernel
theorem dL_law_1095 : decode code 1095 = .ok (.if_icmp .eq 263, 3) := by decide +kernel
theorem dL_law_1098 : decode code 1098 = .ok (.iconst 0, 1) := by decide +kernel
theorem dL_law_1099 : decode code 1099 = .ok (.ireturn, 1) := by decide +kernel
theorem dL_law_1100 : decode code 1100 = .ok (.aload_n 1, 1) := by decide +kernel
theorem dL_law_1101 : decode code 1101 = .ok (.invokevirtual 147, 3) := by decide +kernel
theorem dL_law_1104 : decode code 1104 = .ok (.aload_n 2, 1) := by decide +kernel
theorem dL_law_1105 : decode code 1105 = .ok (.invokevirtual 150, 3) := by decide +kernel
theorem dL_law_1108 : decode code 1108 = .ok (.if_icmp .eq 250, 3) := by decide +kernel
theorem dL_law_1111 : decode code 1111 = .ok (.iconst 0, 1) := by decide +kernel
theorem dL_law_1112 : decode code 1112 = .ok (.ireturn, 1) := by decide +kernel
theorem dL_law_1113 : decode code 1113 = .ok (.aload_n 1, 1) := by decide +kernel
theorem dL_law_1114 : decode code 1114 = .ok (.invokevirtual 151, 3) := by decide +kernel
theorem dL_law_1117 : decode code 1117 = .ok (.aload_n 2, 1) := by decide +kernel
theorem dL_law_1118 : decode code 1118 = .ok (.invokevirtual 154, 3) := by decide +kernel
theorem dL_law_1121 : decode code 1121 = .ok (.if_icmp .eq 237, 3) := by decide +kernel
theorem dL_law_1124 : decode code 1124 = .ok (.iconst 0, 1) := by decide +kernel
theorem dL_law_1125 : decode code 1125 = .ok (.ireturn, 1) := by decide +kernel
theorem dL_law_1126 : decode code 1126 = .ok (.aload_n 1, 1) := by decide +kernel
theorem dL_law_1127 : decode code 1127 = .ok (.aload_n 0, 1) := by decide +kernel
theorem dL_law_1128 : decode code 1128 = .ok (.iload 4, 2) := by decide +kernel
theorem dL_law_1130 : decode code 1130 = .ok (.iconst 1, 1) := by decide +kernel
theorem dL_law_1131 : decode code 1131 = .ok (.iadd, 1) := by decide +kernel
theorem dL_law_1132 : decode code 1132 = .ok (.iaload, 1) := by decide +kernel
theorem dL_law_1133 : decode code 1133 = .ok (.invokevirtual 155, 3) := by decide +kernel
theorem dL_law_1136 : decode code 1136 = .ok (.aload_n 2, 1) := by decide +kernel
theorem dL_law_1137 : decode code 1137 = .ok (.aload_n 0, 1) := by decide +kernel
theorem dL_law_1138 : decode code 1138 = .ok (.iload 4, 2) := by decide +kernel
theorem dL_law_1140 : decode code 1140 = .ok (.iconst 1, 1) := by decide +kernel
theorem dL_law_1141 : decode code 1141 = .ok (.iadd, 1) := by decide +kernel
theorem dL_law_1142 : decode code 1142 = .ok (.iaload, 1) := by decide +kernel
theorem dL_law_1143 : decode code 1143 = .ok (.invokevirtual 158, 3) := by decide +kernel
theorem dL_law_1146 : decode code 1146 = .ok (.if_icmp .eq 212, 3) := by decide +kernel
theorem dL_law_1149 : decode code 1149 = .ok (.iconst 0, 1) := by decide +kernel
theorem dL_law_1150 : decode code 1150 = .ok (.ireturn, 1) := by decide +kernel
theorem dL_law_1151 : decode code 1151 = .ok (.aload_n 1, 1) := by decide +kernel
theorem dL_law_1152 : decode code 1152 = .ok (.aload_n 0, 1) := by decide +kernel
theorem dL_law_1153 : decode code 1153 = .ok (.iload 4, 2) := by decide +kernel
theorem dL_law_1155 : decode code 1155 = .ok (.iconst 1, 1) := by decide +kernel
theorem dL_law_1156 : decode code 1156 = .ok (.iadd, 1) := by decide +kernel
theorem dL_law_1157 : decode code 1157 = .ok (.iaload, 1) := by decide +kernel
theorem dL_law_1158 : decode code 1158 = .ok (.aload_n 0, 1) := by decide +kernel
theorem dL_law_1159 : decode code 1159 = .ok (.iload 4, 2) := by decide +kernel
theorem dL_law_1161 : decode code 1161 = .ok (.iconst 2, 1) := by decide +kernel
theorem dL_law_1162 : decode code 1162 = .ok (.iadd, 1) := by decide +kernel
theorem dL_law_1163 : decode code 1163 = .ok (.iaload, 1) := by decide +kernel
theorem dL_law_1164 : decode code 1164 = .ok (.aload_n 0, 1) := by decide +kernel
theorem dL_law_1165 : decode code 1165 = .ok (.iload 4, 2) := by decide +kernel
theorem dL_law_1167 : decode code 1167 = .ok (.iconst 3, 1) := by decide +kernel
theorem dL_law_1168 : decode code 1168 = .ok (.iadd, 1) := by decide +kernel
theorem dL_law_1169 : decode code 1169 = .ok (.iaload, 1) := by decide +kernel
theorem dL_law_1170 : decode code 1170 = .ok (.aload_n 3, 1) := by decide +kernel
theorem dL_law_1171 : decode code 1171 = .ok (.invokestatic 159, 3) := by decide +kernel
theorem dL_law_1174 : decode code 1174 = .ok (.istore 5, 2) := by decide +kernel
theorem dL_law_1176 : decode code 1176 = .ok (.aload_n 2, 1) := by decide +kernel
theorem dL_law_1177 : decode code 1177 = .ok (.aload_n 0, 1) := by decide +kernel
theorem dL_law_1178 : decode code 1178 = .ok (.iload 4, 2) := by decide +kernel
theorem dL_law_1180 : decode code 1180 = .ok (.iconst 1, 1) := by decide +kernel
theorem dL_law_1181 : decode code 1181 = .ok (.iadd, 1) := by decide +kernel
theorem dL_law_1182 : decode code 1182 = .ok (.iaload, 1) := by decide +kernel
theorem dL_law_1183 : decode code 1183 = .ok (.aload_n 0, 1) := by decide +kernel
theorem dL_law_1184 : decode code 1184 = .ok (.iload 4, 2) := by decide +kernel
theorem dL_law_1186 : decode code 1186 = .ok (.iconst 2, 1) := by decide +kernel
theorem dL_law_1187 : decode code 1187 = .ok (.iadd, 1) := by decide +kernel
theorem dL_law_1188 : decode code 1188 = .ok (.iaload, 1) := by decide +kernel
theorem dL_law_1189 : decode code 1189 = .ok (.aload_n 0, 1) := by decide +kernel
theorem dL_law_1190 : decode code 1190 = .ok (.iload 4, 2) := by decide +kernel
theorem dL_law_1192 : decode code 1192 = .ok (.iconst 3, 1) := by decide +kernel
theorem dL_law_1193 : decode code 1193 = .ok (.iadd, 1) := by decide +kernel
theorem dL_law_1194 : decode code 1194 = .ok (.iaload, 1) := by decide +kernel
theorem dL_law_1195 : decode code 1195 = .ok (.invokevirtual 164, 3) := by decide +kernel
theorem dL_law_1198 : decode code 1198 = .ok (.istore 6, 2) := by decide +kernel
theorem dL_law_1200 : decode code 1200 = .ok (.aload_n 2, 1) := by decide +kernel
theorem dL_law_1201 : decode code 1201 = .ok (.invokevirtual 165, 3) := by decide +kernel
theorem dL_law_1204 : decode code 1204 = .ok (.iload 5, 2) := by decide +kernel
theorem dL_law_1206 : decode code 1206 = .ok (.if_icmp .eq 5, 3) := by decide +kernel
theorem dL_law_1209 : decode code 1209 = .ok (.iconst 0, 1) := by decide +kernel
theorem dL_law_1210 : decode code 1210 = .ok (.ireturn, 1) := by decide +kernel
theorem dL_law_1211 : decode code 1211 = .ok (.iload 5, 2) := by decide +kernel
theorem dL_law_1213 : decode code 1213 = .ok (.ifCond .ne 15, 3) := by decide +kernel
theorem dL_law_1216 : decode code 1216 = .ok (.aload_n 3, 1) := by decide +kernel
theorem dL_law_1217 : decode code 1217 = .ok (.iconst 0, 1) := by decide +kernel
theorem dL_law_1218 : decode code 1218 = .ok (.laload, 1) := by decide +kernel
theorem dL_law_1219 : decode code 1219 = .ok (.iload 6, 2) := by decide +kernel
theorem dL_law_1221 : decode code 1221 = .ok (.i2l, 1) := by decide +kernel
theorem dL_law_1222 : decode code 1222 = .ok (.lcmp, 1) := by decide +kernel
theorem dL_law_1223 : decode code 1223 = .ok (.ifCond .eq 5, 3) := by decide +kernel
theorem dL_law_1226 : decode code 1226 = .ok (.iconst 0, 1) := by decide +kernel
theorem dL_law_1227 : decode code 1227 = .ok (.ireturn, 1) := by decide +kernel
theorem dL_law_1228 : decode code 1228 = .ok (.goto 130, 3) := by decide +kernel
theorem dL_law_1231 : decode code 1231 = .ok (.aload_n 1, 1) := by decide +kernel
theorem dL_law_1232 : decode code 1232 = .ok (.aload_n 0, 1) := by decide +kernel
theorem dL_law_1233 : decode code 1233 = .ok (.iload 4, 2) := by decide +kernel
theorem dL_law_1235 : decode code 1235 = .ok (.iconst 1, 1) := by decide +kernel
theorem dL_law_1236 : decode code 1236 = .ok (.iadd, 1) := by decide +kernel
theorem dL_law_1237 : decode code 1237 = .ok (.iaload, 1) := by decide +kernel
theorem dL_law_1238 : decode code 1238 = .ok (.aload_n 0, 1) := by decide +kernel
theorem dL_law_1239 : decode code 1239 = .ok (.iload 4, 2) := by decide +kernel
theorem dL_law_1241 : decode code 1241 = .ok (.iconst 2, 1) := by decide +kernel
theorem dL_law_1242 : decode code 1242 = .ok (.iadd, 1) := by decide +kernel
theorem dL_law_1243 : decode code 1243 = .ok (.iaload, 1) := by decide +kernel
theorem dL_law_1244 : decode code 1244 = .ok (.aload_n 0, 1) := by decide +kernel
theorem dL_law_1245 : decode code 1245 = .ok (.iload 4, 2) := by decide +kernel
theorem dL_law_1247 : decode code 1247 = .ok (.iconst 3, 1) := by decide +kernel
theorem dL_law_1248 : decode code 1248 = .ok (.iadd, 1) := by decide +kernel
theorem dL_law_1249 : decode code 1249 = .ok (.iaload, 1) := by decide +kernel
theorem dL_law_1250 : decode code 1250 = .ok (.invokevirtual 168, 3) := by decide +kernel
theorem dL_law_1253 : decode code 1253 = .ok (.aload_n 2, 1) := by decide +kernel
theorem dL_law_1254 : decode code 1254 = .ok (.aload_n 0, 1) := by decide +kernel
theorem dL_law_1255 : decode code 1255 = .ok (.iload 4, 2) := by decide +kernel
theorem dL_law_1257 : decode code 1257 = .ok (.iconst 1, 1) := by decide +kernel
theorem dL_law_1258 : decode code 1258 = .ok (.iadd, 1) := by decide +kernel
theorem dL_law_1259 : decode code 1259 = .ok (.iaload, 1) := by decide +kernel
theorem dL_law_1260 : decode code 1260 = .ok (.aload_n 0, 1) := by decide +kernel
theorem dL_law_1261 : decode code 1261 = .ok (.iload 4, 2) := by decide +kernel
theorem dL_law_1263 : decode code 1263 = .ok (.iconst 2, 1) := by decide +kernel
theorem dL_law_1264 : decode code 1264 = .ok (.iadd, 1) := by decide +kernel
theorem dL_law_1265 : decode code 1265 = .ok (.iaload, 1) := by decide +kernel
theorem dL_law_1266 : decode code 1266 = .ok (.aload_n 0, 1) := by decide +kernel
theorem dL_law_1267 : decode code 1267 = .ok (.iload 4, 2) := by decide +kernel
theorem dL_law_1269 : decode code 1269 = .ok (.iconst 3, 1) := by decide +kernel
theorem dL_law_1270 : decode code 1270 = .ok (.iadd, 1) := by decide +kernel
theorem dL_law_1271 : decode code 1271 = .ok (.iaload, 1) := by decide +kernel
theorem dL_law_1272 : decode code 1272 = .ok (.invokevirtual 171, 3) := by decide +kernel
theorem dL_law_1275 : decode code 1275 = .ok (.if_icmp .eq 83, 3) := by decide +kernel
theorem dL_law_1278 : decode code 1278 = .ok (.iconst 0, 1) := by decide +kernel
theorem dL_law_1279 : decode code 1279 = .ok (.ireturn, 1) := by decide +kernel
theorem dL_law_1280 : decode code 1280 = .ok (.aload_n 1, 1) := by decide +kernel
theorem dL_law_1281 : decode code 1281 = .ok (.aload_n 0, 1) := by decide +kernel
theorem dL_law_1282 : decode code 1282 = .ok (.iload 4, 2) := by decide +kernel
theorem dL_law_1284 : decode code 1284 = .ok (.iconst 1, 1) := by decide +kernel
theorem dL_law_1285 : decode code 1285 = .ok (.iadd, 1) := by decide +kernel
theorem dL_law_1286 : decode code 1286 = .ok (.iaload, 1) := by decide +kernel
theorem dL_law_1287 : decode code 1287 = .ok (.aload_n 0, 1) := by decide +kernel
theorem dL_law_1288 : decode code 1288 = .ok (.iload 4, 2) := by decide +kernel
theorem dL_law_1290 : decode code 1290 = .ok (.iconst 2, 1) := by decide +kernel
theorem dL_law_1291 : decode code 1291 = .ok (.iadd, 1) := by decide +kernel
theorem dL_law_1292 : decode code 1292 = .ok (.iaload, 1) := by decide +kernel
theorem dL_law_1293 : decode code 1293 = .ok (.ifCond .eq 7, 3) := by decide +kernel
theorem dL_law_1296 : decode code 1296 = .ok (.iconst 1, 1) := by decide +kernel
theorem dL_law_1297 : decode code 1297 = .ok (.goto 4, 3) := by decide +kernel
theorem dL_law_1300 : decode code 1300 = .ok (.iconst 0, 1) := by decide +kernel
theorem dL_law_1301 : decode code 1301 = .ok (.invokevirtual 172, 3) := by decide +kernel
theorem dL_law_1304 : decode code 1304 = .ok (.aload_n 2, 1) := by decide +kernel
theorem dL_law_1305 : decode code 1305 = .ok (.aload_n 0, 1) := by decide +kernel
theorem dL_law_1306 : decode code 1306 = .ok (.iload 4, 2) := by decide +kernel
theorem dL_law_1308 : decode code 1308 = .ok (.iconst 1, 1) := by decide +kernel
theorem dL_law_1309 : decode code 1309 = .ok (.iadd, 1) := by decide +kernel
theorem dL_law_1310 : decode code 1310 = .ok (.iaload, 1) := by decide +kernel
theorem dL_law_1311 : decode code 1311 = .ok (.aload_n 0, 1) := by decide +kernel
theorem dL_law_1312 : decode code 1312 = .ok (.iload 4, 2) := by decide +kernel
theorem dL_law_1314 : decode code 1314 = .ok (.iconst 2, 1) := by decide +kernel
theorem dL_law_1315 : decode code 1315 = .ok (.iadd, 1) := by decide +kernel
theorem dL_law_1316 : decode code 1316 = .ok (.iaload, 1) := by decide +kernel
theorem dL_law_1317 : decode code 1317 = .ok (.ifCond .eq 7, 3) := by decide +kernel
theorem dL_law_1320 : decode code 1320 = .ok (.iconst 1, 1) := by decide +kernel
theorem dL_law_1321 : decode code 1321 = .ok (.goto 4, 3) := by decide +kernel
theorem dL_law_1324 : decode code 1324 = .ok (.iconst 0, 1) := by decide +kernel
theorem dL_law_1325 : decode code 1325 = .ok (.invokevirtual 176, 3) := by decide +kernel
theorem dL_law_1328 : decode code 1328 = .ok (.if_icmp .eq 30, 3) := by decide +kernel
theorem dL_law_1331 : decode code 1331 = .ok (.iconst 0, 1) := by decide +kernel
theorem dL_law_1332 : decode code 1332 = .ok (.ireturn, 1) := by decide +kernel
theorem dL_law_1333 : decode code 1333 = .ok (.aload_n 1, 1) := by decide +kernel
theorem dL_law_1334 : decode code 1334 = .ok (.aload_n 0, 1) := by decide +kernel
theorem dL_law_1335 : decode code 1335 = .ok (.iload 4, 2) := by decide +kernel
theorem dL_law_1337 : decode code 1337 = .ok (.iconst 1, 1) := by decide +kernel
theorem dL_law_1338 : decode code 1338 = .ok (.iadd, 1) := by decide +kernel
theorem dL_law_1339 : decode code 1339 = .ok (.iaload, 1) := by decide +kernel
theorem dL_law_1340 : decode code 1340 = .ok (.invokevirtual 177, 3) := by decide +kernel
theorem dL_law_1343 : decode code 1343 = .ok (.aload_n 2, 1) := by decide +kernel
theorem dL_law_1344 : decode code 1344 = .ok (.aload_n 0, 1) := by decide +kernel
theorem dL_law_1345 : decode code 1345 = .ok (.iload 4, 2) := by decide +kernel
theorem dL_law_1347 : decode code 1347 = .ok (.iconst 1, 1) := by decide +kernel
theorem dL_law_1348 : decode code 1348 = .ok (.iadd, 1) := by decide +kernel
theorem dL_law_1349 : decode code 1349 = .ok (.iaload, 1) := by decide +kernel
theorem dL_law_1350 : decode code 1350 = .ok (.invokevirtual 180, 3) := by decide +kernel
theorem dL_law_1353 : decode code 1353 = .ok (.if_icmp .eq 5, 3) := by decide +kernel
theorem dL_law_1356 : decode code 1356 = .ok (.iconst 0, 1) := by decide +kernel
theorem dL_law_1357 : decode code 1357 = .ok (.ireturn, 1) := by decide +kernel
theorem dL_law_1358 : decode code 1358 = .ok (.iinc 4 7, 3) := by decide +kernel
theorem dL_law_1361 : decode code 1361 = .ok (.goto (-1338), 3) := by decide +kernel
theorem dL_law_1364 : decode code 1364 = .ok (.iconst 1, 1) := by decide +kernel
theorem dL_law_1365 : decode code 1365 = .ok (.ireturn, 1) := by decide +kernel
set_option maxHeartbeats 8000000 in
set_option maxRecDepth 100000 in
theorem B_L_law {G : zG} {p : Program} {l : Launch} {e : Env} {s : State} {m : MethodId} {below : List Frame} {meth : Method} {c : Code} {b L : Nat} {xs : Nat → Int32} {kd : kD} {N0 : Nat} (C : zCt G ((p, l, e, room_1, s, m, #[Value.ref b], below, meth, c) : zX) 1300 601024 7293034 RL code 7) (hE2 : zE2 G s) (hst : l.stackTraces = false) (hX : va_X b L xs s (zN G)) (hbb : b < zB G) (hbs : s.heap.size = zB G) (hlocks : meth.locks = false) (hb9 : c.code = code) (hx9 : p.tables.exec = Jvm.exec) (hr9 : meth.sig.returnType = ret) : ∀ f : Nat,
    (∀ (k n : Nat), (k + f ≤ 601024 ∧ n + 6 * f ≤ 7293034) → ∀ (S : aS) (v1 : Nat) (v2 : Nat) (v3 : Nat) (v4 : Int32) (res : Option Value × aS), zT0 kd N0 S → v1 < N0 → kd v1 = .inl 10 → v2 < N0 → kd v2 = .inl 11 → v3 < N0 → kd v3 = .inr (1, 1) → F_L_law xs L f 0 [.ref v1, .ref v2, .ref v3, .int v4] S = some res → res.1 = some (.int 1) → zV G ((p, l, e, room_1, s, m, #[Value.ref b], below, meth, c) : zX) (lw_Z below #[Value.ref b] s) 7 [some (.ref b), some (.ref (zB G + v1)), some (.ref (zB G + v2)), some (.ref (zB G + v3)), some (.int v4), none, none] [] (cn G kd N0 S) 23 k n) ∧
    (∀ (k n : Nat), (k + f ≤ 601024 ∧ n + 6 * f ≤ 7293034) → ∀ (S : aS) (v1 : Nat) (v2 : Nat) (v3 : Nat) (v4 : Int32) (res : Option Value × aS), zT0 kd N0 S → v1 < N0 → kd v1 = .inl 10 → v2 < N0 → kd v2 = .inl 11 → v3 < N0 → kd v3 = .inr (1, 1) → F_L_law xs L f 1 [.ref v1, .ref v2, .ref v3, .int v4] S = some res → res.1 = some (.int 1) → zV G ((p, l, e, room_1, s, m, #[Value.ref b], below, meth, c) : zX) (lw_Z below #[Value.ref b] s) 7 [some (.ref b), some (.ref (zB G + v1)), some (.ref (zB G + v2)), some (.ref (zB G + v3)), some (.int v4), none, none] [] (cn G kd N0 S) 1358 k n) ∧
    (∀ (k n : Nat), (k + f ≤ 601024 ∧ n + 6 * f ≤ 7293034) → ∀ (S : aS) (v1 : Nat) (v2 : Nat) (v3 : Nat) (v4 : Int32) (res : Option Value × aS), zT0 kd N0 S → v1 < N0 → kd v1 = .inl 10 → v2 < N0 → kd v2 = .inl 11 → v3 < N0 → kd v3 = .inr (1, 1) → F_L_law xs L f 2 [.ref v1, .ref v2, .ref v3, .int v4] S = some res → res.1 = some (.int 1) → zV G ((p, l, e, room_1, s, m, #[Value.ref b], below, meth, c) : zX) (lw_Z below #[Value.ref b] s) 7 [some (.ref b), some (.ref (zB G + v1)), some (.ref (zB G + v2)), some (.ref (zB G + v3)), some (.int v4), none, none] [] (cn G kd N0 S) 1228 k n) := by
  intro f
  induction f with
  | zero => exact ⟨(fun _ _ _ _ _ _ _ _ _ _ _ _ _ _ _ _ h => by cases h), (fun _ _ _ _ _ _ _ _ _ _ _ _ _ _ _ _ h => by cases h), (fun _ _ _ _ _ _ _ _ _ _ _ _ _ _ _ _ h => by cases h)⟩
  | succ f ih =>
    obtain ⟨ih0, ih1, ih2⟩ := ih
    refine ⟨?_, ?_, ?_⟩
    · intro k n hkn S v1 v2 v3 v4 res hT hpv1 hkv1 hpv2 hkv2 hpv3 hkv3 hF h1
      replace hF : F_L_law_0 xs L f (F_L_law xs L f) v1 v2 v3 v4 S = some res := hF
      unfold F_L_law_0 at hF
      refine z_iload C dL_law_23 rfl ?_
      refine z_aload_n C dL_law_25 rfl ?_
      refine z_slen C hX hbb dL_law_26 ?_
      refine z_bipush (v := 7) C dL_law_27 (by decide) ?_
      refine z_isub C dL_law_29 ?_
      refine z_icmp_gt C 1364 dL_law_30 (by decide) (fun c1 => ?_) (fun c1 => ?_)
      · replace hF := ip hF c1
        refine z_iconst (v := 1) C dL_law_1364 (by decide) ?_
        cases hF
        exact zl_ret hbs hlocks hb9 hx9 hr9 (by omega) dL_law_1365
      · replace hF := im hF c1
        refine z_aload_n C dL_law_33 rfl ?_
        refine z_iload C dL_law_34 rfl ?_
        obtain ⟨hi2, hF⟩ := bX_some hF
        obtain ⟨q2, eq2⟩ : ∃ q : Nat, q = Int32.toNatClampNeg v4 := ⟨_, rfl⟩
        rw [← eq2] at hF
        refine z_sld C hX hbb dL_law_36 hi2 ?_
        rw [← eq2]
        refine z_bipush (v := 63) C dL_law_37 (by decide) ?_
        refine z_iand C dL_law_39 ?_
        by_cases c19 : ((xs q2) &&& (63 : Int32)) = 0
        · replace hF := ip hF c19
          refine z_tabIn C 204 dL_law_40 (by rw [c19]; decide) (by rw [c19]; decide) (off := 164) (by rw [c19]; rfl) (by decide) ?_
          refine z_aload_n C dL_law_204 rfl ?_
          refine z_aload_n C dL_law_205 rfl ?_
          refine z_iload C dL_law_206 rfl ?_
          refine z_iconst (v := 1) C dL_law_208 (by decide) ?_
          refine z_iadd C dL_law_209 ?_
          obtain ⟨hi4, hF⟩ := bX_some hF
          obtain ⟨q4, eq4⟩ : ∃ q : Nat, q = Int32.toNatClampNeg (v4 + (1 : Int32)) := ⟨_, rfl⟩
          rw [← eq4] at hF
          refine z_sld C hX hbb dL_law_210 hi4 ?_
          rw [← eq4]
          refine z_i2l C dL_law_211 ?_
          refine z_bipush (v := 32) C dL_law_212 (by decide) ?_
          refine z_lshl C dL_law_214 ?_
          refine z_aload_n C dL_law_215 rfl ?_
          refine z_iload C dL_law_216 rfl ?_
          refine z_iconst (v := 2) C dL_law_218 (by decide) ?_
          refine z_iadd C dL_law_219 ?_
          obtain ⟨hi5, hF⟩ := bX_some hF
          obtain ⟨q5, eq5⟩ : ∃ q : Nat, q = Int32.toNatClampNeg (v4 + (2 : Int32)) := ⟨_, rfl⟩
          rw [← eq5] at hF
          refine z_sld C hX hbb dL_law_220 hi5 ?_
          rw [← eq5]
          refine z_i2l C dL_law_221 ?_
          refine z_ldc2 C dL_law_222 klRL_19 ?_
          refine z_land C dL_law_225 ?_
          refine z_lor C dL_law_226 ?_
          refine z_aload_n C dL_law_227 rfl ?_
          refine z_iload C dL_law_228 rfl ?_
          refine z_iconst (v := 3) C dL_law_230 (by decide) ?_
          refine z_iadd C dL_law_231 ?_
          obtain ⟨hi6, hF⟩ := bX_some hF
          obtain ⟨q6, eq6⟩ : ∃ q : Nat, q = Int32.toNatClampNeg (v4 + (3 : Int32)) := ⟨_, rfl⟩
          rw [← eq6] at hF
          refine z_sld C hX hbb dL_law_232 hi6 ?_
          rw [← eq6]
          refine z_i2l C dL_law_233 ?_
          refine z_bipush (v := 32) C dL_law_234 (by decide) ?_
          refine z_lshl C dL_law_236 ?_
          refine z_aload_n C dL_law_237 rfl ?_
          refine z_iload C dL_law_238 rfl ?_
          refine z_iconst (v := 4) C dL_law_240 (by decide) ?_
          refine z_iadd C dL_law_241 ?_
          obtain ⟨hi7, hF⟩ := bX_some hF
          obtain ⟨q7, eq7⟩ : ∃ q : Nat, q = Int32.toNatClampNeg (v4 + (4 : Int32)) := ⟨_, rfl⟩
          rw [← eq7] at hF
          refine z_sld C hX hbb dL_law_242 hi7 ?_
          rw [← eq7]
          refine z_i2l C dL_law_243 ?_
          refine z_ldc2 C dL_law_244 klRL_19 ?_
          refine z_land C dL_law_247 ?_
          refine z_lor C dL_law_248 ?_
          refine z_aload_n C dL_law_249 rfl ?_
          refine z_iload C dL_law_250 rfl ?_
          refine z_iconst (v := 5) C dL_law_252 (by decide) ?_
          refine z_iadd C dL_law_253 ?_
          obtain ⟨hi8, hF⟩ := bX_some hF
          obtain ⟨q8, eq8⟩ : ∃ q : Nat, q = Int32.toNatClampNeg (v4 + (5 : Int32)) := ⟨_, rfl⟩
          rw [← eq8] at hF
          refine z_sld C hX hbb dL_law_254 hi8 ?_
          rw [← eq8]
          refine z_i2l C dL_law_255 ?_
          refine z_bipush (v := 32) C dL_law_256 (by decide) ?_
          refine z_lshl C dL_law_258 ?_
          refine z_aload_n C dL_law_259 rfl ?_
          refine z_iload C dL_law_260 rfl ?_
          refine z_bipush (v := 6) C dL_law_262 (by decide) ?_
          refine z_iadd C dL_law_264 ?_
          obtain ⟨hi9, hF⟩ := bX_some hF
          obtain ⟨q9, eq9⟩ : ∃ q : Nat, q = Int32.toNatClampNeg (v4 + (6 : Int32)) := ⟨_, rfl⟩
          rw [← eq9] at hF
          refine z_sld C hX hbb dL_law_265 hi9 ?_
          rw [← eq9]
          refine z_i2l C dL_law_266 ?_
          refine z_ldc2 C dL_law_267 klRL_19 ?_
          refine z_land C dL_law_270 ?_
          refine z_lor C dL_law_271 ?_
          obtain ⟨x10, S10, h10, hF⟩ := bI_some hF
          refine g_cV (st2 := [.int x10]) C (by omega) dL_law_272 zyX12_feed zvX12_feed lkRL_21 (K_X12_feed (l := l) hT hpv1 hkv1    h10) hpv1 hkv1 rfl (by decide) rfl rfl (Nat.le_of_ble_eq_true rfl) rfl (fun hT10 => ?_)
          refine z_aload_n C dL_law_275 rfl ?_
          refine z_aload_n C dL_law_276 rfl ?_
          refine z_iload C dL_law_277 rfl ?_
          refine z_iconst (v := 1) C dL_law_279 (by decide) ?_
          refine z_iadd C dL_law_280 ?_
          obtain ⟨hi11, hF⟩ := bX_some hF
          obtain ⟨q11, eq11⟩ : ∃ q : Nat, q = Int32.toNatClampNeg (v4 + (1 : Int32)) := ⟨_, rfl⟩
          rw [← eq11] at hF
          refine z_sld C hX hbb dL_law_281 hi11 ?_
          rw [← eq11]
          refine z_i2l C dL_law_282 ?_
          refine z_bipush (v := 32) C dL_law_283 (by decide) ?_
          refine z_lshl C dL_law_285 ?_
          refine z_aload_n C dL_law_286 rfl ?_
          refine z_iload C dL_law_287 rfl ?_
          refine z_iconst (v := 2) C dL_law_289 (by decide) ?_
          refine z_iadd C dL_law_290 ?_
          obtain ⟨hi12, hF⟩ := bX_some hF
          obtain ⟨q12, eq12⟩ : ∃ q : Nat, q = Int32.toNatClampNeg (v4 + (2 : Int32)) := ⟨_, rfl⟩
          rw [← eq12] at hF
          refine z_sld C hX hbb dL_law_291 hi12 ?_
          rw [← eq12]
          refine z_i2l C dL_law_292 ?_
          refine z_ldc2 C dL_law_293 klRL_19 ?_
          refine z_land C dL_law_296 ?_
          refine z_lor C dL_law_297 ?_
          refine z_aload_n C dL_law_298 rfl ?_
          refine z_iload C dL_law_299 rfl ?_
          refine z_iconst (v := 3) C dL_law_301 (by decide) ?_
          refine z_iadd C dL_law_302 ?_
          obtain ⟨hi13, hF⟩ := bX_some hF
          obtain ⟨q13, eq13⟩ : ∃ q : Nat, q = Int32.toNatClampNeg (v4 + (3 : Int32)) := ⟨_, rfl⟩
          rw [← eq13] at hF
          refine z_sld C hX hbb dL_law_303 hi13 ?_
          rw [← eq13]
          refine z_i2l C dL_law_304 ?_
          refine z_bipush (v := 32) C dL_law_305 (by decide) ?_
          refine z_lshl C dL_law_307 ?_
          refine z_aload_n C dL_law_308 rfl ?_
          refine z_iload C dL_law_309 rfl ?_
          refine z_iconst (v := 4) C dL_law_311 (by decide) ?_
          refine z_iadd C dL_law_312 ?_
          obtain ⟨hi14, hF⟩ := bX_some hF
          obtain ⟨q14, eq14⟩ : ∃ q : Nat, q = Int32.toNatClampNeg (v4 + (4 : Int32)) := ⟨_, rfl⟩
          rw [← eq14] at hF
          refine z_sld C hX hbb dL_law_313 hi14 ?_
          rw [← eq14]
          refine z_i2l C dL_law_314 ?_
          refine z_ldc2 C dL_law_315 klRL_19 ?_
          refine z_land C dL_law_318 ?_
          refine z_lor C dL_law_319 ?_
          refine z_aload_n C dL_law_320 rfl ?_
          refine z_iload C dL_law_321 rfl ?_
          refine z_iconst (v := 5) C dL_law_323 (by decide) ?_
          refine z_iadd C dL_law_324 ?_
          obtain ⟨hi15, hF⟩ := bX_some hF
          obtain ⟨q15, eq15⟩ : ∃ q : Nat, q = Int32.toNatClampNeg (v4 + (5 : Int32)) := ⟨_, rfl⟩
          rw [← eq15] at hF
          refine z_sld C hX hbb dL_law_325 hi15 ?_
          rw [← eq15]
          refine z_i2l C dL_law_326 ?_
          refine z_bipush (v := 32) C dL_law_327 (by decide) ?_
          refine z_lshl C dL_law_329 ?_
          refine z_aload_n C dL_law_330 rfl ?_
          refine z_iload C dL_law_331 rfl ?_
          refine z_bipush (v := 6) C dL_law_333 (by decide) ?_
          refine z_iadd C dL_law_335 ?_
          obtain ⟨hi16, hF⟩ := bX_some hF
          obtain ⟨q16, eq16⟩ : ∃ q : Nat, q = Int32.toNatClampNeg (v4 + (6 : Int32)) := ⟨_, rfl⟩
          rw [← eq16] at hF
          refine z_sld C hX hbb dL_law_336 hi16 ?_
          rw [← eq16]
          refine z_i2l C dL_law_337 ?_
          refine z_ldc2 C dL_law_338 klRL_19 ?_
          refine z_land C dL_law_341 ?_
          refine z_lor C dL_law_342 ?_
          obtain ⟨x17, S17, h17, hF⟩ := bI_some hF
          refine g_cV (st2 := [.int x17, .int x10]) C (by omega) dL_law_343 zyX13_feed zvX13_feed lkRL_25 (K_X13_feed (l := l) hT10 hpv2 hkv2    h17) hpv2 hkv2 rfl (by decide) rfl rfl (Nat.le_of_ble_eq_true rfl) rfl (fun hT17 => ?_)
          refine z_icmp_eq C 1358 dL_law_346 (by decide) (fun c18 => ?_) (fun c18 => ?_)
          · replace hF := ip hF c18
            exact ih1 k n (by omega) S17 v1 v2 v3 v4 res hT17 hpv1 hkv1 hpv2 hkv2 hpv3 hkv3  hF h1
          · replace hF := im hF c18
            refine z_iconst (v := 0) C dL_law_349 (by decide) ?_
            cases hF
            exact absurd h1 (by simp)
        replace hF := im hF c19
        by_cases c23 : ((xs q2) &&& (63 : Int32)) = 1
        · replace hF := ip hF c23
          refine z_tabIn C 351 dL_law_40 (by rw [c23]; decide) (by rw [c23]; decide) (off := 311) (by rw [c23]; rfl) (by decide) ?_
          refine z_aload_n C dL_law_351 rfl ?_
          obtain ⟨x20, S20, h20, hF⟩ := bI_some hF
          refine g_cV (st2 := [.int x20]) C (by omega) dL_law_352 zyX12_path zvX12_path lkRL_26 (K_X12_path (l := l) hT hpv1 hkv1 h20) hpv1 hkv1 rfl (by decide) rfl rfl (Nat.le_of_ble_eq_true rfl) rfl (fun hT20 => ?_)
          refine z_aload_n C dL_law_355 rfl ?_
          obtain ⟨x21, S21, h21, hF⟩ := bI_some hF
          refine g_cV (st2 := [.int x21, .int x20]) C (by omega) dL_law_356 zyX13_path zvX13_path lkRL_30 (K_X13_path (l := l) hT20 hpv2 hkv2 h21) hpv2 hkv2 rfl (by decide) rfl rfl (Nat.le_of_ble_eq_true rfl) rfl (fun hT21 => ?_)
          refine z_icmp_eq C 1358 dL_law_359 (by decide) (fun c22 => ?_) (fun c22 => ?_)
          · replace hF := ip hF c22
            exact ih1 k n (by omega) S21 v1 v2 v3 v4 res hT21 hpv1 hkv1 hpv2 hkv2 hpv3 hkv3  hF h1
          · replace hF := im hF c22
            refine z_iconst (v := 0) C dL_law_362 (by decide) ?_
            cases hF
            exact absurd h1 (by simp)
        replace hF := im hF c23
        by_cases c27 : ((xs q2) &&& (63 : Int32)) = 2
        · replace hF := ip hF c27
          refine z_tabIn C 364 dL_law_40 (by rw [c27]; decide) (by rw [c27]; decide) (off := 324) (by rw [c27]; rfl) (by decide) ?_
          refine z_aload_n C dL_law_364 rfl ?_
          obtain ⟨x24, S24, h24, hF⟩ := bI_some hF
          refine g_cV (st2 := [.int x24]) C (by omega) dL_law_365 zyX12_day zvX12_day lkRL_31 (K_X12_day (l := l) hT hpv1 hkv1 h24) hpv1 hkv1 rfl (by decide) rfl rfl (Nat.le_of_ble_eq_true rfl) rfl (fun hT24 => ?_)
          refine z_aload_n C dL_law_368 rfl ?_
          obtain ⟨x25, S25, h25, hF⟩ := bI_some hF
          refine g_cV (st2 := [.int x25, .int x24]) C (by omega) dL_law_369 zyX13_day zvX13_day lkRL_34 (K_X13_day (l := l) hT24 hpv2 hkv2 h25) hpv2 hkv2 rfl (by decide) rfl rfl (Nat.le_of_ble_eq_true rfl) rfl (fun hT25 => ?_)
          refine z_icmp_eq C 1358 dL_law_372 (by decide) (fun c26 => ?_) (fun c26 => ?_)
          · replace hF := ip hF c26
            exact ih1 k n (by omega) S25 v1 v2 v3 v4 res hT25 hpv1 hkv1 hpv2 hkv2 hpv3 hkv3  hF h1
          · replace hF := im hF c26
            refine z_iconst (v := 0) C dL_law_375 (by decide) ?_
            cases hF
            exact absurd h1 (by simp)
        replace hF := im hF c27
        by_cases c35 : ((xs q2) &&& (63 : Int32)) = 3
        · replace hF := ip hF c35
          refine z_tabIn C 377 dL_law_40 (by rw [c35]; decide) (by rw [c35]; decide) (off := 337) (by rw [c35]; rfl) (by decide) ?_
          refine z_aload_n C dL_law_377 rfl ?_
          refine z_aload_n C dL_law_378 rfl ?_
          refine z_iload C dL_law_379 rfl ?_
          refine z_iconst (v := 1) C dL_law_381 (by decide) ?_
          refine z_iadd C dL_law_382 ?_
          obtain ⟨hi28, hF⟩ := bX_some hF
          obtain ⟨q28, eq28⟩ : ∃ q : Nat, q = Int32.toNatClampNeg (v4 + (1 : Int32)) := ⟨_, rfl⟩
          rw [← eq28] at hF
          refine z_sld C hX hbb dL_law_383 hi28 ?_
          rw [← eq28]
          refine z_aload_n C dL_law_384 rfl ?_
          refine z_iload C dL_law_385 rfl ?_
          refine z_iconst (v := 2) C dL_law_387 (by decide) ?_
          refine z_iadd C dL_law_388 ?_
          obtain ⟨hi29, hF⟩ := bX_some hF
          obtain ⟨q29, eq29⟩ : ∃ q : Nat, q = Int32.toNatClampNeg (v4 + (2 : Int32)) := ⟨_, rfl⟩
          rw [← eq29] at hF
          refine z_sld C hX hbb dL_law_389 hi29 ?_
          rw [← eq29]
          obtain ⟨x30, S30, h30, hF⟩ := bI_some hF
          refine g_cV (st2 := [.int x30]) C (by omega) dL_law_390 zyX12_yard zvX12_yard lkRL_35 (K_X12_yard (l := l) hT hpv1 hkv1   h30) hpv1 hkv1 rfl (by decide) rfl rfl (Nat.le_of_ble_eq_true rfl) rfl (fun hT30 => ?_)
          refine z_aload_n C dL_law_393 rfl ?_
          refine z_aload_n C dL_law_394 rfl ?_
          refine z_iload C dL_law_395 rfl ?_
          refine z_iconst (v := 1) C dL_law_397 (by decide) ?_
          refine z_iadd C dL_law_398 ?_
          obtain ⟨hi31, hF⟩ := bX_some hF
          obtain ⟨q31, eq31⟩ : ∃ q : Nat, q = Int32.toNatClampNeg (v4 + (1 : Int32)) := ⟨_, rfl⟩
          rw [← eq31] at hF
          refine z_sld C hX hbb dL_law_399 hi31 ?_
          rw [← eq31]
          refine z_aload_n C dL_law_400 rfl ?_
          refine z_iload C dL_law_401 rfl ?_
          refine z_iconst (v := 2) C dL_law_403 (by decide) ?_
          refine z_iadd C dL_law_404 ?_
          obtain ⟨hi32, hF⟩ := bX_some hF
          obtain ⟨q32, eq32⟩ : ∃ q : Nat, q = Int32.toNatClampNeg (v4 + (2 : Int32)) := ⟨_, rfl⟩
          rw [← eq32] at hF
          refine z_sld C hX hbb dL_law_405 hi32 ?_
          rw [← eq32]
          obtain ⟨x33, S33, h33, hF⟩ := bI_some hF
          refine g_cV (st2 := [.int x33, .int x30]) C (by omega) dL_law_406 zyX13_yard zvX13_yard lkRL_39 (K_X13_yard (l := l) hT30 hpv2 hkv2   h33) hpv2 hkv2 rfl (by decide) rfl rfl (Nat.le_of_ble_eq_true rfl) rfl (fun hT33 => ?_)
          refine z_icmp_eq C 1358 dL_law_409 (by decide) (fun c34 => ?_) (fun c34 => ?_)
          · replace hF := ip hF c34
            exact ih1 k n (by omega) S33 v1 v2 v3 v4 res hT33 hpv1 hkv1 hpv2 hkv2 hpv3 hkv3  hF h1
          · replace hF := im hF c34
            refine z_iconst (v := 0) C dL_law_412 (by decide) ?_
            cases hF
            exact absurd h1 (by simp)
        replace hF := im hF c35
        by_cases c43 : ((xs q2) &&& (63 : Int32)) = 4
        · replace hF := ip hF c43
          refine z_tabIn C 414 dL_law_40 (by rw [c43]; decide) (by rw [c43]; decide) (off := 374) (by rw [c43]; rfl) (by decide) ?_
          refine z_aload_n C dL_law_414 rfl ?_
          refine z_aload_n C dL_law_415 rfl ?_
          refine z_iload C dL_law_416 rfl ?_
          refine z_iconst (v := 1) C dL_law_418 (by decide) ?_
          refine z_iadd C dL_law_419 ?_
          obtain ⟨hi36, hF⟩ := bX_some hF
          obtain ⟨q36, eq36⟩ : ∃ q : Nat, q = Int32.toNatClampNeg (v4 + (1 : Int32)) := ⟨_, rfl⟩
          rw [← eq36] at hF
          refine z_sld C hX hbb dL_law_420 hi36 ?_
          rw [← eq36]
          refine z_aload_n C dL_law_421 rfl ?_
          refine z_iload C dL_law_422 rfl ?_
          refine z_iconst (v := 2) C dL_law_424 (by decide) ?_
          refine z_iadd C dL_law_425 ?_
          obtain ⟨hi37, hF⟩ := bX_some hF
          obtain ⟨q37, eq37⟩ : ∃ q : Nat, q = Int32.toNatClampNeg (v4 + (2 : Int32)) := ⟨_, rfl⟩
          rw [← eq37] at hF
          refine z_sld C hX hbb dL_law_426 hi37 ?_
          rw [← eq37]
          obtain ⟨x38, S38, h38, hF⟩ := bI_some hF
          refine g_cV (st2 := [.int x38]) C (by omega) dL_law_427 zyX12_person zvX12_person lkRL_40 (K_X12_person (l := l) hT hpv1 hkv1   h38) hpv1 hkv1 rfl (by decide) rfl rfl (Nat.le_of_ble_eq_true rfl) rfl (fun hT38 => ?_)
          refine z_aload_n C dL_law_430 rfl ?_
          refine z_aload_n C dL_law_431 rfl ?_
          refine z_iload C dL_law_432 rfl ?_
          refine z_iconst (v := 1) C dL_law_434 (by decide) ?_
          refine z_iadd C dL_law_435 ?_
          obtain ⟨hi39, hF⟩ := bX_some hF
          obtain ⟨q39, eq39⟩ : ∃ q : Nat, q = Int32.toNatClampNeg (v4 + (1 : Int32)) := ⟨_, rfl⟩
          rw [← eq39] at hF
          refine z_sld C hX hbb dL_law_436 hi39 ?_
          rw [← eq39]
          refine z_aload_n C dL_law_437 rfl ?_
          refine z_iload C dL_law_438 rfl ?_
          refine z_iconst (v := 2) C dL_law_440 (by decide) ?_
          refine z_iadd C dL_law_441 ?_
          obtain ⟨hi40, hF⟩ := bX_some hF
          obtain ⟨q40, eq40⟩ : ∃ q : Nat, q = Int32.toNatClampNeg (v4 + (2 : Int32)) := ⟨_, rfl⟩
          rw [← eq40] at hF
          refine z_sld C hX hbb dL_law_442 hi40 ?_
          rw [← eq40]
          obtain ⟨x41, S41, h41, hF⟩ := bI_some hF
          refine g_cV (st2 := [.int x41, .int x38]) C (by omega) dL_law_443 zyX13_person zvX13_person lkRL_43 (K_X13_person (l := l) hT38 hpv2 hkv2   h41) hpv2 hkv2 rfl (by decide) rfl rfl (Nat.le_of_ble_eq_true rfl) rfl (fun hT41 => ?_)
          refine z_icmp_eq C 1358 dL_law_446 (by decide) (fun c42 => ?_) (fun c42 => ?_)
          · replace hF := ip hF c42
            exact ih1 k n (by omega) S41 v1 v2 v3 v4 res hT41 hpv1 hkv1 hpv2 hkv2 hpv3 hkv3  hF h1
          · replace hF := im hF c42
            refine z_iconst (v := 0) C dL_law_449 (by decide) ?_
            cases hF
            exact absurd h1 (by simp)
        replace hF := im hF c43
        by_cases c47 : ((xs q2) &&& (63 : Int32)) = 5
        · replace hF := ip hF c47
          refine z_tabIn C 451 dL_law_40 (by rw [c47]; decide) (by rw [c47]; decide) (off := 411) (by rw [c47]; rfl) (by decide) ?_
          refine z_aload_n C dL_law_451 rfl ?_
          obtain ⟨x44, S44, h44, hF⟩ := bI_some hF
          refine g_cV (st2 := [.int x44]) C (by omega) dL_law_452 zyX12_space zvX12_space lkRL_44 (K_X12_space (l := l) hT hpv1 hkv1 h44) hpv1 hkv1 rfl (by decide) rfl rfl (Nat.le_of_ble_eq_true rfl) rfl (fun hT44 => ?_)
          refine z_aload_n C dL_law_455 rfl ?_
          obtain ⟨x45, S45, h45, hF⟩ := bI_some hF
          refine g_cV (st2 := [.int x45, .int x44]) C (by omega) dL_law_456 zyX13_space zvX13_space lkRL_47 (K_X13_space (l := l) hT44 hpv2 hkv2 h45) hpv2 hkv2 rfl (by decide) rfl rfl (Nat.le_of_ble_eq_true rfl) rfl (fun hT45 => ?_)
          refine z_icmp_eq C 1358 dL_law_459 (by decide) (fun c46 => ?_) (fun c46 => ?_)
          · replace hF := ip hF c46
            exact ih1 k n (by omega) S45 v1 v2 v3 v4 res hT45 hpv1 hkv1 hpv2 hkv2 hpv3 hkv3  hF h1
          · replace hF := im hF c46
            refine z_iconst (v := 0) C dL_law_462 (by decide) ?_
            cases hF
            exact absurd h1 (by simp)
        replace hF := im hF c47
        by_cases c53 : ((xs q2) &&& (63 : Int32)) = 6
        · replace hF := ip hF c53
          refine z_tabIn C 464 dL_law_40 (by rw [c53]; decide) (by rw [c53]; decide) (off := 424) (by rw [c53]; rfl) (by decide) ?_
          refine z_aload_n C dL_law_464 rfl ?_
          refine z_aload_n C dL_law_465 rfl ?_
          refine z_iload C dL_law_466 rfl ?_
          refine z_iconst (v := 1) C dL_law_468 (by decide) ?_
          refine z_iadd C dL_law_469 ?_
          obtain ⟨hi48, hF⟩ := bX_some hF
          obtain ⟨q48, eq48⟩ : ∃ q : Nat, q = Int32.toNatClampNeg (v4 + (1 : Int32)) := ⟨_, rfl⟩
          rw [← eq48] at hF
          refine z_sld C hX hbb dL_law_470 hi48 ?_
          rw [← eq48]
          obtain ⟨x49, S49, h49, hF⟩ := bI_some hF
          refine g_cV (st2 := [.int x49]) C (by omega) dL_law_471 zyX12_heaps zvX12_heaps lkRL_48 (K_X12_heaps (l := l) hT hpv1 hkv1  h49) hpv1 hkv1 rfl (by decide) rfl rfl (Nat.le_of_ble_eq_true rfl) rfl (fun hT49 => ?_)
          refine z_aload_n C dL_law_474 rfl ?_
          refine z_aload_n C dL_law_475 rfl ?_
          refine z_iload C dL_law_476 rfl ?_
          refine z_iconst (v := 1) C dL_law_478 (by decide) ?_
          refine z_iadd C dL_law_479 ?_
          obtain ⟨hi50, hF⟩ := bX_some hF
          obtain ⟨q50, eq50⟩ : ∃ q : Nat, q = Int32.toNatClampNeg (v4 + (1 : Int32)) := ⟨_, rfl⟩
          rw [← eq50] at hF
          refine z_sld C hX hbb dL_law_480 hi50 ?_
          rw [← eq50]
          obtain ⟨x51, S51, h51, hF⟩ := bI_some hF
          refine g_cV (st2 := [.int x51, .int x49]) C (by omega) dL_law_481 zyX13_heaps zvX13_heaps lkRL_52 (K_X13_heaps (l := l) hT49 hpv2 hkv2  h51) hpv2 hkv2 rfl (by decide) rfl rfl (Nat.le_of_ble_eq_true rfl) rfl (fun hT51 => ?_)
          refine z_icmp_eq C 1358 dL_law_484 (by decide) (fun c52 => ?_) (fun c52 => ?_)
          · replace hF := ip hF c52
            exact ih1 k n (by omega) S51 v1 v2 v3 v4 res hT51 hpv1 hkv1 hpv2 hkv2 hpv3 hkv3  hF h1
          · replace hF := im hF c52
            refine z_iconst (v := 0) C dL_law_487 (by decide) ?_
            cases hF
            exact absurd h1 (by simp)
        replace hF := im hF c53
        by_cases c57 : ((xs q2) &&& (63 : Int32)) = 7
        · replace hF := ip hF c57
          refine z_tabIn C 489 dL_law_40 (by rw [c57]; decide) (by rw [c57]; decide) (off := 449) (by rw [c57]; rfl) (by decide) ?_
          refine z_aload_n C dL_law_489 rfl ?_
          obtain ⟨x54, S54, h54, hF⟩ := bI_some hF
          refine g_cV (st2 := [.int x54]) C (by omega) dL_law_490 zyX12_lies zvX12_lies lkRL_53 (K_X12_lies (l := l) hT hpv1 hkv1 h54) hpv1 hkv1 rfl (by decide) rfl rfl (Nat.le_of_ble_eq_true rfl) rfl (fun hT54 => ?_)
          refine z_aload_n C dL_law_493 rfl ?_
          obtain ⟨x55, S55, h55, hF⟩ := bI_some hF
          refine g_cV (st2 := [.int x55, .int x54]) C (by omega) dL_law_494 zyX13_lies zvX13_lies lkRL_56 (K_X13_lies (l := l) hT54 hpv2 hkv2 h55) hpv2 hkv2 rfl (by decide) rfl rfl (Nat.le_of_ble_eq_true rfl) rfl (fun hT55 => ?_)
          refine z_icmp_eq C 1358 dL_law_497 (by decide) (fun c56 => ?_) (fun c56 => ?_)
          · replace hF := ip hF c56
            exact ih1 k n (by omega) S55 v1 v2 v3 v4 res hT55 hpv1 hkv1 hpv2 hkv2 hpv3 hkv3  hF h1
          · replace hF := im hF c56
            refine z_iconst (v := 0) C dL_law_500 (by decide) ?_
            cases hF
            exact absurd h1 (by simp)
        replace hF := im hF c57
        by_cases c63 : ((xs q2) &&& (63 : Int32)) = 8
        · replace hF := ip hF c63
          refine z_tabIn C 502 dL_law_40 (by rw [c63]; decide) (by rw [c63]; decide) (off := 462) (by rw [c63]; rfl) (by decide) ?_
          refine z_aload_n C dL_law_502 rfl ?_
          refine z_aload_n C dL_law_503 rfl ?_
          refine z_iload C dL_law_504 rfl ?_
          refine z_iconst (v := 1) C dL_law_506 (by decide) ?_
          refine z_iadd C dL_law_507 ?_
          obtain ⟨hi58, hF⟩ := bX_some hF
          obtain ⟨q58, eq58⟩ : ∃ q : Nat, q = Int32.toNatClampNeg (v4 + (1 : Int32)) := ⟨_, rfl⟩
          rw [← eq58] at hF
          refine z_sld C hX hbb dL_law_508 hi58 ?_
          rw [← eq58]
          obtain ⟨x59, S59, h59, hF⟩ := bI_some hF
          refine g_cV (st2 := [.int x59]) C (by omega) dL_law_509 zyX12_walk zvX12_walk lkRL_57 (K_X12_walk (l := l) hT hpv1 hkv1  h59) hpv1 hkv1 rfl (by decide) rfl rfl (Nat.le_of_ble_eq_true rfl) rfl (fun hT59 => ?_)
          refine z_aload_n C dL_law_512 rfl ?_
          refine z_aload_n C dL_law_513 rfl ?_
          refine z_iload C dL_law_514 rfl ?_
          refine z_iconst (v := 1) C dL_law_516 (by decide) ?_
          refine z_iadd C dL_law_517 ?_
          obtain ⟨hi60, hF⟩ := bX_some hF
          obtain ⟨q60, eq60⟩ : ∃ q : Nat, q = Int32.toNatClampNeg (v4 + (1 : Int32)) := ⟨_, rfl⟩
          rw [← eq60] at hF
          refine z_sld C hX hbb dL_law_518 hi60 ?_
          rw [← eq60]
          obtain ⟨x61, S61, h61, hF⟩ := bI_some hF
          refine g_cV (st2 := [.int x61, .int x59]) C (by omega) dL_law_519 zyX13_walk zvX13_walk lkRL_60 (K_X13_walk (l := l) hT59 hpv2 hkv2  h61) hpv2 hkv2 rfl (by decide) rfl rfl (Nat.le_of_ble_eq_true rfl) rfl (fun hT61 => ?_)
          refine z_icmp_eq C 1358 dL_law_522 (by decide) (fun c62 => ?_) (fun c62 => ?_)
          · replace hF := ip hF c62
            exact ih1 k n (by omega) S61 v1 v2 v3 v4 res hT61 hpv1 hkv1 hpv2 hkv2 hpv3 hkv3  hF h1
          · replace hF := im hF c62
            refine z_iconst (v := 0) C dL_law_525 (by decide) ?_
            cases hF
            exact absurd h1 (by simp)
        replace hF := im hF c63
        by_cases c69 : ((xs q2) &&& (63 : Int32)) = 9
        · replace hF := ip hF c69
          refine z_tabIn C 527 dL_law_40 (by rw [c69]; decide) (by rw [c69]; decide) (off := 487) (by rw [c69]; rfl) (by decide) ?_
          refine z_aload_n C dL_law_527 rfl ?_
          refine z_aload_n C dL_law_528 rfl ?_
          refine z_iload C dL_law_529 rfl ?_
          refine z_iconst (v := 1) C dL_law_531 (by decide) ?_
          refine z_iadd C dL_law_532 ?_
          obtain ⟨hi64, hF⟩ := bX_some hF
          obtain ⟨q64, eq64⟩ : ∃ q : Nat, q = Int32.toNatClampNeg (v4 + (1 : Int32)) := ⟨_, rfl⟩
          rw [← eq64] at hF
          refine z_sld C hX hbb dL_law_533 hi64 ?_
          rw [← eq64]
          obtain ⟨x65, S65, h65, hF⟩ := bI_some hF
          refine g_cV (st2 := [.int x65]) C (by omega) dL_law_534 zyX12_empty zvX12_empty lkRL_61 (K_X12_empty (l := l) hT hpv1 hkv1  h65) hpv1 hkv1 rfl (by decide) rfl rfl (Nat.le_of_ble_eq_true rfl) rfl (fun hT65 => ?_)
          refine z_aload_n C dL_law_537 rfl ?_
          refine z_aload_n C dL_law_538 rfl ?_
          refine z_iload C dL_law_539 rfl ?_
          refine z_iconst (v := 1) C dL_law_541 (by decide) ?_
          refine z_iadd C dL_law_542 ?_
          obtain ⟨hi66, hF⟩ := bX_some hF
          obtain ⟨q66, eq66⟩ : ∃ q : Nat, q = Int32.toNatClampNeg (v4 + (1 : Int32)) := ⟨_, rfl⟩
          rw [← eq66] at hF
          refine z_sld C hX hbb dL_law_543 hi66 ?_
          rw [← eq66]
          obtain ⟨x67, S67, h67, hF⟩ := bI_some hF
          refine g_cV (st2 := [.int x67, .int x65]) C (by omega) dL_law_544 zyX13_empty zvX13_empty lkRL_64 (K_X13_empty (l := l) hT65 hpv2 hkv2  h67) hpv2 hkv2 rfl (by decide) rfl rfl (Nat.le_of_ble_eq_true rfl) rfl (fun hT67 => ?_)
          refine z_icmp_eq C 1358 dL_law_547 (by decide) (fun c68 => ?_) (fun c68 => ?_)
          · replace hF := ip hF c68
            exact ih1 k n (by omega) S67 v1 v2 v3 v4 res hT67 hpv1 hkv1 hpv2 hkv2 hpv3 hkv3  hF h1
          · replace hF := im hF c68
            refine z_iconst (v := 0) C dL_law_550 (by decide) ?_
            cases hF
            exact absurd h1 (by simp)
        replace hF := im hF c69
        by_cases c77 : ((xs q2) &&& (63 : Int32)) = 10
        · replace hF := ip hF c77
          refine z_tabIn C 552 dL_law_40 (by rw [c77]; decide) (by rw [c77]; decide) (off := 512) (by rw [c77]; rfl) (by decide) ?_
          refine z_aload_n C dL_law_552 rfl ?_
          refine z_aload_n C dL_law_553 rfl ?_
          refine z_iload C dL_law_554 rfl ?_
          refine z_iconst (v := 1) C dL_law_556 (by decide) ?_
          refine z_iadd C dL_law_557 ?_
          obtain ⟨hi70, hF⟩ := bX_some hF
          obtain ⟨q70, eq70⟩ : ∃ q : Nat, q = Int32.toNatClampNeg (v4 + (1 : Int32)) := ⟨_, rfl⟩
          rw [← eq70] at hF
          refine z_sld C hX hbb dL_law_558 hi70 ?_
          rw [← eq70]
          refine z_aload_n C dL_law_559 rfl ?_
          refine z_iload C dL_law_560 rfl ?_
          refine z_iconst (v := 2) C dL_law_562 (by decide) ?_
          refine z_iadd C dL_law_563 ?_
          obtain ⟨hi71, hF⟩ := bX_some hF
          obtain ⟨q71, eq71⟩ : ∃ q : Nat, q = Int32.toNatClampNeg (v4 + (2 : Int32)) := ⟨_, rfl⟩
          rw [← eq71] at hF
          refine z_sld C hX hbb dL_law_564 hi71 ?_
          rw [← eq71]
          obtain ⟨x72, S72, h72, hF⟩ := bI_some hF
          refine g_cV (st2 := [.int x72]) C (by omega) dL_law_565 zyX12_put zvX12_put lkRL_65 (K_X12_put (l := l) hT hpv1 hkv1   h72) hpv1 hkv1 rfl (by decide) rfl rfl (Nat.le_of_ble_eq_true rfl) rfl (fun hT72 => ?_)
          refine z_aload_n C dL_law_568 rfl ?_
          refine z_aload_n C dL_law_569 rfl ?_
          refine z_iload C dL_law_570 rfl ?_
          refine z_iconst (v := 1) C dL_law_572 (by decide) ?_
          refine z_iadd C dL_law_573 ?_
          obtain ⟨hi73, hF⟩ := bX_some hF
          obtain ⟨q73, eq73⟩ : ∃ q : Nat, q = Int32.toNatClampNeg (v4 + (1 : Int32)) := ⟨_, rfl⟩
          rw [← eq73] at hF
          refine z_sld C hX hbb dL_law_574 hi73 ?_
          rw [← eq73]
          refine z_aload_n C dL_law_575 rfl ?_
          refine z_iload C dL_law_576 rfl ?_
          refine z_iconst (v := 2) C dL_law_578 (by decide) ?_
          refine z_iadd C dL_law_579 ?_
          obtain ⟨hi74, hF⟩ := bX_some hF
          obtain ⟨q74, eq74⟩ : ∃ q : Nat, q = Int32.toNatClampNeg (v4 + (2 : Int32)) := ⟨_, rfl⟩
          rw [← eq74] at hF
          refine z_sld C hX hbb dL_law_580 hi74 ?_
          rw [← eq74]
          obtain ⟨x75, S75, h75, hF⟩ := bI_some hF
          refine g_cV (st2 := [.int x75, .int x72]) C (by omega) dL_law_581 zyX13_put zvX13_put lkRL_69 (K_X13_put (l := l) hT72 hpv2 hkv2   h75) hpv2 hkv2 rfl (by decide) rfl rfl (Nat.le_of_ble_eq_true rfl) rfl (fun hT75 => ?_)
          refine z_icmp_eq C 1358 dL_law_584 (by decide) (fun c76 => ?_) (fun c76 => ?_)
          · replace hF := ip hF c76
            exact ih1 k n (by omega) S75 v1 v2 v3 v4 res hT75 hpv1 hkv1 hpv2 hkv2 hpv3 hkv3  hF h1
          · replace hF := im hF c76
            refine z_iconst (v := 0) C dL_law_587 (by decide) ?_
            cases hF
            exact absurd h1 (by simp)
        replace hF := im hF c77
        by_cases c83 : ((xs q2) &&& (63 : Int32)) = 11
        · replace hF := ip hF c83
          refine z_tabIn C 589 dL_law_40 (by rw [c83]; decide) (by rw [c83]; decide) (off := 549) (by rw [c83]; rfl) (by decide) ?_
          refine z_aload_n C dL_law_589 rfl ?_
          refine z_aload_n C dL_law_590 rfl ?_
          refine z_iload C dL_law_591 rfl ?_
          refine z_iconst (v := 1) C dL_law_593 (by decide) ?_
          refine z_iadd C dL_law_594 ?_
          obtain ⟨hi78, hF⟩ := bX_some hF
          obtain ⟨q78, eq78⟩ : ∃ q : Nat, q = Int32.toNatClampNeg (v4 + (1 : Int32)) := ⟨_, rfl⟩
          rw [← eq78] at hF
          refine z_sld C hX hbb dL_law_595 hi78 ?_
          rw [← eq78]
          obtain ⟨x79, S79, h79, hF⟩ := bI_some hF
          refine g_cV (st2 := [.int x79]) C (by omega) dL_law_596 zyX12_off zvX12_off lkRL_70 (K_X12_off (l := l) hT hpv1 hkv1  h79) hpv1 hkv1 rfl (by decide) rfl rfl (Nat.le_of_ble_eq_true rfl) rfl (fun hT79 => ?_)
          refine z_aload_n C dL_law_599 rfl ?_
          refine z_aload_n C dL_law_600 rfl ?_
          refine z_iload C dL_law_601 rfl ?_
          refine z_iconst (v := 1) C dL_law_603 (by decide) ?_
          refine z_iadd C dL_law_604 ?_
          obtain ⟨hi80, hF⟩ := bX_some hF
          obtain ⟨q80, eq80⟩ : ∃ q : Nat, q = Int32.toNatClampNeg (v4 + (1 : Int32)) := ⟨_, rfl⟩
          rw [← eq80] at hF
          refine z_sld C hX hbb dL_law_605 hi80 ?_
          rw [← eq80]
          obtain ⟨x81, S81, h81, hF⟩ := bI_some hF
          refine g_cV (st2 := [.int x81, .int x79]) C (by omega) dL_law_606 zyX13_off zvX13_off lkRL_73 (K_X13_off (l := l) hT79 hpv2 hkv2  h81) hpv2 hkv2 rfl (by decide) rfl rfl (Nat.le_of_ble_eq_true rfl) rfl (fun hT81 => ?_)
          refine z_icmp_eq C 1358 dL_law_609 (by decide) (fun c82 => ?_) (fun c82 => ?_)
          · replace hF := ip hF c82
            exact ih1 k n (by omega) S81 v1 v2 v3 v4 res hT81 hpv1 hkv1 hpv2 hkv2 hpv3 hkv3  hF h1
          · replace hF := im hF c82
            refine z_iconst (v := 0) C dL_law_612 (by decide) ?_
            cases hF
            exact absurd h1 (by simp)
        replace hF := im hF c83
        by_cases c89 : ((xs q2) &&& (63 : Int32)) = 12
        · replace hF := ip hF c89
          refine z_tabIn C 614 dL_law_40 (by rw [c89]; decide) (by rw [c89]; decide) (off := 574) (by rw [c89]; rfl) (by decide) ?_
          refine z_aload_n C dL_law_614 rfl ?_
          refine z_aload_n C dL_law_615 rfl ?_
          refine z_iload C dL_law_616 rfl ?_
          refine z_iconst (v := 1) C dL_law_618 (by decide) ?_
          refine z_iadd C dL_law_619 ?_
          obtain ⟨hi84, hF⟩ := bX_some hF
          obtain ⟨q84, eq84⟩ : ∃ q : Nat, q = Int32.toNatClampNeg (v4 + (1 : Int32)) := ⟨_, rfl⟩
          rw [← eq84] at hF
          refine z_sld C hX hbb dL_law_620 hi84 ?_
          rw [← eq84]
          obtain ⟨x85, S85, h85, hF⟩ := bI_some hF
          refine g_cV (st2 := [.int x85]) C (by omega) dL_law_621 zyX12_sweep zvX12_sweep lkRL_74 (K_X12_sweep (l := l) hT hpv1 hkv1  h85) hpv1 hkv1 rfl (by decide) rfl rfl (Nat.le_of_ble_eq_true rfl) rfl (fun hT85 => ?_)
          refine z_aload_n C dL_law_624 rfl ?_
          refine z_aload_n C dL_law_625 rfl ?_
          refine z_iload C dL_law_626 rfl ?_
          refine z_iconst (v := 1) C dL_law_628 (by decide) ?_
          refine z_iadd C dL_law_629 ?_
          obtain ⟨hi86, hF⟩ := bX_some hF
          obtain ⟨q86, eq86⟩ : ∃ q : Nat, q = Int32.toNatClampNeg (v4 + (1 : Int32)) := ⟨_, rfl⟩
          rw [← eq86] at hF
          refine z_sld C hX hbb dL_law_630 hi86 ?_
          rw [← eq86]
          obtain ⟨x87, S87, h87, hF⟩ := bI_some hF
          refine g_cV (st2 := [.int x87, .int x85]) C (by omega) dL_law_631 zyX13_sweep zvX13_sweep lkRL_77 (K_X13_sweep (l := l) hT85 hpv2 hkv2  h87) hpv2 hkv2 rfl (by decide) rfl rfl (Nat.le_of_ble_eq_true rfl) rfl (fun hT87 => ?_)
          refine z_icmp_eq C 1358 dL_law_634 (by decide) (fun c88 => ?_) (fun c88 => ?_)
          · replace hF := ip hF c88
            exact ih1 k n (by omega) S87 v1 v2 v3 v4 res hT87 hpv1 hkv1 hpv2 hkv2 hpv3 hkv3  hF h1
          · replace hF := im hF c88
            refine z_iconst (v := 0) C dL_law_637 (by decide) ?_
            cases hF
            exact absurd h1 (by simp)
        replace hF := im hF c89
        by_cases c93 : ((xs q2) &&& (63 : Int32)) = 13
        · replace hF := ip hF c93
          refine z_tabIn C 639 dL_law_40 (by rw [c93]; decide) (by rw [c93]; decide) (off := 599) (by rw [c93]; rfl) (by decide) ?_
          refine z_aload_n C dL_law_639 rfl ?_
          obtain ⟨x90, S90, h90, hF⟩ := bI_some hF
          refine g_cV (st2 := [.int x90]) C (by omega) dL_law_640 zyX12_hour zvX12_hour lkRL_78 (K_X12_hour (l := l) hT hpv1 hkv1 h90) hpv1 hkv1 rfl (by decide) rfl rfl (Nat.le_of_ble_eq_true rfl) rfl (fun hT90 => ?_)
          refine z_aload_n C dL_law_643 rfl ?_
          obtain ⟨x91, S91, h91, hF⟩ := bI_some hF
          refine g_cV (st2 := [.int x91, .int x90]) C (by omega) dL_law_644 zyX13_hour zvX13_hour lkRL_81 (K_X13_hour (l := l) hT90 hpv2 hkv2 h91) hpv2 hkv2 rfl (by decide) rfl rfl (Nat.le_of_ble_eq_true rfl) rfl (fun hT91 => ?_)
          refine z_icmp_eq C 1358 dL_law_647 (by decide) (fun c92 => ?_) (fun c92 => ?_)
          · replace hF := ip hF c92
            exact ih1 k n (by omega) S91 v1 v2 v3 v4 res hT91 hpv1 hkv1 hpv2 hkv2 hpv3 hkv3  hF h1
          · replace hF := im hF c92
            refine z_iconst (v := 0) C dL_law_650 (by decide) ?_
            cases hF
            exact absurd h1 (by simp)
        replace hF := im hF c93
        by_cases c97 : ((xs q2) &&& (63 : Int32)) = 14
        · replace hF := ip hF c97
          refine z_tabIn C 652 dL_law_40 (by rw [c97]; decide) (by rw [c97]; decide) (off := 612) (by rw [c97]; rfl) (by decide) ?_
          refine z_aload_n C dL_law_652 rfl ?_
          obtain ⟨x94, S94, h94, hF⟩ := bI_some hF
          refine g_cV (st2 := [.int x94]) C (by omega) dL_law_653 zyX12_undo zvX12_undo lkRL_82 (K_X12_undo (l := l) hT hpv1 hkv1 h94) hpv1 hkv1 rfl (by decide) rfl rfl (Nat.le_of_ble_eq_true rfl) rfl (fun hT94 => ?_)
          refine z_aload_n C dL_law_656 rfl ?_
          obtain ⟨x95, S95, h95, hF⟩ := bI_some hF
          refine g_cV (st2 := [.int x95, .int x94]) C (by omega) dL_law_657 zyX13_undo zvX13_undo lkRL_86 (K_X13_undo (l := l) hT94 hpv2 hkv2 h95) hpv2 hkv2 rfl (by decide) rfl rfl (Nat.le_of_ble_eq_true rfl) rfl (fun hT95 => ?_)
          refine z_icmp_eq C 1358 dL_law_660 (by decide) (fun c96 => ?_) (fun c96 => ?_)
          · replace hF := ip hF c96
            exact ih1 k n (by omega) S95 v1 v2 v3 v4 res hT95 hpv1 hkv1 hpv2 hkv2 hpv3 hkv3  hF h1
          · replace hF := im hF c96
            refine z_iconst (v := 0) C dL_law_663 (by decide) ?_
            cases hF
            exact absurd h1 (by simp)
        replace hF := im hF c97
        by_cases c103 : ((xs q2) &&& (63 : Int32)) = 15
        · replace hF := ip hF c103
          refine z_tabIn C 665 dL_law_40 (by rw [c103]; decide) (by rw [c103]; decide) (off := 625) (by rw [c103]; rfl) (by decide) ?_
          refine z_aload_n C dL_law_665 rfl ?_
          refine z_aload_n C dL_law_666 rfl ?_
          refine z_iload C dL_law_667 rfl ?_
          refine z_iconst (v := 1) C dL_law_669 (by decide) ?_
          refine z_iadd C dL_law_670 ?_
          obtain ⟨hi98, hF⟩ := bX_some hF
          obtain ⟨q98, eq98⟩ : ∃ q : Nat, q = Int32.toNatClampNeg (v4 + (1 : Int32)) := ⟨_, rfl⟩
          rw [← eq98] at hF
          refine z_sld C hX hbb dL_law_671 hi98 ?_
          rw [← eq98]
          obtain ⟨x99, S99, h99, hF⟩ := bI_some hF
          refine g_cV (st2 := [.int x99]) C (by omega) dL_law_672 zyX12_judged zvX12_judged lkRL_87 (K_X12_judged (l := l) hT hpv1 hkv1  h99) hpv1 hkv1 rfl (by decide) rfl rfl (Nat.le_of_ble_eq_true rfl) rfl (fun hT99 => ?_)
          refine z_aload_n C dL_law_675 rfl ?_
          refine z_aload_n C dL_law_676 rfl ?_
          refine z_iload C dL_law_677 rfl ?_
          refine z_iconst (v := 1) C dL_law_679 (by decide) ?_
          refine z_iadd C dL_law_680 ?_
          obtain ⟨hi100, hF⟩ := bX_some hF
          obtain ⟨q100, eq100⟩ : ∃ q : Nat, q = Int32.toNatClampNeg (v4 + (1 : Int32)) := ⟨_, rfl⟩
          rw [← eq100] at hF
          refine z_sld C hX hbb dL_law_681 hi100 ?_
          rw [← eq100]
          obtain ⟨x101, S101, h101, hF⟩ := bI_some hF
          refine g_cV (st2 := [.int x101, .int x99]) C (by omega) dL_law_682 zyX13_judged zvX13_judged lkRL_90 (K_X13_judged (l := l) hT99 hpv2 hkv2  h101) hpv2 hkv2 rfl (by decide) rfl rfl (Nat.le_of_ble_eq_true rfl) rfl (fun hT101 => ?_)
          refine z_icmp_eq C 1358 dL_law_685 (by decide) (fun c102 => ?_) (fun c102 => ?_)
          · replace hF := ip hF c102
            exact ih1 k n (by omega) S101 v1 v2 v3 v4 res hT101 hpv1 hkv1 hpv2 hkv2 hpv3 hkv3  hF h1
          · replace hF := im hF c102
            refine z_iconst (v := 0) C dL_law_688 (by decide) ?_
            cases hF
            exact absurd h1 (by simp)
        replace hF := im hF c103
        by_cases c111 : ((xs q2) &&& (63 : Int32)) = 16
        · replace hF := ip hF c111
          refine z_tabIn C 690 dL_law_40 (by rw [c111]; decide) (by rw [c111]; decide) (off := 650) (by rw [c111]; rfl) (by decide) ?_
          refine z_aload_n C dL_law_690 rfl ?_
          refine z_aload_n C dL_law_691 rfl ?_
          refine z_iload C dL_law_692 rfl ?_
          refine z_iconst (v := 1) C dL_law_694 (by decide) ?_
          refine z_iadd C dL_law_695 ?_
          obtain ⟨hi104, hF⟩ := bX_some hF
          obtain ⟨q104, eq104⟩ : ∃ q : Nat, q = Int32.toNatClampNeg (v4 + (1 : Int32)) := ⟨_, rfl⟩
          rw [← eq104] at hF
          refine z_sld C hX hbb dL_law_696 hi104 ?_
          rw [← eq104]
          refine z_aload_n C dL_law_697 rfl ?_
          refine z_iload C dL_law_698 rfl ?_
          refine z_iconst (v := 2) C dL_law_700 (by decide) ?_
          refine z_iadd C dL_law_701 ?_
          obtain ⟨hi105, hF⟩ := bX_some hF
          obtain ⟨q105, eq105⟩ : ∃ q : Nat, q = Int32.toNatClampNeg (v4 + (2 : Int32)) := ⟨_, rfl⟩
          rw [← eq105] at hF
          refine z_sld C hX hbb dL_law_702 hi105 ?_
          rw [← eq105]
          obtain ⟨x106, S106, h106, hF⟩ := bI_some hF
          refine g_cV (st2 := [.int x106]) C (by omega) dL_law_703 zyX12_leaves zvX12_leaves lkRL_91 (K_X12_leaves (l := l) hT hpv1 hkv1   h106) hpv1 hkv1 rfl (by decide) rfl rfl (Nat.le_of_ble_eq_true rfl) rfl (fun hT106 => ?_)
          refine z_aload_n C dL_law_706 rfl ?_
          refine z_aload_n C dL_law_707 rfl ?_
          refine z_iload C dL_law_708 rfl ?_
          refine z_iconst (v := 1) C dL_law_710 (by decide) ?_
          refine z_iadd C dL_law_711 ?_
          obtain ⟨hi107, hF⟩ := bX_some hF
          obtain ⟨q107, eq107⟩ : ∃ q : Nat, q = Int32.toNatClampNeg (v4 + (1 : Int32)) := ⟨_, rfl⟩
          rw [← eq107] at hF
          refine z_sld C hX hbb dL_law_712 hi107 ?_
          rw [← eq107]
          refine z_aload_n C dL_law_713 rfl ?_
          refine z_iload C dL_law_714 rfl ?_
          refine z_iconst (v := 2) C dL_law_716 (by decide) ?_
          refine z_iadd C dL_law_717 ?_
          obtain ⟨hi108, hF⟩ := bX_some hF
          obtain ⟨q108, eq108⟩ : ∃ q : Nat, q = Int32.toNatClampNeg (v4 + (2 : Int32)) := ⟨_, rfl⟩
          rw [← eq108] at hF
          refine z_sld C hX hbb dL_law_718 hi108 ?_
          rw [← eq108]
          obtain ⟨x109, S109, h109, hF⟩ := bI_some hF
          refine g_cV (st2 := [.int x109, .int x106]) C (by omega) dL_law_719 zyX13_leaves zvX13_leaves lkRL_94 (K_X13_leaves (l := l) hT106 hpv2 hkv2   h109) hpv2 hkv2 rfl (by decide) rfl rfl (Nat.le_of_ble_eq_true rfl) rfl (fun hT109 => ?_)
          refine z_icmp_eq C 1358 dL_law_722 (by decide) (fun c110 => ?_) (fun c110 => ?_)
          · replace hF := ip hF c110
            exact ih1 k n (by omega) S109 v1 v2 v3 v4 res hT109 hpv1 hkv1 hpv2 hkv2 hpv3 hkv3  hF h1
          · replace hF := im hF c110
            refine z_iconst (v := 0) C dL_law_725 (by decide) ?_
            cases hF
            exact absurd h1 (by simp)
        replace hF := im hF c111
        by_cases c115 : ((xs q2) &&& (63 : Int32)) = 17
        · replace hF := ip hF c115
          refine z_tabIn C 727 dL_law_40 (by rw [c115]; decide) (by rw [c115]; decide) (off := 687) (by rw [c115]; rfl) (by decide) ?_
          refine z_aload_n C dL_law_727 rfl ?_
          obtain ⟨x112, S112, h112, hF⟩ := bI_some hF
          refine g_cV (st2 := [.int x112]) C (by omega) dL_law_728 zyX12_all zvX12_all lkRL_95 (K_X12_all (l := l) hT hpv1 hkv1 h112) hpv1 hkv1 rfl (by decide) rfl rfl (Nat.le_of_ble_eq_true rfl) rfl (fun hT112 => ?_)
          refine z_aload_n C dL_law_731 rfl ?_
          obtain ⟨x113, S113, h113, hF⟩ := bI_some hF
          refine g_cV (st2 := [.int x113, .int x112]) C (by omega) dL_law_732 zyX13_all zvX13_all lkRL_98 (K_X13_all (l := l) hT112 hpv2 hkv2 h113) hpv2 hkv2 rfl (by decide) rfl rfl (Nat.le_of_ble_eq_true rfl) rfl (fun hT113 => ?_)
          refine z_icmp_eq C 1358 dL_law_735 (by decide) (fun c114 => ?_) (fun c114 => ?_)
          · replace hF := ip hF c114
            exact ih1 k n (by omega) S113 v1 v2 v3 v4 res hT113 hpv1 hkv1 hpv2 hkv2 hpv3 hkv3  hF h1
          · replace hF := im hF c114
            refine z_iconst (v := 0) C dL_law_738 (by decide) ?_
            cases hF
            exact absurd h1 (by simp)
        replace hF := im hF c115
        by_cases c125 : ((xs q2) &&& (63 : Int32)) = 18
        · replace hF := ip hF c125
          refine z_tabIn C 740 dL_law_40 (by rw [c125]; decide) (by rw [c125]; decide) (off := 700) (by rw [c125]; rfl) (by decide) ?_
          refine z_aload_n C dL_law_740 rfl ?_
          refine z_aload_n C dL_law_741 rfl ?_
          refine z_iload C dL_law_742 rfl ?_
          refine z_iconst (v := 1) C dL_law_744 (by decide) ?_
          refine z_iadd C dL_law_745 ?_
          obtain ⟨hi116, hF⟩ := bX_some hF
          obtain ⟨q116, eq116⟩ : ∃ q : Nat, q = Int32.toNatClampNeg (v4 + (1 : Int32)) := ⟨_, rfl⟩
          rw [← eq116] at hF
          refine z_sld C hX hbb dL_law_746 hi116 ?_
          rw [← eq116]
          refine z_aload_n C dL_law_747 rfl ?_
          refine z_iload C dL_law_748 rfl ?_
          refine z_iconst (v := 2) C dL_law_750 (by decide) ?_
          refine z_iadd C dL_law_751 ?_
          obtain ⟨hi117, hF⟩ := bX_some hF
          obtain ⟨q117, eq117⟩ : ∃ q : Nat, q = Int32.toNatClampNeg (v4 + (2 : Int32)) := ⟨_, rfl⟩
          rw [← eq117] at hF
          refine z_sld C hX hbb dL_law_752 hi117 ?_
          rw [← eq117]
          refine z_aload_n C dL_law_753 rfl ?_
          refine z_iload C dL_law_754 rfl ?_
          refine z_iconst (v := 3) C dL_law_756 (by decide) ?_
          refine z_iadd C dL_law_757 ?_
          obtain ⟨hi118, hF⟩ := bX_some hF
          obtain ⟨q118, eq118⟩ : ∃ q : Nat, q = Int32.toNatClampNeg (v4 + (3 : Int32)) := ⟨_, rfl⟩
          rw [← eq118] at hF
          refine z_sld C hX hbb dL_law_758 hi118 ?_
          rw [← eq118]
          obtain ⟨x119, S119, h119, hF⟩ := bI_some hF
          refine g_cV (st2 := [.int x119]) C (by omega) dL_law_759 zyX12_place zvX12_place lkRL_99 (K_X12_place (l := l) hT hpv1 hkv1    h119) hpv1 hkv1 rfl (by decide) rfl rfl (Nat.le_of_ble_eq_true rfl) rfl (fun hT119 => ?_)
          refine z_aload_n C dL_law_762 rfl ?_
          refine z_aload_n C dL_law_763 rfl ?_
          refine z_iload C dL_law_764 rfl ?_
          refine z_iconst (v := 1) C dL_law_766 (by decide) ?_
          refine z_iadd C dL_law_767 ?_
          obtain ⟨hi120, hF⟩ := bX_some hF
          obtain ⟨q120, eq120⟩ : ∃ q : Nat, q = Int32.toNatClampNeg (v4 + (1 : Int32)) := ⟨_, rfl⟩
          rw [← eq120] at hF
          refine z_sld C hX hbb dL_law_768 hi120 ?_
          rw [← eq120]
          refine z_aload_n C dL_law_769 rfl ?_
          refine z_iload C dL_law_770 rfl ?_
          refine z_iconst (v := 2) C dL_law_772 (by decide) ?_
          refine z_iadd C dL_law_773 ?_
          obtain ⟨hi121, hF⟩ := bX_some hF
          obtain ⟨q121, eq121⟩ : ∃ q : Nat, q = Int32.toNatClampNeg (v4 + (2 : Int32)) := ⟨_, rfl⟩
          rw [← eq121] at hF
          refine z_sld C hX hbb dL_law_774 hi121 ?_
          rw [← eq121]
          refine z_aload_n C dL_law_775 rfl ?_
          refine z_iload C dL_law_776 rfl ?_
          refine z_iconst (v := 3) C dL_law_778 (by decide) ?_
          refine z_iadd C dL_law_779 ?_
          obtain ⟨hi122, hF⟩ := bX_some hF
          obtain ⟨q122, eq122⟩ : ∃ q : Nat, q = Int32.toNatClampNeg (v4 + (3 : Int32)) := ⟨_, rfl⟩
          rw [← eq122] at hF
          refine z_sld C hX hbb dL_law_780 hi122 ?_
          rw [← eq122]
          obtain ⟨x123, S123, h123, hF⟩ := bI_some hF
          refine g_cV (st2 := [.int x123, .int x119]) C (by omega) dL_law_781 zyX13_place zvX13_place lkRL_102 (K_X13_place (l := l) hT119 hpv2 hkv2    h123) hpv2 hkv2 rfl (by decide) rfl rfl (Nat.le_of_ble_eq_true rfl) rfl (fun hT123 => ?_)
          refine z_icmp_eq C 1358 dL_law_784 (by decide) (fun c124 => ?_) (fun c124 => ?_)
          · replace hF := ip hF c124
            exact ih1 k n (by omega) S123 v1 v2 v3 v4 res hT123 hpv1 hkv1 hpv2 hkv2 hpv3 hkv3  hF h1
          · replace hF := im hF c124
            refine z_iconst (v := 0) C dL_law_787 (by decide) ?_
            cases hF
            exact absurd h1 (by simp)
        replace hF := im hF c125
        by_cases c129 : ((xs q2) &&& (63 : Int32)) = 19
        · replace hF := ip hF c129
          refine z_tabIn C 789 dL_law_40 (by rw [c129]; decide) (by rw [c129]; decide) (off := 749) (by rw [c129]; rfl) (by decide) ?_
          refine z_aload_n C dL_law_789 rfl ?_
          obtain ⟨x126, S126, h126, hF⟩ := bI_some hF
          refine g_cV (st2 := [.int x126]) C (by omega) dL_law_790 zyX12_move zvX12_move lkRL_103 (K_X12_move (l := l) hT hpv1 hkv1 h126) hpv1 hkv1 rfl (by decide) rfl rfl (Nat.le_of_ble_eq_true rfl) rfl (fun hT126 => ?_)
          refine z_aload_n C dL_law_793 rfl ?_
          obtain ⟨x127, S127, h127, hF⟩ := bI_some hF
          refine g_cV (st2 := [.int x127, .int x126]) C (by omega) dL_law_794 zyX13_move zvX13_move lkRL_106 (K_X13_move (l := l) hT126 hpv2 hkv2 h127) hpv2 hkv2 rfl (by decide) rfl rfl (Nat.le_of_ble_eq_true rfl) rfl (fun hT127 => ?_)
          refine z_icmp_eq C 1358 dL_law_797 (by decide) (fun c128 => ?_) (fun c128 => ?_)
          · replace hF := ip hF c128
            exact ih1 k n (by omega) S127 v1 v2 v3 v4 res hT127 hpv1 hkv1 hpv2 hkv2 hpv3 hkv3  hF h1
          · replace hF := im hF c128
            refine z_iconst (v := 0) C dL_law_800 (by decide) ?_
            cases hF
            exact absurd h1 (by simp)
        replace hF := im hF c129
        by_cases c133 : ((xs q2) &&& (63 : Int32)) = 20
        · replace hF := ip hF c133
          refine z_tabIn C 802 dL_law_40 (by rw [c133]; decide) (by rw [c133]; decide) (off := 762) (by rw [c133]; rfl) (by decide) ?_
          refine z_aload_n C dL_law_802 rfl ?_
          obtain ⟨x130, S130, h130, hF⟩ := bI_some hF
          refine g_cV (st2 := [.int x130]) C (by omega) dL_law_803 zyX12_full zvX12_full lkRL_107 (K_X12_full (l := l) hT hpv1 hkv1 h130) hpv1 hkv1 rfl (by decide) rfl rfl (Nat.le_of_ble_eq_true rfl) rfl (fun hT130 => ?_)
          refine z_aload_n C dL_law_806 rfl ?_
          obtain ⟨x131, S131, h131, hF⟩ := bI_some hF
          refine g_cV (st2 := [.int x131, .int x130]) C (by omega) dL_law_807 zyX13_full zvX13_full lkRL_110 (K_X13_full (l := l) hT130 hpv2 hkv2 h131) hpv2 hkv2 rfl (by decide) rfl rfl (Nat.le_of_ble_eq_true rfl) rfl (fun hT131 => ?_)
          refine z_icmp_eq C 1358 dL_law_810 (by decide) (fun c132 => ?_) (fun c132 => ?_)
          · replace hF := ip hF c132
            exact ih1 k n (by omega) S131 v1 v2 v3 v4 res hT131 hpv1 hkv1 hpv2 hkv2 hpv3 hkv3  hF h1
          · replace hF := im hF c132
            refine z_iconst (v := 0) C dL_law_813 (by decide) ?_
            cases hF
            exact absurd h1 (by simp)
        replace hF := im hF c133
        by_cases c139 : ((xs q2) &&& (63 : Int32)) = 21
        · replace hF := ip hF c139
          refine z_tabIn C 815 dL_law_40 (by rw [c139]; decide) (by rw [c139]; decide) (off := 775) (by rw [c139]; rfl) (by decide) ?_
          refine z_aload_n C dL_law_815 rfl ?_
          refine z_aload_n C dL_law_816 rfl ?_
          refine z_iload C dL_law_817 rfl ?_
          refine z_iconst (v := 1) C dL_law_819 (by decide) ?_
          refine z_iadd C dL_law_820 ?_
          obtain ⟨hi134, hF⟩ := bX_some hF
          obtain ⟨q134, eq134⟩ : ∃ q : Nat, q = Int32.toNatClampNeg (v4 + (1 : Int32)) := ⟨_, rfl⟩
          rw [← eq134] at hF
          refine z_sld C hX hbb dL_law_821 hi134 ?_
          rw [← eq134]
          obtain ⟨x135, S135, h135, hF⟩ := bI_some hF
          refine g_cV (st2 := [.int x135]) C (by omega) dL_law_822 zyX12_without zvX12_without lkRL_111 (K_X12_without (l := l) hT hpv1 hkv1  h135) hpv1 hkv1 rfl (by decide) rfl rfl (Nat.le_of_ble_eq_true rfl) rfl (fun hT135 => ?_)
          refine z_aload_n C dL_law_825 rfl ?_
          refine z_aload_n C dL_law_826 rfl ?_
          refine z_iload C dL_law_827 rfl ?_
          refine z_iconst (v := 1) C dL_law_829 (by decide) ?_
          refine z_iadd C dL_law_830 ?_
          obtain ⟨hi136, hF⟩ := bX_some hF
          obtain ⟨q136, eq136⟩ : ∃ q : Nat, q = Int32.toNatClampNeg (v4 + (1 : Int32)) := ⟨_, rfl⟩
          rw [← eq136] at hF
          refine z_sld C hX hbb dL_law_831 hi136 ?_
          rw [← eq136]
          obtain ⟨x137, S137, h137, hF⟩ := bI_some hF
          refine g_cV (st2 := [.int x137, .int x135]) C (by omega) dL_law_832 zyX13_without zvX13_without lkRL_114 (K_X13_without (l := l) hT135 hpv2 hkv2  h137) hpv2 hkv2 rfl (by decide) rfl rfl (Nat.le_of_ble_eq_true rfl) rfl (fun hT137 => ?_)
          refine z_icmp_eq C 1358 dL_law_835 (by decide) (fun c138 => ?_) (fun c138 => ?_)
          · replace hF := ip hF c138
            exact ih1 k n (by omega) S137 v1 v2 v3 v4 res hT137 hpv1 hkv1 hpv2 hkv2 hpv3 hkv3  hF h1
          · replace hF := im hF c138
            refine z_iconst (v := 0) C dL_law_838 (by decide) ?_
            cases hF
            exact absurd h1 (by simp)
        replace hF := im hF c139
        by_cases c145 : ((xs q2) &&& (63 : Int32)) = 22
        · replace hF := ip hF c145
          refine z_tabIn C 840 dL_law_40 (by rw [c145]; decide) (by rw [c145]; decide) (off := 800) (by rw [c145]; rfl) (by decide) ?_
          refine z_aload_n C dL_law_840 rfl ?_
          refine z_aload_n C dL_law_841 rfl ?_
          refine z_iload C dL_law_842 rfl ?_
          refine z_iconst (v := 1) C dL_law_844 (by decide) ?_
          refine z_iadd C dL_law_845 ?_
          obtain ⟨hi140, hF⟩ := bX_some hF
          obtain ⟨q140, eq140⟩ : ∃ q : Nat, q = Int32.toNatClampNeg (v4 + (1 : Int32)) := ⟨_, rfl⟩
          rw [← eq140] at hF
          refine z_sld C hX hbb dL_law_846 hi140 ?_
          rw [← eq140]
          obtain ⟨x141, S141, h141, hF⟩ := bI_some hF
          refine g_cV (st2 := [.int x141]) C (by omega) dL_law_847 zyX12_hands zvX12_hands lkRL_115 (K_X12_hands (l := l) hT hpv1 hkv1  h141) hpv1 hkv1 rfl (by decide) rfl rfl (Nat.le_of_ble_eq_true rfl) rfl (fun hT141 => ?_)
          refine z_aload_n C dL_law_850 rfl ?_
          refine z_aload_n C dL_law_851 rfl ?_
          refine z_iload C dL_law_852 rfl ?_
          refine z_iconst (v := 1) C dL_law_854 (by decide) ?_
          refine z_iadd C dL_law_855 ?_
          obtain ⟨hi142, hF⟩ := bX_some hF
          obtain ⟨q142, eq142⟩ : ∃ q : Nat, q = Int32.toNatClampNeg (v4 + (1 : Int32)) := ⟨_, rfl⟩
          rw [← eq142] at hF
          refine z_sld C hX hbb dL_law_856 hi142 ?_
          rw [← eq142]
          obtain ⟨x143, S143, h143, hF⟩ := bI_some hF
          refine g_cV (st2 := [.int x143, .int x141]) C (by omega) dL_law_857 zyX13_hands zvX13_hands lkRL_118 (K_X13_hands (l := l) hT141 hpv2 hkv2  h143) hpv2 hkv2 rfl (by decide) rfl rfl (Nat.le_of_ble_eq_true rfl) rfl (fun hT143 => ?_)
          refine z_icmp_eq C 1358 dL_law_860 (by decide) (fun c144 => ?_) (fun c144 => ?_)
          · replace hF := ip hF c144
            exact ih1 k n (by omega) S143 v1 v2 v3 v4 res hT143 hpv1 hkv1 hpv2 hkv2 hpv3 hkv3  hF h1
          · replace hF := im hF c144
            refine z_iconst (v := 0) C dL_law_863 (by decide) ?_
            cases hF
            exact absurd h1 (by simp)
        replace hF := im hF c145
        by_cases c153 : ((xs q2) &&& (63 : Int32)) = 23
        · replace hF := ip hF c153
          refine z_tabIn C 865 dL_law_40 (by rw [c153]; decide) (by rw [c153]; decide) (off := 825) (by rw [c153]; rfl) (by decide) ?_
          refine z_aload_n C dL_law_865 rfl ?_
          refine z_aload_n C dL_law_866 rfl ?_
          refine z_iload C dL_law_867 rfl ?_
          refine z_iconst (v := 1) C dL_law_869 (by decide) ?_
          refine z_iadd C dL_law_870 ?_
          obtain ⟨hi146, hF⟩ := bX_some hF
          obtain ⟨q146, eq146⟩ : ∃ q : Nat, q = Int32.toNatClampNeg (v4 + (1 : Int32)) := ⟨_, rfl⟩
          rw [← eq146] at hF
          refine z_sld C hX hbb dL_law_871 hi146 ?_
          rw [← eq146]
          refine z_aload_n C dL_law_872 rfl ?_
          refine z_iload C dL_law_873 rfl ?_
          refine z_iconst (v := 2) C dL_law_875 (by decide) ?_
          refine z_iadd C dL_law_876 ?_
          obtain ⟨hi147, hF⟩ := bX_some hF
          obtain ⟨q147, eq147⟩ : ∃ q : Nat, q = Int32.toNatClampNeg (v4 + (2 : Int32)) := ⟨_, rfl⟩
          rw [← eq147] at hF
          refine z_sld C hX hbb dL_law_877 hi147 ?_
          rw [← eq147]
          obtain ⟨x148, S148, h148, hF⟩ := bI_some hF
          refine g_cV (st2 := [.int x148]) C (by omega) dL_law_878 zyX12_grows zvX12_grows lkRL_119 (K_X12_grows (l := l) hT hpv1 hkv1   h148) hpv1 hkv1 rfl (by decide) rfl rfl (Nat.le_of_ble_eq_true rfl) rfl (fun hT148 => ?_)
          refine z_aload_n C dL_law_881 rfl ?_
          refine z_aload_n C dL_law_882 rfl ?_
          refine z_iload C dL_law_883 rfl ?_
          refine z_iconst (v := 1) C dL_law_885 (by decide) ?_
          refine z_iadd C dL_law_886 ?_
          obtain ⟨hi149, hF⟩ := bX_some hF
          obtain ⟨q149, eq149⟩ : ∃ q : Nat, q = Int32.toNatClampNeg (v4 + (1 : Int32)) := ⟨_, rfl⟩
          rw [← eq149] at hF
          refine z_sld C hX hbb dL_law_887 hi149 ?_
          rw [← eq149]
          refine z_aload_n C dL_law_888 rfl ?_
          refine z_iload C dL_law_889 rfl ?_
          refine z_iconst (v := 2) C dL_law_891 (by decide) ?_
          refine z_iadd C dL_law_892 ?_
          obtain ⟨hi150, hF⟩ := bX_some hF
          obtain ⟨q150, eq150⟩ : ∃ q : Nat, q = Int32.toNatClampNeg (v4 + (2 : Int32)) := ⟨_, rfl⟩
          rw [← eq150] at hF
          refine z_sld C hX hbb dL_law_893 hi150 ?_
          rw [← eq150]
          obtain ⟨x151, S151, h151, hF⟩ := bI_some hF
          refine g_cV (st2 := [.int x151, .int x148]) C (by omega) dL_law_894 zyX13_grows zvX13_grows lkRL_122 (K_X13_grows (l := l) hT148 hpv2 hkv2   h151) hpv2 hkv2 rfl (by decide) rfl rfl (Nat.le_of_ble_eq_true rfl) rfl (fun hT151 => ?_)
          refine z_icmp_eq C 1358 dL_law_897 (by decide) (fun c152 => ?_) (fun c152 => ?_)
          · replace hF := ip hF c152
            exact ih1 k n (by omega) S151 v1 v2 v3 v4 res hT151 hpv1 hkv1 hpv2 hkv2 hpv3 hkv3  hF h1
          · replace hF := im hF c152
            refine z_iconst (v := 0) C dL_law_900 (by decide) ?_
            cases hF
            exact absurd h1 (by simp)
        replace hF := im hF c153
        by_cases c159 : ((xs q2) &&& (63 : Int32)) = 24
        · replace hF := ip hF c159
          refine z_tabIn C 902 dL_law_40 (by rw [c159]; decide) (by rw [c159]; decide) (off := 862) (by rw [c159]; rfl) (by decide) ?_
          refine z_aload_n C dL_law_902 rfl ?_
          refine z_aload_n C dL_law_903 rfl ?_
          refine z_iload C dL_law_904 rfl ?_
          refine z_iconst (v := 1) C dL_law_906 (by decide) ?_
          refine z_iadd C dL_law_907 ?_
          obtain ⟨hi154, hF⟩ := bX_some hF
          obtain ⟨q154, eq154⟩ : ∃ q : Nat, q = Int32.toNatClampNeg (v4 + (1 : Int32)) := ⟨_, rfl⟩
          rw [← eq154] at hF
          refine z_sld C hX hbb dL_law_908 hi154 ?_
          rw [← eq154]
          obtain ⟨x155, S155, h155, hF⟩ := bI_some hF
          refine g_cV (st2 := [.int x155]) C (by omega) dL_law_909 zyX12_order zvX12_order lkRL_123 (K_X12_order (l := l) hT hpv1 hkv1  h155) hpv1 hkv1 rfl (by decide) rfl rfl (Nat.le_of_ble_eq_true rfl) rfl (fun hT155 => ?_)
          refine z_aload_n C dL_law_912 rfl ?_
          refine z_aload_n C dL_law_913 rfl ?_
          refine z_iload C dL_law_914 rfl ?_
          refine z_iconst (v := 1) C dL_law_916 (by decide) ?_
          refine z_iadd C dL_law_917 ?_
          obtain ⟨hi156, hF⟩ := bX_some hF
          obtain ⟨q156, eq156⟩ : ∃ q : Nat, q = Int32.toNatClampNeg (v4 + (1 : Int32)) := ⟨_, rfl⟩
          rw [← eq156] at hF
          refine z_sld C hX hbb dL_law_918 hi156 ?_
          rw [← eq156]
          obtain ⟨x157, S157, h157, hF⟩ := bI_some hF
          refine g_cV (st2 := [.int x157, .int x155]) C (by omega) dL_law_919 zyX13_order zvX13_order lkRL_126 (K_X13_order (l := l) hT155 hpv2 hkv2  h157) hpv2 hkv2 rfl (by decide) rfl rfl (Nat.le_of_ble_eq_true rfl) rfl (fun hT157 => ?_)
          refine z_icmp_eq C 1358 dL_law_922 (by decide) (fun c158 => ?_) (fun c158 => ?_)
          · replace hF := ip hF c158
            exact ih1 k n (by omega) S157 v1 v2 v3 v4 res hT157 hpv1 hkv1 hpv2 hkv2 hpv3 hkv3  hF h1
          · replace hF := im hF c158
            refine z_iconst (v := 0) C dL_law_925 (by decide) ?_
            cases hF
            exact absurd h1 (by simp)
        replace hF := im hF c159
        by_cases c169 : ((xs q2) &&& (63 : Int32)) = 25
        · replace hF := ip hF c169
          refine z_tabIn C 927 dL_law_40 (by rw [c169]; decide) (by rw [c169]; decide) (off := 887) (by rw [c169]; rfl) (by decide) ?_
          refine z_aload_n C dL_law_927 rfl ?_
          refine z_aload_n C dL_law_928 rfl ?_
          refine z_iload C dL_law_929 rfl ?_
          refine z_iconst (v := 1) C dL_law_931 (by decide) ?_
          refine z_iadd C dL_law_932 ?_
          obtain ⟨hi160, hF⟩ := bX_some hF
          obtain ⟨q160, eq160⟩ : ∃ q : Nat, q = Int32.toNatClampNeg (v4 + (1 : Int32)) := ⟨_, rfl⟩
          rw [← eq160] at hF
          refine z_sld C hX hbb dL_law_933 hi160 ?_
          rw [← eq160]
          refine z_aload_n C dL_law_934 rfl ?_
          refine z_iload C dL_law_935 rfl ?_
          refine z_iconst (v := 2) C dL_law_937 (by decide) ?_
          refine z_iadd C dL_law_938 ?_
          obtain ⟨hi161, hF⟩ := bX_some hF
          obtain ⟨q161, eq161⟩ : ∃ q : Nat, q = Int32.toNatClampNeg (v4 + (2 : Int32)) := ⟨_, rfl⟩
          rw [← eq161] at hF
          refine z_sld C hX hbb dL_law_939 hi161 ?_
          rw [← eq161]
          refine z_aload_n C dL_law_940 rfl ?_
          refine z_iload C dL_law_941 rfl ?_
          refine z_iconst (v := 3) C dL_law_943 (by decide) ?_
          refine z_iadd C dL_law_944 ?_
          obtain ⟨hi162, hF⟩ := bX_some hF
          obtain ⟨q162, eq162⟩ : ∃ q : Nat, q = Int32.toNatClampNeg (v4 + (3 : Int32)) := ⟨_, rfl⟩
          rw [← eq162] at hF
          refine z_sld C hX hbb dL_law_945 hi162 ?_
          rw [← eq162]
          obtain ⟨x163, S163, h163, hF⟩ := bI_some hF
          refine g_cV (st2 := [.int x163]) C (by omega) dL_law_946 zyX12_rounds zvX12_rounds lkRL_127 (K_X12_rounds (l := l) hT hpv1 hkv1    h163) hpv1 hkv1 rfl (by decide) rfl rfl (Nat.le_of_ble_eq_true rfl) rfl (fun hT163 => ?_)
          refine z_aload_n C dL_law_949 rfl ?_
          refine z_aload_n C dL_law_950 rfl ?_
          refine z_iload C dL_law_951 rfl ?_
          refine z_iconst (v := 1) C dL_law_953 (by decide) ?_
          refine z_iadd C dL_law_954 ?_
          obtain ⟨hi164, hF⟩ := bX_some hF
          obtain ⟨q164, eq164⟩ : ∃ q : Nat, q = Int32.toNatClampNeg (v4 + (1 : Int32)) := ⟨_, rfl⟩
          rw [← eq164] at hF
          refine z_sld C hX hbb dL_law_955 hi164 ?_
          rw [← eq164]
          refine z_aload_n C dL_law_956 rfl ?_
          refine z_iload C dL_law_957 rfl ?_
          refine z_iconst (v := 2) C dL_law_959 (by decide) ?_
          refine z_iadd C dL_law_960 ?_
          obtain ⟨hi165, hF⟩ := bX_some hF
          obtain ⟨q165, eq165⟩ : ∃ q : Nat, q = Int32.toNatClampNeg (v4 + (2 : Int32)) := ⟨_, rfl⟩
          rw [← eq165] at hF
          refine z_sld C hX hbb dL_law_961 hi165 ?_
          rw [← eq165]
          refine z_aload_n C dL_law_962 rfl ?_
          refine z_iload C dL_law_963 rfl ?_
          refine z_iconst (v := 3) C dL_law_965 (by decide) ?_
          refine z_iadd C dL_law_966 ?_
          obtain ⟨hi166, hF⟩ := bX_some hF
          obtain ⟨q166, eq166⟩ : ∃ q : Nat, q = Int32.toNatClampNeg (v4 + (3 : Int32)) := ⟨_, rfl⟩
          rw [← eq166] at hF
          refine z_sld C hX hbb dL_law_967 hi166 ?_
          rw [← eq166]
          obtain ⟨x167, S167, h167, hF⟩ := bI_some hF
          refine g_cV (st2 := [.int x167, .int x163]) C (by omega) dL_law_968 zyX13_rounds zvX13_rounds lkRL_130 (K_X13_rounds (l := l) hT163 hpv2 hkv2    h167) hpv2 hkv2 rfl (by decide) rfl rfl (Nat.le_of_ble_eq_true rfl) rfl (fun hT167 => ?_)
          refine z_icmp_eq C 1358 dL_law_971 (by decide) (fun c168 => ?_) (fun c168 => ?_)
          · replace hF := ip hF c168
            exact ih1 k n (by omega) S167 v1 v2 v3 v4 res hT167 hpv1 hkv1 hpv2 hkv2 hpv3 hkv3  hF h1
          · replace hF := im hF c168
            refine z_iconst (v := 0) C dL_law_974 (by decide) ?_
            cases hF
            exact absurd h1 (by simp)
        replace hF := im hF c169
        by_cases c177 : ((xs q2) &&& (63 : Int32)) = 26
        · replace hF := ip hF c177
          refine z_tabIn C 976 dL_law_40 (by rw [c177]; decide) (by rw [c177]; decide) (off := 936) (by rw [c177]; rfl) (by decide) ?_
          refine z_aload_n C dL_law_976 rfl ?_
          refine z_aload_n C dL_law_977 rfl ?_
          refine z_iload C dL_law_978 rfl ?_
          refine z_iconst (v := 1) C dL_law_980 (by decide) ?_
          refine z_iadd C dL_law_981 ?_
          obtain ⟨hi170, hF⟩ := bX_some hF
          obtain ⟨q170, eq170⟩ : ∃ q : Nat, q = Int32.toNatClampNeg (v4 + (1 : Int32)) := ⟨_, rfl⟩
          rw [← eq170] at hF
          refine z_sld C hX hbb dL_law_982 hi170 ?_
          rw [← eq170]
          refine z_aload_n C dL_law_983 rfl ?_
          refine z_iload C dL_law_984 rfl ?_
          refine z_iconst (v := 2) C dL_law_986 (by decide) ?_
          refine z_iadd C dL_law_987 ?_
          obtain ⟨hi171, hF⟩ := bX_some hF
          obtain ⟨q171, eq171⟩ : ∃ q : Nat, q = Int32.toNatClampNeg (v4 + (2 : Int32)) := ⟨_, rfl⟩
          rw [← eq171] at hF
          refine z_sld C hX hbb dL_law_988 hi171 ?_
          rw [← eq171]
          obtain ⟨x172, S172, h172, hF⟩ := bI_some hF
          refine g_cV (st2 := [.int x172]) C (by omega) dL_law_989 zyX12_from zvX12_from lkRL_131 (K_X12_from (l := l) hT hpv1 hkv1   h172) hpv1 hkv1 rfl (by decide) rfl rfl (Nat.le_of_ble_eq_true rfl) rfl (fun hT172 => ?_)
          refine z_aload_n C dL_law_992 rfl ?_
          refine z_aload_n C dL_law_993 rfl ?_
          refine z_iload C dL_law_994 rfl ?_
          refine z_iconst (v := 1) C dL_law_996 (by decide) ?_
          refine z_iadd C dL_law_997 ?_
          obtain ⟨hi173, hF⟩ := bX_some hF
          obtain ⟨q173, eq173⟩ : ∃ q : Nat, q = Int32.toNatClampNeg (v4 + (1 : Int32)) := ⟨_, rfl⟩
          rw [← eq173] at hF
          refine z_sld C hX hbb dL_law_998 hi173 ?_
          rw [← eq173]
          refine z_aload_n C dL_law_999 rfl ?_
          refine z_iload C dL_law_1000 rfl ?_
          refine z_iconst (v := 2) C dL_law_1002 (by decide) ?_
          refine z_iadd C dL_law_1003 ?_
          obtain ⟨hi174, hF⟩ := bX_some hF
          obtain ⟨q174, eq174⟩ : ∃ q : Nat, q = Int32.toNatClampNeg (v4 + (2 : Int32)) := ⟨_, rfl⟩
          rw [← eq174] at hF
          refine z_sld C hX hbb dL_law_1004 hi174 ?_
          rw [← eq174]
          obtain ⟨x175, S175, h175, hF⟩ := bI_some hF
          refine g_cV (st2 := [.int x175, .int x172]) C (by omega) dL_law_1005 zyX13_from zvX13_from lkRL_134 (K_X13_from (l := l) hT172 hpv2 hkv2   h175) hpv2 hkv2 rfl (by decide) rfl rfl (Nat.le_of_ble_eq_true rfl) rfl (fun hT175 => ?_)
          refine z_icmp_eq C 1358 dL_law_1008 (by decide) (fun c176 => ?_) (fun c176 => ?_)
          · replace hF := ip hF c176
            exact ih1 k n (by omega) S175 v1 v2 v3 v4 res hT175 hpv1 hkv1 hpv2 hkv2 hpv3 hkv3  hF h1
          · replace hF := im hF c176
            refine z_iconst (v := 0) C dL_law_1011 (by decide) ?_
            cases hF
            exact absurd h1 (by simp)
        replace hF := im hF c177
        by_cases c183 : ((xs q2) &&& (63 : Int32)) = 27
        · replace hF := ip hF c183
          refine z_tabIn C 1013 dL_law_40 (by rw [c183]; decide) (by rw [c183]; decide) (off := 973) (by rw [c183]; rfl) (by decide) ?_
          refine z_aload_n C dL_law_1013 rfl ?_
          refine z_aload_n C dL_law_1014 rfl ?_
          refine z_iload C dL_law_1015 rfl ?_
          refine z_iconst (v := 1) C dL_law_1017 (by decide) ?_
          refine z_iadd C dL_law_1018 ?_
          obtain ⟨hi178, hF⟩ := bX_some hF
          obtain ⟨q178, eq178⟩ : ∃ q : Nat, q = Int32.toNatClampNeg (v4 + (1 : Int32)) := ⟨_, rfl⟩
          rw [← eq178] at hF
          refine z_sld C hX hbb dL_law_1019 hi178 ?_
          rw [← eq178]
          obtain ⟨x179, S179, h179, hF⟩ := bI_some hF
          refine g_cV (st2 := [.int x179]) C (by omega) dL_law_1020 zyX12_bare zvX12_bare lkRL_135 (K_X12_bare (l := l) hT hpv1 hkv1  h179) hpv1 hkv1 rfl (by decide) rfl rfl (Nat.le_of_ble_eq_true rfl) rfl (fun hT179 => ?_)
          refine z_aload_n C dL_law_1023 rfl ?_
          refine z_aload_n C dL_law_1024 rfl ?_
          refine z_iload C dL_law_1025 rfl ?_
          refine z_iconst (v := 1) C dL_law_1027 (by decide) ?_
          refine z_iadd C dL_law_1028 ?_
          obtain ⟨hi180, hF⟩ := bX_some hF
          obtain ⟨q180, eq180⟩ : ∃ q : Nat, q = Int32.toNatClampNeg (v4 + (1 : Int32)) := ⟨_, rfl⟩
          rw [← eq180] at hF
          refine z_sld C hX hbb dL_law_1029 hi180 ?_
          rw [← eq180]
          obtain ⟨x181, S181, h181, hF⟩ := bI_some hF
          refine g_cV (st2 := [.int x181, .int x179]) C (by omega) dL_law_1030 zyX13_bare zvX13_bare lkRL_138 (K_X13_bare (l := l) hT179 hpv2 hkv2  h181) hpv2 hkv2 rfl (by decide) rfl rfl (Nat.le_of_ble_eq_true rfl) rfl (fun hT181 => ?_)
          refine z_icmp_eq C 1358 dL_law_1033 (by decide) (fun c182 => ?_) (fun c182 => ?_)
          · replace hF := ip hF c182
            exact ih1 k n (by omega) S181 v1 v2 v3 v4 res hT181 hpv1 hkv1 hpv2 hkv2 hpv3 hkv3  hF h1
          · replace hF := im hF c182
            refine z_iconst (v := 0) C dL_law_1036 (by decide) ?_
            cases hF
            exact absurd h1 (by simp)
        replace hF := im hF c183
        by_cases c189 : ((xs q2) &&& (63 : Int32)) = 28
        · replace hF := ip hF c189
          refine z_tabIn C 1038 dL_law_40 (by rw [c189]; decide) (by rw [c189]; decide) (off := 998) (by rw [c189]; rfl) (by decide) ?_
          refine z_aload_n C dL_law_1038 rfl ?_
          refine z_aload_n C dL_law_1039 rfl ?_
          refine z_iload C dL_law_1040 rfl ?_
          refine z_iconst (v := 1) C dL_law_1042 (by decide) ?_
          refine z_iadd C dL_law_1043 ?_
          obtain ⟨hi184, hF⟩ := bX_some hF
          obtain ⟨q184, eq184⟩ : ∃ q : Nat, q = Int32.toNatClampNeg (v4 + (1 : Int32)) := ⟨_, rfl⟩
          rw [← eq184] at hF
          refine z_sld C hX hbb dL_law_1044 hi184 ?_
          rw [← eq184]
          obtain ⟨x185, S185, h185, hF⟩ := bI_some hF
          refine g_cV (st2 := [.int x185]) C (by omega) dL_law_1045 zyX12_deposit zvX12_deposit lkRL_139 (K_X12_deposit (l := l) hT hpv1 hkv1  h185) hpv1 hkv1 rfl (by decide) rfl rfl (Nat.le_of_ble_eq_true rfl) rfl (fun hT185 => ?_)
          refine z_aload_n C dL_law_1048 rfl ?_
          refine z_aload_n C dL_law_1049 rfl ?_
          refine z_iload C dL_law_1050 rfl ?_
          refine z_iconst (v := 1) C dL_law_1052 (by decide) ?_
          refine z_iadd C dL_law_1053 ?_
          obtain ⟨hi186, hF⟩ := bX_some hF
          obtain ⟨q186, eq186⟩ : ∃ q : Nat, q = Int32.toNatClampNeg (v4 + (1 : Int32)) := ⟨_, rfl⟩
          rw [← eq186] at hF
          refine z_sld C hX hbb dL_law_1054 hi186 ?_
          rw [← eq186]
          obtain ⟨x187, S187, h187, hF⟩ := bI_some hF
          refine g_cV (st2 := [.int x187, .int x185]) C (by omega) dL_law_1055 zyX13_deposit zvX13_deposit lkRL_142 (K_X13_deposit (l := l) hT185 hpv2 hkv2  h187) hpv2 hkv2 rfl (by decide) rfl rfl (Nat.le_of_ble_eq_true rfl) rfl (fun hT187 => ?_)
          refine z_icmp_eq C 1358 dL_law_1058 (by decide) (fun c188 => ?_) (fun c188 => ?_)
          · replace hF := ip hF c188
            exact ih1 k n (by omega) S187 v1 v2 v3 v4 res hT187 hpv1 hkv1 hpv2 hkv2 hpv3 hkv3  hF h1
          · replace hF := im hF c188
            refine z_iconst (v := 0) C dL_law_1061 (by decide) ?_
            cases hF
            exact absurd h1 (by simp)
        replace hF := im hF c189
        by_cases c197 : ((xs q2) &&& (63 : Int32)) = 29
        · replace hF := ip hF c197
          refine z_tabIn C 1063 dL_law_40 (by rw [c197]; decide) (by rw [c197]; decide) (off := 1023) (by rw [c197]; rfl) (by decide) ?_
          refine z_aload_n C dL_law_1063 rfl ?_
          refine z_aload_n C dL_law_1064 rfl ?_
          refine z_iload C dL_law_1065 rfl ?_
          refine z_iconst (v := 1) C dL_law_1067 (by decide) ?_
          refine z_iadd C dL_law_1068 ?_
          obtain ⟨hi190, hF⟩ := bX_some hF
          obtain ⟨q190, eq190⟩ : ∃ q : Nat, q = Int32.toNatClampNeg (v4 + (1 : Int32)) := ⟨_, rfl⟩
          rw [← eq190] at hF
          refine z_sld C hX hbb dL_law_1069 hi190 ?_
          rw [← eq190]
          refine z_aload_n C dL_law_1070 rfl ?_
          refine z_iload C dL_law_1071 rfl ?_
          refine z_iconst (v := 2) C dL_law_1073 (by decide) ?_
          refine z_iadd C dL_law_1074 ?_
          obtain ⟨hi191, hF⟩ := bX_some hF
          obtain ⟨q191, eq191⟩ : ∃ q : Nat, q = Int32.toNatClampNeg (v4 + (2 : Int32)) := ⟨_, rfl⟩
          rw [← eq191] at hF
          refine z_sld C hX hbb dL_law_1075 hi191 ?_
          rw [← eq191]
          obtain ⟨x192, S192, h192, hF⟩ := bI_some hF
          refine g_cV (st2 := [.int x192]) C (by omega) dL_law_1076 zyX12_find zvX12_find lkRL_143 (K_X12_find (l := l) hT hpv1 hkv1   h192) hpv1 hkv1 rfl (by decide) rfl rfl (Nat.le_of_ble_eq_true rfl) rfl (fun hT192 => ?_)
          refine z_aload_n C dL_law_1079 rfl ?_
          refine z_aload_n C dL_law_1080 rfl ?_
          refine z_iload C dL_law_1081 rfl ?_
          refine z_iconst (v := 1) C dL_law_1083 (by decide) ?_
          refine z_iadd C dL_law_1084 ?_
          obtain ⟨hi193, hF⟩ := bX_some hF
          obtain ⟨q193, eq193⟩ : ∃ q : Nat, q = Int32.toNatClampNeg (v4 + (1 : Int32)) := ⟨_, rfl⟩
          rw [← eq193] at hF
          refine z_sld C hX hbb dL_law_1085 hi193 ?_
          rw [← eq193]
          refine z_aload_n C dL_law_1086 rfl ?_
          refine z_iload C dL_law_1087 rfl ?_
          refine z_iconst (v := 2) C dL_law_1089 (by decide) ?_
          refine z_iadd C dL_law_1090 ?_
          obtain ⟨hi194, hF⟩ := bX_some hF
          obtain ⟨q194, eq194⟩ : ∃ q : Nat, q = Int32.toNatClampNeg (v4 + (2 : Int32)) := ⟨_, rfl⟩
          rw [← eq194] at hF
          refine z_sld C hX hbb dL_law_1091 hi194 ?_
          rw [← eq194]
          obtain ⟨x195, S195, h195, hF⟩ := bI_some hF
          refine g_cV (st2 := [.int x195, .int x192]) C (by omega) dL_law_1092 zyX13_find zvX13_find lkRL_146 (K_X13_find (l := l) hT192 hpv2 hkv2   h195) hpv2 hkv2 rfl (by decide) rfl rfl (Nat.le_of_ble_eq_true rfl) rfl (fun hT195 => ?_)
          refine z_icmp_eq C 1358 dL_law_1095 (by decide) (fun c196 => ?_) (fun c196 => ?_)
          · replace hF := ip hF c196
            exact ih1 k n (by omega) S195 v1 v2 v3 v4 res hT195 hpv1 hkv1 hpv2 hkv2 hpv3 hkv3  hF h1
          · replace hF := im hF c196
            refine z_iconst (v := 0) C dL_law_1098 (by decide) ?_
            cases hF
            exact absurd h1 (by simp)
        replace hF := im hF c197
        by_cases c201 : ((xs q2) &&& (63 : Int32)) = 30
        · replace hF := ip hF c201
          refine z_tabIn C 1100 dL_law_40 (by rw [c201]; decide) (by rw [c201]; decide) (off := 1060) (by rw [c201]; rfl) (by decide) ?_
          refine z_aload_n C dL_law_1100 rfl ?_
          obtain ⟨x198, S198, h198, hF⟩ := bI_some hF
          refine g_cV (st2 := [.int x198]) C (by omega) dL_law_1101 zyX12_who zvX12_who lkRL_147 (K_X12_who (l := l) hT hpv1 hkv1 h198) hpv1 hkv1 rfl (by decide) rfl rfl (Nat.le_of_ble_eq_true rfl) rfl (fun hT198 => ?_)
          refine z_aload_n C dL_law_1104 rfl ?_
          obtain ⟨x199, S199, h199, hF⟩ := bI_some hF
          refine g_cV (st2 := [.int x199, .int x198]) C (by omega) dL_law_1105 zyX13_who zvX13_who lkRL_150 (K_X13_who (l := l) hT198 hpv2 hkv2 h199) hpv2 hkv2 rfl (by decide) rfl rfl (Nat.le_of_ble_eq_true rfl) rfl (fun hT199 => ?_)
          refine z_icmp_eq C 1358 dL_law_1108 (by decide) (fun c200 => ?_) (fun c200 => ?_)
          · replace hF := ip hF c200
            exact ih1 k n (by omega) S199 v1 v2 v3 v4 res hT199 hpv1 hkv1 hpv2 hkv2 hpv3 hkv3  hF h1
          · replace hF := im hF c200
            refine z_iconst (v := 0) C dL_law_1111 (by decide) ?_
            cases hF
            exact absurd h1 (by simp)
        replace hF := im hF c201
        by_cases c205 : ((xs q2) &&& (63 : Int32)) = 31
        · replace hF := ip hF c205
          refine z_tabIn C 1113 dL_law_40 (by rw [c205]; decide) (by rw [c205]; decide) (off := 1073) (by rw [c205]; rfl) (by decide) ?_
          refine z_aload_n C dL_law_1113 rfl ?_
          obtain ⟨x202, S202, h202, hF⟩ := bI_some hF
          refine g_cV (st2 := [.int x202]) C (by omega) dL_law_1114 zyX12_look zvX12_look lkRL_151 (K_X12_look (l := l) hT hpv1 hkv1 h202) hpv1 hkv1 rfl (by decide) rfl rfl (Nat.le_of_ble_eq_true rfl) rfl (fun hT202 => ?_)
          refine z_aload_n C dL_law_1117 rfl ?_
          obtain ⟨x203, S203, h203, hF⟩ := bI_some hF
          refine g_cV (st2 := [.int x203, .int x202]) C (by omega) dL_law_1118 zyX13_look zvX13_look lkRL_154 (K_X13_look (l := l) hT202 hpv2 hkv2 h203) hpv2 hkv2 rfl (by decide) rfl rfl (Nat.le_of_ble_eq_true rfl) rfl (fun hT203 => ?_)
          refine z_icmp_eq C 1358 dL_law_1121 (by decide) (fun c204 => ?_) (fun c204 => ?_)
          · replace hF := ip hF c204
            exact ih1 k n (by omega) S203 v1 v2 v3 v4 res hT203 hpv1 hkv1 hpv2 hkv2 hpv3 hkv3  hF h1
          · replace hF := im hF c204
            refine z_iconst (v := 0) C dL_law_1124 (by decide) ?_
            cases hF
            exact absurd h1 (by simp)
        replace hF := im hF c205
        by_cases c211 : ((xs q2) &&& (63 : Int32)) = 32
        · replace hF := ip hF c211
          refine z_tabIn C 1126 dL_law_40 (by rw [c211]; decide) (by rw [c211]; decide) (off := 1086) (by rw [c211]; rfl) (by decide) ?_
          refine z_aload_n C dL_law_1126 rfl ?_
          refine z_aload_n C dL_law_1127 rfl ?_
          refine z_iload C dL_law_1128 rfl ?_
          refine z_iconst (v := 1) C dL_law_1130 (by decide) ?_
          refine z_iadd C dL_law_1131 ?_
          obtain ⟨hi206, hF⟩ := bX_some hF
          obtain ⟨q206, eq206⟩ : ∃ q : Nat, q = Int32.toNatClampNeg (v4 + (1 : Int32)) := ⟨_, rfl⟩
          rw [← eq206] at hF
          refine z_sld C hX hbb dL_law_1132 hi206 ?_
          rw [← eq206]
          obtain ⟨x207, S207, h207, hF⟩ := bI_some hF
          refine g_cV (st2 := [.int x207]) C (by omega) dL_law_1133 zyX12_mean zvX12_mean lkRL_155 (K_X12_mean (l := l) hT hpv1 hkv1  h207) hpv1 hkv1 rfl (by decide) rfl rfl (Nat.le_of_ble_eq_true rfl) rfl (fun hT207 => ?_)
          refine z_aload_n C dL_law_1136 rfl ?_
          refine z_aload_n C dL_law_1137 rfl ?_
          refine z_iload C dL_law_1138 rfl ?_
          refine z_iconst (v := 1) C dL_law_1140 (by decide) ?_
          refine z_iadd C dL_law_1141 ?_
          obtain ⟨hi208, hF⟩ := bX_some hF
          obtain ⟨q208, eq208⟩ : ∃ q : Nat, q = Int32.toNatClampNeg (v4 + (1 : Int32)) := ⟨_, rfl⟩
          rw [← eq208] at hF
          refine z_sld C hX hbb dL_law_1142 hi208 ?_
          rw [← eq208]
          obtain ⟨x209, S209, h209, hF⟩ := bI_some hF
          refine g_cV (st2 := [.int x209, .int x207]) C (by omega) dL_law_1143 zyX13_mean zvX13_mean lkRL_158 (K_X13_mean (l := l) hT207 hpv2 hkv2  h209) hpv2 hkv2 rfl (by decide) rfl rfl (Nat.le_of_ble_eq_true rfl) rfl (fun hT209 => ?_)
          refine z_icmp_eq C 1358 dL_law_1146 (by decide) (fun c210 => ?_) (fun c210 => ?_)
          · replace hF := ip hF c210
            exact ih1 k n (by omega) S209 v1 v2 v3 v4 res hT209 hpv1 hkv1 hpv2 hkv2 hpv3 hkv3  hF h1
          · replace hF := im hF c210
            refine z_iconst (v := 0) C dL_law_1149 (by decide) ?_
            cases hF
            exact absurd h1 (by simp)
        replace hF := im hF c211
        by_cases c225 : ((xs q2) &&& (63 : Int32)) = 33
        · replace hF := ip hF c225
          refine z_tabIn C 1151 dL_law_40 (by rw [c225]; decide) (by rw [c225]; decide) (off := 1111) (by rw [c225]; rfl) (by decide) ?_
          refine z_aload_n C dL_law_1151 rfl ?_
          refine z_aload_n C dL_law_1152 rfl ?_
          refine z_iload C dL_law_1153 rfl ?_
          refine z_iconst (v := 1) C dL_law_1155 (by decide) ?_
          refine z_iadd C dL_law_1156 ?_
          obtain ⟨hi212, hF⟩ := bX_some hF
          obtain ⟨q212, eq212⟩ : ∃ q : Nat, q = Int32.toNatClampNeg (v4 + (1 : Int32)) := ⟨_, rfl⟩
          rw [← eq212] at hF
          refine z_sld C hX hbb dL_law_1157 hi212 ?_
          rw [← eq212]
          refine z_aload_n C dL_law_1158 rfl ?_
          refine z_iload C dL_law_1159 rfl ?_
          refine z_iconst (v := 2) C dL_law_1161 (by decide) ?_
          refine z_iadd C dL_law_1162 ?_
          obtain ⟨hi213, hF⟩ := bX_some hF
          obtain ⟨q213, eq213⟩ : ∃ q : Nat, q = Int32.toNatClampNeg (v4 + (2 : Int32)) := ⟨_, rfl⟩
          rw [← eq213] at hF
          refine z_sld C hX hbb dL_law_1163 hi213 ?_
          rw [← eq213]
          refine z_aload_n C dL_law_1164 rfl ?_
          refine z_iload C dL_law_1165 rfl ?_
          refine z_iconst (v := 3) C dL_law_1167 (by decide) ?_
          refine z_iadd C dL_law_1168 ?_
          obtain ⟨hi214, hF⟩ := bX_some hF
          obtain ⟨q214, eq214⟩ : ∃ q : Nat, q = Int32.toNatClampNeg (v4 + (3 : Int32)) := ⟨_, rfl⟩
          rw [← eq214] at hF
          refine z_sld C hX hbb dL_law_1169 hi214 ?_
          rw [← eq214]
          refine z_aload_n C dL_law_1170 rfl ?_
          obtain ⟨x215, S215, h215, hF⟩ := bI_some hF
          refine g_cL (st2 := [.int x215]) C hE2 hst (by omega) dL_law_1171 hT hpv1 hkv1 hpv3 hkv3 h215 (Nat.le_of_ble_eq_true rfl) rfl (fun hT215 => ?_)
          refine z_istore (lv2 := [some (.ref b), some (.ref (zB G + v1)), some (.ref (zB G + v2)), some (.ref (zB G + v3)), some (.int v4), some (.int x215), none]) C dL_law_1174 (by decide) rfl ?_
          refine z_aload_n C dL_law_1176 rfl ?_
          refine z_aload_n C dL_law_1177 rfl ?_
          refine z_iload C dL_law_1178 rfl ?_
          refine z_iconst (v := 1) C dL_law_1180 (by decide) ?_
          refine z_iadd C dL_law_1181 ?_
          obtain ⟨hi216, hF⟩ := bX_some hF
          obtain ⟨q216, eq216⟩ : ∃ q : Nat, q = Int32.toNatClampNeg (v4 + (1 : Int32)) := ⟨_, rfl⟩
          rw [← eq216] at hF
          refine z_sld C hX hbb dL_law_1182 hi216 ?_
          rw [← eq216]
          refine z_aload_n C dL_law_1183 rfl ?_
          refine z_iload C dL_law_1184 rfl ?_
          refine z_iconst (v := 2) C dL_law_1186 (by decide) ?_
          refine z_iadd C dL_law_1187 ?_
          obtain ⟨hi217, hF⟩ := bX_some hF
          obtain ⟨q217, eq217⟩ : ∃ q : Nat, q = Int32.toNatClampNeg (v4 + (2 : Int32)) := ⟨_, rfl⟩
          rw [← eq217] at hF
          refine z_sld C hX hbb dL_law_1188 hi217 ?_
          rw [← eq217]
          refine z_aload_n C dL_law_1189 rfl ?_
          refine z_iload C dL_law_1190 rfl ?_
          refine z_iconst (v := 3) C dL_law_1192 (by decide) ?_
          refine z_iadd C dL_law_1193 ?_
          obtain ⟨hi218, hF⟩ := bX_some hF
          obtain ⟨q218, eq218⟩ : ∃ q : Nat, q = Int32.toNatClampNeg (v4 + (3 : Int32)) := ⟨_, rfl⟩
          rw [← eq218] at hF
          refine z_sld C hX hbb dL_law_1194 hi218 ?_
          rw [← eq218]
          obtain ⟨x219, S219, h219, hF⟩ := bI_some hF
          refine g_cV (st2 := [.int x219]) C (by omega) dL_law_1195 zyX13_rests zvX13_rests lkRL_164 (K_X13_rests (l := l) hT215 hpv2 hkv2    h219) hpv2 hkv2 rfl (by decide) rfl rfl (Nat.le_of_ble_eq_true rfl) rfl (fun hT219 => ?_)
          refine z_istore (lv2 := [some (.ref b), some (.ref (zB G + v1)), some (.ref (zB G + v2)), some (.ref (zB G + v3)), some (.int v4), some (.int x215), some (.int x219)]) C dL_law_1198 (by decide) rfl ?_
          refine z_aload_n C dL_law_1200 rfl ?_
          obtain ⟨x220, S220, h220, hF⟩ := bI_some hF
          refine g_cV (st2 := [.int x220]) C (by omega) dL_law_1201 zyX13_thrown zvX13_thrown lkRL_165 (K_X13_thrown (l := l) hT219 hpv2 hkv2 h220) hpv2 hkv2 rfl (by decide) rfl rfl (Nat.le_of_ble_eq_true rfl) rfl (fun hT220 => ?_)
          refine z_iload C dL_law_1204 rfl ?_
          refine z_icmp_eq C 1211 dL_law_1206 (by decide) (fun c221 => ?_) (fun c221 => ?_)
          · replace hF := ip hF c221
            refine z_iload C dL_law_1211 rfl ?_
            refine z_if_ne C 1228 dL_law_1213 (by decide) (fun c222 => ?_) (fun c222 => ?_)
            · replace hF := im hF c222
              refine z_mask [true, true, true, true, true, false, false] ?_ rfl
              exact ih2 (k + 1) (n + 6) (by omega) S220 v1 v2 v3 v4 res hT220 hpv1 hkv1 hpv2 hkv2 hpv3 hkv3  hF h1
            · replace hF := ip hF c222
              refine z_aload_n C dL_law_1216 rfl ?_
              refine z_iconst (v := 0) C dL_law_1217 (by decide) ?_
              obtain ⟨hi223, hF⟩ := bX_some hF
              obtain ⟨q223, eq223⟩ : ∃ q : Nat, q = Int32.toNatClampNeg 0 := ⟨_, rfl⟩
              rw [← eq223] at hF
              refine f_lald C dL_law_1218 hpv3 hkv3 hi223 ?_
              rw [← eq223]
              refine z_iload C dL_law_1219 rfl ?_
              refine z_i2l C dL_law_1221 ?_
              refine z_lcmp C dL_law_1222 ?_
              refine z_if_eq C 1228 dL_law_1223 (by decide) (fun c224 => ?_) (fun c224 => ?_)
              · replace hF := ip hF c224
                refine z_mask [true, true, true, true, true, false, false] ?_ rfl
                exact ih2 (k + 1) (n + 6) (by omega) S220 v1 v2 v3 v4 res hT220 hpv1 hkv1 hpv2 hkv2 hpv3 hkv3  hF h1
              · replace hF := im hF c224
                refine z_iconst (v := 0) C dL_law_1226 (by decide) ?_
                cases hF
                exact absurd h1 (by simp)
          · replace hF := im hF c221
            refine z_iconst (v := 0) C dL_law_1209 (by decide) ?_
            cases hF
            exact absurd h1 (by simp)
        replace hF := im hF c225
        by_cases c235 : ((xs q2) &&& (63 : Int32)) = 34
        · replace hF := ip hF c235
          refine z_tabIn C 1231 dL_law_40 (by rw [c235]; decide) (by rw [c235]; decide) (off := 1191) (by rw [c235]; rfl) (by decide) ?_
          refine z_aload_n C dL_law_1231 rfl ?_
          refine z_aload_n C dL_law_1232 rfl ?_
          refine z_iload C dL_law_1233 rfl ?_
          refine z_iconst (v := 1) C dL_law_1235 (by decide) ?_
          refine z_iadd C dL_law_1236 ?_
          obtain ⟨hi226, hF⟩ := bX_some hF
          obtain ⟨q226, eq226⟩ : ∃ q : Nat, q = Int32.toNatClampNeg (v4 + (1 : Int32)) := ⟨_, rfl⟩
          rw [← eq226] at hF
          refine z_sld C hX hbb dL_law_1237 hi226 ?_
          rw [← eq226]
          refine z_aload_n C dL_law_1238 rfl ?_
          refine z_iload C dL_law_1239 rfl ?_
          refine z_iconst (v := 2) C dL_law_1241 (by decide) ?_
          refine z_iadd C dL_law_1242 ?_
          obtain ⟨hi227, hF⟩ := bX_some hF
          obtain ⟨q227, eq227⟩ : ∃ q : Nat, q = Int32.toNatClampNeg (v4 + (2 : Int32)) := ⟨_, rfl⟩
          rw [← eq227] at hF
          refine z_sld C hX hbb dL_law_1243 hi227 ?_
          rw [← eq227]
          refine z_aload_n C dL_law_1244 rfl ?_
          refine z_iload C dL_law_1245 rfl ?_
          refine z_iconst (v := 3) C dL_law_1247 (by decide) ?_
          refine z_iadd C dL_law_1248 ?_
          obtain ⟨hi228, hF⟩ := bX_some hF
          obtain ⟨q228, eq228⟩ : ∃ q : Nat, q = Int32.toNatClampNeg (v4 + (3 : Int32)) := ⟨_, rfl⟩
          rw [← eq228] at hF
          refine z_sld C hX hbb dL_law_1249 hi228 ?_
          rw [← eq228]
          obtain ⟨x229, S229, h229, hF⟩ := bI_some hF
          refine g_cV (st2 := [.int x229]) C (by omega) dL_law_1250 zyX12_weeks zvX12_weeks lkRL_168 (K_X12_weeks (l := l) hT hpv1 hkv1    h229) hpv1 hkv1 rfl (by decide) rfl rfl (Nat.le_of_ble_eq_true rfl) rfl (fun hT229 => ?_)
          refine z_aload_n C dL_law_1253 rfl ?_
          refine z_aload_n C dL_law_1254 rfl ?_
          refine z_iload C dL_law_1255 rfl ?_
          refine z_iconst (v := 1) C dL_law_1257 (by decide) ?_
          refine z_iadd C dL_law_1258 ?_
          obtain ⟨hi230, hF⟩ := bX_some hF
          obtain ⟨q230, eq230⟩ : ∃ q : Nat, q = Int32.toNatClampNeg (v4 + (1 : Int32)) := ⟨_, rfl⟩
          rw [← eq230] at hF
          refine z_sld C hX hbb dL_law_1259 hi230 ?_
          rw [← eq230]
          refine z_aload_n C dL_law_1260 rfl ?_
          refine z_iload C dL_law_1261 rfl ?_
          refine z_iconst (v := 2) C dL_law_1263 (by decide) ?_
          refine z_iadd C dL_law_1264 ?_
          obtain ⟨hi231, hF⟩ := bX_some hF
          obtain ⟨q231, eq231⟩ : ∃ q : Nat, q = Int32.toNatClampNeg (v4 + (2 : Int32)) := ⟨_, rfl⟩
          rw [← eq231] at hF
          refine z_sld C hX hbb dL_law_1265 hi231 ?_
          rw [← eq231]
          refine z_aload_n C dL_law_1266 rfl ?_
          refine z_iload C dL_law_1267 rfl ?_
          refine z_iconst (v := 3) C dL_law_1269 (by decide) ?_
          refine z_iadd C dL_law_1270 ?_
          obtain ⟨hi232, hF⟩ := bX_some hF
          obtain ⟨q232, eq232⟩ : ∃ q : Nat, q = Int32.toNatClampNeg (v4 + (3 : Int32)) := ⟨_, rfl⟩
          rw [← eq232] at hF
          refine z_sld C hX hbb dL_law_1271 hi232 ?_
          rw [← eq232]
          obtain ⟨x233, S233, h233, hF⟩ := bI_some hF
          refine g_cV (st2 := [.int x233, .int x229]) C (by omega) dL_law_1272 zyX13_weeks zvX13_weeks lkRL_171 (K_X13_weeks (l := l) hT229 hpv2 hkv2    h233) hpv2 hkv2 rfl (by decide) rfl rfl (Nat.le_of_ble_eq_true rfl) rfl (fun hT233 => ?_)
          refine z_icmp_eq C 1358 dL_law_1275 (by decide) (fun c234 => ?_) (fun c234 => ?_)
          · replace hF := ip hF c234
            exact ih1 k n (by omega) S233 v1 v2 v3 v4 res hT233 hpv1 hkv1 hpv2 hkv2 hpv3 hkv3  hF h1
          · replace hF := im hF c234
            refine z_iconst (v := 0) C dL_law_1278 (by decide) ?_
            cases hF
            exact absurd h1 (by simp)
        replace hF := im hF c235
        by_cases c247 : ((xs q2) &&& (63 : Int32)) = 35
        · replace hF := ip hF c247
          refine z_tabIn C 1280 dL_law_40 (by rw [c247]; decide) (by rw [c247]; decide) (off := 1240) (by rw [c247]; rfl) (by decide) ?_
          refine z_aload_n C dL_law_1280 rfl ?_
          refine z_aload_n C dL_law_1281 rfl ?_
          refine z_iload C dL_law_1282 rfl ?_
          refine z_iconst (v := 1) C dL_law_1284 (by decide) ?_
          refine z_iadd C dL_law_1285 ?_
          obtain ⟨hi236, hF⟩ := bX_some hF
          obtain ⟨q236, eq236⟩ : ∃ q : Nat, q = Int32.toNatClampNeg (v4 + (1 : Int32)) := ⟨_, rfl⟩
          rw [← eq236] at hF
          refine z_sld C hX hbb dL_law_1286 hi236 ?_
          rw [← eq236]
          refine z_aload_n C dL_law_1287 rfl ?_
          refine z_iload C dL_law_1288 rfl ?_
          refine z_iconst (v := 2) C dL_law_1290 (by decide) ?_
          refine z_iadd C dL_law_1291 ?_
          obtain ⟨hi237, hF⟩ := bX_some hF
          obtain ⟨q237, eq237⟩ : ∃ q : Nat, q = Int32.toNatClampNeg (v4 + (2 : Int32)) := ⟨_, rfl⟩
          rw [← eq237] at hF
          refine z_sld C hX hbb dL_law_1292 hi237 ?_
          rw [← eq237]
          have hJ239 : zV G ((p, l, e, room_1, s, m, #[Value.ref b], below, meth, c) : zX) (lw_Z below #[Value.ref b] s) 7 [some (.ref b), some (.ref (zB G + v1)), some (.ref (zB G + v2)), some (.ref (zB G + v3)), some (.int v4), none, none] [.int (if (xs q237) = (0 : Int32) then (0 : Int32) else (1 : Int32)), .int (xs q236), .ref (zB G + v1)] (cn G kd N0 S) 1301 k n := by
            obtain ⟨x240, S240, h240, hF⟩ := bI_some hF
            refine g_cV (st2 := [.int x240]) C (by omega) dL_law_1301 zyX12_mark zvX12_mark lkRL_172 (K_X12_mark (l := l) hT hpv1 hkv1   h240) hpv1 hkv1 rfl (by decide) rfl rfl (Nat.le_of_ble_eq_true rfl) rfl (fun hT240 => ?_)
            refine z_aload_n C dL_law_1304 rfl ?_
            refine z_aload_n C dL_law_1305 rfl ?_
            refine z_iload C dL_law_1306 rfl ?_
            refine z_iconst (v := 1) C dL_law_1308 (by decide) ?_
            refine z_iadd C dL_law_1309 ?_
            obtain ⟨hi241, hF⟩ := bX_some hF
            obtain ⟨q241, eq241⟩ : ∃ q : Nat, q = Int32.toNatClampNeg (v4 + (1 : Int32)) := ⟨_, rfl⟩
            rw [← eq241] at hF
            refine z_sld C hX hbb dL_law_1310 hi241 ?_
            rw [← eq241]
            refine z_aload_n C dL_law_1311 rfl ?_
            refine z_iload C dL_law_1312 rfl ?_
            refine z_iconst (v := 2) C dL_law_1314 (by decide) ?_
            refine z_iadd C dL_law_1315 ?_
            obtain ⟨hi242, hF⟩ := bX_some hF
            obtain ⟨q242, eq242⟩ : ∃ q : Nat, q = Int32.toNatClampNeg (v4 + (2 : Int32)) := ⟨_, rfl⟩
            rw [← eq242] at hF
            refine z_sld C hX hbb dL_law_1316 hi242 ?_
            rw [← eq242]
            have hJ244 : zV G ((p, l, e, room_1, s, m, #[Value.ref b], below, meth, c) : zX) (lw_Z below #[Value.ref b] s) 7 [some (.ref b), some (.ref (zB G + v1)), some (.ref (zB G + v2)), some (.ref (zB G + v3)), some (.int v4), none, none] [.int (if (xs q242) = (0 : Int32) then (0 : Int32) else (1 : Int32)), .int (xs q241), .ref (zB G + v2), .int x240] (cn G kd N0 S240) 1325 k n := by
              obtain ⟨x245, S245, h245, hF⟩ := bI_some hF
              refine g_cV (st2 := [.int x245, .int x240]) C (by omega) dL_law_1325 zyX13_mark zvX13_mark lkRL_176 (K_X13_mark (l := l) hT240 hpv2 hkv2   h245) hpv2 hkv2 rfl (by decide) rfl rfl (Nat.le_of_ble_eq_true rfl) rfl (fun hT245 => ?_)
              refine z_icmp_eq C 1358 dL_law_1328 (by decide) (fun c246 => ?_) (fun c246 => ?_)
              · replace hF := ip hF c246
                exact ih1 k n (by omega) S245 v1 v2 v3 v4 res hT245 hpv1 hkv1 hpv2 hkv2 hpv3 hkv3  hF h1
              · replace hF := im hF c246
                refine z_iconst (v := 0) C dL_law_1331 (by decide) ?_
                cases hF
                exact absurd h1 (by simp)
            refine z_if_eq C 1324 dL_law_1317 (by decide) (fun c243 => ?_) (fun c243 => ?_)
            · refine z_iconst (v := 0) C dL_law_1324 (by decide) ?_
              exact zV.at hJ244 (by first | rfl | contradiction | (simp only [if_pos c243]; done)) (by first | rfl | contradiction | (simp only [if_pos c243]; done)) rfl rfl
            · refine z_iconst (v := 1) C dL_law_1320 (by decide) ?_
              refine z_goto C 1325 dL_law_1321 (by decide) ?_
              exact zV.at hJ244 (by first | rfl | contradiction | (simp only [if_neg c243]; done)) (by first | rfl | contradiction | (simp only [if_neg c243]; done)) rfl rfl
          refine z_if_eq C 1300 dL_law_1293 (by decide) (fun c238 => ?_) (fun c238 => ?_)
          · refine z_iconst (v := 0) C dL_law_1300 (by decide) ?_
            exact zV.at hJ239 (by first | rfl | contradiction | (simp only [if_pos c238]; done)) (by first | rfl | contradiction | (simp only [if_pos c238]; done)) rfl rfl
          · refine z_iconst (v := 1) C dL_law_1296 (by decide) ?_
            refine z_goto C 1301 dL_law_1297 (by decide) ?_
            exact zV.at hJ239 (by first | rfl | contradiction | (simp only [if_neg c238]; done)) (by first | rfl | contradiction | (simp only [if_neg c238]; done)) rfl rfl
        replace hF := im hF c247
        by_cases c253 : ((xs q2) &&& (63 : Int32)) = 36
        · replace hF := ip hF c253
          refine z_tabIn C 1333 dL_law_40 (by rw [c253]; decide) (by rw [c253]; decide) (off := 1293) (by rw [c253]; rfl) (by decide) ?_
          refine z_aload_n C dL_law_1333 rfl ?_
          refine z_aload_n C dL_law_1334 rfl ?_
          refine z_iload C dL_law_1335 rfl ?_
          refine z_iconst (v := 1) C dL_law_1337 (by decide) ?_
          refine z_iadd C dL_law_1338 ?_
          obtain ⟨hi248, hF⟩ := bX_some hF
          obtain ⟨q248, eq248⟩ : ∃ q : Nat, q = Int32.toNatClampNeg (v4 + (1 : Int32)) := ⟨_, rfl⟩
          rw [← eq248] at hF
          refine z_sld C hX hbb dL_law_1339 hi248 ?_
          rw [← eq248]
          obtain ⟨x249, S249, h249, hF⟩ := bI_some hF
          refine g_cV (st2 := [.int x249]) C (by omega) dL_law_1340 zyX12_count zvX12_count lkRL_177 (K_X12_count (l := l) hT hpv1 hkv1  h249) hpv1 hkv1 rfl (by decide) rfl rfl (Nat.le_of_ble_eq_true rfl) rfl (fun hT249 => ?_)
          refine z_aload_n C dL_law_1343 rfl ?_
          refine z_aload_n C dL_law_1344 rfl ?_
          refine z_iload C dL_law_1345 rfl ?_
          refine z_iconst (v := 1) C dL_law_1347 (by decide) ?_
          refine z_iadd C dL_law_1348 ?_
          obtain ⟨hi250, hF⟩ := bX_some hF
          obtain ⟨q250, eq250⟩ : ∃ q : Nat, q = Int32.toNatClampNeg (v4 + (1 : Int32)) := ⟨_, rfl⟩
          rw [← eq250] at hF
          refine z_sld C hX hbb dL_law_1349 hi250 ?_
          rw [← eq250]
          obtain ⟨x251, S251, h251, hF⟩ := bI_some hF
          refine g_cV (st2 := [.int x251, .int x249]) C (by omega) dL_law_1350 zyX13_count zvX13_count lkRL_180 (K_X13_count (l := l) hT249 hpv2 hkv2  h251) hpv2 hkv2 rfl (by decide) rfl rfl (Nat.le_of_ble_eq_true rfl) rfl (fun hT251 => ?_)
          refine z_icmp_eq C 1358 dL_law_1353 (by decide) (fun c252 => ?_) (fun c252 => ?_)
          · replace hF := ip hF c252
            exact ih1 k n (by omega) S251 v1 v2 v3 v4 res hT251 hpv1 hkv1 hpv2 hkv2 hpv3 hkv3  hF h1
          · replace hF := im hF c252
            refine z_iconst (v := 0) C dL_law_1356 (by decide) ?_
            cases hF
            exact absurd h1 (by simp)
        replace hF := im hF c253
        refine z_tabOut C 1358 dL_law_40 (f_tabOut (fun v h1 h2 e => by
          rcases (show v = 0 ∨ v = 1 ∨ v = 2 ∨ v = 3 ∨ v = 4 ∨ v = 5 ∨ v = 6 ∨ v = 7 ∨ v = 8 ∨ v = 9 ∨ v = 10 ∨ v = 11 ∨ v = 12 ∨ v = 13 ∨ v = 14 ∨ v = 15 ∨ v = 16 ∨ v = 17 ∨ v = 18 ∨ v = 19 ∨ v = 20 ∨ v = 21 ∨ v = 22 ∨ v = 23 ∨ v = 24 ∨ v = 25 ∨ v = 26 ∨ v = 27 ∨ v = 28 ∨ v = 29 ∨ v = 30 ∨ v = 31 ∨ v = 32 ∨ v = 33 ∨ v = 34 ∨ v = 35 ∨ v = 36 by omega) with rfl | rfl | rfl | rfl | rfl | rfl | rfl | rfl | rfl | rfl | rfl | rfl | rfl | rfl | rfl | rfl | rfl | rfl | rfl | rfl | rfl | rfl | rfl | rfl | rfl | rfl | rfl | rfl | rfl | rfl | rfl | rfl | rfl | rfl | rfl | rfl | rfl
          · exact c19 (Int32.toInt_inj.mp (e.trans (by decide)))
          · exact c23 (Int32.toInt_inj.mp (e.trans (by decide)))
          · exact c27 (Int32.toInt_inj.mp (e.trans (by decide)))
          · exact c35 (Int32.toInt_inj.mp (e.trans (by decide)))
          · exact c43 (Int32.toInt_inj.mp (e.trans (by decide)))
          · exact c47 (Int32.toInt_inj.mp (e.trans (by decide)))
          · exact c53 (Int32.toInt_inj.mp (e.trans (by decide)))
          · exact c57 (Int32.toInt_inj.mp (e.trans (by decide)))
          · exact c63 (Int32.toInt_inj.mp (e.trans (by decide)))
          · exact c69 (Int32.toInt_inj.mp (e.trans (by decide)))
          · exact c77 (Int32.toInt_inj.mp (e.trans (by decide)))
          · exact c83 (Int32.toInt_inj.mp (e.trans (by decide)))
          · exact c89 (Int32.toInt_inj.mp (e.trans (by decide)))
          · exact c93 (Int32.toInt_inj.mp (e.trans (by decide)))
          · exact c97 (Int32.toInt_inj.mp (e.trans (by decide)))
          · exact c103 (Int32.toInt_inj.mp (e.trans (by decide)))
          · exact c111 (Int32.toInt_inj.mp (e.trans (by decide)))
          · exact c115 (Int32.toInt_inj.mp (e.trans (by decide)))
          · exact c125 (Int32.toInt_inj.mp (e.trans (by decide)))
          · exact c129 (Int32.toInt_inj.mp (e.trans (by decide)))
          · exact c133 (Int32.toInt_inj.mp (e.trans (by decide)))
          · exact c139 (Int32.toInt_inj.mp (e.trans (by decide)))
          · exact c145 (Int32.toInt_inj.mp (e.trans (by decide)))
          · exact c153 (Int32.toInt_inj.mp (e.trans (by decide)))
          · exact c159 (Int32.toInt_inj.mp (e.trans (by decide)))
          · exact c169 (Int32.toInt_inj.mp (e.trans (by decide)))
          · exact c177 (Int32.toInt_inj.mp (e.trans (by decide)))
          · exact c183 (Int32.toInt_inj.mp (e.trans (by decide)))
          · exact c189 (Int32.toInt_inj.mp (e.trans (by decide)))
          · exact c197 (Int32.toInt_inj.mp (e.trans (by decide)))
          · exact c201 (Int32.toInt_inj.mp (e.trans (by decide)))
          · exact c205 (Int32.toInt_inj.mp (e.trans (by decide)))
          · exact c211 (Int32.toInt_inj.mp (e.trans (by decide)))
          · exact c225 (Int32.toInt_inj.mp (e.trans (by decide)))
          · exact c235 (Int32.toInt_inj.mp (e.trans (by decide)))
          · exact c247 (Int32.toInt_inj.mp (e.trans (by decide)))
          · exact c253 (Int32.toInt_inj.mp (e.trans (by decide))))) (by decide) ?_
        exact ih1 k n (by omega) S v1 v2 v3 v4 res hT hpv1 hkv1 hpv2 hkv2 hpv3 hkv3  hF h1
    · intro k n hkn S v1 v2 v3 v4 res hT hpv1 hkv1 hpv2 hkv2 hpv3 hkv3 hF h1
      replace hF : F_L_law_1 xs L f (F_L_law xs L f) v1 v2 v3 v4 S = some res := hF
      unfold F_L_law_1 at hF
      refine z_iinc (v := v4 + 7) (lv2 := [some (.ref b), some (.ref (zB G + v1)), some (.ref (zB G + v2)), some (.ref (zB G + v3)), some (.int (v4 + 7)), none, none]) C dL_law_1358 rfl (by rw [show Int32.ofInt 7 = (7 : Int32) from by decide]) rfl ?_
      refine z_goto C 23 dL_law_1361 (by decide) ?_
      exact ih0 k n (by omega) S v1 v2 v3 (v4 + 7) res hT hpv1 hkv1 hpv2 hkv2 hpv3 hkv3  hF h1
    · intro k n hkn S v1 v2 v3 v4 res hT hpv1 hkv1 hpv2 hkv2 hpv3 hkv3 hF h1
      replace hF : F_L_law_2 xs L f (F_L_law xs L f) v1 v2 v3 v4 S = some res := hF
      unfold F_L_law_2 at hF
      refine z_goto C 1358 dL_law_1228 (by decide) ?_
      exact ih1 k n (by omega) S v1 v2 v3 v4 res hT hpv1 hkv1 hpv2 hkv2 hpv3 hkv3  hF h1

section ZH2
variable {G : zG} {X : zX} {Q : State → Prop} {nL : Nat} {lv : zLv} {st : List Value} {kd : kD} {N0 : Nat} {S : aS} {pc k n d mc ms : Nat} {own : String} {cc : ByteArray}
theorem f_mmax (C : zCt G X d 0 0 own cc nL) {i : Nat} {x y : Int32} {h : zH} (hd : decode cc pc = .ok (.invokestatic i, 3)) (hlink : Cond.methodLink own i yJ9_max_7cf53 ∈ ztb) (h1 : 0 < d) (hw : (st.map fun v => v.category).sum ≤ 8) (kk : zV G X Q nL lv (.int (if x < y then y else x) :: st) h (pc + 3) 0 0) : zV G X Q nL lv (.int y :: .int x :: st) h pc 0 0 := by
  intro H locs ls hW hL hl
  exact va_mmax C.1 C.2.1 (by rw [C.2.2.1, hl.1]) C.2.2.2.1 (C.2.2.2.2.1 _ hlink) (C.2.2.2.2.1 _ zsJ9_max_7cf53) (C.2.2.2.2.1 _ zyJ9_max_7cf53.2.2.1) (C.2.2.2.2.1 _ zyJ9_max_7cf53.2.1) (Nat.le_trans h1 C.2.2.2.2.2.2.2.2.1) (by have hR := C.2.2.2.2.2.2.2.2.2.1; omega) (Nat.zero_le _) (Nat.zero_le _) hd (kk H locs ls hW hL hl)
theorem f_mmin (C : zCt G X d 0 0 own cc nL) {i : Nat} {x y : Int32} {h : zH} (hd : decode cc pc = .ok (.invokestatic i, 3)) (hlink : Cond.methodLink own i yJ9_min_7cf53 ∈ ztb) (h1 : 0 < d) (hw : (st.map fun v => v.category).sum ≤ 8) (kk : zV G X Q nL lv (.int (if y < x then y else x) :: st) h (pc + 3) 0 0) : zV G X Q nL lv (.int y :: .int x :: st) h pc 0 0 := by
  intro H locs ls hW hL hl
  exact va_mmin C.1 C.2.1 (by rw [C.2.2.1, hl.1]) C.2.2.2.1 (C.2.2.2.2.1 _ hlink) (C.2.2.2.2.1 _ zsJ9_min_7cf53) (C.2.2.2.2.1 _ zyJ9_min_7cf53.2.2.1) (C.2.2.2.2.1 _ zyJ9_min_7cf53.2.1) (Nat.le_trans h1 C.2.2.2.2.2.2.2.2.1) (by have hR := C.2.2.2.2.2.2.2.2.2.1; omega) (Nat.zero_le _) (Nat.zero_le _) hd (kk H locs ls hW hL hl)
def xOrd : MethodName := ⟨"LakeBins$Word", "ordinal", "()I"⟩
theorem dOrd_0 : decode cJx29ce0_ordinal_8abf5 0 = .ok (.aload_n 0, 1) := by decide +kernel
theorem dOrd_1 : decode cJx29ce0_ordinal_8abf5 1 = .ok (.getfield 7, 3) := by decide +kernel
theorem dOrd_4 : decode cJx29ce0_ordinal_8abf5 4 = .ok (.ireturn, 1) := by decide +kernel
theorem K_ord {l : Launch} {w : Nat} (hw : w < 31) (hT : zT0 kd N0 S) : zM G l 0 0 0 yJx29ce0_ordinal_8abf5 cJx29ce0_ordinal_8abf5 1 (some .int) [.ref (zC G w)] (cn G kd N0 S) (zPo G kd N0 (some (.int (nI w)), S)) := zM.of (by decide) rfl (Nat.le_of_ble_eq_true rfl) (fun X _ C hr _ => by
  refine z_aload_n C dOrd_0 rfl ?_
  refine f_getK C dOrd_1 fkRJx29ce0_7 (C.2.2.2.2.2.1.2.2.1 w hw).2.2.2.2.2 ?_
  exact z_iret C hr dOrd_4 ⟨rfl, rfl, hT⟩)
theorem lkRX6_146 : Cond.methodLink RX6 146 xOrd ∈ ztb := tbm3 78 rfl rfl
theorem ordSame : Cond.sameMethod "LakeBins$Word" "java/lang/Enum" "ordinal" "()I" ∈ ztb := tbm3 79 rfl rfl
theorem ordSel : Cond.selects "LakeBins$Word" xOrd yJx29ce0_ordinal_8abf5 ∈ ztb := tbm3 81 rfl rfl
theorem ordInst : Cond.instanceMethod yJx29ce0_ordinal_8abf5 ∈ ztb := tbm3 82 rfl rfl
theorem f_ord (C : zCt G X d 0 0 own cc nL) {i w : Nat} (hd : decode cc pc = .ok (.invokevirtual i, 3)) (hlink : Cond.methodLink own i xOrd ∈ ztb) (hw0 : w < 31) (hT : zT0 kd N0 S) (h1 : 0 < d) (hw : (st.map fun v => v.category).sum ≤ 8) (kk : zV G X Q nL lv (.int (nI w) :: st) (cn G kd N0 S) (pc + 3) 0 0) : zV G X Q nL lv (.ref (zC G w) :: st) (cn G kd N0 S) pc 0 0 := by
  intro H locs ls hW hL hl
  have hts := C.2.2.2.2.1
  have hy := zyJx29ce0_ordinal_8abf5
  refine z_run (mc2 := 0) (ms2 := 0) (va_runU (x := xOrd) (owner := "java/lang/Enum") (C := "LakeBins$Word") (As := []) (rest := st) ⟨C.1, C.2.1, C.2.2.1, C.2.2.2.1, hts⟩ (K_ord (l := zXl X) hw0 hT) ⟨⟨rfl, rfl, Nat.le_trans h1 C.2.2.2.2.2.2.2.2.1, by have hR := C.2.2.2.2.2.2.2.2.2.1; show 8 + (1 + 11) + 64 * 0 ≤ (zXR X).locals; omega, pay_in hts (z_gi hy.2.1), List.mem_cons_self⟩, hts _ hy.2.1, hts _ hy.2.2.1, ⟨by decide, by decide⟩, fun sig h => ?_, hts _ hlink, hts _ ordSame, va_Decl.of (hts _ ordInst) (hts _ hy.2.1), hts _ ordSel, hts _ ordInst⟩ ⟨zP.blind, ?_, fun U hU hWm => ⟨rfl, by rw [hU]; exact hW, C.2.2.2.2.2.1.warm hWm⟩⟩ rfl rfl hl.1 rfl (lv_room hw) hd ⟨Nat.zero_le _, Nat.zero_le _⟩) hL hl (fun r h2 hP => ?_)
  · have h2 := hy.1.2.2
    have e : parseMethodDescriptor yJx29ce0_ordinal_8abf5.desc = some sig := h
    rw [e] at h2
    exact (Option.some.inj h2).symm
  · obtain ⟨cell, a1, a2, a3, a4⟩ := (C.2.2.2.2.2.1.2.2.1 w hw0).2.1
    exact ⟨cell, by rw [hW.2.2 _ (Nat.not_le.mp a4)]; exact a1, a2, a3⟩
  · obtain ⟨rfl, rfl, -⟩ := hP
    exact kk
section ZFC2
variable {y : MethodName} {cy : ByteArray} {maxL na d2 i p ci x : Nat} {ret : Option FieldType} {As rest : List Value} {T0 : u_T} {M0 : Nat} {S1 : aS} {q : Nat ⊕ (Nat × Nat)}
theorem f_cVr (C : zCt G X d 0 0 own cc nL) (hd : decode cc pc = .ok (.invokevirtual i, 3)) (hy : zY y cy maxL ret na) (hv : zYv y) (hlink : Cond.methodLink own i y ∈ ztb) (hM : zM G (zXl X) d2 0 0 y cy maxL ret (.ref (zB G + p) :: As) (cn G kd N0 S) (zPr G kd N0 q (some (.ref x), S1))) (hp : p < N0) (hk : kd p = .inl ci) (hc : zcl[ci]? = some (y.cls, T0, M0)) (hd2 : d2 < d) (hn : As.length = na) (hst : As.reverse ++ .ref (zB G + p) :: rest = st) (hw : (rest.map fun v => v.category).sum ≤ 8) (kk : zT0 kd N0 S1 → x < N0 → kd x = q → zV G X Q nL lv (.ref (zB G + x) :: rest) (cn G kd N0 S1) (pc + 3) 0 0) : zV G X Q nL lv st (cn G kd N0 S) pc 0 0 := z_callV C hd hy hv hlink hM (cn_obj hp hk) hc hd2 hn hst hw ⟨Nat.le_refl _, Nat.le_refl _⟩ (fun r h2 hP => by obtain ⟨p2, e, h1, h3, rfl, rfl, hT⟩ := hP; cases e; exact kk hT h1 h3)
theorem f_cSw (C : zCt G X d 0 0 own cc nL) (hd : decode cc pc = .ok (.invokestatic i, 3)) (hy : zY y cy maxL ret na) (hv : Cond.static y ∈ ztb) (hlink : Cond.methodLink own i y ∈ ztb) (hM : zM G (zXl X) d2 0 0 y cy maxL ret As (cn G kd N0 S) (zPw G kd N0 (some (.ref x), S1))) (hd2 : d2 < d) (hn : As.length = na) (hst : As.reverse ++ rest = st) (hw : (rest.map fun v => v.category).sum ≤ 8) (kk : zT0 kd N0 S1 → x < 31 → zV G X Q nL lv (.ref (zC G x) :: rest) (cn G kd N0 S1) (pc + 3) 0 0) : zV G X Q nL lv st (cn G kd N0 S) pc 0 0 := z_callS C hd hy hv hlink hM hd2 hn hst hw ⟨Nat.le_refl _, Nat.le_refl _⟩ (fun r h2 hP => by obtain ⟨p2, e, h1, rfl, rfl, hT⟩ := hP; cases e; exact kk hT h1)
end ZFC2
end ZH2
theorem ip {c : Prop} [Decidable c] {α : Type} {A B r : α} (h : (if c then A else B) = r) (hc : c) : A = r := by rw [if_pos hc] at h; exact h
theorem im {c : Prop} [Decidable c] {α : Type} {A B r : α} (h : (if c then A else B) = r) (hc : ¬ c) : B = r := by rw [if_neg hc] at h; exact h
theorem lI_e {v : Int32} {k : Int32 → aR} {r : aR} (h : lI v k = r) : k v = r := h
theorem lJ_e {v : Int64} {k : Int64 → aR} {r : aR} (h : lJ v k = r) : k v = r := h
def dE (e : Nat) (k : Nat → aR) : aR := match e with
  | 0 => none
  | e + 1 => k e
theorem dE_some {e : Nat} {k : Nat → aR} {res : Option Value × aS} (h : dE e k = some res) : ∃ e1, e = e1 + 1 ∧ k e1 = some res := by
  cases e with
  | zero => cases h
  | succ e => exact ⟨e, rfl, h⟩
theorem fS_e {S : aS} {k : aS → aR} {r : aR} (h : fS S k = r) : k S = r := h

/-! rests throws; the law's helper catches -/
abbrev NSE : String := "java/util/NoSuchElementException"
def zAt : List Cond := vx_at0 RX12 277 NSE ["java/lang/RuntimeException", "java/lang/Exception"]
theorem zAt_good : ∀ w ∈ zAt.filter goodWord, w ∈ lw_tbl := by decide +kernel
def zBad : List Cond := zAt.filter (fun w => !goodWord w)
def isCast (w : Cond) : Bool := match w with
  | .castable _ _ => true
  | .declares _ => true
  | _ => false
theorem zBad_cast : zBad.all isCast = true := by decide +kernel
theorem zBad_ot : ∀ w ∈ zBad, w.onTables = true := by decide +kernel
theorem zAt_ot : ∀ w ∈ Cond.classLink RX12 275 NSE :: Cond.initialized NSE :: vx_at0 RX12 277 NSE ["java/lang/RuntimeException", "java/lang/Exception"], vx_ot w = true := by decide +kernel
theorem clNSE : Cond.classLink RX12 275 NSE ∈ ztb := tbm5 234 rfl rfl
theorem iniNSE : Cond.initialized NSE ∈ ztb := tbm1 21 rfl rfl
def zE2 (G : zG) (U : State) : Prop := (zC G 40 ≠ 0 ∧ ∀ w ∈ zBad, va_Nw w U) ∧ va_Nw (.castable NSE NSE) U ∧ vx_Zq Bundle.tN "UNASSIGNED_STACK" Bundle.steD (zA G) U (zN G) ∧ vx_Zq Bundle.tN "SUPPRESSED_SENTINEL" Bundle.listD (zA G) U (zN G)
theorem zE2.warm {G : zG} {s U : State} (hW : s.WarmedH U.vm) (h : zE2 G s) : zE2 G U := by
  refine ⟨⟨h.1.1, fun w hw => ?_⟩, va_Nw.warmC hW h.2.1, h.2.2.1.moved hW.alike, h.2.2.2.moved hW.alike⟩
  have h1 := List.all_eq_true.mp zBad_cast w hw
  have h2 := h.1.2 w hw
  cases w <;> first | exact va_Nw.warmC hW h2 | exact va_Nw.warmD hW h2 | cases h1
theorem zE2.same {G : zG} {s U : State} (hv : s.vm = U.vm) (h : zE2 G s) : zE2 G U := by
  refine ⟨⟨h.1.1, fun w hw => ?_⟩, va_Nw.same rfl hv h.2.1, h.2.2.1.moved (by rw [hv]; exact Vm.Alike.refl _), h.2.2.2.moved (by rw [hv]; exact Vm.Alike.refl _)⟩
  have h1 := List.all_eq_true.mp zBad_cast w hw
  have h2 := h.1.2 w hw
  cases w <;> first | exact va_Nw.same rfl hv h2 | cases h1
section ZXR
variable {G : zG} {X : zX} {Q : State → Prop} {nL : Nat} {lv : zLv} {st : List Value} {kd : kD} {N0 : Nat} {S : aS} {pc k n d mc ms : Nat} {own : String} {cc : ByteArray} {res : Option Value × aS}
abbrev zXQ (G : zG) (kd : kD) (N0 : Nat) (res : Option Value × aS) : Array Value → State → Outcome → State → Prop := fun _ _ o t => ∃ v, res.1 = some v ∧ o = .returned (some v) ∧ zW G (cn G kd N0 res.2) t.heap ∧ zT0 kd N0 res.2
abbrev zXX (G : zG) (kd : kD) (N0 : Nat) (res : Option Value × aS) : String → State → State → Prop := fun E _ t => res.1 = none ∧ E = NSE ∧ zW G (cn G kd N0 res.2) t.heap ∧ zT0 kd N0 res.2
abbrev zQY (G : zG) (X : zX) (kd : kD) (N0 : Nat) (res : Option Value × aS) : State → Prop := vx_MQ (zXb X) (zXQ G kd N0 res) (zXX G kd N0 res) (zXa X) (zXs X) 1 6 (fun q => zB G ≤ q)
theorem zx_iret (C : zCt G X d 1 6 own cc nL) {v : Int32} (hr : (zXh X).sig.returnType = some .int) (hd : decode cc pc = .ok (.ireturn, 1)) (hp : some (Value.int v) = some (Value.int v) ∧ cn G kd N0 S = cn G kd N0 S ∧ zT0 kd N0 S) : zV G X (zQY G X kd N0 (some (.int v), S)) nL lv [.int v] (cn G kd N0 S) pc 0 0 := fun H locs ls hW hL hl => vx_ret (W.widen (Nat.zero_le 1) (Nat.zero_le 6) (W.iret C.1 C.2.1 hr (fun t ht _ => ⟨_, rfl, rfl, by rw [ht]; exact hW, hp.2.2⟩) hL hd C.2.2.2.2.2.2.1))
theorem zx_throw (C : zCt G X d 1 6 RX12 cX12_rests nL) (hE2 : zE2 G (zXs X)) (hst : (zXl X).stackTraces = false) (htab : ∀ x ∈ (zXc X).exceptionTable.toList, False) (d0 : decode cX12_rests pc = .ok (.new 275, 3)) (d3 : decode cX12_rests (pc + 3) = .ok (.dup, 1)) (d4 : decode cX12_rests (pc + 4) = .ok (.invokespecial 277, 3)) (d7 : decode cX12_rests (pc + 7) = .ok (.athrow, 1)) (hd : 6 < d) (hw : (st.map fun v => v.category).sum ≤ 8) (hr : res = (none, S)) (hT : zT0 kd N0 S) : zV G X (zQY G X kd N0 (none, S)) nL lv st (cn G kd N0 S) pc 0 0 := by
  intro H locs ls hW hL hl T hTh Xs
  have hts := C.2.2.2.2.1
  have hsz := (vx_frame Xs.same).1
  rw [hTh] at hsz
  have hold : ∀ a : Nat, a < (zN G).size → ¬ zA G a → (zXs X).heap[a]? = (zN G)[a]? := fun a _ h => C.2.2.2.2.2.2.2.1.2 a (Nat.not_le.mp h)
  have hS : va_S (zA G) (zXs X).heap H locs := ⟨hsz, fun q _ h => by rw [hW.2.2 q (Nat.not_le.mp h), C.2.2.2.2.2.2.2.1.2 q (Nat.not_le.mp h)], hL⟩
  refine vx_throw0 (names := ["java/lang/RuntimeException", "java/lang/Exception"]) (A := zA G) C.1 C.2.1 hst C.2.2.2.1 (by decide +kernel) (by decide +kernel) (hts _ clNSE) (hts _ iniNSE) (vx_hat (fun w hw => hts w (List.mem_filter.mpr ⟨zAt_good w hw, (List.mem_filter.mp hw).2⟩)) (fun w hw => hw) (fun w hw => va_Nw.use (zBad_ot w hw) (hE2.1.2 w hw))) zAt_ot (hE2.2.2.1.kept hold) (hE2.2.2.2.kept hold) hS (by rw [C.2.2.1]; exact hl.1) d0 d3 d4 d7 (fun x hx => (htab x hx).elim) (by have := C.2.2.2.2.2.2.2.2.1; show 2 + 3 < _; omega) (by have := C.2.2.2.2.2.2.2.2.2.1; show _ + (13 * (2 + 1) + 42) ≤ _; omega) C.2.2.2.2.2.2.2.2.2.2.1 C.2.2.2.2.2.2.2.2.2.2.2 C.2.2.2.2.2.2.1 (fun t _ hz hq => ?_) hL (Nat.le_refl _) (Nat.le_refl _) T hTh Xs
  refine ⟨rfl, rfl, ⟨⟨Nat.le_trans hW.1.1 hz, fun e => absurd e hE2.1.1⟩, fun k9 e9 hk9 => (hW.2.1 k9 e9 hk9).kept (hq _ (hW.2.1 k9 e9 hk9).lt), fun q hq9 => ?_⟩, hT⟩
  rw [hq q (by have := hW.1.1; omega)]
  exact hW.2.2 q hq9
theorem zx_cS {y : MethodName} {cy : ByteArray} {maxL na d2 i : Nat} {ret : Option FieldType} {As rest st2 : List Value} {res2 : Option Value × aS} (C : zCt G X d mc ms own cc nL) (hd : decode cc pc = .ok (.invokestatic i, 3)) (hy : zY y cy maxL ret na) (hv : Cond.static y ∈ ztb) (hlink : Cond.methodLink own i y ∈ ztb) (hM : zM G (zXl X) d2 0 0 y cy maxL ret As (cn G kd N0 S) (zPo G kd N0 res2)) (hd2 : d2 < d) (hn : As.length = na) (hst : As.reverse ++ rest = st) (hw : (rest.map fun v => v.category).sum ≤ 8) (hrs : res2.1.toList ++ rest = st2) (kk : zT0 kd N0 res2.2 → zV G X Q nL lv st2 (cn G kd N0 res2.2) (pc + 3) 0 0) : zV G X Q nL lv st (cn G kd N0 S) pc 0 0 := z_callS C hd hy hv hlink hM hd2 hn hst hw ⟨Nat.zero_le _, Nat.zero_le _⟩ (fun r h2 hP => by obtain ⟨rfl, rfl, hT⟩ := hP; rw [hrs]; exact kk hT)
end ZXR
def F_X12_rests_0 (f : Nat) (rc : Nat → List Value → aS → aR) (v0 : Nat) (v1 : Int32) (v2 : Int32) (v3 : Int32) (S : aS) : aR :=
  bI (F_X12_isWithin f 0 [.int v1, .int 0, .int 9] S) fun x1 S1 => if x1 = (0 : Int32) then rc 1 [] S1 else bI (F_X12_isWithin f 0 [.int v2, .int 0, .int 9] S1) fun x3 S3 => if x3 = (0 : Int32) then rc 1 [] S3 else if (-1 : Int32) ≤ v3 then rc 2 [.int v1, .int v2, .int v3, .int 0, .int 0] S3 else rc 1 [] S3
def F_X12_rests_1 (f : Nat) (rc : Nat → List Value → aS → aR)  (S : aS) : aR :=
  some (none, S)
def F_X12_rests_2 (f : Nat) (rc : Nat → List Value → aS → aR) (v0 : Int32) (v1 : Int32) (v2 : Int32) (v3 : Int32) (v4 : Int32) (S : aS) : aR :=
  if (4 : Int32) ≤ v4 then if v2 = (-1 : Int32) then some (some (.int v3), S) else rc 3 [] S else bI (F_X12_isAtRest f 0 [.int v0, .int v1, .int (v4 / (2 : Int32)), .int (v4 - v4 / (2 : Int32) * (2 : Int32))] S) fun x8 S8 => if x8 = (0 : Int32) then rc 4 [.int v0, .int v1, .int v2, .int v3, .int v4] S8 else if v3 = v2 then some (some (.int v4), S8) else rc 4 [.int v0, .int v1, .int v2, .int (v3 + 1), .int v4] S8
def F_X12_rests_3 (f : Nat) (rc : Nat → List Value → aS → aR)  (S : aS) : aR :=
  some (none, S)
def F_X12_rests_4 (f : Nat) (rc : Nat → List Value → aS → aR) (v0 : Int32) (v1 : Int32) (v2 : Int32) (v3 : Int32) (v4 : Int32) (S : aS) : aR :=
  rc 2 [.int v0, .int v1, .int v2, .int v3, .int (v4 + 1)] S
def F_X12_rests : Nat → Nat → List Value → aS → aR
  | 0, _, _, _ => none
  | f + 1, 0, vs, S => F_X12_rests_0 f (F_X12_rests f) (vR vs 0) (vI vs 1) (vI vs 2) (vI vs 3) S
  | f + 1, 1, vs, S => F_X12_rests_1 f (F_X12_rests f)  S
  | f + 1, 2, vs, S => F_X12_rests_2 f (F_X12_rests f) (vI vs 0) (vI vs 1) (vI vs 2) (vI vs 3) (vI vs 4) S
  | f + 1, 3, vs, S => F_X12_rests_3 f (F_X12_rests f)  S
  | f + 1, 4, vs, S => F_X12_rests_4 f (F_X12_rests f) (vI vs 0) (vI vs 1) (vI vs 2) (vI vs 3) (vI vs 4) S
  | _ + 1, _, _, _ => none
theorem dX12_rests_0 : decode cX12_rests 0 = .ok (.iload_n 1, 1) := by decide +kernel
theorem dX12_rests_1 : decode cX12_rests 1 = .ok (.iconst 0, 1) := by decide +kernel
theorem dX12_rests_2 : decode cX12_rests 2 = .ok (.bipush 9, 2) := by decide +kernel
theorem dX12_rests_4 : decode cX12_rests 4 = .ok (.invokestatic 178, 3) := by decide +kernel
theorem dX12_rests_7 : decode cX12_rests 7 = .ok (.ifCond .eq 18, 3) := by decide +kernel
theorem dX12_rests_10 : decode cX12_rests 10 = .ok (.iload_n 2, 1) := by decide +kernel
theorem dX12_rests_11 : decode cX12_rests 11 = .ok (.iconst 0, 1) := by decide +kernel
theorem dX12_rests_12 : decode cX12_rests 12 = .ok (.bipush 9, 2) := by decide +kernel
theorem dX12_rests_14 : decode cX12_rests 14 = .ok (.invokestatic 178, 3) := by decide +kernel
theorem dX12_rests_17 : decode cX12_rests 17 = .ok (.ifCond .eq 8, 3) := by decide +kernel
theorem dX12_rests_20 : decode cX12_rests 20 = .ok (.iload_n 3, 1) := by decide +kernel
theorem dX12_rests_21 : decode cX12_rests 21 = .ok (.iconst (-1), 1) := by decide +kernel
theorem dX12_rests_22 : decode cX12_rests 22 = .ok (.if_icmp .ge 11, 3) := by decide +kernel
theorem dX12_rests_25 : decode cX12_rests 25 = .ok (.new 275, 3) := by decide +kernel
theorem dX12_rests_28 : decode cX12_rests 28 = .ok (.dup, 1) := by decide +kernel
theorem dX12_rests_29 : decode cX12_rests 29 = .ok (.invokespecial 277, 3) := by decide +kernel
theorem dX12_rests_32 : decode cX12_rests 32 = .ok (.athrow, 1) := by decide +kernel
theorem dX12_rests_33 : decode cX12_rests 33 = .ok (.iconst 0, 1) := by decide +kernel
theorem dX12_rests_34 : decode cX12_rests 34 = .ok (.istore 4, 2) := by decide +kernel
theorem dX12_rests_36 : decode cX12_rests 36 = .ok (.iconst 0, 1) := by decide +kernel
theorem dX12_rests_37 : decode cX12_rests 37 = .ok (.istore 5, 2) := by decide +kernel
theorem dX12_rests_39 : decode cX12_rests 39 = .ok (.iload 5, 2) := by decide +kernel
theorem dX12_rests_41 : decode cX12_rests 41 = .ok (.iconst 4, 1) := by decide +kernel
theorem dX12_rests_42 : decode cX12_rests 42 = .ok (.if_icmp .ge 37, 3) := by decide +kernel
theorem dX12_rests_45 : decode cX12_rests 45 = .ok (.iload_n 1, 1) := by decide +kernel
theorem dX12_rests_46 : decode cX12_rests 46 = .ok (.iload_n 2, 1) := by decide +kernel
theorem dX12_rests_47 : decode cX12_rests 47 = .ok (.iload 5, 2) := by decide +kernel
theorem dX12_rests_49 : decode cX12_rests 49 = .ok (.iconst 2, 1) := by decide +kernel
theorem dX12_rests_50 : decode cX12_rests 50 = .ok (.idiv, 1) := by decide +kernel
theorem dX12_rests_51 : decode cX12_rests 51 = .ok (.iload 5, 2) := by decide +kernel
theorem dX12_rests_53 : decode cX12_rests 53 = .ok (.iconst 2, 1) := by decide +kernel
theorem dX12_rests_54 : decode cX12_rests 54 = .ok (.irem, 1) := by decide +kernel
theorem dX12_rests_55 : decode cX12_rests 55 = .ok (.invokestatic 278, 3) := by decide +kernel
theorem dX12_rests_58 : decode cX12_rests 58 = .ok (.ifCond .eq 15, 3) := by decide +kernel
theorem dX12_rests_61 : decode cX12_rests 61 = .ok (.iload 4, 2) := by decide +kernel
theorem dX12_rests_63 : decode cX12_rests 63 = .ok (.iload_n 3, 1) := by decide +kernel
theorem dX12_rests_64 : decode cX12_rests 64 = .ok (.if_icmp .ne 6, 3) := by decide +kernel
theorem dX12_rests_67 : decode cX12_rests 67 = .ok (.iload 5, 2) := by decide +kernel
theorem dX12_rests_69 : decode cX12_rests 69 = .ok (.ireturn, 1) := by decide +kernel
theorem dX12_rests_70 : decode cX12_rests 70 = .ok (.iinc 4 1, 3) := by decide +kernel
theorem dX12_rests_73 : decode cX12_rests 73 = .ok (.iinc 5 1, 3) := by decide +kernel
theorem dX12_rests_76 : decode cX12_rests 76 = .ok (.goto (-37), 3) := by decide +kernel
theorem dX12_rests_79 : decode cX12_rests 79 = .ok (.iload_n 3, 1) := by decide +kernel
theorem dX12_rests_80 : decode cX12_rests 80 = .ok (.iconst (-1), 1) := by decide +kernel
theorem dX12_rests_81 : decode cX12_rests 81 = .ok (.if_icmp .eq 11, 3) := by decide +kernel
theorem dX12_rests_84 : decode cX12_rests 84 = .ok (.new 275, 3) := by decide +kernel
theorem dX12_rests_87 : decode cX12_rests 87 = .ok (.dup, 1) := by decide +kernel
theorem dX12_rests_88 : decode cX12_rests 88 = .ok (.invokespecial 277, 3) := by decide +kernel
theorem dX12_rests_91 : decode cX12_rests 91 = .ok (.athrow, 1) := by decide +kernel
theorem dX12_rests_92 : decode cX12_rests 92 = .ok (.iload 4, 2) := by decide +kernel
theorem dX12_rests_94 : decode cX12_rests 94 = .ok (.ireturn, 1) := by decide +kernel
set_option maxHeartbeats 4000000 in
set_option maxRecDepth 100000 in
theorem B_X12_rests {G : zG} {X : zX} {kd : kD} {N0 : Nat} (C : zCt G X 7 1 6 RX12 cX12_rests 6) (hE2 : zE2 G (zXs X)) (hst : (zXl X).stackTraces = false) (htab : ∀ x ∈ (zXc X).exceptionTable.toList, False) (hr : (zXh X).sig.returnType = (some .int)) : ∀ f : Nat,
    (∀ (S : aS) (v0 : Nat) (v1 : Int32) (v2 : Int32) (v3 : Int32) (res : Option Value × aS), zT0 kd N0 S → v0 < N0 → kd v0 = .inl 10 → F_X12_rests f 0 [.ref v0, .int v1, .int v2, .int v3] S = some res → zV G X (zQY G X kd N0 res) 6 [some (.ref (zB G + v0)), some (.int v1), some (.int v2), some (.int v3), none, none] [] (cn G kd N0 S) 0 0 0) ∧
    (∀ (S : aS)  (res : Option Value × aS), zT0 kd N0 S → F_X12_rests f 1 [] S = some res → zV G X (zQY G X kd N0 res) 6 [none, none, none, none, none, none] [] (cn G kd N0 S) 25 0 0) ∧
    (∀ (S : aS) (v0 : Int32) (v1 : Int32) (v2 : Int32) (v3 : Int32) (v4 : Int32) (res : Option Value × aS), zT0 kd N0 S → F_X12_rests f 2 [.int v0, .int v1, .int v2, .int v3, .int v4] S = some res → zV G X (zQY G X kd N0 res) 6 [none, some (.int v0), some (.int v1), some (.int v2), some (.int v3), some (.int v4)] [] (cn G kd N0 S) 39 0 0) ∧
    (∀ (S : aS)  (res : Option Value × aS), zT0 kd N0 S → F_X12_rests f 3 [] S = some res → zV G X (zQY G X kd N0 res) 6 [none, none, none, none, none, none] [] (cn G kd N0 S) 84 0 0) ∧
    (∀ (S : aS) (v0 : Int32) (v1 : Int32) (v2 : Int32) (v3 : Int32) (v4 : Int32) (res : Option Value × aS), zT0 kd N0 S → F_X12_rests f 4 [.int v0, .int v1, .int v2, .int v3, .int v4] S = some res → zV G X (zQY G X kd N0 res) 6 [none, some (.int v0), some (.int v1), some (.int v2), some (.int v3), some (.int v4)] [] (cn G kd N0 S) 73 0 0) := by
  intro f
  induction f with
  | zero => exact ⟨(fun _ _ _ _ _ _ _ _ _ h => by cases h), (fun _ _ _ h => by cases h), (fun _ _ _ _ _ _ _ _ h => by cases h), (fun _ _ _ h => by cases h), (fun _ _ _ _ _ _ _ _ h => by cases h)⟩
  | succ f ih =>
    obtain ⟨ih0, ih1, ih2, ih3, ih4⟩ := ih
    refine ⟨?_, ?_, ?_, ?_, ?_⟩
    · intro S v0 v1 v2 v3 res hT hpv0 hkv0 hF
      replace hF : F_X12_rests_0 f (F_X12_rests f) v0 v1 v2 v3 S = some res := hF
      unfold F_X12_rests_0 at hF
      refine z_iload_n C dX12_rests_0 rfl ?_
      refine z_iconst (v := 0) C dX12_rests_1 (by decide) ?_
      refine z_bipush (v := 9) C dX12_rests_2 (by decide) ?_
      obtain ⟨x1, S1, h1, hF⟩ := bI_some hF
      refine zx_cS (st2 := [.int x1]) C dX12_rests_4 zyX12_isWithin zsX12_isWithin lkRX12_178 (K_X12_isWithin (l := zXl X) hT    h1) (by decide) rfl rfl (Nat.le_of_ble_eq_true rfl) rfl (fun hT1 => ?_)
      refine z_if_eq C 25 dX12_rests_7 (by decide) (fun c2 => ?_) (fun c2 => ?_)
      · replace hF := ip hF c2
        refine z_mask [false, false, false, false, true, true] ?_ rfl
        exact ih1 S1  res hT1  hF
      · replace hF := im hF c2
        refine z_iload_n C dX12_rests_10 rfl ?_
        refine z_iconst (v := 0) C dX12_rests_11 (by decide) ?_
        refine z_bipush (v := 9) C dX12_rests_12 (by decide) ?_
        obtain ⟨x3, S3, h3, hF⟩ := bI_some hF
        refine zx_cS (st2 := [.int x3]) C dX12_rests_14 zyX12_isWithin zsX12_isWithin lkRX12_178 (K_X12_isWithin (l := zXl X) hT1    h3) (by decide) rfl rfl (Nat.le_of_ble_eq_true rfl) rfl (fun hT3 => ?_)
        refine z_if_eq C 25 dX12_rests_17 (by decide) (fun c4 => ?_) (fun c4 => ?_)
        · replace hF := ip hF c4
          refine z_mask [false, false, false, false, true, true] ?_ rfl
          exact ih1 S3  res hT3  hF
        · replace hF := im hF c4
          refine z_iload_n C dX12_rests_20 rfl ?_
          refine z_iconst (v := (-1)) C dX12_rests_21 (by decide) ?_
          refine z_icmp_ge C 33 dX12_rests_22 (by decide) (fun c5 => ?_) (fun c5 => ?_)
          · replace hF := ip hF c5
            refine z_iconst (v := 0) C dX12_rests_33 (by decide) ?_
            refine z_istore (lv2 := [some (.ref (zB G + v0)), some (.int v1), some (.int v2), some (.int v3), some (.int 0), none]) C dX12_rests_34 (by decide) rfl ?_
            refine z_iconst (v := 0) C dX12_rests_36 (by decide) ?_
            refine z_istore (lv2 := [some (.ref (zB G + v0)), some (.int v1), some (.int v2), some (.int v3), some (.int 0), some (.int 0)]) C dX12_rests_37 (by decide) rfl ?_
            refine z_mask [false, true, true, true, true, true] ?_ rfl
            exact ih2 S3 v1 v2 v3 0 0 res hT3      hF
          · replace hF := im hF c5
            refine z_mask [false, false, false, false, true, true] ?_ rfl
            exact ih1 S3  res hT3  hF
    · intro S  res hT  hF
      replace hF : F_X12_rests_1 f (F_X12_rests f)  S = some res := hF
      unfold F_X12_rests_1 at hF
      cases hF
      exact zx_throw C hE2 hst htab dX12_rests_25 dX12_rests_28 dX12_rests_29 dX12_rests_32 (by decide) (Nat.le_of_ble_eq_true rfl) rfl hT
    · intro S v0 v1 v2 v3 v4 res hT  hF
      replace hF : F_X12_rests_2 f (F_X12_rests f) v0 v1 v2 v3 v4 S = some res := hF
      unfold F_X12_rests_2 at hF
      refine z_iload C dX12_rests_39 rfl ?_
      refine z_iconst (v := 4) C dX12_rests_41 (by decide) ?_
      refine z_icmp_ge C 79 dX12_rests_42 (by decide) (fun c6 => ?_) (fun c6 => ?_)
      · replace hF := ip hF c6
        refine z_iload_n C dX12_rests_79 rfl ?_
        refine z_iconst (v := (-1)) C dX12_rests_80 (by decide) ?_
        refine z_icmp_eq C 92 dX12_rests_81 (by decide) (fun c7 => ?_) (fun c7 => ?_)
        · replace hF := ip hF c7
          refine z_iload C dX12_rests_92 rfl ?_
          cases hF
          exact zx_iret C hr dX12_rests_94 ⟨rfl, rfl, hT⟩
        · replace hF := im hF c7
          refine z_mask [true, false, false, false, false, false] ?_ rfl
          exact ih3 S  res hT  hF
      · replace hF := im hF c6
        refine z_iload_n C dX12_rests_45 rfl ?_
        refine z_iload_n C dX12_rests_46 rfl ?_
        refine z_iload C dX12_rests_47 rfl ?_
        refine z_iconst (v := 2) C dX12_rests_49 (by decide) ?_
        refine z_idiv C dX12_rests_50 (by decide) ?_
        refine z_iload C dX12_rests_51 rfl ?_
        refine z_iconst (v := 2) C dX12_rests_53 (by decide) ?_
        refine z_irem C dX12_rests_54 (by decide) ?_
        obtain ⟨x8, S8, h8, hF⟩ := bI_some hF
        refine zx_cS (st2 := [.int x8]) C dX12_rests_55 zyX12_isAtRest zsX12_isAtRest lkRX12_278 (K_X12_isAtRest (l := zXl X) hT     h8) (by decide) rfl rfl (Nat.le_of_ble_eq_true rfl) rfl (fun hT8 => ?_)
        refine z_if_eq C 73 dX12_rests_58 (by decide) (fun c9 => ?_) (fun c9 => ?_)
        · replace hF := ip hF c9
          exact ih4 S8 v0 v1 v2 v3 v4 res hT8      hF
        · replace hF := im hF c9
          refine z_iload C dX12_rests_61 rfl ?_
          refine z_iload_n C dX12_rests_63 rfl ?_
          refine z_icmp_ne C 70 dX12_rests_64 (by decide) (fun c10 => ?_) (fun c10 => ?_)
          · replace hF := im hF c10
            refine z_iinc (v := v3 + 1) (lv2 := [none, some (.int v0), some (.int v1), some (.int v2), some (.int (v3 + 1)), some (.int v4)]) C dX12_rests_70 rfl (by rw [show Int32.ofInt 1 = (1 : Int32) from by decide]) rfl ?_
            exact ih4 S8 v0 v1 v2 (v3 + 1) v4 res hT8      hF
          · replace hF := ip hF c10
            refine z_iload C dX12_rests_67 rfl ?_
            cases hF
            exact zx_iret C hr dX12_rests_69 ⟨rfl, rfl, hT8⟩
    · intro S  res hT  hF
      replace hF : F_X12_rests_3 f (F_X12_rests f)  S = some res := hF
      unfold F_X12_rests_3 at hF
      cases hF
      exact zx_throw C hE2 hst htab dX12_rests_84 dX12_rests_87 dX12_rests_88 dX12_rests_91 (by decide) (Nat.le_of_ble_eq_true rfl) rfl hT
    · intro S v0 v1 v2 v3 v4 res hT  hF
      replace hF : F_X12_rests_4 f (F_X12_rests f) v0 v1 v2 v3 v4 S = some res := hF
      unfold F_X12_rests_4 at hF
      refine z_iinc (v := v4 + 1) (lv2 := [none, some (.int v0), some (.int v1), some (.int v2), some (.int v3), some (.int (v4 + 1))]) C dX12_rests_73 rfl (by rw [show Int32.ofInt 1 = (1 : Int32) from by decide]) rfl ?_
      refine z_goto C 39 dX12_rests_76 (by decide) ?_
      exact ih2 S v0 v1 v2 v3 (v4 + 1) res hT      hF

theorem zPx.blind {G : zG} {av : List Value} {h0 : zH} : FrameBlind (va_Pc av (fun U => zW G h0 U.heap ∧ zK G U ∧ zE2 G U)) := fun a U g mk q => ⟨q.1, q.2.1, q.2.2.1.same rfl, zE2.same (s := U) rfl q.2.2.2⟩
theorem K_X12_rests {G : zG} {l : Launch} {kd : kD} {N0 f : Nat} {S : aS} {v0 : Nat} {v1 v2 v3 : Int32} {res : Option Value × aS} (hst : l.stackTraces = false) (hT : zT0 kd N0 S) (hpv0 : v0 < N0) (hkv0 : kd v0 = .inl 10) (hF : F_X12_rests f 0 [.ref v0, .int v1, .int v2, .int v3] S = some res) : vx_Met l yX12_rests (.code yX12_rests cX12_rests 6 (some .int) :: ztb) (zR 7 1 6) (va_Pc [.ref (zB G + v0), .int v1, .int v2, .int v3] (fun U => zW G (cn G kd N0 S) U.heap ∧ zK G U ∧ zE2 G U)) (zXQ G kd N0 res) (zXX G kd N0 res) 1 6 (fun q => zB G ≤ q) := by
  refine vx_ofW (cc := cX12_rests) (maxL := 6) (ret := some .int) (by decide) rfl ?_
  intro p e s m args below meth c s₁ B hml ht hv
  obtain ⟨rfl, hW, hK, hE2⟩ := hv
  have hts := atoms_spec (ws := .code yX12_rests cX12_rests 6 (some .int) :: ztb) B.pre
  have hown : s.vm.findClass RX12 = some m.cls := findClass_of_methodNamed B.named
  have hl := lv_entry [Value.ref (zB G + v0), .int v1, .int v2, .int v3] (n := 6) (Nat.le_of_ble_eq_true rfl)
  rw [lg_entry_eq]
  refine (B_X12_rests (X := (p, l, e, zR 7 1 6, s, m, _, below, meth, c)) ⟨B.exec, B.bytes, hml, hown, fun w hw => hts w (List.mem_cons_of_mem _ hw), hK, B.notSynchronized, ⟨Nat.le_trans (Nat.le_add_right _ _) hW.1.1, hW.2.2⟩, ⟨Nat.le_refl _, Nat.le_refl _, Nat.le_refl _, Nat.le_refl _⟩⟩ hE2 hst ht B.returns f).1 S v0 v1 v2 v3 res hT hpv0 hkv0 hF s.heap [] _ hW (fun q hq => by cases hq) ⟨hl.1, hl.2.1, rfl, fun i v hi => hl.2.2 (i, v) ?_⟩
  match i, hi with
  | 0, hi => cases hi; exact List.mem_cons_self
  | 1, hi => cases hi; exact List.mem_cons_of_mem _ List.mem_cons_self
  | 2, hi => cases hi; exact List.mem_cons_of_mem _ (List.mem_cons_of_mem _ List.mem_cons_self)
  | 3, hi => cases hi; exact List.mem_cons_of_mem _ (List.mem_cons_of_mem _ (List.mem_cons_of_mem _ List.mem_cons_self))
  | 4, hi => cases hi
  | 5, hi => cases hi
  | i + 6, hi => cases hi

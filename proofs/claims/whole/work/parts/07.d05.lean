def F_X6_droppedBy_0 (f : Nat) (rc : Nat → List Value → aS → aR) (v0 : Nat) (v1 : Int32) (v2 : Int32) (v3 : Int32) (v4 : Int32) (S : aS) : aR :=
  if (0 : Int32) < v4 then bI (F_X5_isTold f 0 [.ref (gR S v0 12)] S) fun x3 S3 => if x3 = (0 : Int32) then bI (F_X6_droppedByHabit f 0 [.ref v0, .int v1, .int v2, .int v3, .int v4] S3) fun x9 S9 => some (some (.int x9), S9) else bX v1 6 fun q7 => bI (F_X5_valueOf f 0 [.ref (gR S3 v0 12), .int v2, .int v3, .int v4, .int (gI S3 (gR S3 v0 4) q7)] S3) fun x8 S8 => some (some (.int (if (0 : Int32) < (if x8 < v4 then x8 else v4) then (if x8 < v4 then x8 else v4) else (0 : Int32))), S8) else some (some (.int 0), S)
def F_X6_droppedBy : Nat → Nat → List Value → aS → aR
  | 0, _, _, _ => none
  | f + 1, 0, vs, S => F_X6_droppedBy_0 f (F_X6_droppedBy f) (vR vs 0) (vI vs 1) (vI vs 2) (vI vs 3) (vI vs 4) S
  | _ + 1, _, _, _ => none
theorem dX6_droppedBy_0 : decode cX6_droppedBy 0 = .ok (.iload 4, 2) := by decide +kernel
theorem dX6_droppedBy_2 : decode cX6_droppedBy 2 = .ok (.ifCond .gt 5, 3) := by decide +kernel
theorem dX6_droppedBy_5 : decode cX6_droppedBy 5 = .ok (.iconst 0, 1) := by decide +kernel
theorem dX6_droppedBy_6 : decode cX6_droppedBy 6 = .ok (.ireturn, 1) := by decide +kernel
theorem dX6_droppedBy_7 : decode cX6_droppedBy 7 = .ok (.aload_n 0, 1) := by decide +kernel
theorem dX6_droppedBy_8 : decode cX6_droppedBy 8 = .ok (.getfield 44, 3) := by decide +kernel
theorem dX6_droppedBy_11 : decode cX6_droppedBy 11 = .ok (.invokevirtual 219, 3) := by decide +kernel
theorem dX6_droppedBy_14 : decode cX6_droppedBy 14 = .ok (.ifCond .ne 13, 3) := by decide +kernel
theorem dX6_droppedBy_17 : decode cX6_droppedBy 17 = .ok (.aload_n 0, 1) := by decide +kernel
theorem dX6_droppedBy_18 : decode cX6_droppedBy 18 = .ok (.iload_n 1, 1) := by decide +kernel
theorem dX6_droppedBy_19 : decode cX6_droppedBy 19 = .ok (.iload_n 2, 1) := by decide +kernel
theorem dX6_droppedBy_20 : decode cX6_droppedBy 20 = .ok (.iload_n 3, 1) := by decide +kernel
theorem dX6_droppedBy_21 : decode cX6_droppedBy 21 = .ok (.iload 4, 2) := by decide +kernel
theorem dX6_droppedBy_23 : decode cX6_droppedBy 23 = .ok (.invokevirtual 244, 3) := by decide +kernel
theorem dX6_droppedBy_26 : decode cX6_droppedBy 26 = .ok (.ireturn, 1) := by decide +kernel
theorem dX6_droppedBy_27 : decode cX6_droppedBy 27 = .ok (.aload_n 0, 1) := by decide +kernel
theorem dX6_droppedBy_28 : decode cX6_droppedBy 28 = .ok (.getfield 44, 3) := by decide +kernel
theorem dX6_droppedBy_31 : decode cX6_droppedBy 31 = .ok (.iload_n 2, 1) := by decide +kernel
theorem dX6_droppedBy_32 : decode cX6_droppedBy 32 = .ok (.iload_n 3, 1) := by decide +kernel
theorem dX6_droppedBy_33 : decode cX6_droppedBy 33 = .ok (.iload 4, 2) := by decide +kernel
theorem dX6_droppedBy_35 : decode cX6_droppedBy 35 = .ok (.aload_n 0, 1) := by decide +kernel
theorem dX6_droppedBy_36 : decode cX6_droppedBy 36 = .ok (.getfield 23, 3) := by decide +kernel
theorem dX6_droppedBy_39 : decode cX6_droppedBy 39 = .ok (.iload_n 1, 1) := by decide +kernel
theorem dX6_droppedBy_40 : decode cX6_droppedBy 40 = .ok (.iaload, 1) := by decide +kernel
theorem dX6_droppedBy_41 : decode cX6_droppedBy 41 = .ok (.invokevirtual 231, 3) := by decide +kernel
theorem dX6_droppedBy_44 : decode cX6_droppedBy 44 = .ok (.istore 5, 2) := by decide +kernel
theorem dX6_droppedBy_46 : decode cX6_droppedBy 46 = .ok (.iconst 0, 1) := by decide +kernel
theorem dX6_droppedBy_47 : decode cX6_droppedBy 47 = .ok (.iload 4, 2) := by decide +kernel
theorem dX6_droppedBy_49 : decode cX6_droppedBy 49 = .ok (.iload 5, 2) := by decide +kernel
theorem dX6_droppedBy_51 : decode cX6_droppedBy 51 = .ok (.invokestatic 235, 3) := by decide +kernel
theorem dX6_droppedBy_54 : decode cX6_droppedBy 54 = .ok (.invokestatic 241, 3) := by decide +kernel
theorem dX6_droppedBy_57 : decode cX6_droppedBy 57 = .ok (.ireturn, 1) := by decide +kernel
set_option maxHeartbeats 4000000 in
set_option maxRecDepth 100000 in
theorem B_X6_droppedBy {G : zG} {X : zX} {kd : kD} {N0 : Nat} (C : zCt G X 2 0 0 RX6 cX6_droppedBy 6) (hr : (zXh X).sig.returnType = (some .int)) : ∀ f : Nat,
    (∀ (S : aS) (v0 : Nat) (v1 : Int32) (v2 : Int32) (v3 : Int32) (v4 : Int32) (res : Option Value × aS), zT0 kd N0 S → v0 < N0 → kd v0 = .inl 5 → F_X6_droppedBy f 0 [.ref v0, .int v1, .int v2, .int v3, .int v4] S = some res → zV G X (zQX G X (zPo G kd N0 res) 0 0) 6 [some (.ref (zB G + v0)), some (.int v1), some (.int v2), some (.int v3), some (.int v4), none] [] (cn G kd N0 S) 0 0 0) := by
  intro f
  induction f with
  | zero => exact (fun _ _ _ _ _ _ _ _ _ _ h => by cases h)
  | succ f ih =>
    have ih0 := ih
    intro S v0 v1 v2 v3 v4 res hT hpv0 hkv0 hF
    replace hF : F_X6_droppedBy_0 f (F_X6_droppedBy f) v0 v1 v2 v3 v4 S = some res := hF
    unfold F_X6_droppedBy_0 at hF
    refine z_iload C dX6_droppedBy_0 rfl ?_
    refine z_if_gt C 7 dX6_droppedBy_2 (by decide) (fun c1 => ?_) (fun c1 => ?_)
    · replace hF := ip hF c1
      refine z_aload_n C dX6_droppedBy_7 rfl ?_
      refine f_getr C dX6_droppedBy_8 zfRX6_44 hpv0 hkv0 rfl ?_
      obtain ⟨hp2, hk2⟩ := hT.1 v0 5 12 (.inl 4) hpv0 hkv0 rfl
      obtain ⟨x3, S3, h3, hF⟩ := bI_some hF
      refine f_cV (st2 := [.int x3]) C dX6_droppedBy_11 zyX5_isTold zvX5_isTold lkRX6_219 (K_X5_isTold (l := zXl X) hT hp2 hk2 h3) hp2 hk2 rfl (by decide) rfl rfl (Nat.le_of_ble_eq_true rfl) rfl (fun hT3 => ?_)
      refine z_if_ne C 27 dX6_droppedBy_14 (by decide) (fun c4 => ?_) (fun c4 => ?_)
      · replace hF := im hF c4
        refine z_aload_n C dX6_droppedBy_27 rfl ?_
        refine f_getr C dX6_droppedBy_28 zfRX6_44 hpv0 hkv0 rfl ?_
        obtain ⟨hp5, hk5⟩ := hT3.1 v0 5 12 (.inl 4) hpv0 hkv0 rfl
        refine z_iload_n C dX6_droppedBy_31 rfl ?_
        refine z_iload_n C dX6_droppedBy_32 rfl ?_
        refine z_iload C dX6_droppedBy_33 rfl ?_
        refine z_aload_n C dX6_droppedBy_35 rfl ?_
        refine f_getr C dX6_droppedBy_36 zfRX6_23 hpv0 hkv0 rfl ?_
        obtain ⟨hp6, hk6⟩ := hT3.1 v0 5 4 (.inr (0, 6)) hpv0 hkv0 rfl
        refine z_iload_n C dX6_droppedBy_39 rfl ?_
        obtain ⟨hi7, hF⟩ := bX_some hF
        obtain ⟨q7, eq7⟩ : ∃ q : Nat, q = Int32.toNatClampNeg v1 := ⟨_, rfl⟩
        rw [← eq7] at hF
        refine f_iald C dX6_droppedBy_40 hp6 hk6 hi7 ?_
        rw [← eq7]
        obtain ⟨x8, S8, h8, hF⟩ := bI_some hF
        refine f_cV (st2 := [.int x8]) C dX6_droppedBy_41 zyX5_valueOf zvX5_valueOf lkRX6_231 (K_X5_valueOf (l := zXl X) hT3 hp5 hk5     h8) hp5 hk5 rfl (by decide) rfl rfl (Nat.le_of_ble_eq_true rfl) rfl (fun hT8 => ?_)
        refine z_istore (lv2 := [some (.ref (zB G + v0)), some (.int v1), some (.int v2), some (.int v3), some (.int v4), some (.int x8)]) C dX6_droppedBy_44 (by decide) rfl ?_
        refine z_iconst (v := 0) C dX6_droppedBy_46 (by decide) ?_
        refine z_iload C dX6_droppedBy_47 rfl ?_
        refine z_iload C dX6_droppedBy_49 rfl ?_
        refine f_mmin C dX6_droppedBy_51 lkRX6_235 (by decide) (Nat.le_of_ble_eq_true rfl) ?_
        refine f_mmax C dX6_droppedBy_54 lkRX6_241 (by decide) (Nat.le_of_ble_eq_true rfl) ?_
        cases hF
        exact z_iret C hr dX6_droppedBy_57 ⟨rfl, rfl, hT8⟩
      · replace hF := ip hF c4
        refine z_aload_n C dX6_droppedBy_17 rfl ?_
        refine z_iload_n C dX6_droppedBy_18 rfl ?_
        refine z_iload_n C dX6_droppedBy_19 rfl ?_
        refine z_iload_n C dX6_droppedBy_20 rfl ?_
        refine z_iload C dX6_droppedBy_21 rfl ?_
        obtain ⟨x9, S9, h9, hF⟩ := bI_some hF
        refine f_cV (st2 := [.int x9]) C dX6_droppedBy_23 zyX6_droppedByHabit zvX6_droppedByHabit lkRX6_244 (K_X6_droppedByHabit (l := zXl X) hT3 hpv0 hkv0     h9) hpv0 hkv0 rfl (by decide) rfl rfl (Nat.le_of_ble_eq_true rfl) rfl (fun hT9 => ?_)
        cases hF
        exact z_iret C hr dX6_droppedBy_26 ⟨rfl, rfl, hT9⟩
    · replace hF := im hF c1
      refine z_iconst (v := 0) C dX6_droppedBy_5 (by decide) ?_
      cases hF
      exact z_iret C hr dX6_droppedBy_6 ⟨rfl, rfl, hT⟩
theorem K_X6_droppedBy {G : zG} {l : Launch} {kd : kD} {N0 f : Nat} {S : aS} {v0 : Nat} {v1 : Int32} {v2 : Int32} {v3 : Int32} {v4 : Int32} {res : Option Value × aS} (hT : zT0 kd N0 S) (hpv0 : v0 < N0) (hkv0 : kd v0 = .inl 5) (hF : F_X6_droppedBy f 0 [.ref v0, .int v1, .int v2, .int v3, .int v4] S = some res) : zM G l 2 0 0 yX6_droppedBy cX6_droppedBy 6 (some .int) [.ref (zB G + v0), .int v1, .int v2, .int v3, .int v4] (cn G kd N0 S) (zPo G kd N0 res) := zM.of (by decide) rfl (Nat.le_of_ble_eq_true rfl) (fun X _ C hr _ => (B_X6_droppedBy C hr f) S v0 v1 v2 v3 v4 res hT hpv0 hkv0 hF)
def F_X7_offerSet_0 (f : Nat) (rc : Nat → List Value → aS → aR) (v0 : Nat) (v1 : Int32) (v2 : Int32) (S : aS) : aR :=
  bI (F_J6_bitCount_0f7a4 f 0 [.int v2] S) fun x1 S1 => bI (F_J6_bitCount_0f7a4 f 0 [.int (gI S1 v0 8)] S1) fun x2 S2 => lI (if x1 < x2 then (1 : Int32) else if x1 = x2 then if (gI S2 v0 8) ≤ v2 then (0 : Int32) else (1 : Int32) else (0 : Int32)) fun y7 => if v1 < (gI S2 v0 7) then rc 1 [.ref v0, .int v1, .int v2] S2 else if v1 = (gI S2 v0 7) then if y7 = (0 : Int32) then rc 2 [] S2 else rc 1 [.ref v0, .int v1, .int v2] S2 else rc 2 [] S2
def F_X7_offerSet_1 (f : Nat) (rc : Nat → List Value → aS → aR) (v0 : Nat) (v1 : Int32) (v2 : Int32) (S : aS) : aR :=
  fS (sI S v0 7 v1) fun S15 => fS (sI S15 v0 8 v2) fun S16 => rc 2 [] S16
def F_X7_offerSet_2 (f : Nat) (rc : Nat → List Value → aS → aR)  (S : aS) : aR :=
  some (none, S)
def F_X7_offerSet : Nat → Nat → List Value → aS → aR
  | 0, _, _, _ => none
  | f + 1, 0, vs, S => F_X7_offerSet_0 f (F_X7_offerSet f) (vR vs 0) (vI vs 1) (vI vs 2) S
  | f + 1, 1, vs, S => F_X7_offerSet_1 f (F_X7_offerSet f) (vR vs 0) (vI vs 1) (vI vs 2) S
  | f + 1, 2, vs, S => F_X7_offerSet_2 f (F_X7_offerSet f)  S
  | _ + 1, _, _, _ => none
theorem dX7_offerSet_0 : decode cX7_offerSet 0 = .ok (.iload_n 2, 1) := by decide +kernel
theorem dX7_offerSet_1 : decode cX7_offerSet 1 = .ok (.invokestatic 53, 3) := by decide +kernel
theorem dX7_offerSet_4 : decode cX7_offerSet 4 = .ok (.istore_n 3, 1) := by decide +kernel
theorem dX7_offerSet_5 : decode cX7_offerSet 5 = .ok (.aload_n 0, 1) := by decide +kernel
theorem dX7_offerSet_6 : decode cX7_offerSet 6 = .ok (.getfield 46, 3) := by decide +kernel
theorem dX7_offerSet_9 : decode cX7_offerSet 9 = .ok (.invokestatic 53, 3) := by decide +kernel
theorem dX7_offerSet_12 : decode cX7_offerSet 12 = .ok (.istore 4, 2) := by decide +kernel
theorem dX7_offerSet_14 : decode cX7_offerSet 14 = .ok (.iload_n 3, 1) := by decide +kernel
theorem dX7_offerSet_15 : decode cX7_offerSet 15 = .ok (.iload 4, 2) := by decide +kernel
theorem dX7_offerSet_17 : decode cX7_offerSet 17 = .ok (.if_icmp .lt 17, 3) := by decide +kernel
theorem dX7_offerSet_20 : decode cX7_offerSet 20 = .ok (.iload_n 3, 1) := by decide +kernel
theorem dX7_offerSet_21 : decode cX7_offerSet 21 = .ok (.iload 4, 2) := by decide +kernel
theorem dX7_offerSet_23 : decode cX7_offerSet 23 = .ok (.if_icmp .ne 15, 3) := by decide +kernel
theorem dX7_offerSet_26 : decode cX7_offerSet 26 = .ok (.iload_n 2, 1) := by decide +kernel
theorem dX7_offerSet_27 : decode cX7_offerSet 27 = .ok (.aload_n 0, 1) := by decide +kernel
theorem dX7_offerSet_28 : decode cX7_offerSet 28 = .ok (.getfield 46, 3) := by decide +kernel
theorem dX7_offerSet_31 : decode cX7_offerSet 31 = .ok (.if_icmp .ge 7, 3) := by decide +kernel
theorem dX7_offerSet_34 : decode cX7_offerSet 34 = .ok (.iconst 1, 1) := by decide +kernel
theorem dX7_offerSet_35 : decode cX7_offerSet 35 = .ok (.goto 4, 3) := by decide +kernel
theorem dX7_offerSet_38 : decode cX7_offerSet 38 = .ok (.iconst 0, 1) := by decide +kernel
theorem dX7_offerSet_39 : decode cX7_offerSet 39 = .ok (.istore 5, 2) := by decide +kernel
theorem dX7_offerSet_41 : decode cX7_offerSet 41 = .ok (.iload_n 1, 1) := by decide +kernel
theorem dX7_offerSet_42 : decode cX7_offerSet 42 = .ok (.aload_n 0, 1) := by decide +kernel
theorem dX7_offerSet_43 : decode cX7_offerSet 43 = .ok (.getfield 42, 3) := by decide +kernel
theorem dX7_offerSet_46 : decode cX7_offerSet 46 = .ok (.if_icmp .lt 16, 3) := by decide +kernel
theorem dX7_offerSet_49 : decode cX7_offerSet 49 = .ok (.iload_n 1, 1) := by decide +kernel
theorem dX7_offerSet_50 : decode cX7_offerSet 50 = .ok (.aload_n 0, 1) := by decide +kernel
theorem dX7_offerSet_51 : decode cX7_offerSet 51 = .ok (.getfield 42, 3) := by decide +kernel
theorem dX7_offerSet_54 : decode cX7_offerSet 54 = .ok (.if_icmp .ne 18, 3) := by decide +kernel
theorem dX7_offerSet_57 : decode cX7_offerSet 57 = .ok (.iload 5, 2) := by decide +kernel
theorem dX7_offerSet_59 : decode cX7_offerSet 59 = .ok (.ifCond .eq 13, 3) := by decide +kernel
theorem dX7_offerSet_62 : decode cX7_offerSet 62 = .ok (.aload_n 0, 1) := by decide +kernel
theorem dX7_offerSet_63 : decode cX7_offerSet 63 = .ok (.iload_n 1, 1) := by decide +kernel
theorem dX7_offerSet_64 : decode cX7_offerSet 64 = .ok (.putfield 42, 3) := by decide +kernel
theorem dX7_offerSet_67 : decode cX7_offerSet 67 = .ok (.aload_n 0, 1) := by decide +kernel
theorem dX7_offerSet_68 : decode cX7_offerSet 68 = .ok (.iload_n 2, 1) := by decide +kernel
theorem dX7_offerSet_69 : decode cX7_offerSet 69 = .ok (.putfield 46, 3) := by decide +kernel
theorem dX7_offerSet_72 : decode cX7_offerSet 72 = .ok (.return_, 1) := by decide +kernel
set_option maxHeartbeats 4000000 in
set_option maxRecDepth 100000 in
theorem B_X7_offerSet {G : zG} {X : zX} {kd : kD} {N0 : Nat} (C : zCt G X 1 0 0 RX7 cX7_offerSet 6) (hr : (zXh X).sig.returnType = none) : ∀ f : Nat,
    (∀ (S : aS) (v0 : Nat) (v1 : Int32) (v2 : Int32) (res : Option Value × aS), zT0 kd N0 S → v0 < N0 → kd v0 = .inl 6 → F_X7_offerSet f 0 [.ref v0, .int v1, .int v2] S = some res → zV G X (zQX G X (zPo G kd N0 res) 0 0) 6 [some (.ref (zB G + v0)), some (.int v1), some (.int v2), none, none, none] [] (cn G kd N0 S) 0 0 0) ∧
    (∀ (S : aS) (v0 : Nat) (v1 : Int32) (v2 : Int32) (res : Option Value × aS), zT0 kd N0 S → v0 < N0 → kd v0 = .inl 6 → F_X7_offerSet f 1 [.ref v0, .int v1, .int v2] S = some res → zV G X (zQX G X (zPo G kd N0 res) 0 0) 6 [some (.ref (zB G + v0)), some (.int v1), some (.int v2), none, none, none] [] (cn G kd N0 S) 62 0 0) ∧
    (∀ (S : aS)  (res : Option Value × aS), zT0 kd N0 S → F_X7_offerSet f 2 [] S = some res → zV G X (zQX G X (zPo G kd N0 res) 0 0) 6 [none, none, none, none, none, none] [] (cn G kd N0 S) 72 0 0) := by
  intro f
  induction f with
  | zero => exact ⟨(fun _ _ _ _ _ _ _ _ h => by cases h), (fun _ _ _ _ _ _ _ _ h => by cases h), (fun _ _ _ h => by cases h)⟩
  | succ f ih =>
    obtain ⟨ih0, ih1, ih2⟩ := ih
    refine ⟨?_, ?_, ?_⟩
    · intro S v0 v1 v2 res hT hpv0 hkv0 hF
      replace hF : F_X7_offerSet_0 f (F_X7_offerSet f) v0 v1 v2 S = some res := hF
      unfold F_X7_offerSet_0 at hF
      refine z_iload_n C dX7_offerSet_0 rfl ?_
      obtain ⟨x1, S1, h1, hF⟩ := bI_some hF
      refine f_cS (st2 := [.int x1]) C dX7_offerSet_1 zyJ6_bitCount_0f7a4 zsJ6_bitCount_0f7a4 lkRX7_53 (K_J6_bitCount_0f7a4 (l := zXl X) hT  h1) (by decide) rfl rfl (Nat.le_of_ble_eq_true rfl) rfl (fun hT1 => ?_)
      refine z_istore_n (lv2 := [some (.ref (zB G + v0)), some (.int v1), some (.int v2), some (.int x1), none, none]) C dX7_offerSet_4 (by decide) rfl ?_
      refine z_aload_n C dX7_offerSet_5 rfl ?_
      refine f_geti C dX7_offerSet_6 zfRX7_46 hpv0 hkv0 rfl ?_
      obtain ⟨x2, S2, h2, hF⟩ := bI_some hF
      refine f_cS (st2 := [.int x2]) C dX7_offerSet_9 zyJ6_bitCount_0f7a4 zsJ6_bitCount_0f7a4 lkRX7_53 (K_J6_bitCount_0f7a4 (l := zXl X) hT1  h2) (by decide) rfl rfl (Nat.le_of_ble_eq_true rfl) rfl (fun hT2 => ?_)
      refine z_istore (lv2 := [some (.ref (zB G + v0)), some (.int v1), some (.int v2), some (.int x1), some (.int x2), none]) C dX7_offerSet_12 (by decide) rfl ?_
      refine z_iload_n C dX7_offerSet_14 rfl ?_
      refine z_iload C dX7_offerSet_15 rfl ?_
      have hJ6 : zV G X (zQX G X (zPo G kd N0 res) 0 0) 6 [some (.ref (zB G + v0)), some (.int v1), some (.int v2), some (.int x1), some (.int x2), none] [.int (if x1 < x2 then (1 : Int32) else if x1 = x2 then if (gI S2 v0 8) ≤ v2 then (0 : Int32) else (1 : Int32) else (0 : Int32))] (cn G kd N0 S2) 39 0 0 := by
        replace hF := lI_e hF
        generalize (if x1 < x2 then (1 : Int32) else if x1 = x2 then if (gI S2 v0 8) ≤ v2 then (0 : Int32) else (1 : Int32) else (0 : Int32)) = y7 at hF ⊢
        refine z_istore (lv2 := [some (.ref (zB G + v0)), some (.int v1), some (.int v2), some (.int x1), some (.int x2), some (.int y7)]) C dX7_offerSet_39 (by decide) rfl ?_
        refine z_iload_n C dX7_offerSet_41 rfl ?_
        refine z_aload_n C dX7_offerSet_42 rfl ?_
        refine f_geti C dX7_offerSet_43 zfRX7_42 hpv0 hkv0 rfl ?_
        refine z_icmp_lt C 62 dX7_offerSet_46 (by decide) (fun c9 => ?_) (fun c9 => ?_)
        · replace hF := ip hF c9
          refine z_mask [true, true, true, false, false, false] ?_ rfl
          exact ih1 S2 v0 v1 v2 res hT2 hpv0 hkv0   hF
        · replace hF := im hF c9
          refine z_iload_n C dX7_offerSet_49 rfl ?_
          refine z_aload_n C dX7_offerSet_50 rfl ?_
          refine f_geti C dX7_offerSet_51 zfRX7_42 hpv0 hkv0 rfl ?_
          refine z_icmp_ne C 72 dX7_offerSet_54 (by decide) (fun c12 => ?_) (fun c12 => ?_)
          · replace hF := im hF c12
            refine z_mask [false, false, false, false, false, false] ?_ rfl
            exact ih2 S2  res hT2  hF
          · replace hF := ip hF c12
            refine z_iload C dX7_offerSet_57 rfl ?_
            refine z_if_eq C 72 dX7_offerSet_59 (by decide) (fun c14 => ?_) (fun c14 => ?_)
            · replace hF := ip hF c14
              refine z_mask [false, false, false, false, false, false] ?_ rfl
              exact ih2 S2  res hT2  hF
            · replace hF := im hF c14
              refine z_mask [true, true, true, false, false, false] ?_ rfl
              exact ih1 S2 v0 v1 v2 res hT2 hpv0 hkv0   hF
      refine z_icmp_lt C 34 dX7_offerSet_17 (by decide) (fun c3 => ?_) (fun c3 => ?_)
      · refine z_iconst (v := 1) C dX7_offerSet_34 (by decide) ?_
        refine z_goto C 39 dX7_offerSet_35 (by decide) ?_
        exact zV.at hJ6 (by first | rfl | contradiction | (simp only [if_pos c3]; done)) (by first | rfl | contradiction | (simp only [if_pos c3]; done)) rfl rfl
      · refine z_iload_n C dX7_offerSet_20 rfl ?_
        refine z_iload C dX7_offerSet_21 rfl ?_
        refine z_icmp_ne C 38 dX7_offerSet_23 (by decide) (fun c4 => ?_) (fun c4 => ?_)
        · refine z_iconst (v := 0) C dX7_offerSet_38 (by decide) ?_
          exact zV.at hJ6 (by first | rfl | contradiction | (simp only [if_neg c3, if_neg c4]; done)) (by first | rfl | contradiction | (simp only [if_neg c3, if_neg c4]; done)) rfl rfl
        · refine z_iload_n C dX7_offerSet_26 rfl ?_
          refine z_aload_n C dX7_offerSet_27 rfl ?_
          refine f_geti C dX7_offerSet_28 zfRX7_46 hpv0 hkv0 rfl ?_
          refine z_icmp_ge C 38 dX7_offerSet_31 (by decide) (fun c5 => ?_) (fun c5 => ?_)
          · refine z_iconst (v := 0) C dX7_offerSet_38 (by decide) ?_
            exact zV.at hJ6 (by first | rfl | contradiction | (simp only [if_neg c3, if_pos c4, if_pos c5]; done)) (by first | rfl | contradiction | (simp only [if_neg c3, if_pos c4, if_pos c5]; done)) rfl rfl
          · refine z_iconst (v := 1) C dX7_offerSet_34 (by decide) ?_
            refine z_goto C 39 dX7_offerSet_35 (by decide) ?_
            exact zV.at hJ6 (by first | rfl | contradiction | (simp only [if_neg c3, if_pos c4, if_neg c5]; done)) (by first | rfl | contradiction | (simp only [if_neg c3, if_pos c4, if_neg c5]; done)) rfl rfl
    · intro S v0 v1 v2 res hT hpv0 hkv0 hF
      replace hF : F_X7_offerSet_1 f (F_X7_offerSet f) v0 v1 v2 S = some res := hF
      unfold F_X7_offerSet_1 at hF
      refine z_aload_n C dX7_offerSet_62 rfl ?_
      refine z_iload_n C dX7_offerSet_63 rfl ?_
      refine f_puti C dX7_offerSet_64 zfRX7_42 fw6_7 hpv0 hkv0 rfl rfl rfl ?_
      have hT15 : zT0 kd N0 (sI S v0 7 v1) := zT0_sI hT
      replace hF := fS_e hF
      generalize sI S v0 7 v1 = S15 at hF hT15 ⊢
      refine z_aload_n C dX7_offerSet_67 rfl ?_
      refine z_iload_n C dX7_offerSet_68 rfl ?_
      refine f_puti C dX7_offerSet_69 zfRX7_46 fw6_8 hpv0 hkv0 rfl rfl rfl ?_
      have hT16 : zT0 kd N0 (sI S15 v0 8 v2) := zT0_sI hT15
      replace hF := fS_e hF
      generalize sI S15 v0 8 v2 = S16 at hF hT16 ⊢
      refine z_mask [false, false, false, true, true, true] ?_ rfl
      exact ih2 S16  res hT16  hF
    · intro S  res hT  hF
      replace hF : F_X7_offerSet_2 f (F_X7_offerSet f)  S = some res := hF
      unfold F_X7_offerSet_2 at hF
      cases hF
      exact z_vret C hr dX7_offerSet_72 ⟨rfl, rfl, hT⟩
theorem K_X7_offerSet {G : zG} {l : Launch} {kd : kD} {N0 f : Nat} {S : aS} {v0 : Nat} {v1 : Int32} {v2 : Int32} {res : Option Value × aS} (hT : zT0 kd N0 S) (hpv0 : v0 < N0) (hkv0 : kd v0 = .inl 6) (hF : F_X7_offerSet f 0 [.ref v0, .int v1, .int v2] S = some res) : zM G l 1 0 0 yX7_offerSet cX7_offerSet 6 none [.ref (zB G + v0), .int v1, .int v2] (cn G kd N0 S) (zPo G kd N0 res) := zM.of (by decide) rfl (Nat.le_of_ble_eq_true rfl) (fun X _ C hr _ => (B_X7_offerSet C hr f).1 S v0 v1 v2 res hT hpv0 hkv0 hF)
def F_X7_yardThatParts_0 (f : Nat) (rc : Nat → List Value → aS → aR) (v0 : Nat) (v1 : Int32) (S : aS) : aR :=
  bI (F_J6_bitCount_0f7a4 f 0 [.int v1] S) fun x1 S1 => rc 1 [.ref v0, .int v1, .int ((-1)), .int x1, .int 0] S1
def F_X7_yardThatParts_1 (f : Nat) (rc : Nat → List Value → aS → aR) (v0 : Nat) (v1 : Int32) (v2 : Int32) (v3 : Int32) (v4 : Int32) (S : aS) : aR :=
  if (gI S (gR S v0 0) 0) ≤ v4 then some (some (.int v2), S) else bI (F_X7_mostAlike f 0 [.ref v0, .int v4, .int v1] S) fun x5 S5 => rc 1 [.ref v0, .int v1, .int (if v3 ≤ x5 then v2 else v4), .int (if v3 ≤ x5 then v3 else x5), .int (v4 + 1)] S5
def F_X7_yardThatParts : Nat → Nat → List Value → aS → aR
  | 0, _, _, _ => none
  | f + 1, 0, vs, S => F_X7_yardThatParts_0 f (F_X7_yardThatParts f) (vR vs 0) (vI vs 1) S
  | f + 1, 1, vs, S => F_X7_yardThatParts_1 f (F_X7_yardThatParts f) (vR vs 0) (vI vs 1) (vI vs 2) (vI vs 3) (vI vs 4) S
  | _ + 1, _, _, _ => none
theorem dX7_yardThatParts_0 : decode cX7_yardThatParts 0 = .ok (.iconst (-1), 1) := by decide +kernel
theorem dX7_yardThatParts_1 : decode cX7_yardThatParts 1 = .ok (.istore_n 2, 1) := by decide +kernel
theorem dX7_yardThatParts_2 : decode cX7_yardThatParts 2 = .ok (.iload_n 1, 1) := by decide +kernel
theorem dX7_yardThatParts_3 : decode cX7_yardThatParts 3 = .ok (.invokestatic 53, 3) := by decide +kernel
theorem dX7_yardThatParts_6 : decode cX7_yardThatParts 6 = .ok (.istore_n 3, 1) := by decide +kernel
theorem dX7_yardThatParts_7 : decode cX7_yardThatParts 7 = .ok (.iconst 0, 1) := by decide +kernel
theorem dX7_yardThatParts_8 : decode cX7_yardThatParts 8 = .ok (.istore 4, 2) := by decide +kernel
theorem dX7_yardThatParts_10 : decode cX7_yardThatParts 10 = .ok (.iload 4, 2) := by decide +kernel
theorem dX7_yardThatParts_12 : decode cX7_yardThatParts 12 = .ok (.aload_n 0, 1) := by decide +kernel
theorem dX7_yardThatParts_13 : decode cX7_yardThatParts 13 = .ok (.getfield 29, 3) := by decide +kernel
theorem dX7_yardThatParts_16 : decode cX7_yardThatParts 16 = .ok (.getfield 63, 3) := by decide +kernel
theorem dX7_yardThatParts_19 : decode cX7_yardThatParts 19 = .ok (.if_icmp .ge 30, 3) := by decide +kernel
theorem dX7_yardThatParts_22 : decode cX7_yardThatParts 22 = .ok (.aload_n 0, 1) := by decide +kernel
theorem dX7_yardThatParts_23 : decode cX7_yardThatParts 23 = .ok (.iload 4, 2) := by decide +kernel
theorem dX7_yardThatParts_25 : decode cX7_yardThatParts 25 = .ok (.iload_n 1, 1) := by decide +kernel
theorem dX7_yardThatParts_26 : decode cX7_yardThatParts 26 = .ok (.invokevirtual 159, 3) := by decide +kernel
theorem dX7_yardThatParts_29 : decode cX7_yardThatParts 29 = .ok (.istore 5, 2) := by decide +kernel
theorem dX7_yardThatParts_31 : decode cX7_yardThatParts 31 = .ok (.iload 5, 2) := by decide +kernel
theorem dX7_yardThatParts_33 : decode cX7_yardThatParts 33 = .ok (.iload_n 3, 1) := by decide +kernel
theorem dX7_yardThatParts_34 : decode cX7_yardThatParts 34 = .ok (.if_icmp .ge 9, 3) := by decide +kernel
theorem dX7_yardThatParts_37 : decode cX7_yardThatParts 37 = .ok (.iload 5, 2) := by decide +kernel
theorem dX7_yardThatParts_39 : decode cX7_yardThatParts 39 = .ok (.istore_n 3, 1) := by decide +kernel
theorem dX7_yardThatParts_40 : decode cX7_yardThatParts 40 = .ok (.iload 4, 2) := by decide +kernel
theorem dX7_yardThatParts_42 : decode cX7_yardThatParts 42 = .ok (.istore_n 2, 1) := by decide +kernel
theorem dX7_yardThatParts_43 : decode cX7_yardThatParts 43 = .ok (.iinc 4 1, 3) := by decide +kernel
theorem dX7_yardThatParts_46 : decode cX7_yardThatParts 46 = .ok (.goto (-36), 3) := by decide +kernel
theorem dX7_yardThatParts_49 : decode cX7_yardThatParts 49 = .ok (.iload_n 2, 1) := by decide +kernel
theorem dX7_yardThatParts_50 : decode cX7_yardThatParts 50 = .ok (.ireturn, 1) := by decide +kernel
set_option maxHeartbeats 4000000 in
set_option maxRecDepth 100000 in
theorem B_X7_yardThatParts {G : zG} {X : zX} {kd : kD} {N0 : Nat} (C : zCt G X 2 0 0 RX7 cX7_yardThatParts 6) (hr : (zXh X).sig.returnType = (some .int)) : ∀ f : Nat,
    (∀ (S : aS) (v0 : Nat) (v1 : Int32) (res : Option Value × aS), zT0 kd N0 S → v0 < N0 → kd v0 = .inl 6 → F_X7_yardThatParts f 0 [.ref v0, .int v1] S = some res → zV G X (zQX G X (zPo G kd N0 res) 0 0) 6 [some (.ref (zB G + v0)), some (.int v1), none, none, none, none] [] (cn G kd N0 S) 0 0 0) ∧
    (∀ (S : aS) (v0 : Nat) (v1 : Int32) (v2 : Int32) (v3 : Int32) (v4 : Int32) (res : Option Value × aS), zT0 kd N0 S → v0 < N0 → kd v0 = .inl 6 → F_X7_yardThatParts f 1 [.ref v0, .int v1, .int v2, .int v3, .int v4] S = some res → zV G X (zQX G X (zPo G kd N0 res) 0 0) 6 [some (.ref (zB G + v0)), some (.int v1), some (.int v2), some (.int v3), some (.int v4), none] [] (cn G kd N0 S) 10 0 0) := by
  intro f
  induction f with
  | zero => exact ⟨(fun _ _ _ _ _ _ _ h => by cases h), (fun _ _ _ _ _ _ _ _ _ _ h => by cases h)⟩
  | succ f ih =>
    obtain ⟨ih0, ih1⟩ := ih
    refine ⟨?_, ?_⟩
    · intro S v0 v1 res hT hpv0 hkv0 hF
      replace hF : F_X7_yardThatParts_0 f (F_X7_yardThatParts f) v0 v1 S = some res := hF
      unfold F_X7_yardThatParts_0 at hF
      refine z_iconst (v := (-1)) C dX7_yardThatParts_0 (by decide) ?_
      refine z_istore_n (lv2 := [some (.ref (zB G + v0)), some (.int v1), some (.int ((-1))), none, none, none]) C dX7_yardThatParts_1 (by decide) rfl ?_
      refine z_iload_n C dX7_yardThatParts_2 rfl ?_
      obtain ⟨x1, S1, h1, hF⟩ := bI_some hF
      refine f_cS (st2 := [.int x1]) C dX7_yardThatParts_3 zyJ6_bitCount_0f7a4 zsJ6_bitCount_0f7a4 lkRX7_53 (K_J6_bitCount_0f7a4 (l := zXl X) hT  h1) (by decide) rfl rfl (Nat.le_of_ble_eq_true rfl) rfl (fun hT1 => ?_)
      refine z_istore_n (lv2 := [some (.ref (zB G + v0)), some (.int v1), some (.int ((-1))), some (.int x1), none, none]) C dX7_yardThatParts_6 (by decide) rfl ?_
      refine z_iconst (v := 0) C dX7_yardThatParts_7 (by decide) ?_
      refine z_istore (lv2 := [some (.ref (zB G + v0)), some (.int v1), some (.int ((-1))), some (.int x1), some (.int 0), none]) C dX7_yardThatParts_8 (by decide) rfl ?_
      exact ih1 S1 v0 v1 ((-1)) x1 0 res hT1 hpv0 hkv0     hF
    · intro S v0 v1 v2 v3 v4 res hT hpv0 hkv0 hF
      replace hF : F_X7_yardThatParts_1 f (F_X7_yardThatParts f) v0 v1 v2 v3 v4 S = some res := hF
      unfold F_X7_yardThatParts_1 at hF
      refine z_iload C dX7_yardThatParts_10 rfl ?_
      refine z_aload_n C dX7_yardThatParts_12 rfl ?_
      refine f_getr C dX7_yardThatParts_13 zfRX7_29 hpv0 hkv0 rfl ?_
      obtain ⟨hp2, hk2⟩ := hT.1 v0 6 0 (.inl 3) hpv0 hkv0 rfl
      refine f_geti C dX7_yardThatParts_16 zfRX7_63 hp2 hk2 rfl ?_
      refine z_icmp_ge C 49 dX7_yardThatParts_19 (by decide) (fun c4 => ?_) (fun c4 => ?_)
      · replace hF := ip hF c4
        refine z_iload_n C dX7_yardThatParts_49 rfl ?_
        cases hF
        exact z_iret C hr dX7_yardThatParts_50 ⟨rfl, rfl, hT⟩
      · replace hF := im hF c4
        refine z_aload_n C dX7_yardThatParts_22 rfl ?_
        refine z_iload C dX7_yardThatParts_23 rfl ?_
        refine z_iload_n C dX7_yardThatParts_25 rfl ?_
        obtain ⟨x5, S5, h5, hF⟩ := bI_some hF
        refine f_cV (st2 := [.int x5]) C dX7_yardThatParts_26 zyX7_mostAlike zvX7_mostAlike lkRX7_159 (K_X7_mostAlike (l := zXl X) hT hpv0 hkv0   h5) hpv0 hkv0 rfl (by decide) rfl rfl (Nat.le_of_ble_eq_true rfl) rfl (fun hT5 => ?_)
        refine z_istore (lv2 := [some (.ref (zB G + v0)), some (.int v1), some (.int v2), some (.int v3), some (.int v4), some (.int x5)]) C dX7_yardThatParts_29 (by decide) rfl ?_
        refine z_iload C dX7_yardThatParts_31 rfl ?_
        refine z_iload_n C dX7_yardThatParts_33 rfl ?_
        have hJ7 : zV G X (zQX G X (zPo G kd N0 res) 0 0) 6 [some (.ref (zB G + v0)), some (.int v1), some (.int (if v3 ≤ x5 then v2 else v4)), some (.int (if v3 ≤ x5 then v3 else x5)), some (.int v4), some (.int x5)] [] (cn G kd N0 S5) 43 0 0 := by
          refine z_iinc (v := v4 + 1) (lv2 := [some (.ref (zB G + v0)), some (.int v1), some (.int (if v3 ≤ x5 then v2 else v4)), some (.int (if v3 ≤ x5 then v3 else x5)), some (.int (v4 + 1)), some (.int x5)]) C dX7_yardThatParts_43 rfl (by rw [show Int32.ofInt 1 = (1 : Int32) from by decide]) rfl ?_
          refine z_goto C 10 dX7_yardThatParts_46 (by decide) ?_
          refine z_mask [true, true, true, true, true, false] ?_ rfl
          exact ih1 S5 v0 v1 (if v3 ≤ x5 then v2 else v4) (if v3 ≤ x5 then v3 else x5) (v4 + 1) res hT5 hpv0 hkv0     hF
        refine z_icmp_ge C 43 dX7_yardThatParts_34 (by decide) (fun c6 => ?_) (fun c6 => ?_)
        · exact zV.at hJ7 (by first | rfl | contradiction | (simp only [if_pos c6]; done)) (by first | rfl | contradiction | (simp only [if_pos c6]; done)) rfl rfl
        · refine z_iload C dX7_yardThatParts_37 rfl ?_
          refine z_istore_n (lv2 := [some (.ref (zB G + v0)), some (.int v1), some (.int v2), some (.int x5), some (.int v4), some (.int x5)]) C dX7_yardThatParts_39 (by decide) rfl ?_
          refine z_iload C dX7_yardThatParts_40 rfl ?_
          refine z_istore_n (lv2 := [some (.ref (zB G + v0)), some (.int v1), some (.int v4), some (.int x5), some (.int v4), some (.int x5)]) C dX7_yardThatParts_42 (by decide) rfl ?_
          exact zV.at hJ7 (by first | rfl | contradiction | (simp only [if_neg c6]; done)) (by first | rfl | contradiction | (simp only [if_neg c6]; done)) rfl rfl
theorem K_X7_yardThatParts {G : zG} {l : Launch} {kd : kD} {N0 f : Nat} {S : aS} {v0 : Nat} {v1 : Int32} {res : Option Value × aS} (hT : zT0 kd N0 S) (hpv0 : v0 < N0) (hkv0 : kd v0 = .inl 6) (hF : F_X7_yardThatParts f 0 [.ref v0, .int v1] S = some res) : zM G l 2 0 0 yX7_yardThatParts cX7_yardThatParts 6 (some .int) [.ref (zB G + v0), .int v1] (cn G kd N0 S) (zPo G kd N0 res) := zM.of (by decide) rfl (Nat.le_of_ble_eq_true rfl) (fun X _ C hr _ => (B_X7_yardThatParts C hr f).1 S v0 v1 res hT hpv0 hkv0 hF)
def F_X8_add_0 (f : Nat) (rc : Nat → List Value → aS → aR) (v0 : Nat) (v1 : Int64) (S : aS) : aR :=
  rc 1 [.ref v0, .long v1, .int 56] S
def F_X8_add_1 (f : Nat) (rc : Nat → List Value → aS → aR) (v0 : Nat) (v1 : Int64) (v2 : Int32) (S : aS) : aR :=
  if v2 < (0 : Int32) then some (none, S) else lI ((Int64.toInt32 ((v1.toUInt64 >>> ((Int32.toInt64 v2).toUInt64 &&& Int64.toUInt64 63)).toInt64)) &&& (255 : Int32)) fun y5 => if y5 = (10 : Int32) then rc 2 [.ref v0, .long v1, .int v2, .int y5] S else bI (F_X12_isWithin f 0 [.int y5, .int 32, .int 126] S) fun x10 S10 => if x10 = (0 : Int32) then rc 3 [.ref v0, .long v1, .int v2] S10 else rc 2 [.ref v0, .long v1, .int v2, .int y5] S10
def F_X8_add_2 (f : Nat) (rc : Nat → List Value → aS → aR) (v0 : Nat) (v1 : Int64) (v2 : Int32) (v3 : Int32) (S : aS) : aR :=
  if (1000 : Int32) ≤ (gI S v0 1) then rc 3 [.ref v0, .long v1, .int v2] S else bX (gI S v0 1) 1000 fun q19 => fS (sI S (gR S v0 0) q19 (vp_nar .char ((Int32.toUInt32 v3 % 65536).toInt32))) fun S20 => fS (sI S20 v0 1 ((gI S20 v0 1) + (1 : Int32))) fun S21 => rc 3 [.ref v0, .long v1, .int v2] S21
def F_X8_add_3 (f : Nat) (rc : Nat → List Value → aS → aR) (v0 : Nat) (v1 : Int64) (v2 : Int32) (S : aS) : aR :=
  rc 1 [.ref v0, .long v1, .int (v2 + (-8))] S
def F_X8_add : Nat → Nat → List Value → aS → aR
  | 0, _, _, _ => none
  | f + 1, 0, vs, S => F_X8_add_0 f (F_X8_add f) (vR vs 0) (vJ vs 1) S
  | f + 1, 1, vs, S => F_X8_add_1 f (F_X8_add f) (vR vs 0) (vJ vs 1) (vI vs 2) S
  | f + 1, 2, vs, S => F_X8_add_2 f (F_X8_add f) (vR vs 0) (vJ vs 1) (vI vs 2) (vI vs 3) S
  | f + 1, 3, vs, S => F_X8_add_3 f (F_X8_add f) (vR vs 0) (vJ vs 1) (vI vs 2) S
  | _ + 1, _, _, _ => none
theorem dX8_add_0 : decode cX8_add 0 = .ok (.bipush 56, 2) := by decide +kernel
theorem dX8_add_2 : decode cX8_add 2 = .ok (.istore_n 3, 1) := by decide +kernel
theorem dX8_add_3 : decode cX8_add 3 = .ok (.iload_n 3, 1) := by decide +kernel
theorem dX8_add_4 : decode cX8_add 4 = .ok (.ifCond .lt 70, 3) := by decide +kernel
theorem dX8_add_7 : decode cX8_add 7 = .ok (.lload_n 1, 1) := by decide +kernel
theorem dX8_add_8 : decode cX8_add 8 = .ok (.iload_n 3, 1) := by decide +kernel
theorem dX8_add_9 : decode cX8_add 9 = .ok (.lushr, 1) := by decide +kernel
theorem dX8_add_10 : decode cX8_add 10 = .ok (.l2i, 1) := by decide +kernel
theorem dX8_add_11 : decode cX8_add 11 = .ok (.sipush 255, 3) := by decide +kernel
theorem dX8_add_14 : decode cX8_add 14 = .ok (.iand, 1) := by decide +kernel
theorem dX8_add_15 : decode cX8_add 15 = .ok (.istore 4, 2) := by decide +kernel
theorem dX8_add_17 : decode cX8_add 17 = .ok (.iload 4, 2) := by decide +kernel
theorem dX8_add_19 : decode cX8_add 19 = .ok (.bipush 10, 2) := by decide +kernel
theorem dX8_add_21 : decode cX8_add 21 = .ok (.if_icmp .eq 15, 3) := by decide +kernel
theorem dX8_add_24 : decode cX8_add 24 = .ok (.iload 4, 2) := by decide +kernel
theorem dX8_add_26 : decode cX8_add 26 = .ok (.bipush 32, 2) := by decide +kernel
theorem dX8_add_28 : decode cX8_add 28 = .ok (.bipush 126, 2) := by decide +kernel
theorem dX8_add_30 : decode cX8_add 30 = .ok (.invokestatic 28, 3) := by decide +kernel
theorem dX8_add_33 : decode cX8_add 33 = .ok (.ifCond .eq 35, 3) := by decide +kernel
theorem dX8_add_36 : decode cX8_add 36 = .ok (.aload_n 0, 1) := by decide +kernel
theorem dX8_add_37 : decode cX8_add 37 = .ok (.getfield 24, 3) := by decide +kernel
theorem dX8_add_40 : decode cX8_add 40 = .ok (.sipush 1000, 3) := by decide +kernel
theorem dX8_add_43 : decode cX8_add 43 = .ok (.if_icmp .ge 25, 3) := by decide +kernel
theorem dX8_add_46 : decode cX8_add 46 = .ok (.aload_n 0, 1) := by decide +kernel
theorem dX8_add_47 : decode cX8_add 47 = .ok (.getfield 11, 3) := by decide +kernel
theorem dX8_add_50 : decode cX8_add 50 = .ok (.aload_n 0, 1) := by decide +kernel
theorem dX8_add_51 : decode cX8_add 51 = .ok (.getfield 24, 3) := by decide +kernel
theorem dX8_add_54 : decode cX8_add 54 = .ok (.iload 4, 2) := by decide +kernel
theorem dX8_add_56 : decode cX8_add 56 = .ok (.i2c, 1) := by decide +kernel
theorem dX8_add_57 : decode cX8_add 57 = .ok (.castore, 1) := by decide +kernel
theorem dX8_add_58 : decode cX8_add 58 = .ok (.aload_n 0, 1) := by decide +kernel
theorem dX8_add_59 : decode cX8_add 59 = .ok (.dup, 1) := by decide +kernel
theorem dX8_add_60 : decode cX8_add 60 = .ok (.getfield 24, 3) := by decide +kernel
theorem dX8_add_63 : decode cX8_add 63 = .ok (.iconst 1, 1) := by decide +kernel
theorem dX8_add_64 : decode cX8_add 64 = .ok (.iadd, 1) := by decide +kernel
theorem dX8_add_65 : decode cX8_add 65 = .ok (.putfield 24, 3) := by decide +kernel
theorem dX8_add_68 : decode cX8_add 68 = .ok (.iinc 3 (-8), 3) := by decide +kernel
theorem dX8_add_71 : decode cX8_add 71 = .ok (.goto (-68), 3) := by decide +kernel
theorem dX8_add_74 : decode cX8_add 74 = .ok (.return_, 1) := by decide +kernel
set_option maxHeartbeats 4000000 in
set_option maxRecDepth 100000 in
theorem B_X8_add {G : zG} {X : zX} {kd : kD} {N0 : Nat} (C : zCt G X 1 0 0 RX8 cX8_add 5) (hr : (zXh X).sig.returnType = none) : ∀ f : Nat,
    (∀ (S : aS) (v0 : Nat) (v1 : Int64) (res : Option Value × aS), zT0 kd N0 S → v0 < N0 → kd v0 = .inl 7 → F_X8_add f 0 [.ref v0, .long v1] S = some res → zV G X (zQX G X (zPo G kd N0 res) 0 0) 5 [some (.ref (zB G + v0)), some (.long v1), none, none, none] [] (cn G kd N0 S) 0 0 0) ∧
    (∀ (S : aS) (v0 : Nat) (v1 : Int64) (v2 : Int32) (res : Option Value × aS), zT0 kd N0 S → v0 < N0 → kd v0 = .inl 7 → F_X8_add f 1 [.ref v0, .long v1, .int v2] S = some res → zV G X (zQX G X (zPo G kd N0 res) 0 0) 5 [some (.ref (zB G + v0)), some (.long v1), none, some (.int v2), none] [] (cn G kd N0 S) 3 0 0) ∧
    (∀ (S : aS) (v0 : Nat) (v1 : Int64) (v2 : Int32) (v3 : Int32) (res : Option Value × aS), zT0 kd N0 S → v0 < N0 → kd v0 = .inl 7 → F_X8_add f 2 [.ref v0, .long v1, .int v2, .int v3] S = some res → zV G X (zQX G X (zPo G kd N0 res) 0 0) 5 [some (.ref (zB G + v0)), some (.long v1), none, some (.int v2), some (.int v3)] [] (cn G kd N0 S) 36 0 0) ∧
    (∀ (S : aS) (v0 : Nat) (v1 : Int64) (v2 : Int32) (res : Option Value × aS), zT0 kd N0 S → v0 < N0 → kd v0 = .inl 7 → F_X8_add f 3 [.ref v0, .long v1, .int v2] S = some res → zV G X (zQX G X (zPo G kd N0 res) 0 0) 5 [some (.ref (zB G + v0)), some (.long v1), none, some (.int v2), none] [] (cn G kd N0 S) 68 0 0) := by
  intro f
  induction f with
  | zero => exact ⟨(fun _ _ _ _ _ _ _ h => by cases h), (fun _ _ _ _ _ _ _ _ h => by cases h), (fun _ _ _ _ _ _ _ _ _ h => by cases h), (fun _ _ _ _ _ _ _ _ h => by cases h)⟩
  | succ f ih =>
    obtain ⟨ih0, ih1, ih2, ih3⟩ := ih
    refine ⟨?_, ?_, ?_, ?_⟩
    · intro S v0 v1 res hT hpv0 hkv0 hF
      replace hF : F_X8_add_0 f (F_X8_add f) v0 v1 S = some res := hF
      unfold F_X8_add_0 at hF
      refine z_bipush (v := 56) C dX8_add_0 (by decide) ?_
      refine z_istore_n (lv2 := [some (.ref (zB G + v0)), some (.long v1), none, some (.int 56), none]) C dX8_add_2 (by decide) rfl ?_
      exact ih1 S v0 v1 56 res hT hpv0 hkv0   hF
    · intro S v0 v1 v2 res hT hpv0 hkv0 hF
      replace hF : F_X8_add_1 f (F_X8_add f) v0 v1 v2 S = some res := hF
      unfold F_X8_add_1 at hF
      refine z_iload_n C dX8_add_3 rfl ?_
      refine z_if_lt C 74 dX8_add_4 (by decide) (fun c4 => ?_) (fun c4 => ?_)
      · replace hF := ip hF c4
        cases hF
        exact z_vret C hr dX8_add_74 ⟨rfl, rfl, hT⟩
      · replace hF := im hF c4
        refine z_lload_n C dX8_add_7 rfl ?_
        refine z_iload_n C dX8_add_8 rfl ?_
        refine z_lushr C dX8_add_9 ?_
        refine z_l2i C dX8_add_10 ?_
        refine z_sipush (v := 255) C dX8_add_11 (by decide) ?_
        refine z_iand C dX8_add_14 ?_
        replace hF := lI_e hF
        generalize ((Int64.toInt32 ((v1.toUInt64 >>> ((Int32.toInt64 v2).toUInt64 &&& Int64.toUInt64 63)).toInt64)) &&& (255 : Int32)) = y5 at hF ⊢
        refine z_istore (lv2 := [some (.ref (zB G + v0)), some (.long v1), none, some (.int v2), some (.int y5)]) C dX8_add_15 (by decide) rfl ?_
        refine z_iload C dX8_add_17 rfl ?_
        refine z_bipush (v := 10) C dX8_add_19 (by decide) ?_
        refine z_icmp_eq C 36 dX8_add_21 (by decide) (fun c9 => ?_) (fun c9 => ?_)
        · replace hF := ip hF c9
          exact ih2 S v0 v1 v2 y5 res hT hpv0 hkv0    hF
        · replace hF := im hF c9
          refine z_iload C dX8_add_24 rfl ?_
          refine z_bipush (v := 32) C dX8_add_26 (by decide) ?_
          refine z_bipush (v := 126) C dX8_add_28 (by decide) ?_
          obtain ⟨x10, S10, h10, hF⟩ := bI_some hF
          refine f_cSN (st2 := [.int x10]) C dX8_add_30 zyX12_isWithin zsX12_isWithin lkRX8_28 (K_X12_isWithin (l := zXl X) hT    h10) (by decide) rfl rfl (Nat.le_of_ble_eq_true rfl) rfl (fun hT10 => ?_)
          refine z_if_eq C 68 dX8_add_33 (by decide) (fun c14 => ?_) (fun c14 => ?_)
          · replace hF := ip hF c14
            refine z_mask [true, true, true, true, false] ?_ rfl
            exact ih3 S10 v0 v1 v2 res hT10 hpv0 hkv0   hF
          · replace hF := im hF c14
            exact ih2 S10 v0 v1 v2 y5 res hT10 hpv0 hkv0    hF
    · intro S v0 v1 v2 v3 res hT hpv0 hkv0 hF
      replace hF : F_X8_add_2 f (F_X8_add f) v0 v1 v2 v3 S = some res := hF
      unfold F_X8_add_2 at hF
      refine z_aload_n C dX8_add_36 rfl ?_
      refine f_geti C dX8_add_37 zfRX8_24 hpv0 hkv0 rfl ?_
      refine z_sipush (v := 1000) C dX8_add_40 (by decide) ?_
      refine z_icmp_ge C 68 dX8_add_43 (by decide) (fun c17 => ?_) (fun c17 => ?_)
      · replace hF := ip hF c17
        refine z_mask [true, true, true, true, false] ?_ rfl
        exact ih3 S v0 v1 v2 res hT hpv0 hkv0   hF
      · replace hF := im hF c17
        refine z_aload_n C dX8_add_46 rfl ?_
        refine f_getr C dX8_add_47 zfRX8_11 hpv0 hkv0 rfl ?_
        obtain ⟨hp18, hk18⟩ := hT.1 v0 7 0 (.inr (2, 1000)) hpv0 hkv0 rfl
        refine z_aload_n C dX8_add_50 rfl ?_
        refine f_geti C dX8_add_51 zfRX8_24 hpv0 hkv0 rfl ?_
        refine z_iload C dX8_add_54 rfl ?_
        refine z_i2c C dX8_add_56 ?_
        obtain ⟨hi19, hF⟩ := bX_some hF
        obtain ⟨q19, eq19⟩ : ∃ q : Nat, q = Int32.toNatClampNeg (gI S v0 1) := ⟨_, rfl⟩
        rw [← eq19] at hF
        refine f_cast C dX8_add_57 hp18 hk18 hi19 ?_
        rw [← eq19]
        have hT20 : zT0 kd N0 (sI S (gR S v0 0) q19 (vp_nar .char ((Int32.toUInt32 v3 % 65536).toInt32))) := zT0_sI hT
        replace hF := fS_e hF
        generalize sI S (gR S v0 0) q19 (vp_nar .char ((Int32.toUInt32 v3 % 65536).toInt32)) = S20 at hF hT20 ⊢
        refine z_aload_n C dX8_add_58 rfl ?_
        refine z_dup C dX8_add_59 rfl ?_
        refine f_geti C dX8_add_60 zfRX8_24 hpv0 hkv0 rfl ?_
        refine z_iconst (v := 1) C dX8_add_63 (by decide) ?_
        refine z_iadd C dX8_add_64 ?_
        refine f_puti C dX8_add_65 zfRX8_24 fw7_1 hpv0 hkv0 rfl rfl rfl ?_
        have hT21 : zT0 kd N0 (sI S20 v0 1 ((gI S20 v0 1) + (1 : Int32))) := zT0_sI hT20
        replace hF := fS_e hF
        generalize sI S20 v0 1 ((gI S20 v0 1) + (1 : Int32)) = S21 at hF hT21 ⊢
        refine z_mask [true, true, true, true, false] ?_ rfl
        exact ih3 S21 v0 v1 v2 res hT21 hpv0 hkv0   hF
    · intro S v0 v1 v2 res hT hpv0 hkv0 hF
      replace hF : F_X8_add_3 f (F_X8_add f) v0 v1 v2 S = some res := hF
      unfold F_X8_add_3 at hF
      refine z_iinc (v := v2 + (-8)) (lv2 := [some (.ref (zB G + v0)), some (.long v1), none, some (.int (v2 + (-8))), none]) C dX8_add_68 rfl (by rw [show Int32.ofInt (-8) = ((-8) : Int32) from by decide]) rfl ?_
      refine z_goto C 3 dX8_add_71 (by decide) ?_
      exact ih1 S v0 v1 (v2 + (-8)) res hT hpv0 hkv0   hF
theorem K_X8_add {G : zG} {l : Launch} {kd : kD} {N0 f : Nat} {S : aS} {v0 : Nat} {v1 : Int64} {res : Option Value × aS} (hT : zT0 kd N0 S) (hpv0 : v0 < N0) (hkv0 : kd v0 = .inl 7) (hF : F_X8_add f 0 [.ref v0, .long v1] S = some res) : zM G l 1 0 0 yX8_add cX8_add 5 none [.ref (zB G + v0), .long v1] (cn G kd N0 S) (zPo G kd N0 res) := zM.of (by decide) rfl (Nat.le_of_ble_eq_true rfl) (fun X _ C hr _ => (B_X8_add C hr f).1 S v0 v1 res hT hpv0 hkv0 hF)
def F_X8_readWord_0 (f : Nat) (rc : Nat → List Value → aS → aR) (v0 : Nat) (S : aS) : aR :=
  fS (sJ S v0 7 0) fun S1 => rc 1 [.ref v0] S1
def F_X8_readWord_1 (f : Nat) (rc : Nat → List Value → aS → aR) (v0 : Nat) (S : aS) : aR :=
  if (gI S v0 1) ≤ (gI S v0 3) then rc 2 [.ref v0] S else bX (gI S v0 3) 1000 fun q6 => bI (F_X8_isLetter f 0 [.int (gI S (gR S v0 0) q6)] S) fun x7 S7 => if x7 = (0 : Int32) then rc 2 [.ref v0] S7 else bX (gI S7 v0 3) 1000 fun q12 => bJ (F_X11_keyWith f 0 [.long (gJ S7 v0 7), .int (gI S7 (gR S7 v0 0) q12)] S7) fun x13 S13 => fS (sJ S13 v0 7 x13) fun S14 => fS (sI S14 v0 3 ((gI S14 v0 3) + (1 : Int32))) fun S15 => rc 1 [.ref v0] S15
def F_X8_readWord_2 (f : Nat) (rc : Nat → List Value → aS → aR) (v0 : Nat) (S : aS) : aR :=
  if (8 : Int32) < ((gI S v0 3) - (gI S v0 4)) then rc 3 [] S else bR (F_X11_of f 0 [.long (gJ S v0 7)] S) fun x18 S18 => fS (sR S18 v0 6 x18) fun S19 => rc 3 [] S19
def F_X8_readWord_3 (f : Nat) (rc : Nat → List Value → aS → aR)  (S : aS) : aR :=
  some (none, S)
def F_X8_readWord : Nat → Nat → List Value → aS → aR
  | 0, _, _, _ => none
  | f + 1, 0, vs, S => F_X8_readWord_0 f (F_X8_readWord f) (vR vs 0) S
  | f + 1, 1, vs, S => F_X8_readWord_1 f (F_X8_readWord f) (vR vs 0) S
  | f + 1, 2, vs, S => F_X8_readWord_2 f (F_X8_readWord f) (vR vs 0) S
  | f + 1, 3, vs, S => F_X8_readWord_3 f (F_X8_readWord f)  S
  | _ + 1, _, _, _ => none
theorem dX8_readWord_0 : decode cX8_readWord 0 = .ok (.aload_n 0, 1) := by decide +kernel
theorem dX8_readWord_1 : decode cX8_readWord 1 = .ok (.lconst 0, 1) := by decide +kernel
theorem dX8_readWord_2 : decode cX8_readWord 2 = .ok (.putfield 67, 3) := by decide +kernel
theorem dX8_readWord_5 : decode cX8_readWord 5 = .ok (.aload_n 0, 1) := by decide +kernel
theorem dX8_readWord_6 : decode cX8_readWord 6 = .ok (.getfield 32, 3) := by decide +kernel
theorem dX8_readWord_9 : decode cX8_readWord 9 = .ok (.aload_n 0, 1) := by decide +kernel
theorem dX8_readWord_10 : decode cX8_readWord 10 = .ok (.getfield 24, 3) := by decide +kernel
theorem dX8_readWord_13 : decode cX8_readWord 13 = .ok (.if_icmp .ge 51, 3) := by decide +kernel
theorem dX8_readWord_16 : decode cX8_readWord 16 = .ok (.aload_n 0, 1) := by decide +kernel
theorem dX8_readWord_17 : decode cX8_readWord 17 = .ok (.getfield 11, 3) := by decide +kernel
theorem dX8_readWord_20 : decode cX8_readWord 20 = .ok (.aload_n 0, 1) := by decide +kernel
theorem dX8_readWord_21 : decode cX8_readWord 21 = .ok (.getfield 32, 3) := by decide +kernel
theorem dX8_readWord_24 : decode cX8_readWord 24 = .ok (.caload, 1) := by decide +kernel
theorem dX8_readWord_25 : decode cX8_readWord 25 = .ok (.invokestatic 54, 3) := by decide +kernel
theorem dX8_readWord_28 : decode cX8_readWord 28 = .ok (.ifCond .eq 36, 3) := by decide +kernel
theorem dX8_readWord_31 : decode cX8_readWord 31 = .ok (.aload_n 0, 1) := by decide +kernel
theorem dX8_readWord_32 : decode cX8_readWord 32 = .ok (.aload_n 0, 1) := by decide +kernel
theorem dX8_readWord_33 : decode cX8_readWord 33 = .ok (.getfield 67, 3) := by decide +kernel
theorem dX8_readWord_36 : decode cX8_readWord 36 = .ok (.aload_n 0, 1) := by decide +kernel
theorem dX8_readWord_37 : decode cX8_readWord 37 = .ok (.getfield 11, 3) := by decide +kernel
theorem dX8_readWord_40 : decode cX8_readWord 40 = .ok (.aload_n 0, 1) := by decide +kernel
theorem dX8_readWord_41 : decode cX8_readWord 41 = .ok (.getfield 32, 3) := by decide +kernel
theorem dX8_readWord_44 : decode cX8_readWord 44 = .ok (.caload, 1) := by decide +kernel
theorem dX8_readWord_45 : decode cX8_readWord 45 = .ok (.invokestatic 71, 3) := by decide +kernel
theorem dX8_readWord_48 : decode cX8_readWord 48 = .ok (.putfield 67, 3) := by decide +kernel
theorem dX8_readWord_51 : decode cX8_readWord 51 = .ok (.aload_n 0, 1) := by decide +kernel
theorem dX8_readWord_52 : decode cX8_readWord 52 = .ok (.dup, 1) := by decide +kernel
theorem dX8_readWord_53 : decode cX8_readWord 53 = .ok (.getfield 32, 3) := by decide +kernel
theorem dX8_readWord_56 : decode cX8_readWord 56 = .ok (.iconst 1, 1) := by decide +kernel
theorem dX8_readWord_57 : decode cX8_readWord 57 = .ok (.iadd, 1) := by decide +kernel
theorem dX8_readWord_58 : decode cX8_readWord 58 = .ok (.putfield 32, 3) := by decide +kernel
theorem dX8_readWord_61 : decode cX8_readWord 61 = .ok (.goto (-56), 3) := by decide +kernel
theorem dX8_readWord_64 : decode cX8_readWord 64 = .ok (.aload_n 0, 1) := by decide +kernel
theorem dX8_readWord_65 : decode cX8_readWord 65 = .ok (.getfield 32, 3) := by decide +kernel
theorem dX8_readWord_68 : decode cX8_readWord 68 = .ok (.aload_n 0, 1) := by decide +kernel
theorem dX8_readWord_69 : decode cX8_readWord 69 = .ok (.getfield 47, 3) := by decide +kernel
theorem dX8_readWord_72 : decode cX8_readWord 72 = .ok (.isub, 1) := by decide +kernel
theorem dX8_readWord_73 : decode cX8_readWord 73 = .ok (.bipush 8, 2) := by decide +kernel
theorem dX8_readWord_75 : decode cX8_readWord 75 = .ok (.if_icmp .gt 14, 3) := by decide +kernel
theorem dX8_readWord_78 : decode cX8_readWord 78 = .ok (.aload_n 0, 1) := by decide +kernel
theorem dX8_readWord_79 : decode cX8_readWord 79 = .ok (.aload_n 0, 1) := by decide +kernel
theorem dX8_readWord_80 : decode cX8_readWord 80 = .ok (.getfield 67, 3) := by decide +kernel
theorem dX8_readWord_83 : decode cX8_readWord 83 = .ok (.invokestatic 75, 3) := by decide +kernel
theorem dX8_readWord_86 : decode cX8_readWord 86 = .ok (.putfield 21, 3) := by decide +kernel
theorem dX8_readWord_89 : decode cX8_readWord 89 = .ok (.return_, 1) := by decide +kernel
set_option maxHeartbeats 4000000 in
set_option maxRecDepth 100000 in
theorem B_X8_readWord {G : zG} {X : zX} {kd : kD} {N0 : Nat} (C : zCt G X 1 0 0 RX8 cX8_readWord 1) (hr : (zXh X).sig.returnType = none) : ∀ f : Nat,
    (∀ (S : aS) (v0 : Nat) (res : Option Value × aS), zT0 kd N0 S → v0 < N0 → kd v0 = .inl 7 → F_X8_readWord f 0 [.ref v0] S = some res → zV G X (zQX G X (zPo G kd N0 res) 0 0) 1 [some (.ref (zB G + v0))] [] (cn G kd N0 S) 0 0 0) ∧
    (∀ (S : aS) (v0 : Nat) (res : Option Value × aS), zT0 kd N0 S → v0 < N0 → kd v0 = .inl 7 → F_X8_readWord f 1 [.ref v0] S = some res → zV G X (zQX G X (zPo G kd N0 res) 0 0) 1 [some (.ref (zB G + v0))] [] (cn G kd N0 S) 5 0 0) ∧
    (∀ (S : aS) (v0 : Nat) (res : Option Value × aS), zT0 kd N0 S → v0 < N0 → kd v0 = .inl 7 → F_X8_readWord f 2 [.ref v0] S = some res → zV G X (zQX G X (zPo G kd N0 res) 0 0) 1 [some (.ref (zB G + v0))] [] (cn G kd N0 S) 64 0 0) ∧
    (∀ (S : aS)  (res : Option Value × aS), zT0 kd N0 S → F_X8_readWord f 3 [] S = some res → zV G X (zQX G X (zPo G kd N0 res) 0 0) 1 [none] [] (cn G kd N0 S) 89 0 0) := by
  intro f
  induction f with
  | zero => exact ⟨(fun _ _ _ _ _ _ h => by cases h), (fun _ _ _ _ _ _ h => by cases h), (fun _ _ _ _ _ _ h => by cases h), (fun _ _ _ h => by cases h)⟩
  | succ f ih =>
    obtain ⟨ih0, ih1, ih2, ih3⟩ := ih
    refine ⟨?_, ?_, ?_, ?_⟩
    · intro S v0 res hT hpv0 hkv0 hF
      replace hF : F_X8_readWord_0 f (F_X8_readWord f) v0 S = some res := hF
      unfold F_X8_readWord_0 at hF
      refine z_aload_n C dX8_readWord_0 rfl ?_
      refine z_lconst (v := 0) C dX8_readWord_1 (by decide) ?_
      refine f_putj C dX8_readWord_2 zfRX8_67 fw7_7 hpv0 hkv0 rfl rfl rfl ?_
      have hT1 : zT0 kd N0 (sJ S v0 7 0) := zT0_sJ hT
      replace hF := fS_e hF
      generalize sJ S v0 7 0 = S1 at hF hT1 ⊢
      exact ih1 S1 v0 res hT1 hpv0 hkv0 hF
    · intro S v0 res hT hpv0 hkv0 hF
      replace hF : F_X8_readWord_1 f (F_X8_readWord f) v0 S = some res := hF
      unfold F_X8_readWord_1 at hF
      refine z_aload_n C dX8_readWord_5 rfl ?_
      refine f_geti C dX8_readWord_6 zfRX8_32 hpv0 hkv0 rfl ?_
      refine z_aload_n C dX8_readWord_9 rfl ?_
      refine f_geti C dX8_readWord_10 zfRX8_24 hpv0 hkv0 rfl ?_
      refine z_icmp_ge C 64 dX8_readWord_13 (by decide) (fun c4 => ?_) (fun c4 => ?_)
      · replace hF := ip hF c4
        exact ih2 S v0 res hT hpv0 hkv0 hF
      · replace hF := im hF c4
        refine z_aload_n C dX8_readWord_16 rfl ?_
        refine f_getr C dX8_readWord_17 zfRX8_11 hpv0 hkv0 rfl ?_
        obtain ⟨hp5, hk5⟩ := hT.1 v0 7 0 (.inr (2, 1000)) hpv0 hkv0 rfl
        refine z_aload_n C dX8_readWord_20 rfl ?_
        refine f_geti C dX8_readWord_21 zfRX8_32 hpv0 hkv0 rfl ?_
        obtain ⟨hi6, hF⟩ := bX_some hF
        obtain ⟨q6, eq6⟩ : ∃ q : Nat, q = Int32.toNatClampNeg (gI S v0 3) := ⟨_, rfl⟩
        rw [← eq6] at hF
        refine f_cald C dX8_readWord_24 hp5 hk5 hi6 ?_
        rw [← eq6]
        obtain ⟨x7, S7, h7, hF⟩ := bI_some hF
        refine f_cS (st2 := [.int x7]) C dX8_readWord_25 zyX8_isLetter zsX8_isLetter lkRX8_54 (K_X8_isLetter (l := zXl X) hT  h7) (by decide) rfl rfl (Nat.le_of_ble_eq_true rfl) rfl (fun hT7 => ?_)
        refine z_if_eq C 64 dX8_readWord_28 (by decide) (fun c10 => ?_) (fun c10 => ?_)
        · replace hF := ip hF c10
          exact ih2 S7 v0 res hT7 hpv0 hkv0 hF
        · replace hF := im hF c10
          refine z_aload_n C dX8_readWord_31 rfl ?_
          refine z_aload_n C dX8_readWord_32 rfl ?_
          refine f_getj C dX8_readWord_33 zfRX8_67 hpv0 hkv0 rfl ?_
          refine z_aload_n C dX8_readWord_36 rfl ?_
          refine f_getr C dX8_readWord_37 zfRX8_11 hpv0 hkv0 rfl ?_
          obtain ⟨hp11, hk11⟩ := hT7.1 v0 7 0 (.inr (2, 1000)) hpv0 hkv0 rfl
          refine z_aload_n C dX8_readWord_40 rfl ?_
          refine f_geti C dX8_readWord_41 zfRX8_32 hpv0 hkv0 rfl ?_
          obtain ⟨hi12, hF⟩ := bX_some hF
          obtain ⟨q12, eq12⟩ : ∃ q : Nat, q = Int32.toNatClampNeg (gI S7 v0 3) := ⟨_, rfl⟩
          rw [← eq12] at hF
          refine f_cald C dX8_readWord_44 hp11 hk11 hi12 ?_
          rw [← eq12]
          obtain ⟨x13, S13, h13, hF⟩ := bJ_some hF
          refine f_cS (st2 := [.long x13, .ref (zB G + v0)]) C dX8_readWord_45 zyX11_keyWith zsX11_keyWith lkRX8_71 (K_X11_keyWith (l := zXl X) hT7   h13) (by decide) rfl rfl (Nat.le_of_ble_eq_true rfl) rfl (fun hT13 => ?_)
          refine f_putj C dX8_readWord_48 zfRX8_67 fw7_7 hpv0 hkv0 rfl rfl rfl ?_
          have hT14 : zT0 kd N0 (sJ S13 v0 7 x13) := zT0_sJ hT13
          replace hF := fS_e hF
          generalize sJ S13 v0 7 x13 = S14 at hF hT14 ⊢
          refine z_aload_n C dX8_readWord_51 rfl ?_
          refine z_dup C dX8_readWord_52 rfl ?_
          refine f_geti C dX8_readWord_53 zfRX8_32 hpv0 hkv0 rfl ?_
          refine z_iconst (v := 1) C dX8_readWord_56 (by decide) ?_
          refine z_iadd C dX8_readWord_57 ?_
          refine f_puti C dX8_readWord_58 zfRX8_32 fw7_3 hpv0 hkv0 rfl rfl rfl ?_
          have hT15 : zT0 kd N0 (sI S14 v0 3 ((gI S14 v0 3) + (1 : Int32))) := zT0_sI hT14
          replace hF := fS_e hF
          generalize sI S14 v0 3 ((gI S14 v0 3) + (1 : Int32)) = S15 at hF hT15 ⊢
          refine z_goto C 5 dX8_readWord_61 (by decide) ?_
          exact ih1 S15 v0 res hT15 hpv0 hkv0 hF
    · intro S v0 res hT hpv0 hkv0 hF
      replace hF : F_X8_readWord_2 f (F_X8_readWord f) v0 S = some res := hF
      unfold F_X8_readWord_2 at hF
      refine z_aload_n C dX8_readWord_64 rfl ?_
      refine f_geti C dX8_readWord_65 zfRX8_32 hpv0 hkv0 rfl ?_
      refine z_aload_n C dX8_readWord_68 rfl ?_
      refine f_geti C dX8_readWord_69 zfRX8_47 hpv0 hkv0 rfl ?_
      refine z_isub C dX8_readWord_72 ?_
      refine z_bipush (v := 8) C dX8_readWord_73 (by decide) ?_
      refine z_icmp_gt C 89 dX8_readWord_75 (by decide) (fun c17 => ?_) (fun c17 => ?_)
      · replace hF := ip hF c17
        refine z_mask [false] ?_ rfl
        exact ih3 S  res hT  hF
      · replace hF := im hF c17
        refine z_aload_n C dX8_readWord_78 rfl ?_
        refine z_aload_n C dX8_readWord_79 rfl ?_
        refine f_getj C dX8_readWord_80 zfRX8_67 hpv0 hkv0 rfl ?_
        obtain ⟨x18, S18, h18, hF⟩ := bR_some hF
        refine f_cSw C dX8_readWord_83 zyX11_of zsX11_of lkRX8_75 (K_X11_of (l := zXl X) hT  h18) (by decide) rfl rfl (Nat.le_of_ble_eq_true rfl) (fun hT18 hw18 => ?_)
        refine f_putw C dX8_readWord_86 zfRX8_21 fw7_6 hpv0 hkv0 rfl rfl rfl ?_
        have hT19 : zT0 kd N0 (sR S18 v0 6 x18) := zT0_sR hT18 hkv0 (fun q hq => by cases hq) (fun _ _ => hw18)
        replace hF := fS_e hF
        generalize sR S18 v0 6 x18 = S19 at hF hT19 ⊢
        refine z_mask [false] ?_ rfl
        exact ih3 S19  res hT19  hF
    · intro S  res hT  hF
      replace hF : F_X8_readWord_3 f (F_X8_readWord f)  S = some res := hF
      unfold F_X8_readWord_3 at hF
      cases hF
      exact z_vret C hr dX8_readWord_89 ⟨rfl, rfl, hT⟩
theorem K_X8_readWord {G : zG} {l : Launch} {kd : kD} {N0 f : Nat} {S : aS} {v0 : Nat} {res : Option Value × aS} (hT : zT0 kd N0 S) (hpv0 : v0 < N0) (hkv0 : kd v0 = .inl 7) (hF : F_X8_readWord f 0 [.ref v0] S = some res) : zM G l 1 0 0 yX8_readWord cX8_readWord 1 none [.ref (zB G + v0)] (cn G kd N0 S) (zPo G kd N0 res) := zM.of (by decide) rfl (Nat.le_of_ble_eq_true rfl) (fun X _ C hr _ => (B_X8_readWord C hr f).1 S v0 res hT hpv0 hkv0 hF)
def F_X8_readNumber_0 (f : Nat) (rc : Nat → List Value → aS → aR) (v0 : Nat) (S : aS) : aR :=
  rc 1 [.ref v0, .int 0] S
def F_X8_readNumber_1 (f : Nat) (rc : Nat → List Value → aS → aR) (v0 : Nat) (v1 : Int32) (S : aS) : aR :=
  if (gI S v0 1) ≤ (gI S v0 3) then rc 2 [.ref v0, .int v1] S else bX (gI S v0 3) 1000 fun q5 => bI (F_X8_isDigit f 0 [.int (gI S (gR S v0 0) q5)] S) fun x6 S6 => if x6 = (0 : Int32) then rc 2 [.ref v0, .int v1] S6 else bX (gI S6 v0 3) 1000 fun q11 => lI ((v1 * (10 : Int32)) + ((gI S6 (gR S6 v0 0) q11) - (48 : Int32))) fun y12 => fS (sI S6 v0 3 ((gI S6 v0 3) + (1 : Int32))) fun S13 => rc 1 [.ref v0, .int y12] S13
def F_X8_readNumber_2 (f : Nat) (rc : Nat → List Value → aS → aR) (v0 : Nat) (v1 : Int32) (S : aS) : aR :=
  if (4 : Int32) < ((gI S v0 3) - (gI S v0 4)) then rc 3 [] S else fS (sI S v0 8 v1) fun S16 => rc 3 [] S16
def F_X8_readNumber_3 (f : Nat) (rc : Nat → List Value → aS → aR)  (S : aS) : aR :=
  some (none, S)
def F_X8_readNumber : Nat → Nat → List Value → aS → aR
  | 0, _, _, _ => none
  | f + 1, 0, vs, S => F_X8_readNumber_0 f (F_X8_readNumber f) (vR vs 0) S
  | f + 1, 1, vs, S => F_X8_readNumber_1 f (F_X8_readNumber f) (vR vs 0) (vI vs 1) S
  | f + 1, 2, vs, S => F_X8_readNumber_2 f (F_X8_readNumber f) (vR vs 0) (vI vs 1) S
  | f + 1, 3, vs, S => F_X8_readNumber_3 f (F_X8_readNumber f)  S
  | _ + 1, _, _, _ => none
theorem dX8_readNumber_0 : decode cX8_readNumber 0 = .ok (.iconst 0, 1) := by decide +kernel
theorem dX8_readNumber_1 : decode cX8_readNumber 1 = .ok (.istore_n 1, 1) := by decide +kernel
theorem dX8_readNumber_2 : decode cX8_readNumber 2 = .ok (.aload_n 0, 1) := by decide +kernel
theorem dX8_readNumber_3 : decode cX8_readNumber 3 = .ok (.getfield 32, 3) := by decide +kernel
theorem dX8_readNumber_6 : decode cX8_readNumber 6 = .ok (.aload_n 0, 1) := by decide +kernel
theorem dX8_readNumber_7 : decode cX8_readNumber 7 = .ok (.getfield 24, 3) := by decide +kernel
theorem dX8_readNumber_10 : decode cX8_readNumber 10 = .ok (.if_icmp .ge 49, 3) := by decide +kernel
theorem dX8_readNumber_13 : decode cX8_readNumber 13 = .ok (.aload_n 0, 1) := by decide +kernel
theorem dX8_readNumber_14 : decode cX8_readNumber 14 = .ok (.getfield 11, 3) := by decide +kernel
theorem dX8_readNumber_17 : decode cX8_readNumber 17 = .ok (.aload_n 0, 1) := by decide +kernel
theorem dX8_readNumber_18 : decode cX8_readNumber 18 = .ok (.getfield 32, 3) := by decide +kernel
theorem dX8_readNumber_21 : decode cX8_readNumber 21 = .ok (.caload, 1) := by decide +kernel
theorem dX8_readNumber_22 : decode cX8_readNumber 22 = .ok (.invokestatic 61, 3) := by decide +kernel
theorem dX8_readNumber_25 : decode cX8_readNumber 25 = .ok (.ifCond .eq 34, 3) := by decide +kernel
theorem dX8_readNumber_28 : decode cX8_readNumber 28 = .ok (.iload_n 1, 1) := by decide +kernel
theorem dX8_readNumber_29 : decode cX8_readNumber 29 = .ok (.bipush 10, 2) := by decide +kernel
theorem dX8_readNumber_31 : decode cX8_readNumber 31 = .ok (.imul, 1) := by decide +kernel
theorem dX8_readNumber_32 : decode cX8_readNumber 32 = .ok (.aload_n 0, 1) := by decide +kernel
theorem dX8_readNumber_33 : decode cX8_readNumber 33 = .ok (.getfield 11, 3) := by decide +kernel
theorem dX8_readNumber_36 : decode cX8_readNumber 36 = .ok (.aload_n 0, 1) := by decide +kernel
theorem dX8_readNumber_37 : decode cX8_readNumber 37 = .ok (.getfield 32, 3) := by decide +kernel
theorem dX8_readNumber_40 : decode cX8_readNumber 40 = .ok (.caload, 1) := by decide +kernel
theorem dX8_readNumber_41 : decode cX8_readNumber 41 = .ok (.bipush 48, 2) := by decide +kernel
theorem dX8_readNumber_43 : decode cX8_readNumber 43 = .ok (.isub, 1) := by decide +kernel
theorem dX8_readNumber_44 : decode cX8_readNumber 44 = .ok (.iadd, 1) := by decide +kernel
theorem dX8_readNumber_45 : decode cX8_readNumber 45 = .ok (.istore_n 1, 1) := by decide +kernel
theorem dX8_readNumber_46 : decode cX8_readNumber 46 = .ok (.aload_n 0, 1) := by decide +kernel
theorem dX8_readNumber_47 : decode cX8_readNumber 47 = .ok (.dup, 1) := by decide +kernel
theorem dX8_readNumber_48 : decode cX8_readNumber 48 = .ok (.getfield 32, 3) := by decide +kernel
theorem dX8_readNumber_51 : decode cX8_readNumber 51 = .ok (.iconst 1, 1) := by decide +kernel
theorem dX8_readNumber_52 : decode cX8_readNumber 52 = .ok (.iadd, 1) := by decide +kernel
theorem dX8_readNumber_53 : decode cX8_readNumber 53 = .ok (.putfield 32, 3) := by decide +kernel
theorem dX8_readNumber_56 : decode cX8_readNumber 56 = .ok (.goto (-54), 3) := by decide +kernel
theorem dX8_readNumber_59 : decode cX8_readNumber 59 = .ok (.aload_n 0, 1) := by decide +kernel
theorem dX8_readNumber_60 : decode cX8_readNumber 60 = .ok (.getfield 32, 3) := by decide +kernel
theorem dX8_readNumber_63 : decode cX8_readNumber 63 = .ok (.aload_n 0, 1) := by decide +kernel
theorem dX8_readNumber_64 : decode cX8_readNumber 64 = .ok (.getfield 47, 3) := by decide +kernel
theorem dX8_readNumber_67 : decode cX8_readNumber 67 = .ok (.isub, 1) := by decide +kernel
theorem dX8_readNumber_68 : decode cX8_readNumber 68 = .ok (.iconst 4, 1) := by decide +kernel
theorem dX8_readNumber_69 : decode cX8_readNumber 69 = .ok (.if_icmp .gt 8, 3) := by decide +kernel
theorem dX8_readNumber_72 : decode cX8_readNumber 72 = .ok (.aload_n 0, 1) := by decide +kernel
theorem dX8_readNumber_73 : decode cX8_readNumber 73 = .ok (.iload_n 1, 1) := by decide +kernel
theorem dX8_readNumber_74 : decode cX8_readNumber 74 = .ok (.putfield 41, 3) := by decide +kernel
theorem dX8_readNumber_77 : decode cX8_readNumber 77 = .ok (.return_, 1) := by decide +kernel
set_option maxHeartbeats 4000000 in
set_option maxRecDepth 100000 in
theorem B_X8_readNumber {G : zG} {X : zX} {kd : kD} {N0 : Nat} (C : zCt G X 1 0 0 RX8 cX8_readNumber 2) (hr : (zXh X).sig.returnType = none) : ∀ f : Nat,
    (∀ (S : aS) (v0 : Nat) (res : Option Value × aS), zT0 kd N0 S → v0 < N0 → kd v0 = .inl 7 → F_X8_readNumber f 0 [.ref v0] S = some res → zV G X (zQX G X (zPo G kd N0 res) 0 0) 2 [some (.ref (zB G + v0)), none] [] (cn G kd N0 S) 0 0 0) ∧
    (∀ (S : aS) (v0 : Nat) (v1 : Int32) (res : Option Value × aS), zT0 kd N0 S → v0 < N0 → kd v0 = .inl 7 → F_X8_readNumber f 1 [.ref v0, .int v1] S = some res → zV G X (zQX G X (zPo G kd N0 res) 0 0) 2 [some (.ref (zB G + v0)), some (.int v1)] [] (cn G kd N0 S) 2 0 0) ∧
    (∀ (S : aS) (v0 : Nat) (v1 : Int32) (res : Option Value × aS), zT0 kd N0 S → v0 < N0 → kd v0 = .inl 7 → F_X8_readNumber f 2 [.ref v0, .int v1] S = some res → zV G X (zQX G X (zPo G kd N0 res) 0 0) 2 [some (.ref (zB G + v0)), some (.int v1)] [] (cn G kd N0 S) 59 0 0) ∧
    (∀ (S : aS)  (res : Option Value × aS), zT0 kd N0 S → F_X8_readNumber f 3 [] S = some res → zV G X (zQX G X (zPo G kd N0 res) 0 0) 2 [none, none] [] (cn G kd N0 S) 77 0 0) := by
  intro f
  induction f with
  | zero => exact ⟨(fun _ _ _ _ _ _ h => by cases h), (fun _ _ _ _ _ _ _ h => by cases h), (fun _ _ _ _ _ _ _ h => by cases h), (fun _ _ _ h => by cases h)⟩
  | succ f ih =>
    obtain ⟨ih0, ih1, ih2, ih3⟩ := ih
    refine ⟨?_, ?_, ?_, ?_⟩
    · intro S v0 res hT hpv0 hkv0 hF
      replace hF : F_X8_readNumber_0 f (F_X8_readNumber f) v0 S = some res := hF
      unfold F_X8_readNumber_0 at hF
      refine z_iconst (v := 0) C dX8_readNumber_0 (by decide) ?_
      refine z_istore_n (lv2 := [some (.ref (zB G + v0)), some (.int 0)]) C dX8_readNumber_1 (by decide) rfl ?_
      exact ih1 S v0 0 res hT hpv0 hkv0  hF
    · intro S v0 v1 res hT hpv0 hkv0 hF
      replace hF : F_X8_readNumber_1 f (F_X8_readNumber f) v0 v1 S = some res := hF
      unfold F_X8_readNumber_1 at hF
      refine z_aload_n C dX8_readNumber_2 rfl ?_
      refine f_geti C dX8_readNumber_3 zfRX8_32 hpv0 hkv0 rfl ?_
      refine z_aload_n C dX8_readNumber_6 rfl ?_
      refine f_geti C dX8_readNumber_7 zfRX8_24 hpv0 hkv0 rfl ?_
      refine z_icmp_ge C 59 dX8_readNumber_10 (by decide) (fun c3 => ?_) (fun c3 => ?_)
      · replace hF := ip hF c3
        exact ih2 S v0 v1 res hT hpv0 hkv0  hF
      · replace hF := im hF c3
        refine z_aload_n C dX8_readNumber_13 rfl ?_
        refine f_getr C dX8_readNumber_14 zfRX8_11 hpv0 hkv0 rfl ?_
        obtain ⟨hp4, hk4⟩ := hT.1 v0 7 0 (.inr (2, 1000)) hpv0 hkv0 rfl
        refine z_aload_n C dX8_readNumber_17 rfl ?_
        refine f_geti C dX8_readNumber_18 zfRX8_32 hpv0 hkv0 rfl ?_
        obtain ⟨hi5, hF⟩ := bX_some hF
        obtain ⟨q5, eq5⟩ : ∃ q : Nat, q = Int32.toNatClampNeg (gI S v0 3) := ⟨_, rfl⟩
        rw [← eq5] at hF
        refine f_cald C dX8_readNumber_21 hp4 hk4 hi5 ?_
        rw [← eq5]
        obtain ⟨x6, S6, h6, hF⟩ := bI_some hF
        refine f_cS (st2 := [.int x6]) C dX8_readNumber_22 zyX8_isDigit zsX8_isDigit lkRX8_61 (K_X8_isDigit (l := zXl X) hT  h6) (by decide) rfl rfl (Nat.le_of_ble_eq_true rfl) rfl (fun hT6 => ?_)
        refine z_if_eq C 59 dX8_readNumber_25 (by decide) (fun c9 => ?_) (fun c9 => ?_)
        · replace hF := ip hF c9
          exact ih2 S6 v0 v1 res hT6 hpv0 hkv0  hF
        · replace hF := im hF c9
          refine z_iload_n C dX8_readNumber_28 rfl ?_
          refine z_bipush (v := 10) C dX8_readNumber_29 (by decide) ?_
          refine z_imul C dX8_readNumber_31 ?_
          refine z_aload_n C dX8_readNumber_32 rfl ?_
          refine f_getr C dX8_readNumber_33 zfRX8_11 hpv0 hkv0 rfl ?_
          obtain ⟨hp10, hk10⟩ := hT6.1 v0 7 0 (.inr (2, 1000)) hpv0 hkv0 rfl
          refine z_aload_n C dX8_readNumber_36 rfl ?_
          refine f_geti C dX8_readNumber_37 zfRX8_32 hpv0 hkv0 rfl ?_
          obtain ⟨hi11, hF⟩ := bX_some hF
          obtain ⟨q11, eq11⟩ : ∃ q : Nat, q = Int32.toNatClampNeg (gI S6 v0 3) := ⟨_, rfl⟩
          rw [← eq11] at hF
          refine f_cald C dX8_readNumber_40 hp10 hk10 hi11 ?_
          rw [← eq11]
          refine z_bipush (v := 48) C dX8_readNumber_41 (by decide) ?_
          refine z_isub C dX8_readNumber_43 ?_
          refine z_iadd C dX8_readNumber_44 ?_
          replace hF := lI_e hF
          generalize ((v1 * (10 : Int32)) + ((gI S6 (gR S6 v0 0) q11) - (48 : Int32))) = y12 at hF ⊢
          refine z_istore_n (lv2 := [some (.ref (zB G + v0)), some (.int y12)]) C dX8_readNumber_45 (by decide) rfl ?_
          refine z_aload_n C dX8_readNumber_46 rfl ?_
          refine z_dup C dX8_readNumber_47 rfl ?_
          refine f_geti C dX8_readNumber_48 zfRX8_32 hpv0 hkv0 rfl ?_
          refine z_iconst (v := 1) C dX8_readNumber_51 (by decide) ?_
          refine z_iadd C dX8_readNumber_52 ?_
          refine f_puti C dX8_readNumber_53 zfRX8_32 fw7_3 hpv0 hkv0 rfl rfl rfl ?_
          have hT13 : zT0 kd N0 (sI S6 v0 3 ((gI S6 v0 3) + (1 : Int32))) := zT0_sI hT6
          replace hF := fS_e hF
          generalize sI S6 v0 3 ((gI S6 v0 3) + (1 : Int32)) = S13 at hF hT13 ⊢
          refine z_goto C 2 dX8_readNumber_56 (by decide) ?_
          exact ih1 S13 v0 y12 res hT13 hpv0 hkv0  hF
    · intro S v0 v1 res hT hpv0 hkv0 hF
      replace hF : F_X8_readNumber_2 f (F_X8_readNumber f) v0 v1 S = some res := hF
      unfold F_X8_readNumber_2 at hF
      refine z_aload_n C dX8_readNumber_59 rfl ?_
      refine f_geti C dX8_readNumber_60 zfRX8_32 hpv0 hkv0 rfl ?_
      refine z_aload_n C dX8_readNumber_63 rfl ?_
      refine f_geti C dX8_readNumber_64 zfRX8_47 hpv0 hkv0 rfl ?_
      refine z_isub C dX8_readNumber_67 ?_
      refine z_iconst (v := 4) C dX8_readNumber_68 (by decide) ?_
      refine z_icmp_gt C 77 dX8_readNumber_69 (by decide) (fun c15 => ?_) (fun c15 => ?_)
      · replace hF := ip hF c15
        refine z_mask [false, false] ?_ rfl
        exact ih3 S  res hT  hF
      · replace hF := im hF c15
        refine z_aload_n C dX8_readNumber_72 rfl ?_
        refine z_iload_n C dX8_readNumber_73 rfl ?_
        refine f_puti C dX8_readNumber_74 zfRX8_41 fw7_8 hpv0 hkv0 rfl rfl rfl ?_
        have hT16 : zT0 kd N0 (sI S v0 8 v1) := zT0_sI hT
        replace hF := fS_e hF
        generalize sI S v0 8 v1 = S16 at hF hT16 ⊢
        refine z_mask [false, false] ?_ rfl
        exact ih3 S16  res hT16  hF
    · intro S  res hT  hF
      replace hF : F_X8_readNumber_3 f (F_X8_readNumber f)  S = some res := hF
      unfold F_X8_readNumber_3 at hF
      cases hF
      exact z_vret C hr dX8_readNumber_77 ⟨rfl, rfl, hT⟩
theorem K_X8_readNumber {G : zG} {l : Launch} {kd : kD} {N0 f : Nat} {S : aS} {v0 : Nat} {res : Option Value × aS} (hT : zT0 kd N0 S) (hpv0 : v0 < N0) (hkv0 : kd v0 = .inl 7) (hF : F_X8_readNumber f 0 [.ref v0] S = some res) : zM G l 1 0 0 yX8_readNumber cX8_readNumber 2 none [.ref (zB G + v0)] (cn G kd N0 S) (zPo G kd N0 res) := zM.of (by decide) rfl (Nat.le_of_ble_eq_true rfl) (fun X _ C hr _ => (B_X8_readNumber C hr f).1 S v0 res hT hpv0 hkv0 hF)
def F_X8_isNumberWithin_0 (f : Nat) (rc : Nat → List Value → aS → aR) (v0 : Nat) (v1 : Int32) (v2 : Int32) (S : aS) : aR :=
  if (gI S v0 8) = (-1 : Int32) then bI (F_X8_fail f 0 [.ref v0, .int 1] S) fun x8 S8 => bZ x8 (some (some (.int x8), S8)) else bI (F_X12_isWithin f 0 [.int (gI S v0 8), .int v1, .int v2] S) fun x2 S2 => if x2 = (0 : Int32) then bI (F_X8_fail f 0 [.ref v0, .int 4] S2) fun x5 S5 => bZ (if x5 = (0 : Int32) then (0 : Int32) else (1 : Int32)) (some (some (.int (if x5 = (0 : Int32) then (0 : Int32) else (1 : Int32))), S5)) else rc 1 [] S2
def F_X8_isNumberWithin_1 (f : Nat) (rc : Nat → List Value → aS → aR)  (S : aS) : aR :=
  rc 2 [.int 1] S
def F_X8_isNumberWithin_2 (f : Nat) (rc : Nat → List Value → aS → aR) (w0 : Int32) (S : aS) : aR :=
  bZ w0 (some (some (.int w0), S))
def F_X8_isNumberWithin : Nat → Nat → List Value → aS → aR
  | 0, _, _, _ => none
  | f + 1, 0, vs, S => F_X8_isNumberWithin_0 f (F_X8_isNumberWithin f) (vR vs 0) (vI vs 1) (vI vs 2) S
  | f + 1, 1, vs, S => F_X8_isNumberWithin_1 f (F_X8_isNumberWithin f)  S
  | f + 1, 2, vs, S => F_X8_isNumberWithin_2 f (F_X8_isNumberWithin f) (vI vs 0) S
  | _ + 1, _, _, _ => none
theorem dX8_isNumberWithin_0 : decode cX8_isNumberWithin 0 = .ok (.aload_n 0, 1) := by decide +kernel
theorem dX8_isNumberWithin_1 : decode cX8_isNumberWithin 1 = .ok (.getfield 41, 3) := by decide +kernel
theorem dX8_isNumberWithin_4 : decode cX8_isNumberWithin 4 = .ok (.iconst (-1), 1) := by decide +kernel
theorem dX8_isNumberWithin_5 : decode cX8_isNumberWithin 5 = .ok (.if_icmp .ne 9, 3) := by decide +kernel
theorem dX8_isNumberWithin_8 : decode cX8_isNumberWithin 8 = .ok (.aload_n 0, 1) := by decide +kernel
theorem dX8_isNumberWithin_9 : decode cX8_isNumberWithin 9 = .ok (.iconst 1, 1) := by decide +kernel
theorem dX8_isNumberWithin_10 : decode cX8_isNumberWithin 10 = .ok (.invokevirtual 79, 3) := by decide +kernel
theorem dX8_isNumberWithin_13 : decode cX8_isNumberWithin 13 = .ok (.ireturn, 1) := by decide +kernel
theorem dX8_isNumberWithin_14 : decode cX8_isNumberWithin 14 = .ok (.aload_n 0, 1) := by decide +kernel
theorem dX8_isNumberWithin_15 : decode cX8_isNumberWithin 15 = .ok (.getfield 41, 3) := by decide +kernel
theorem dX8_isNumberWithin_18 : decode cX8_isNumberWithin 18 = .ok (.iload_n 1, 1) := by decide +kernel
theorem dX8_isNumberWithin_19 : decode cX8_isNumberWithin 19 = .ok (.iload_n 2, 1) := by decide +kernel
theorem dX8_isNumberWithin_20 : decode cX8_isNumberWithin 20 = .ok (.invokestatic 28, 3) := by decide +kernel
theorem dX8_isNumberWithin_23 : decode cX8_isNumberWithin 23 = .ok (.ifCond .ne 11, 3) := by decide +kernel
theorem dX8_isNumberWithin_26 : decode cX8_isNumberWithin 26 = .ok (.aload_n 0, 1) := by decide +kernel
theorem dX8_isNumberWithin_27 : decode cX8_isNumberWithin 27 = .ok (.iconst 4, 1) := by decide +kernel
theorem dX8_isNumberWithin_28 : decode cX8_isNumberWithin 28 = .ok (.invokevirtual 79, 3) := by decide +kernel
theorem dX8_isNumberWithin_31 : decode cX8_isNumberWithin 31 = .ok (.ifCond .eq 7, 3) := by decide +kernel
theorem dX8_isNumberWithin_34 : decode cX8_isNumberWithin 34 = .ok (.iconst 1, 1) := by decide +kernel
theorem dX8_isNumberWithin_35 : decode cX8_isNumberWithin 35 = .ok (.goto 4, 3) := by decide +kernel
theorem dX8_isNumberWithin_38 : decode cX8_isNumberWithin 38 = .ok (.iconst 0, 1) := by decide +kernel
theorem dX8_isNumberWithin_39 : decode cX8_isNumberWithin 39 = .ok (.ireturn, 1) := by decide +kernel
set_option maxHeartbeats 4000000 in
set_option maxRecDepth 100000 in
theorem B_X8_isNumberWithin {G : zG} {X : zX} {kd : kD} {N0 : Nat} (C : zCt G X 1 0 0 RX8 cX8_isNumberWithin 3) (hr : (zXh X).sig.returnType = (some .boolean)) : ∀ f : Nat,
    (∀ (S : aS) (v0 : Nat) (v1 : Int32) (v2 : Int32) (res : Option Value × aS), zT0 kd N0 S → v0 < N0 → kd v0 = .inl 7 → F_X8_isNumberWithin f 0 [.ref v0, .int v1, .int v2] S = some res → zV G X (zQX G X (zPo G kd N0 res) 0 0) 3 [some (.ref (zB G + v0)), some (.int v1), some (.int v2)] [] (cn G kd N0 S) 0 0 0) ∧
    (∀ (S : aS)  (res : Option Value × aS), zT0 kd N0 S → F_X8_isNumberWithin f 1 [] S = some res → zV G X (zQX G X (zPo G kd N0 res) 0 0) 3 [none, none, none] [] (cn G kd N0 S) 34 0 0) ∧
    (∀ (S : aS) (w0 : Int32) (res : Option Value × aS), zT0 kd N0 S → F_X8_isNumberWithin f 2 [.int w0] S = some res → zV G X (zQX G X (zPo G kd N0 res) 0 0) 3 [none, none, none] [.int w0] (cn G kd N0 S) 39 0 0) := by
  intro f
  induction f with
  | zero => exact ⟨(fun _ _ _ _ _ _ _ _ h => by cases h), (fun _ _ _ h => by cases h), (fun _ _ _ _ h => by cases h)⟩
  | succ f ih =>
    obtain ⟨ih0, ih1, ih2⟩ := ih
    refine ⟨?_, ?_, ?_⟩
    · intro S v0 v1 v2 res hT hpv0 hkv0 hF
      replace hF : F_X8_isNumberWithin_0 f (F_X8_isNumberWithin f) v0 v1 v2 S = some res := hF
      unfold F_X8_isNumberWithin_0 at hF
      refine z_aload_n C dX8_isNumberWithin_0 rfl ?_
      refine f_geti C dX8_isNumberWithin_1 zfRX8_41 hpv0 hkv0 rfl ?_
      refine z_iconst (v := (-1)) C dX8_isNumberWithin_4 (by decide) ?_
      refine z_icmp_ne C 14 dX8_isNumberWithin_5 (by decide) (fun c1 => ?_) (fun c1 => ?_)
      · replace hF := im hF c1
        refine z_aload_n C dX8_isNumberWithin_14 rfl ?_
        refine f_geti C dX8_isNumberWithin_15 zfRX8_41 hpv0 hkv0 rfl ?_
        refine z_iload_n C dX8_isNumberWithin_18 rfl ?_
        refine z_iload_n C dX8_isNumberWithin_19 rfl ?_
        obtain ⟨x2, S2, h2, hF⟩ := bI_some hF
        refine f_cSN (st2 := [.int x2]) C dX8_isNumberWithin_20 zyX12_isWithin zsX12_isWithin lkRX8_28 (K_X12_isWithin (l := zXl X) hT    h2) (by decide) rfl rfl (Nat.le_of_ble_eq_true rfl) rfl (fun hT2 => ?_)
        refine z_if_ne C 34 dX8_isNumberWithin_23 (by decide) (fun c4 => ?_) (fun c4 => ?_)
        · replace hF := im hF c4
          refine z_mask [false, false, false] ?_ rfl
          exact ih1 S2  res hT2  hF
        · replace hF := ip hF c4
          refine z_aload_n C dX8_isNumberWithin_26 rfl ?_
          refine z_iconst (v := 4) C dX8_isNumberWithin_27 (by decide) ?_
          obtain ⟨x5, S5, h5, hF⟩ := bI_some hF
          refine f_cV (st2 := [.int x5]) C dX8_isNumberWithin_28 zyX8_fail zvX8_fail lkRX8_79 (K_X8_fail (l := zXl X) hT2 hpv0 hkv0  h5) hpv0 hkv0 rfl (by decide) rfl rfl (Nat.le_of_ble_eq_true rfl) rfl (fun hT5 => ?_)
          have hJ7 : zV G X (zQX G X (zPo G kd N0 res) 0 0) 3 [some (.ref (zB G + v0)), some (.int v1), some (.int v2)] [.int (if x5 = (0 : Int32) then (0 : Int32) else (1 : Int32))] (cn G kd N0 S5) 39 0 0 := by
            obtain ⟨hz, hF⟩ := bZ_some hF
            cases hF
            exact z_zret C hr hz.1 dX8_isNumberWithin_39 ⟨rfl, rfl, hT5⟩
          refine z_if_eq C 38 dX8_isNumberWithin_31 (by decide) (fun c6 => ?_) (fun c6 => ?_)
          · refine z_iconst (v := 0) C dX8_isNumberWithin_38 (by decide) ?_
            exact zV.at hJ7 (by first | rfl | contradiction | (simp only [if_pos c6]; done)) (by first | rfl | contradiction | (simp only [if_pos c6]; done)) rfl rfl
          · refine z_iconst (v := 1) C dX8_isNumberWithin_34 (by decide) ?_
            refine z_goto C 39 dX8_isNumberWithin_35 (by decide) ?_
            exact zV.at hJ7 (by first | rfl | contradiction | (simp only [if_neg c6]; done)) (by first | rfl | contradiction | (simp only [if_neg c6]; done)) rfl rfl
      · replace hF := ip hF c1
        refine z_aload_n C dX8_isNumberWithin_8 rfl ?_
        refine z_iconst (v := 1) C dX8_isNumberWithin_9 (by decide) ?_
        obtain ⟨x8, S8, h8, hF⟩ := bI_some hF
        refine f_cV (st2 := [.int x8]) C dX8_isNumberWithin_10 zyX8_fail zvX8_fail lkRX8_79 (K_X8_fail (l := zXl X) hT hpv0 hkv0  h8) hpv0 hkv0 rfl (by decide) rfl rfl (Nat.le_of_ble_eq_true rfl) rfl (fun hT8 => ?_)
        obtain ⟨hz, hF⟩ := bZ_some hF
        cases hF
        exact z_zret C hr hz.1 dX8_isNumberWithin_13 ⟨rfl, rfl, hT8⟩
    · intro S  res hT  hF
      replace hF : F_X8_isNumberWithin_1 f (F_X8_isNumberWithin f)  S = some res := hF
      unfold F_X8_isNumberWithin_1 at hF
      refine z_iconst (v := 1) C dX8_isNumberWithin_34 (by decide) ?_
      refine z_goto C 39 dX8_isNumberWithin_35 (by decide) ?_
      exact ih2 S 1 res hT  hF
    · intro S w0 res hT  hF
      replace hF : F_X8_isNumberWithin_2 f (F_X8_isNumberWithin f) w0 S = some res := hF
      unfold F_X8_isNumberWithin_2 at hF
      obtain ⟨hz, hF⟩ := bZ_some hF
      cases hF
      exact z_zret C hr hz.1 dX8_isNumberWithin_39 ⟨rfl, rfl, hT⟩
theorem K_X8_isNumberWithin {G : zG} {l : Launch} {kd : kD} {N0 f : Nat} {S : aS} {v0 : Nat} {v1 : Int32} {v2 : Int32} {res : Option Value × aS} (hT : zT0 kd N0 S) (hpv0 : v0 < N0) (hkv0 : kd v0 = .inl 7) (hF : F_X8_isNumberWithin f 0 [.ref v0, .int v1, .int v2] S = some res) : zM G l 1 0 0 yX8_isNumberWithin cX8_isNumberWithin 3 (some .boolean) [.ref (zB G + v0), .int v1, .int v2] (cn G kd N0 S) (zPo G kd N0 res) := zM.of (by decide) rfl (Nat.le_of_ble_eq_true rfl) (fun X _ C hr _ => (B_X8_isNumberWithin C hr f).1 S v0 v1 v2 res hT hpv0 hkv0 hF)
def F_X9_leastHeapThatDraws_0 (f : Nat) (rc : Nat → List Value → aS → aR) (v0 : Nat) (v1 : Int32) (v2 : Int32) (S : aS) : aR :=
  bI (F_X6_takenBy f 0 [.ref (gR S v0 3), .int v1, .ref (gR S v0 0)] S) fun x3 S3 => bI (F_X4_nearOf f 0 [.ref (gR S3 v0 0), .int v2] S3) fun x5 S5 => rc 1 [.ref v0, .int v1, .int x3, .int x5, .int 0] S5
def F_X9_leastHeapThatDraws_1 (f : Nat) (rc : Nat → List Value → aS → aR) (v0 : Nat) (v1 : Int32) (v2 : Int32) (v3 : Int32) (v4 : Int32) (S : aS) : aR :=
  if (99 : Int32) < v4 then some (some (.int ((-1))), S) else bI (F_X6_droppedBy f 0 [.ref (gR S v0 3), .int v1, .int v4, .int v3, .int v2] S) fun x8 S8 => if x8 ≤ (0 : Int32) then rc 1 [.ref v0, .int v1, .int v2, .int v3, .int (v4 + 1)] S8 else some (some (.int v4), S8)
def F_X9_leastHeapThatDraws : Nat → Nat → List Value → aS → aR
  | 0, _, _, _ => none
  | f + 1, 0, vs, S => F_X9_leastHeapThatDraws_0 f (F_X9_leastHeapThatDraws f) (vR vs 0) (vI vs 1) (vI vs 2) S
  | f + 1, 1, vs, S => F_X9_leastHeapThatDraws_1 f (F_X9_leastHeapThatDraws f) (vR vs 0) (vI vs 1) (vI vs 2) (vI vs 3) (vI vs 4) S
  | _ + 1, _, _, _ => none
theorem dX9_leastHeapThatDraws_0 : decode cX9_leastHeapThatDraws 0 = .ok (.aload_n 0, 1) := by decide +kernel
theorem dX9_leastHeapThatDraws_1 : decode cX9_leastHeapThatDraws 1 = .ok (.getfield 28, 3) := by decide +kernel
theorem dX9_leastHeapThatDraws_4 : decode cX9_leastHeapThatDraws 4 = .ok (.iload_n 1, 1) := by decide +kernel
theorem dX9_leastHeapThatDraws_5 : decode cX9_leastHeapThatDraws 5 = .ok (.aload_n 0, 1) := by decide +kernel
theorem dX9_leastHeapThatDraws_6 : decode cX9_leastHeapThatDraws 6 = .ok (.getfield 25, 3) := by decide +kernel
theorem dX9_leastHeapThatDraws_9 : decode cX9_leastHeapThatDraws 9 = .ok (.invokevirtual 78, 3) := by decide +kernel
theorem dX9_leastHeapThatDraws_12 : decode cX9_leastHeapThatDraws 12 = .ok (.istore_n 3, 1) := by decide +kernel
theorem dX9_leastHeapThatDraws_13 : decode cX9_leastHeapThatDraws 13 = .ok (.aload_n 0, 1) := by decide +kernel
theorem dX9_leastHeapThatDraws_14 : decode cX9_leastHeapThatDraws 14 = .ok (.getfield 25, 3) := by decide +kernel
theorem dX9_leastHeapThatDraws_17 : decode cX9_leastHeapThatDraws 17 = .ok (.iload_n 2, 1) := by decide +kernel
theorem dX9_leastHeapThatDraws_18 : decode cX9_leastHeapThatDraws 18 = .ok (.invokevirtual 81, 3) := by decide +kernel
theorem dX9_leastHeapThatDraws_21 : decode cX9_leastHeapThatDraws 21 = .ok (.istore 4, 2) := by decide +kernel
theorem dX9_leastHeapThatDraws_23 : decode cX9_leastHeapThatDraws 23 = .ok (.iconst 0, 1) := by decide +kernel
theorem dX9_leastHeapThatDraws_24 : decode cX9_leastHeapThatDraws 24 = .ok (.istore 5, 2) := by decide +kernel
theorem dX9_leastHeapThatDraws_26 : decode cX9_leastHeapThatDraws 26 = .ok (.iload 5, 2) := by decide +kernel
theorem dX9_leastHeapThatDraws_28 : decode cX9_leastHeapThatDraws 28 = .ok (.bipush 99, 2) := by decide +kernel
theorem dX9_leastHeapThatDraws_30 : decode cX9_leastHeapThatDraws 30 = .ok (.if_icmp .gt 28, 3) := by decide +kernel
theorem dX9_leastHeapThatDraws_33 : decode cX9_leastHeapThatDraws 33 = .ok (.aload_n 0, 1) := by decide +kernel
theorem dX9_leastHeapThatDraws_34 : decode cX9_leastHeapThatDraws 34 = .ok (.getfield 28, 3) := by decide +kernel
theorem dX9_leastHeapThatDraws_37 : decode cX9_leastHeapThatDraws 37 = .ok (.iload_n 1, 1) := by decide +kernel
theorem dX9_leastHeapThatDraws_38 : decode cX9_leastHeapThatDraws 38 = .ok (.iload 5, 2) := by decide +kernel
theorem dX9_leastHeapThatDraws_40 : decode cX9_leastHeapThatDraws 40 = .ok (.iload 4, 2) := by decide +kernel
theorem dX9_leastHeapThatDraws_42 : decode cX9_leastHeapThatDraws 42 = .ok (.iload_n 3, 1) := by decide +kernel
theorem dX9_leastHeapThatDraws_43 : decode cX9_leastHeapThatDraws 43 = .ok (.invokevirtual 85, 3) := by decide +kernel
theorem dX9_leastHeapThatDraws_46 : decode cX9_leastHeapThatDraws 46 = .ok (.ifCond .le 6, 3) := by decide +kernel
theorem dX9_leastHeapThatDraws_49 : decode cX9_leastHeapThatDraws 49 = .ok (.iload 5, 2) := by decide +kernel
theorem dX9_leastHeapThatDraws_51 : decode cX9_leastHeapThatDraws 51 = .ok (.ireturn, 1) := by decide +kernel
theorem dX9_leastHeapThatDraws_52 : decode cX9_leastHeapThatDraws 52 = .ok (.iinc 5 1, 3) := by decide +kernel
theorem dX9_leastHeapThatDraws_55 : decode cX9_leastHeapThatDraws 55 = .ok (.goto (-29), 3) := by decide +kernel
theorem dX9_leastHeapThatDraws_58 : decode cX9_leastHeapThatDraws 58 = .ok (.iconst (-1), 1) := by decide +kernel
theorem dX9_leastHeapThatDraws_59 : decode cX9_leastHeapThatDraws 59 = .ok (.ireturn, 1) := by decide +kernel
set_option maxHeartbeats 4000000 in
set_option maxRecDepth 100000 in
theorem B_X9_leastHeapThatDraws {G : zG} {X : zX} {kd : kD} {N0 : Nat} (C : zCt G X 3 0 0 RX9 cX9_leastHeapThatDraws 6) (hr : (zXh X).sig.returnType = (some .int)) : ∀ f : Nat,
    (∀ (S : aS) (v0 : Nat) (v1 : Int32) (v2 : Int32) (res : Option Value × aS), zT0 kd N0 S → v0 < N0 → kd v0 = .inl 8 → F_X9_leastHeapThatDraws f 0 [.ref v0, .int v1, .int v2] S = some res → zV G X (zQX G X (zPo G kd N0 res) 0 0) 6 [some (.ref (zB G + v0)), some (.int v1), some (.int v2), none, none, none] [] (cn G kd N0 S) 0 0 0) ∧
    (∀ (S : aS) (v0 : Nat) (v1 : Int32) (v2 : Int32) (v3 : Int32) (v4 : Int32) (res : Option Value × aS), zT0 kd N0 S → v0 < N0 → kd v0 = .inl 8 → F_X9_leastHeapThatDraws f 1 [.ref v0, .int v1, .int v2, .int v3, .int v4] S = some res → zV G X (zQX G X (zPo G kd N0 res) 0 0) 6 [some (.ref (zB G + v0)), some (.int v1), none, some (.int v2), some (.int v3), some (.int v4)] [] (cn G kd N0 S) 26 0 0) := by
  intro f
  induction f with
  | zero => exact ⟨(fun _ _ _ _ _ _ _ _ h => by cases h), (fun _ _ _ _ _ _ _ _ _ _ h => by cases h)⟩
  | succ f ih =>
    obtain ⟨ih0, ih1⟩ := ih
    refine ⟨?_, ?_⟩
    · intro S v0 v1 v2 res hT hpv0 hkv0 hF
      replace hF : F_X9_leastHeapThatDraws_0 f (F_X9_leastHeapThatDraws f) v0 v1 v2 S = some res := hF
      unfold F_X9_leastHeapThatDraws_0 at hF
      refine z_aload_n C dX9_leastHeapThatDraws_0 rfl ?_
      refine f_getr C dX9_leastHeapThatDraws_1 zfRX9_28 hpv0 hkv0 rfl ?_
      obtain ⟨hp1, hk1⟩ := hT.1 v0 8 3 (.inl 5) hpv0 hkv0 rfl
      refine z_iload_n C dX9_leastHeapThatDraws_4 rfl ?_
      refine z_aload_n C dX9_leastHeapThatDraws_5 rfl ?_
      refine f_getr C dX9_leastHeapThatDraws_6 zfRX9_25 hpv0 hkv0 rfl ?_
      obtain ⟨hp2, hk2⟩ := hT.1 v0 8 0 (.inl 3) hpv0 hkv0 rfl
      obtain ⟨x3, S3, h3, hF⟩ := bI_some hF
      refine f_cV (st2 := [.int x3]) C dX9_leastHeapThatDraws_9 zyX6_takenBy zvX6_takenBy lkRX9_78 (K_X6_takenBy (l := zXl X) hT hp1 hk1  hp2 hk2 h3) hp1 hk1 rfl (by decide) rfl rfl (Nat.le_of_ble_eq_true rfl) rfl (fun hT3 => ?_)
      refine z_istore_n (lv2 := [some (.ref (zB G + v0)), some (.int v1), some (.int v2), some (.int x3), none, none]) C dX9_leastHeapThatDraws_12 (by decide) rfl ?_
      refine z_aload_n C dX9_leastHeapThatDraws_13 rfl ?_
      refine f_getr C dX9_leastHeapThatDraws_14 zfRX9_25 hpv0 hkv0 rfl ?_
      obtain ⟨hp4, hk4⟩ := hT3.1 v0 8 0 (.inl 3) hpv0 hkv0 rfl
      refine z_iload_n C dX9_leastHeapThatDraws_17 rfl ?_
      obtain ⟨x5, S5, h5, hF⟩ := bI_some hF
      refine f_cV (st2 := [.int x5]) C dX9_leastHeapThatDraws_18 zyX4_nearOf zvX4_nearOf lkRX9_81 (K_X4_nearOf (l := zXl X) hT3 hp4 hk4  h5) hp4 hk4 rfl (by decide) rfl rfl (Nat.le_of_ble_eq_true rfl) rfl (fun hT5 => ?_)
      refine z_istore (lv2 := [some (.ref (zB G + v0)), some (.int v1), some (.int v2), some (.int x3), some (.int x5), none]) C dX9_leastHeapThatDraws_21 (by decide) rfl ?_
      refine z_iconst (v := 0) C dX9_leastHeapThatDraws_23 (by decide) ?_
      refine z_istore (lv2 := [some (.ref (zB G + v0)), some (.int v1), some (.int v2), some (.int x3), some (.int x5), some (.int 0)]) C dX9_leastHeapThatDraws_24 (by decide) rfl ?_
      refine z_mask [true, true, false, true, true, true] ?_ rfl
      exact ih1 S5 v0 v1 x3 x5 0 res hT5 hpv0 hkv0     hF
    · intro S v0 v1 v2 v3 v4 res hT hpv0 hkv0 hF
      replace hF : F_X9_leastHeapThatDraws_1 f (F_X9_leastHeapThatDraws f) v0 v1 v2 v3 v4 S = some res := hF
      unfold F_X9_leastHeapThatDraws_1 at hF
      refine z_iload C dX9_leastHeapThatDraws_26 rfl ?_
      refine z_bipush (v := 99) C dX9_leastHeapThatDraws_28 (by decide) ?_
      refine z_icmp_gt C 58 dX9_leastHeapThatDraws_30 (by decide) (fun c6 => ?_) (fun c6 => ?_)
      · replace hF := ip hF c6
        refine z_iconst (v := (-1)) C dX9_leastHeapThatDraws_58 (by decide) ?_
        cases hF
        exact z_iret C hr dX9_leastHeapThatDraws_59 ⟨rfl, rfl, hT⟩
      · replace hF := im hF c6
        refine z_aload_n C dX9_leastHeapThatDraws_33 rfl ?_
        refine f_getr C dX9_leastHeapThatDraws_34 zfRX9_28 hpv0 hkv0 rfl ?_
        obtain ⟨hp7, hk7⟩ := hT.1 v0 8 3 (.inl 5) hpv0 hkv0 rfl
        refine z_iload_n C dX9_leastHeapThatDraws_37 rfl ?_
        refine z_iload C dX9_leastHeapThatDraws_38 rfl ?_
        refine z_iload C dX9_leastHeapThatDraws_40 rfl ?_
        refine z_iload_n C dX9_leastHeapThatDraws_42 rfl ?_
        obtain ⟨x8, S8, h8, hF⟩ := bI_some hF
        refine f_cV (st2 := [.int x8]) C dX9_leastHeapThatDraws_43 zyX6_droppedBy zvX6_droppedBy lkRX9_85 (K_X6_droppedBy (l := zXl X) hT hp7 hk7     h8) hp7 hk7 rfl (by decide) rfl rfl (Nat.le_of_ble_eq_true rfl) rfl (fun hT8 => ?_)
        refine z_if_le C 52 dX9_leastHeapThatDraws_46 (by decide) (fun c9 => ?_) (fun c9 => ?_)
        · replace hF := ip hF c9
          refine z_iinc (v := v4 + 1) (lv2 := [some (.ref (zB G + v0)), some (.int v1), none, some (.int v2), some (.int v3), some (.int (v4 + 1))]) C dX9_leastHeapThatDraws_52 rfl (by rw [show Int32.ofInt 1 = (1 : Int32) from by decide]) rfl ?_
          refine z_goto C 26 dX9_leastHeapThatDraws_55 (by decide) ?_
          exact ih1 S8 v0 v1 v2 v3 (v4 + 1) res hT8 hpv0 hkv0     hF
        · replace hF := im hF c9
          refine z_iload C dX9_leastHeapThatDraws_49 rfl ?_
          cases hF
          exact z_iret C hr dX9_leastHeapThatDraws_51 ⟨rfl, rfl, hT8⟩
theorem K_X9_leastHeapThatDraws {G : zG} {l : Launch} {kd : kD} {N0 f : Nat} {S : aS} {v0 : Nat} {v1 : Int32} {v2 : Int32} {res : Option Value × aS} (hT : zT0 kd N0 S) (hpv0 : v0 < N0) (hkv0 : kd v0 = .inl 8) (hF : F_X9_leastHeapThatDraws f 0 [.ref v0, .int v1, .int v2] S = some res) : zM G l 3 0 0 yX9_leastHeapThatDraws cX9_leastHeapThatDraws 6 (some .int) [.ref (zB G + v0), .int v1, .int v2] (cn G kd N0 S) (zPo G kd N0 res) := zM.of (by decide) rfl (Nat.le_of_ble_eq_true rfl) (fun X _ C hr _ => (B_X9_leastHeapThatDraws C hr f).1 S v0 v1 v2 res hT hpv0 hkv0 hF)
def F_X10_go_0 (f : Nat) (rc : Nat → List Value → aS → aR) (v0 : Nat) (v1 : Nat) (v2 : Nat) (v3 : Int32) (S : aS) : aR :=
  fS (sI S v0 1 0) fun S1 => fS (sI S1 v0 2 0) fun S2 => fS (sI S2 v0 3 0) fun S3 => fS (sI S3 v0 4 0) fun S4 => bI (F_X6_takenBy f 0 [.ref v1, .int v3, .ref v2] S4) fun x5 S5 => rc 1 [.ref v0, .ref v1, .ref v2, .int v3, .int x5, .int 0] S5
def F_X10_go_1 (f : Nat) (rc : Nat → List Value → aS → aR) (v0 : Nat) (v1 : Nat) (v2 : Nat) (v3 : Int32) (v4 : Int32) (v5 : Int32) (S : aS) : aR :=
  if (gI S v2 0) ≤ v5 then fS (sI S v0 0 v4) fun S9 => fS (sI S9 v2 5 ((gI S9 v2 5) + (gI S9 v0 0))) fun S10 => fS (sI S10 v2 6 ((gI S10 v2 6) + (gI S10 v0 2))) fun S11 => some (none, S11) else bX v3 6 fun q13 => if (gI S (gR S v1 3) q13) = (3 : Int32) then bV (F_X10_pickUp f 0 [.ref v0, .ref v2, .int v5] S) fun S16 => rc 2 [.ref v0, .ref v1, .ref v2, .int v3, .int v4, .int v5] S16 else rc 2 [.ref v0, .ref v1, .ref v2, .int v3, .int v4, .int v5] S
def F_X10_go_2 (f : Nat) (rc : Nat → List Value → aS → aR) (v0 : Nat) (v1 : Nat) (v2 : Nat) (v3 : Int32) (v4 : Int32) (v5 : Int32) (S : aS) : aR :=
  bI (F_X10_putIn f 0 [.ref v0, .ref v2, .int v5, .int v4] S) fun x17 S17 => bX v5 8 fun q19 => bI (F_X4_nearOf f 0 [.ref v2, .int v5] S17) fun x20 S20 => bI (F_X6_droppedBy f 0 [.ref v1, .int v3, .int (gI S17 (gR S17 v2 1) q19), .int x20, .int (v4 - x17)] S20) fun x21 S21 => bV (F_X4_drop f 0 [.ref v2, .int v5, .int x21] S21) fun S22 => fS (sI S22 v0 3 ((gI S22 v0 3) + x21)) fun S23 => fS (sI S23 v0 4 ((gI S23 v0 4) + (if ((v4 - x17) - x21) ≤ (0 : Int32) then (0 : Int32) else (1 : Int32)))) fun S26 => rc 1 [.ref v0, .ref v1, .ref v2, .int v3, .int ((v4 - x17) - x21), .int (v5 + 1)] S26
def F_X10_go : Nat → Nat → List Value → aS → aR
  | 0, _, _, _ => none
  | f + 1, 0, vs, S => F_X10_go_0 f (F_X10_go f) (vR vs 0) (vR vs 1) (vR vs 2) (vI vs 3) S
  | f + 1, 1, vs, S => F_X10_go_1 f (F_X10_go f) (vR vs 0) (vR vs 1) (vR vs 2) (vI vs 3) (vI vs 4) (vI vs 5) S
  | f + 1, 2, vs, S => F_X10_go_2 f (F_X10_go f) (vR vs 0) (vR vs 1) (vR vs 2) (vI vs 3) (vI vs 4) (vI vs 5) S
  | _ + 1, _, _, _ => none
theorem dX10_go_0 : decode cX10_go 0 = .ok (.aload_n 0, 1) := by decide +kernel
theorem dX10_go_1 : decode cX10_go 1 = .ok (.iconst 0, 1) := by decide +kernel
theorem dX10_go_2 : decode cX10_go 2 = .ok (.putfield 7, 3) := by decide +kernel
theorem dX10_go_5 : decode cX10_go 5 = .ok (.aload_n 0, 1) := by decide +kernel
theorem dX10_go_6 : decode cX10_go 6 = .ok (.iconst 0, 1) := by decide +kernel
theorem dX10_go_7 : decode cX10_go 7 = .ok (.putfield 13, 3) := by decide +kernel
theorem dX10_go_10 : decode cX10_go 10 = .ok (.aload_n 0, 1) := by decide +kernel
theorem dX10_go_11 : decode cX10_go 11 = .ok (.iconst 0, 1) := by decide +kernel
theorem dX10_go_12 : decode cX10_go 12 = .ok (.putfield 16, 3) := by decide +kernel
theorem dX10_go_15 : decode cX10_go 15 = .ok (.aload_n 0, 1) := by decide +kernel
theorem dX10_go_16 : decode cX10_go 16 = .ok (.iconst 0, 1) := by decide +kernel
theorem dX10_go_17 : decode cX10_go 17 = .ok (.putfield 19, 3) := by decide +kernel
theorem dX10_go_20 : decode cX10_go 20 = .ok (.aload_n 1, 1) := by decide +kernel
theorem dX10_go_21 : decode cX10_go 21 = .ok (.iload_n 3, 1) := by decide +kernel
theorem dX10_go_22 : decode cX10_go 22 = .ok (.aload_n 2, 1) := by decide +kernel
theorem dX10_go_23 : decode cX10_go 23 = .ok (.invokevirtual 22, 3) := by decide +kernel
theorem dX10_go_26 : decode cX10_go 26 = .ok (.istore 4, 2) := by decide +kernel
theorem dX10_go_28 : decode cX10_go 28 = .ok (.iconst 0, 1) := by decide +kernel
theorem dX10_go_29 : decode cX10_go 29 = .ok (.istore 5, 2) := by decide +kernel
theorem dX10_go_31 : decode cX10_go 31 = .ok (.iload 5, 2) := by decide +kernel
theorem dX10_go_33 : decode cX10_go 33 = .ok (.aload_n 2, 1) := by decide +kernel
theorem dX10_go_34 : decode cX10_go 34 = .ok (.getfield 28, 3) := by decide +kernel
theorem dX10_go_37 : decode cX10_go 37 = .ok (.if_icmp .ge 107, 3) := by decide +kernel
theorem dX10_go_40 : decode cX10_go 40 = .ok (.aload_n 1, 1) := by decide +kernel
theorem dX10_go_41 : decode cX10_go 41 = .ok (.getfield 33, 3) := by decide +kernel
theorem dX10_go_44 : decode cX10_go 44 = .ok (.iload_n 3, 1) := by decide +kernel
theorem dX10_go_45 : decode cX10_go 45 = .ok (.iaload, 1) := by decide +kernel
theorem dX10_go_46 : decode cX10_go 46 = .ok (.iconst 3, 1) := by decide +kernel
theorem dX10_go_47 : decode cX10_go 47 = .ok (.if_icmp .ne 10, 3) := by decide +kernel
theorem dX10_go_50 : decode cX10_go 50 = .ok (.aload_n 0, 1) := by decide +kernel
theorem dX10_go_51 : decode cX10_go 51 = .ok (.aload_n 2, 1) := by decide +kernel
theorem dX10_go_52 : decode cX10_go 52 = .ok (.iload 5, 2) := by decide +kernel
theorem dX10_go_54 : decode cX10_go 54 = .ok (.invokevirtual 37, 3) := by decide +kernel
theorem dX10_go_57 : decode cX10_go 57 = .ok (.iload 4, 2) := by decide +kernel
theorem dX10_go_59 : decode cX10_go 59 = .ok (.aload_n 0, 1) := by decide +kernel
theorem dX10_go_60 : decode cX10_go 60 = .ok (.aload_n 2, 1) := by decide +kernel
theorem dX10_go_61 : decode cX10_go 61 = .ok (.iload 5, 2) := by decide +kernel
theorem dX10_go_63 : decode cX10_go 63 = .ok (.iload 4, 2) := by decide +kernel
theorem dX10_go_65 : decode cX10_go 65 = .ok (.invokevirtual 41, 3) := by decide +kernel
theorem dX10_go_68 : decode cX10_go 68 = .ok (.isub, 1) := by decide +kernel
theorem dX10_go_69 : decode cX10_go 69 = .ok (.istore 4, 2) := by decide +kernel
theorem dX10_go_71 : decode cX10_go 71 = .ok (.aload_n 1, 1) := by decide +kernel
theorem dX10_go_72 : decode cX10_go 72 = .ok (.iload_n 3, 1) := by decide +kernel
theorem dX10_go_73 : decode cX10_go 73 = .ok (.aload_n 2, 1) := by decide +kernel
theorem dX10_go_74 : decode cX10_go 74 = .ok (.getfield 45, 3) := by decide +kernel
theorem dX10_go_77 : decode cX10_go 77 = .ok (.iload 5, 2) := by decide +kernel
theorem dX10_go_79 : decode cX10_go 79 = .ok (.iaload, 1) := by decide +kernel
theorem dX10_go_80 : decode cX10_go 80 = .ok (.aload_n 2, 1) := by decide +kernel
theorem dX10_go_81 : decode cX10_go 81 = .ok (.iload 5, 2) := by decide +kernel
theorem dX10_go_83 : decode cX10_go 83 = .ok (.invokevirtual 48, 3) := by decide +kernel
theorem dX10_go_86 : decode cX10_go 86 = .ok (.iload 4, 2) := by decide +kernel
theorem dX10_go_88 : decode cX10_go 88 = .ok (.invokevirtual 52, 3) := by decide +kernel
theorem dX10_go_91 : decode cX10_go 91 = .ok (.istore 6, 2) := by decide +kernel
theorem dX10_go_93 : decode cX10_go 93 = .ok (.aload_n 2, 1) := by decide +kernel
theorem dX10_go_94 : decode cX10_go 94 = .ok (.iload 5, 2) := by decide +kernel
theorem dX10_go_96 : decode cX10_go 96 = .ok (.iload 6, 2) := by decide +kernel
theorem dX10_go_98 : decode cX10_go 98 = .ok (.invokevirtual 56, 3) := by decide +kernel
theorem dX10_go_101 : decode cX10_go 101 = .ok (.aload_n 0, 1) := by decide +kernel
theorem dX10_go_102 : decode cX10_go 102 = .ok (.dup, 1) := by decide +kernel
theorem dX10_go_103 : decode cX10_go 103 = .ok (.getfield 16, 3) := by decide +kernel
theorem dX10_go_106 : decode cX10_go 106 = .ok (.iload 6, 2) := by decide +kernel
theorem dX10_go_108 : decode cX10_go 108 = .ok (.iadd, 1) := by decide +kernel
theorem dX10_go_109 : decode cX10_go 109 = .ok (.putfield 16, 3) := by decide +kernel
theorem dX10_go_112 : decode cX10_go 112 = .ok (.iload 4, 2) := by decide +kernel
theorem dX10_go_114 : decode cX10_go 114 = .ok (.iload 6, 2) := by decide +kernel
theorem dX10_go_116 : decode cX10_go 116 = .ok (.isub, 1) := by decide +kernel
theorem dX10_go_117 : decode cX10_go 117 = .ok (.istore 4, 2) := by decide +kernel
theorem dX10_go_119 : decode cX10_go 119 = .ok (.aload_n 0, 1) := by decide +kernel
theorem dX10_go_120 : decode cX10_go 120 = .ok (.dup, 1) := by decide +kernel
theorem dX10_go_121 : decode cX10_go 121 = .ok (.getfield 19, 3) := by decide +kernel
theorem dX10_go_124 : decode cX10_go 124 = .ok (.iload 4, 2) := by decide +kernel
theorem dX10_go_126 : decode cX10_go 126 = .ok (.ifCond .le 7, 3) := by decide +kernel
theorem dX10_go_129 : decode cX10_go 129 = .ok (.iconst 1, 1) := by decide +kernel
theorem dX10_go_130 : decode cX10_go 130 = .ok (.goto 4, 3) := by decide +kernel
theorem dX10_go_133 : decode cX10_go 133 = .ok (.iconst 0, 1) := by decide +kernel
theorem dX10_go_134 : decode cX10_go 134 = .ok (.iadd, 1) := by decide +kernel
theorem dX10_go_135 : decode cX10_go 135 = .ok (.putfield 19, 3) := by decide +kernel
theorem dX10_go_138 : decode cX10_go 138 = .ok (.iinc 5 1, 3) := by decide +kernel
theorem dX10_go_141 : decode cX10_go 141 = .ok (.goto (-110), 3) := by decide +kernel
theorem dX10_go_144 : decode cX10_go 144 = .ok (.aload_n 0, 1) := by decide +kernel
theorem dX10_go_145 : decode cX10_go 145 = .ok (.iload 4, 2) := by decide +kernel
theorem dX10_go_147 : decode cX10_go 147 = .ok (.putfield 60, 3) := by decide +kernel
theorem dX10_go_150 : decode cX10_go 150 = .ok (.aload_n 2, 1) := by decide +kernel
theorem dX10_go_151 : decode cX10_go 151 = .ok (.dup, 1) := by decide +kernel
theorem dX10_go_152 : decode cX10_go 152 = .ok (.getfield 63, 3) := by decide +kernel
theorem dX10_go_155 : decode cX10_go 155 = .ok (.aload_n 0, 1) := by decide +kernel
theorem dX10_go_156 : decode cX10_go 156 = .ok (.getfield 60, 3) := by decide +kernel
theorem dX10_go_159 : decode cX10_go 159 = .ok (.iadd, 1) := by decide +kernel
theorem dX10_go_160 : decode cX10_go 160 = .ok (.putfield 63, 3) := by decide +kernel
theorem dX10_go_163 : decode cX10_go 163 = .ok (.aload_n 2, 1) := by decide +kernel
theorem dX10_go_164 : decode cX10_go 164 = .ok (.dup, 1) := by decide +kernel
theorem dX10_go_165 : decode cX10_go 165 = .ok (.getfield 64, 3) := by decide +kernel
theorem dX10_go_168 : decode cX10_go 168 = .ok (.aload_n 0, 1) := by decide +kernel
theorem dX10_go_169 : decode cX10_go 169 = .ok (.getfield 13, 3) := by decide +kernel
theorem dX10_go_172 : decode cX10_go 172 = .ok (.iadd, 1) := by decide +kernel
theorem dX10_go_173 : decode cX10_go 173 = .ok (.putfield 64, 3) := by decide +kernel
theorem dX10_go_176 : decode cX10_go 176 = .ok (.return_, 1) := by decide +kernel
set_option maxHeartbeats 4000000 in
set_option maxRecDepth 100000 in
theorem B_X10_go {G : zG} {X : zX} {kd : kD} {N0 : Nat} (C : zCt G X 3 0 0 RX10 cX10_go 7) (hr : (zXh X).sig.returnType = none) : ∀ f : Nat,
    (∀ (S : aS) (v0 : Nat) (v1 : Nat) (v2 : Nat) (v3 : Int32) (res : Option Value × aS), zT0 kd N0 S → v0 < N0 → kd v0 = .inl 9 → v1 < N0 → kd v1 = .inl 5 → v2 < N0 → kd v2 = .inl 3 → F_X10_go f 0 [.ref v0, .ref v1, .ref v2, .int v3] S = some res → zV G X (zQX G X (zPo G kd N0 res) 0 0) 7 [some (.ref (zB G + v0)), some (.ref (zB G + v1)), some (.ref (zB G + v2)), some (.int v3), none, none, none] [] (cn G kd N0 S) 0 0 0) ∧
    (∀ (S : aS) (v0 : Nat) (v1 : Nat) (v2 : Nat) (v3 : Int32) (v4 : Int32) (v5 : Int32) (res : Option Value × aS), zT0 kd N0 S → v0 < N0 → kd v0 = .inl 9 → v1 < N0 → kd v1 = .inl 5 → v2 < N0 → kd v2 = .inl 3 → F_X10_go f 1 [.ref v0, .ref v1, .ref v2, .int v3, .int v4, .int v5] S = some res → zV G X (zQX G X (zPo G kd N0 res) 0 0) 7 [some (.ref (zB G + v0)), some (.ref (zB G + v1)), some (.ref (zB G + v2)), some (.int v3), some (.int v4), some (.int v5), none] [] (cn G kd N0 S) 31 0 0) ∧
    (∀ (S : aS) (v0 : Nat) (v1 : Nat) (v2 : Nat) (v3 : Int32) (v4 : Int32) (v5 : Int32) (res : Option Value × aS), zT0 kd N0 S → v0 < N0 → kd v0 = .inl 9 → v1 < N0 → kd v1 = .inl 5 → v2 < N0 → kd v2 = .inl 3 → F_X10_go f 2 [.ref v0, .ref v1, .ref v2, .int v3, .int v4, .int v5] S = some res → zV G X (zQX G X (zPo G kd N0 res) 0 0) 7 [some (.ref (zB G + v0)), some (.ref (zB G + v1)), some (.ref (zB G + v2)), some (.int v3), some (.int v4), some (.int v5), none] [] (cn G kd N0 S) 57 0 0) := by
  intro f
  induction f with
  | zero => exact ⟨(fun _ _ _ _ _ _ _ _ _ _ _ _ _ h => by cases h), (fun _ _ _ _ _ _ _ _ _ _ _ _ _ _ _ h => by cases h), (fun _ _ _ _ _ _ _ _ _ _ _ _ _ _ _ h => by cases h)⟩
  | succ f ih =>
    obtain ⟨ih0, ih1, ih2⟩ := ih
    refine ⟨?_, ?_, ?_⟩
    · intro S v0 v1 v2 v3 res hT hpv0 hkv0 hpv1 hkv1 hpv2 hkv2 hF
      replace hF : F_X10_go_0 f (F_X10_go f) v0 v1 v2 v3 S = some res := hF
      unfold F_X10_go_0 at hF
      refine z_aload_n C dX10_go_0 rfl ?_
      refine z_iconst (v := 0) C dX10_go_1 (by decide) ?_
      refine f_puti C dX10_go_2 zfRX10_7 fw9_1 hpv0 hkv0 rfl rfl rfl ?_
      have hT1 : zT0 kd N0 (sI S v0 1 0) := zT0_sI hT
      replace hF := fS_e hF
      generalize sI S v0 1 0 = S1 at hF hT1 ⊢
      refine z_aload_n C dX10_go_5 rfl ?_
      refine z_iconst (v := 0) C dX10_go_6 (by decide) ?_
      refine f_puti C dX10_go_7 zfRX10_13 fw9_2 hpv0 hkv0 rfl rfl rfl ?_
      have hT2 : zT0 kd N0 (sI S1 v0 2 0) := zT0_sI hT1
      replace hF := fS_e hF
      generalize sI S1 v0 2 0 = S2 at hF hT2 ⊢
      refine z_aload_n C dX10_go_10 rfl ?_
      refine z_iconst (v := 0) C dX10_go_11 (by decide) ?_
      refine f_puti C dX10_go_12 zfRX10_16 fw9_3 hpv0 hkv0 rfl rfl rfl ?_
      have hT3 : zT0 kd N0 (sI S2 v0 3 0) := zT0_sI hT2
      replace hF := fS_e hF
      generalize sI S2 v0 3 0 = S3 at hF hT3 ⊢
      refine z_aload_n C dX10_go_15 rfl ?_
      refine z_iconst (v := 0) C dX10_go_16 (by decide) ?_
      refine f_puti C dX10_go_17 zfRX10_19 fw9_4 hpv0 hkv0 rfl rfl rfl ?_
      have hT4 : zT0 kd N0 (sI S3 v0 4 0) := zT0_sI hT3
      replace hF := fS_e hF
      generalize sI S3 v0 4 0 = S4 at hF hT4 ⊢
      refine z_aload_n C dX10_go_20 rfl ?_
      refine z_iload_n C dX10_go_21 rfl ?_
      refine z_aload_n C dX10_go_22 rfl ?_
      obtain ⟨x5, S5, h5, hF⟩ := bI_some hF
      refine f_cV (st2 := [.int x5]) C dX10_go_23 zyX6_takenBy zvX6_takenBy lkRX10_22 (K_X6_takenBy (l := zXl X) hT4 hpv1 hkv1  hpv2 hkv2 h5) hpv1 hkv1 rfl (by decide) rfl rfl (Nat.le_of_ble_eq_true rfl) rfl (fun hT5 => ?_)
      refine z_istore (lv2 := [some (.ref (zB G + v0)), some (.ref (zB G + v1)), some (.ref (zB G + v2)), some (.int v3), some (.int x5), none, none]) C dX10_go_26 (by decide) rfl ?_
      refine z_iconst (v := 0) C dX10_go_28 (by decide) ?_
      refine z_istore (lv2 := [some (.ref (zB G + v0)), some (.ref (zB G + v1)), some (.ref (zB G + v2)), some (.int v3), some (.int x5), some (.int 0), none]) C dX10_go_29 (by decide) rfl ?_
      exact ih1 S5 v0 v1 v2 v3 x5 0 res hT5 hpv0 hkv0 hpv1 hkv1 hpv2 hkv2    hF
    · intro S v0 v1 v2 v3 v4 v5 res hT hpv0 hkv0 hpv1 hkv1 hpv2 hkv2 hF
      replace hF : F_X10_go_1 f (F_X10_go f) v0 v1 v2 v3 v4 v5 S = some res := hF
      unfold F_X10_go_1 at hF
      refine z_iload C dX10_go_31 rfl ?_
      refine z_aload_n C dX10_go_33 rfl ?_
      refine f_geti C dX10_go_34 zfRX10_28 hpv2 hkv2 rfl ?_
      refine z_icmp_ge C 144 dX10_go_37 (by decide) (fun c8 => ?_) (fun c8 => ?_)
      · replace hF := ip hF c8
        refine z_aload_n C dX10_go_144 rfl ?_
        refine z_iload C dX10_go_145 rfl ?_
        refine f_puti C dX10_go_147 zfRX10_60 fw9_0 hpv0 hkv0 rfl rfl rfl ?_
        have hT9 : zT0 kd N0 (sI S v0 0 v4) := zT0_sI hT
        replace hF := fS_e hF
        generalize sI S v0 0 v4 = S9 at hF hT9 ⊢
        refine z_aload_n C dX10_go_150 rfl ?_
        refine z_dup C dX10_go_151 rfl ?_
        refine f_geti C dX10_go_152 zfRX10_63 hpv2 hkv2 rfl ?_
        refine z_aload_n C dX10_go_155 rfl ?_
        refine f_geti C dX10_go_156 zfRX10_60 hpv0 hkv0 rfl ?_
        refine z_iadd C dX10_go_159 ?_
        refine f_puti C dX10_go_160 zfRX10_63 fw3_5 hpv2 hkv2 rfl rfl rfl ?_
        have hT10 : zT0 kd N0 (sI S9 v2 5 ((gI S9 v2 5) + (gI S9 v0 0))) := zT0_sI hT9
        replace hF := fS_e hF
        generalize sI S9 v2 5 ((gI S9 v2 5) + (gI S9 v0 0)) = S10 at hF hT10 ⊢
        refine z_aload_n C dX10_go_163 rfl ?_
        refine z_dup C dX10_go_164 rfl ?_
        refine f_geti C dX10_go_165 zfRX10_64 hpv2 hkv2 rfl ?_
        refine z_aload_n C dX10_go_168 rfl ?_
        refine f_geti C dX10_go_169 zfRX10_13 hpv0 hkv0 rfl ?_
        refine z_iadd C dX10_go_172 ?_
        refine f_puti C dX10_go_173 zfRX10_64 fw3_6 hpv2 hkv2 rfl rfl rfl ?_
        have hT11 : zT0 kd N0 (sI S10 v2 6 ((gI S10 v2 6) + (gI S10 v0 2))) := zT0_sI hT10
        replace hF := fS_e hF
        generalize sI S10 v2 6 ((gI S10 v2 6) + (gI S10 v0 2)) = S11 at hF hT11 ⊢
        cases hF
        exact z_vret C hr dX10_go_176 ⟨rfl, rfl, hT11⟩
      · replace hF := im hF c8
        refine z_aload_n C dX10_go_40 rfl ?_
        refine f_getr C dX10_go_41 zfRX10_33 hpv1 hkv1 rfl ?_
        obtain ⟨hp12, hk12⟩ := hT.1 v1 5 3 (.inr (0, 6)) hpv1 hkv1 rfl
        refine z_iload_n C dX10_go_44 rfl ?_
        obtain ⟨hi13, hF⟩ := bX_some hF
        obtain ⟨q13, eq13⟩ : ∃ q : Nat, q = Int32.toNatClampNeg v3 := ⟨_, rfl⟩
        rw [← eq13] at hF
        refine f_iald C dX10_go_45 hp12 hk12 hi13 ?_
        rw [← eq13]
        refine z_iconst (v := 3) C dX10_go_46 (by decide) ?_
        refine z_icmp_ne C 57 dX10_go_47 (by decide) (fun c15 => ?_) (fun c15 => ?_)
        · replace hF := im hF c15
          exact ih2 S v0 v1 v2 v3 v4 v5 res hT hpv0 hkv0 hpv1 hkv1 hpv2 hkv2    hF
        · replace hF := ip hF c15
          refine z_aload_n C dX10_go_50 rfl ?_
          refine z_aload_n C dX10_go_51 rfl ?_
          refine z_iload C dX10_go_52 rfl ?_
          obtain ⟨S16, h16, hF⟩ := bV_some hF
          refine f_cV (st2 := []) C dX10_go_54 zyX10_pickUp zvX10_pickUp lkRX10_37 (K_X10_pickUp (l := zXl X) hT hpv0 hkv0 hpv2 hkv2  h16) hpv0 hkv0 rfl (by decide) rfl rfl (Nat.le_of_ble_eq_true rfl) rfl (fun hT16 => ?_)
          exact ih2 S16 v0 v1 v2 v3 v4 v5 res hT16 hpv0 hkv0 hpv1 hkv1 hpv2 hkv2    hF
    · intro S v0 v1 v2 v3 v4 v5 res hT hpv0 hkv0 hpv1 hkv1 hpv2 hkv2 hF
      replace hF : F_X10_go_2 f (F_X10_go f) v0 v1 v2 v3 v4 v5 S = some res := hF
      unfold F_X10_go_2 at hF
      refine z_iload C dX10_go_57 rfl ?_
      refine z_aload_n C dX10_go_59 rfl ?_
      refine z_aload_n C dX10_go_60 rfl ?_
      refine z_iload C dX10_go_61 rfl ?_
      refine z_iload C dX10_go_63 rfl ?_
      obtain ⟨x17, S17, h17, hF⟩ := bI_some hF
      refine f_cV (st2 := [.int x17, .int v4]) C dX10_go_65 zyX10_putIn zvX10_putIn lkRX10_41 (K_X10_putIn (l := zXl X) hT hpv0 hkv0 hpv2 hkv2   h17) hpv0 hkv0 rfl (by decide) rfl rfl (Nat.le_of_ble_eq_true rfl) rfl (fun hT17 => ?_)
      refine z_isub C dX10_go_68 ?_
      refine z_istore (lv2 := [some (.ref (zB G + v0)), some (.ref (zB G + v1)), some (.ref (zB G + v2)), some (.int v3), some (.int (v4 - x17)), some (.int v5), none]) C dX10_go_69 (by decide) rfl ?_
      refine z_aload_n C dX10_go_71 rfl ?_
      refine z_iload_n C dX10_go_72 rfl ?_
      refine z_aload_n C dX10_go_73 rfl ?_
      refine f_getr C dX10_go_74 zfRX10_45 hpv2 hkv2 rfl ?_
      obtain ⟨hp18, hk18⟩ := hT17.1 v2 3 1 (.inr (0, 8)) hpv2 hkv2 rfl
      refine z_iload C dX10_go_77 rfl ?_
      obtain ⟨hi19, hF⟩ := bX_some hF
      obtain ⟨q19, eq19⟩ : ∃ q : Nat, q = Int32.toNatClampNeg v5 := ⟨_, rfl⟩
      rw [← eq19] at hF
      refine f_iald C dX10_go_79 hp18 hk18 hi19 ?_
      rw [← eq19]
      refine z_aload_n C dX10_go_80 rfl ?_
      refine z_iload C dX10_go_81 rfl ?_
      obtain ⟨x20, S20, h20, hF⟩ := bI_some hF
      refine f_cV (st2 := [.int x20, .int (gI S17 (gR S17 v2 1) q19), .int v3, .ref (zB G + v1)]) C dX10_go_83 zyX4_nearOf zvX4_nearOf lkRX10_48 (K_X4_nearOf (l := zXl X) hT17 hpv2 hkv2  h20) hpv2 hkv2 rfl (by decide) rfl rfl (Nat.le_of_ble_eq_true rfl) rfl (fun hT20 => ?_)
      refine z_iload C dX10_go_86 rfl ?_
      obtain ⟨x21, S21, h21, hF⟩ := bI_some hF
      refine f_cV (st2 := [.int x21]) C dX10_go_88 zyX6_droppedBy zvX6_droppedBy lkRX10_52 (K_X6_droppedBy (l := zXl X) hT20 hpv1 hkv1     h21) hpv1 hkv1 rfl (by decide) rfl rfl (Nat.le_of_ble_eq_true rfl) rfl (fun hT21 => ?_)
      refine z_istore (lv2 := [some (.ref (zB G + v0)), some (.ref (zB G + v1)), some (.ref (zB G + v2)), some (.int v3), some (.int (v4 - x17)), some (.int v5), some (.int x21)]) C dX10_go_91 (by decide) rfl ?_
      refine z_aload_n C dX10_go_93 rfl ?_
      refine z_iload C dX10_go_94 rfl ?_
      refine z_iload C dX10_go_96 rfl ?_
      obtain ⟨S22, h22, hF⟩ := bV_some hF
      refine f_cV (st2 := []) C dX10_go_98 zyX4_drop zvX4_drop lkRX10_56 (K_X4_drop (l := zXl X) hT21 hpv2 hkv2   h22) hpv2 hkv2 rfl (by decide) rfl rfl (Nat.le_of_ble_eq_true rfl) rfl (fun hT22 => ?_)
      refine z_aload_n C dX10_go_101 rfl ?_
      refine z_dup C dX10_go_102 rfl ?_
      refine f_geti C dX10_go_103 zfRX10_16 hpv0 hkv0 rfl ?_
      refine z_iload C dX10_go_106 rfl ?_
      refine z_iadd C dX10_go_108 ?_
      refine f_puti C dX10_go_109 zfRX10_16 fw9_3 hpv0 hkv0 rfl rfl rfl ?_
      have hT23 : zT0 kd N0 (sI S22 v0 3 ((gI S22 v0 3) + x21)) := zT0_sI hT22
      replace hF := fS_e hF
      generalize sI S22 v0 3 ((gI S22 v0 3) + x21) = S23 at hF hT23 ⊢
      refine z_iload C dX10_go_112 rfl ?_
      refine z_iload C dX10_go_114 rfl ?_
      refine z_isub C dX10_go_116 ?_
      refine z_istore (lv2 := [some (.ref (zB G + v0)), some (.ref (zB G + v1)), some (.ref (zB G + v2)), some (.int v3), some (.int ((v4 - x17) - x21)), some (.int v5), some (.int x21)]) C dX10_go_117 (by decide) rfl ?_
      refine z_aload_n C dX10_go_119 rfl ?_
      refine z_dup C dX10_go_120 rfl ?_
      refine f_geti C dX10_go_121 zfRX10_19 hpv0 hkv0 rfl ?_
      refine z_iload C dX10_go_124 rfl ?_
      have hJ25 : zV G X (zQX G X (zPo G kd N0 res) 0 0) 7 [some (.ref (zB G + v0)), some (.ref (zB G + v1)), some (.ref (zB G + v2)), some (.int v3), some (.int ((v4 - x17) - x21)), some (.int v5), some (.int x21)] [.int (if ((v4 - x17) - x21) ≤ (0 : Int32) then (0 : Int32) else (1 : Int32)), .int (gI S23 v0 4), .ref (zB G + v0)] (cn G kd N0 S23) 134 0 0 := by
        refine z_iadd C dX10_go_134 ?_
        refine f_puti C dX10_go_135 zfRX10_19 fw9_4 hpv0 hkv0 rfl rfl rfl ?_
        have hT26 : zT0 kd N0 (sI S23 v0 4 ((gI S23 v0 4) + (if ((v4 - x17) - x21) ≤ (0 : Int32) then (0 : Int32) else (1 : Int32)))) := zT0_sI hT23
        replace hF := fS_e hF
        generalize sI S23 v0 4 ((gI S23 v0 4) + (if ((v4 - x17) - x21) ≤ (0 : Int32) then (0 : Int32) else (1 : Int32))) = S26 at hF hT26 ⊢
        refine z_iinc (v := v5 + 1) (lv2 := [some (.ref (zB G + v0)), some (.ref (zB G + v1)), some (.ref (zB G + v2)), some (.int v3), some (.int ((v4 - x17) - x21)), some (.int (v5 + 1)), some (.int x21)]) C dX10_go_138 rfl (by rw [show Int32.ofInt 1 = (1 : Int32) from by decide]) rfl ?_
        refine z_goto C 31 dX10_go_141 (by decide) ?_
        refine z_mask [true, true, true, true, true, true, false] ?_ rfl
        exact ih1 S26 v0 v1 v2 v3 ((v4 - x17) - x21) (v5 + 1) res hT26 hpv0 hkv0 hpv1 hkv1 hpv2 hkv2    hF
      refine z_if_le C 133 dX10_go_126 (by decide) (fun c24 => ?_) (fun c24 => ?_)
      · refine z_iconst (v := 0) C dX10_go_133 (by decide) ?_
        exact zV.at hJ25 (by first | rfl | contradiction | (simp only [if_pos c24]; done)) (by first | rfl | contradiction | (simp only [if_pos c24]; done)) rfl rfl
      · refine z_iconst (v := 1) C dX10_go_129 (by decide) ?_
        refine z_goto C 134 dX10_go_130 (by decide) ?_
        exact zV.at hJ25 (by first | rfl | contradiction | (simp only [if_neg c24]; done)) (by first | rfl | contradiction | (simp only [if_neg c24]; done)) rfl rfl
theorem K_X10_go {G : zG} {l : Launch} {kd : kD} {N0 f : Nat} {S : aS} {v0 : Nat} {v1 : Nat} {v2 : Nat} {v3 : Int32} {res : Option Value × aS} (hT : zT0 kd N0 S) (hpv0 : v0 < N0) (hkv0 : kd v0 = .inl 9) (hpv1 : v1 < N0) (hkv1 : kd v1 = .inl 5) (hpv2 : v2 < N0) (hkv2 : kd v2 = .inl 3) (hF : F_X10_go f 0 [.ref v0, .ref v1, .ref v2, .int v3] S = some res) : zM G l 3 0 0 yX10_go cX10_go 7 none [.ref (zB G + v0), .ref (zB G + v1), .ref (zB G + v2), .int v3] (cn G kd N0 S) (zPo G kd N0 res) := zM.of (by decide) rfl (Nat.le_of_ble_eq_true rfl) (fun X _ C hr _ => (B_X10_go C hr f).1 S v0 v1 v2 v3 res hT hpv0 hkv0 hpv1 hkv1 hpv2 hkv2 hF)
def F_X12_feed_0 (f : Nat) (rc : Nat → List Value → aS → aR) (v0 : Nat) (v1 : Int64) (v2 : Int64) (v3 : Int64) (S : aS) : aR :=
  bV (F_X8_add f 0 [.ref (gR S v0 0), .long v1] S) fun S2 => bV (F_X8_add f 0 [.ref (gR S2 v0 0), .long v2] S2) fun S4 => bV (F_X8_add f 0 [.ref (gR S4 v0 0), .long v3] S4) fun S6 => some (some (.int (gI S6 (gR S6 v0 0) 1)), S6)
def F_X12_feed : Nat → Nat → List Value → aS → aR
  | 0, _, _, _ => none
  | f + 1, 0, vs, S => F_X12_feed_0 f (F_X12_feed f) (vR vs 0) (vJ vs 1) (vJ vs 2) (vJ vs 3) S
  | _ + 1, _, _, _ => none
theorem dX12_feed_0 : decode cX12_feed 0 = .ok (.aload_n 0, 1) := by decide +kernel
theorem dX12_feed_1 : decode cX12_feed 1 = .ok (.getfield 10, 3) := by decide +kernel
theorem dX12_feed_4 : decode cX12_feed 4 = .ok (.lload_n 1, 1) := by decide +kernel
theorem dX12_feed_5 : decode cX12_feed 5 = .ok (.invokevirtual 102, 3) := by decide +kernel
theorem dX12_feed_8 : decode cX12_feed 8 = .ok (.aload_n 0, 1) := by decide +kernel
theorem dX12_feed_9 : decode cX12_feed 9 = .ok (.getfield 10, 3) := by decide +kernel
theorem dX12_feed_12 : decode cX12_feed 12 = .ok (.lload_n 3, 1) := by decide +kernel
theorem dX12_feed_13 : decode cX12_feed 13 = .ok (.invokevirtual 102, 3) := by decide +kernel
theorem dX12_feed_16 : decode cX12_feed 16 = .ok (.aload_n 0, 1) := by decide +kernel
theorem dX12_feed_17 : decode cX12_feed 17 = .ok (.getfield 10, 3) := by decide +kernel
theorem dX12_feed_20 : decode cX12_feed 20 = .ok (.lload 5, 2) := by decide +kernel
theorem dX12_feed_22 : decode cX12_feed 22 = .ok (.invokevirtual 102, 3) := by decide +kernel
theorem dX12_feed_25 : decode cX12_feed 25 = .ok (.aload_n 0, 1) := by decide +kernel
theorem dX12_feed_26 : decode cX12_feed 26 = .ok (.getfield 10, 3) := by decide +kernel
theorem dX12_feed_29 : decode cX12_feed 29 = .ok (.getfield 106, 3) := by decide +kernel
theorem dX12_feed_32 : decode cX12_feed 32 = .ok (.ireturn, 1) := by decide +kernel
set_option maxHeartbeats 4000000 in
set_option maxRecDepth 100000 in
theorem B_X12_feed {G : zG} {X : zX} {kd : kD} {N0 : Nat} (C : zCt G X 2 0 0 RX12 cX12_feed 7) (hr : (zXh X).sig.returnType = (some .int)) : ∀ f : Nat,
    (∀ (S : aS) (v0 : Nat) (v1 : Int64) (v2 : Int64) (v3 : Int64) (res : Option Value × aS), zT0 kd N0 S → v0 < N0 → kd v0 = .inl 10 → F_X12_feed f 0 [.ref v0, .long v1, .long v2, .long v3] S = some res → zV G X (zQX G X (zPo G kd N0 res) 0 0) 7 [some (.ref (zB G + v0)), some (.long v1), none, some (.long v2), none, some (.long v3), none] [] (cn G kd N0 S) 0 0 0) := by
  intro f
  induction f with
  | zero => exact (fun _ _ _ _ _ _ _ _ _ h => by cases h)
  | succ f ih =>
    have ih0 := ih
    intro S v0 v1 v2 v3 res hT hpv0 hkv0 hF
    replace hF : F_X12_feed_0 f (F_X12_feed f) v0 v1 v2 v3 S = some res := hF
    unfold F_X12_feed_0 at hF
    refine z_aload_n C dX12_feed_0 rfl ?_
    refine f_getr C dX12_feed_1 zfRX12_10 hpv0 hkv0 rfl ?_
    obtain ⟨hp1, hk1⟩ := hT.1 v0 10 0 (.inl 7) hpv0 hkv0 rfl
    refine z_lload_n C dX12_feed_4 rfl ?_
    obtain ⟨S2, h2, hF⟩ := bV_some hF
    refine f_cV (st2 := []) C dX12_feed_5 zyX8_add zvX8_add lkRX12_102 (K_X8_add (l := zXl X) hT hp1 hk1  h2) hp1 hk1 rfl (by decide) rfl rfl (Nat.le_of_ble_eq_true rfl) rfl (fun hT2 => ?_)
    refine z_aload_n C dX12_feed_8 rfl ?_
    refine f_getr C dX12_feed_9 zfRX12_10 hpv0 hkv0 rfl ?_
    obtain ⟨hp3, hk3⟩ := hT2.1 v0 10 0 (.inl 7) hpv0 hkv0 rfl
    refine z_lload_n C dX12_feed_12 rfl ?_
    obtain ⟨S4, h4, hF⟩ := bV_some hF
    refine f_cV (st2 := []) C dX12_feed_13 zyX8_add zvX8_add lkRX12_102 (K_X8_add (l := zXl X) hT2 hp3 hk3  h4) hp3 hk3 rfl (by decide) rfl rfl (Nat.le_of_ble_eq_true rfl) rfl (fun hT4 => ?_)
    refine z_aload_n C dX12_feed_16 rfl ?_
    refine f_getr C dX12_feed_17 zfRX12_10 hpv0 hkv0 rfl ?_
    obtain ⟨hp5, hk5⟩ := hT4.1 v0 10 0 (.inl 7) hpv0 hkv0 rfl
    refine z_lload C dX12_feed_20 rfl ?_
    obtain ⟨S6, h6, hF⟩ := bV_some hF
    refine f_cV (st2 := []) C dX12_feed_22 zyX8_add zvX8_add lkRX12_102 (K_X8_add (l := zXl X) hT4 hp5 hk5  h6) hp5 hk5 rfl (by decide) rfl rfl (Nat.le_of_ble_eq_true rfl) rfl (fun hT6 => ?_)
    refine z_aload_n C dX12_feed_25 rfl ?_
    refine f_getr C dX12_feed_26 zfRX12_10 hpv0 hkv0 rfl ?_
    obtain ⟨hp7, hk7⟩ := hT6.1 v0 10 0 (.inl 7) hpv0 hkv0 rfl
    refine f_geti C dX12_feed_29 zfRX12_106 hp7 hk7 rfl ?_
    cases hF
    exact z_iret C hr dX12_feed_32 ⟨rfl, rfl, hT6⟩
theorem K_X12_feed {G : zG} {l : Launch} {kd : kD} {N0 f : Nat} {S : aS} {v0 : Nat} {v1 : Int64} {v2 : Int64} {v3 : Int64} {res : Option Value × aS} (hT : zT0 kd N0 S) (hpv0 : v0 < N0) (hkv0 : kd v0 = .inl 10) (hF : F_X12_feed f 0 [.ref v0, .long v1, .long v2, .long v3] S = some res) : zM G l 2 0 0 yX12_feed cX12_feed 7 (some .int) [.ref (zB G + v0), .long v1, .long v2, .long v3] (cn G kd N0 S) (zPo G kd N0 res) := zM.of (by decide) rfl (Nat.le_of_ble_eq_true rfl) (fun X _ C hr _ => (B_X12_feed C hr f) S v0 v1 v2 v3 res hT hpv0 hkv0 hF)
def F_X12_person_0 (f : Nat) (rc : Nat → List Value → aS → aR) (v0 : Nat) (v1 : Int32) (v2 : Int32) (S : aS) : aR :=
  bI (F_X6_hasPerson f 0 [.ref (gR S v0 1), .int v1] S) fun x2 S2 => if x2 = (0 : Int32) then some (some (.int ((-1))), S2) else if v2 = 0 then bX v1 6 fun q7 => some (some (.int (gI S2 (gR S2 (gR S2 v0 1) 3) q7)), S2) else if v2 = 1 then bX v1 6 fun q11 => some (some (.int (gI S2 (gR S2 (gR S2 v0 1) 4) q11)), S2) else if v2 = 2 then bX v1 6 fun q15 => some (some (.int (gI S2 (gR S2 (gR S2 v0 1) 5) q15)), S2) else if v2 = 3 then bI (F_X6_takenBy f 0 [.ref (gR S2 v0 1), .int v1, .ref (gR S2 v0 5)] S2) fun x19 S19 => some (some (.int x19), S19) else some (some (.int ((-1))), S2)
def F_X12_person : Nat → Nat → List Value → aS → aR
  | 0, _, _, _ => none
  | f + 1, 0, vs, S => F_X12_person_0 f (F_X12_person f) (vR vs 0) (vI vs 1) (vI vs 2) S
  | _ + 1, _, _, _ => none
theorem dX12_person_0 : decode cX12_person 0 = .ok (.aload_n 0, 1) := by decide +kernel
theorem dX12_person_1 : decode cX12_person 1 = .ok (.getfield 19, 3) := by decide +kernel
theorem dX12_person_4 : decode cX12_person 4 = .ok (.iload_n 1, 1) := by decide +kernel
theorem dX12_person_5 : decode cX12_person 5 = .ok (.invokevirtual 135, 3) := by decide +kernel
theorem dX12_person_8 : decode cX12_person 8 = .ok (.ifCond .ne 5, 3) := by decide +kernel
theorem dX12_person_11 : decode cX12_person 11 = .ok (.iconst (-1), 1) := by decide +kernel
theorem dX12_person_12 : decode cX12_person 12 = .ok (.ireturn, 1) := by decide +kernel
theorem dX12_person_13 : decode cX12_person 13 = .ok (.iload_n 2, 1) := by decide +kernel
theorem dX12_person_14 : decode cX12_person 14 = .ok (.tableswitch 73 0 3 #[30, 40, 50, 60], 30) := by decide +kernel
theorem dX12_person_44 : decode cX12_person 44 = .ok (.aload_n 0, 1) := by decide +kernel
theorem dX12_person_45 : decode cX12_person 45 = .ok (.getfield 19, 3) := by decide +kernel
theorem dX12_person_48 : decode cX12_person 48 = .ok (.getfield 138, 3) := by decide +kernel
theorem dX12_person_51 : decode cX12_person 51 = .ok (.iload_n 1, 1) := by decide +kernel
theorem dX12_person_52 : decode cX12_person 52 = .ok (.iaload, 1) := by decide +kernel
theorem dX12_person_53 : decode cX12_person 53 = .ok (.ireturn, 1) := by decide +kernel
theorem dX12_person_54 : decode cX12_person 54 = .ok (.aload_n 0, 1) := by decide +kernel
theorem dX12_person_55 : decode cX12_person 55 = .ok (.getfield 19, 3) := by decide +kernel
theorem dX12_person_58 : decode cX12_person 58 = .ok (.getfield 141, 3) := by decide +kernel
theorem dX12_person_61 : decode cX12_person 61 = .ok (.iload_n 1, 1) := by decide +kernel
theorem dX12_person_62 : decode cX12_person 62 = .ok (.iaload, 1) := by decide +kernel
theorem dX12_person_63 : decode cX12_person 63 = .ok (.ireturn, 1) := by decide +kernel
theorem dX12_person_64 : decode cX12_person 64 = .ok (.aload_n 0, 1) := by decide +kernel
theorem dX12_person_65 : decode cX12_person 65 = .ok (.getfield 19, 3) := by decide +kernel
theorem dX12_person_68 : decode cX12_person 68 = .ok (.getfield 144, 3) := by decide +kernel
theorem dX12_person_71 : decode cX12_person 71 = .ok (.iload_n 1, 1) := by decide +kernel
theorem dX12_person_72 : decode cX12_person 72 = .ok (.iaload, 1) := by decide +kernel
theorem dX12_person_73 : decode cX12_person 73 = .ok (.ireturn, 1) := by decide +kernel
theorem dX12_person_74 : decode cX12_person 74 = .ok (.aload_n 0, 1) := by decide +kernel
theorem dX12_person_75 : decode cX12_person 75 = .ok (.getfield 19, 3) := by decide +kernel
theorem dX12_person_78 : decode cX12_person 78 = .ok (.iload_n 1, 1) := by decide +kernel
theorem dX12_person_79 : decode cX12_person 79 = .ok (.aload_n 0, 1) := by decide +kernel
theorem dX12_person_80 : decode cX12_person 80 = .ok (.getfield 39, 3) := by decide +kernel
theorem dX12_person_83 : decode cX12_person 83 = .ok (.invokevirtual 147, 3) := by decide +kernel
theorem dX12_person_86 : decode cX12_person 86 = .ok (.ireturn, 1) := by decide +kernel
theorem dX12_person_87 : decode cX12_person 87 = .ok (.iconst (-1), 1) := by decide +kernel
theorem dX12_person_88 : decode cX12_person 88 = .ok (.ireturn, 1) := by decide +kernel
set_option maxHeartbeats 4000000 in
set_option maxRecDepth 100000 in
theorem B_X12_person {G : zG} {X : zX} {kd : kD} {N0 : Nat} (C : zCt G X 3 0 0 RX12 cX12_person 3) (hr : (zXh X).sig.returnType = (some .int)) : ∀ f : Nat,
    (∀ (S : aS) (v0 : Nat) (v1 : Int32) (v2 : Int32) (res : Option Value × aS), zT0 kd N0 S → v0 < N0 → kd v0 = .inl 10 → F_X12_person f 0 [.ref v0, .int v1, .int v2] S = some res → zV G X (zQX G X (zPo G kd N0 res) 0 0) 3 [some (.ref (zB G + v0)), some (.int v1), some (.int v2)] [] (cn G kd N0 S) 0 0 0) := by
  intro f
  induction f with
  | zero => exact (fun _ _ _ _ _ _ _ _ h => by cases h)
  | succ f ih =>
    have ih0 := ih
    intro S v0 v1 v2 res hT hpv0 hkv0 hF
    replace hF : F_X12_person_0 f (F_X12_person f) v0 v1 v2 S = some res := hF
    unfold F_X12_person_0 at hF
    refine z_aload_n C dX12_person_0 rfl ?_
    refine f_getr C dX12_person_1 zfRX12_19 hpv0 hkv0 rfl ?_
    obtain ⟨hp1, hk1⟩ := hT.1 v0 10 1 (.inl 5) hpv0 hkv0 rfl
    refine z_iload_n C dX12_person_4 rfl ?_
    obtain ⟨x2, S2, h2, hF⟩ := bI_some hF
    refine f_cV (st2 := [.int x2]) C dX12_person_5 zyX6_hasPerson zvX6_hasPerson lkRX12_135 (K_X6_hasPerson (l := zXl X) hT hp1 hk1  h2) hp1 hk1 rfl (by decide) rfl rfl (Nat.le_of_ble_eq_true rfl) rfl (fun hT2 => ?_)
    refine z_if_ne C 13 dX12_person_8 (by decide) (fun c3 => ?_) (fun c3 => ?_)
    · replace hF := im hF c3
      refine z_iload_n C dX12_person_13 rfl ?_
      by_cases c8 : v2 = 0
      · replace hF := ip hF c8
        refine z_tabIn C 44 dX12_person_14 (by rw [c8]; decide) (by rw [c8]; decide) (off := 30) (by rw [c8]; rfl) (by decide) ?_
        refine z_aload_n C dX12_person_44 rfl ?_
        refine f_getr C dX12_person_45 zfRX12_19 hpv0 hkv0 rfl ?_
        obtain ⟨hp5, hk5⟩ := hT2.1 v0 10 1 (.inl 5) hpv0 hkv0 rfl
        refine f_getr C dX12_person_48 zfRX12_138 hp5 hk5 rfl ?_
        obtain ⟨hp6, hk6⟩ := hT2.1 (gR S2 v0 1) 5 3 (.inr (0, 6)) hp5 hk5 rfl
        refine z_iload_n C dX12_person_51 rfl ?_
        obtain ⟨hi7, hF⟩ := bX_some hF
        obtain ⟨q7, eq7⟩ : ∃ q : Nat, q = Int32.toNatClampNeg v1 := ⟨_, rfl⟩
        rw [← eq7] at hF
        refine f_iald C dX12_person_52 hp6 hk6 hi7 ?_
        rw [← eq7]
        cases hF
        exact z_iret C hr dX12_person_53 ⟨rfl, rfl, hT2⟩
      replace hF := im hF c8
      by_cases c12 : v2 = 1
      · replace hF := ip hF c12
        refine z_tabIn C 54 dX12_person_14 (by rw [c12]; decide) (by rw [c12]; decide) (off := 40) (by rw [c12]; rfl) (by decide) ?_
        refine z_aload_n C dX12_person_54 rfl ?_
        refine f_getr C dX12_person_55 zfRX12_19 hpv0 hkv0 rfl ?_
        obtain ⟨hp9, hk9⟩ := hT2.1 v0 10 1 (.inl 5) hpv0 hkv0 rfl
        refine f_getr C dX12_person_58 zfRX12_141 hp9 hk9 rfl ?_
        obtain ⟨hp10, hk10⟩ := hT2.1 (gR S2 v0 1) 5 4 (.inr (0, 6)) hp9 hk9 rfl
        refine z_iload_n C dX12_person_61 rfl ?_
        obtain ⟨hi11, hF⟩ := bX_some hF
        obtain ⟨q11, eq11⟩ : ∃ q : Nat, q = Int32.toNatClampNeg v1 := ⟨_, rfl⟩
        rw [← eq11] at hF
        refine f_iald C dX12_person_62 hp10 hk10 hi11 ?_
        rw [← eq11]
        cases hF
        exact z_iret C hr dX12_person_63 ⟨rfl, rfl, hT2⟩
      replace hF := im hF c12
      by_cases c16 : v2 = 2
      · replace hF := ip hF c16
        refine z_tabIn C 64 dX12_person_14 (by rw [c16]; decide) (by rw [c16]; decide) (off := 50) (by rw [c16]; rfl) (by decide) ?_
        refine z_aload_n C dX12_person_64 rfl ?_
        refine f_getr C dX12_person_65 zfRX12_19 hpv0 hkv0 rfl ?_
        obtain ⟨hp13, hk13⟩ := hT2.1 v0 10 1 (.inl 5) hpv0 hkv0 rfl
        refine f_getr C dX12_person_68 zfRX12_144 hp13 hk13 rfl ?_
        obtain ⟨hp14, hk14⟩ := hT2.1 (gR S2 v0 1) 5 5 (.inr (0, 6)) hp13 hk13 rfl
        refine z_iload_n C dX12_person_71 rfl ?_
        obtain ⟨hi15, hF⟩ := bX_some hF
        obtain ⟨q15, eq15⟩ : ∃ q : Nat, q = Int32.toNatClampNeg v1 := ⟨_, rfl⟩
        rw [← eq15] at hF
        refine f_iald C dX12_person_72 hp14 hk14 hi15 ?_
        rw [← eq15]
        cases hF
        exact z_iret C hr dX12_person_73 ⟨rfl, rfl, hT2⟩
      replace hF := im hF c16
      by_cases c20 : v2 = 3
      · replace hF := ip hF c20
        refine z_tabIn C 74 dX12_person_14 (by rw [c20]; decide) (by rw [c20]; decide) (off := 60) (by rw [c20]; rfl) (by decide) ?_
        refine z_aload_n C dX12_person_74 rfl ?_
        refine f_getr C dX12_person_75 zfRX12_19 hpv0 hkv0 rfl ?_
        obtain ⟨hp17, hk17⟩ := hT2.1 v0 10 1 (.inl 5) hpv0 hkv0 rfl
        refine z_iload_n C dX12_person_78 rfl ?_
        refine z_aload_n C dX12_person_79 rfl ?_
        refine f_getr C dX12_person_80 zfRX12_39 hpv0 hkv0 rfl ?_
        obtain ⟨hp18, hk18⟩ := hT2.1 v0 10 5 (.inl 3) hpv0 hkv0 rfl
        obtain ⟨x19, S19, h19, hF⟩ := bI_some hF
        refine f_cV (st2 := [.int x19]) C dX12_person_83 zyX6_takenBy zvX6_takenBy lkRX12_147 (K_X6_takenBy (l := zXl X) hT2 hp17 hk17  hp18 hk18 h19) hp17 hk17 rfl (by decide) rfl rfl (Nat.le_of_ble_eq_true rfl) rfl (fun hT19 => ?_)
        cases hF
        exact z_iret C hr dX12_person_86 ⟨rfl, rfl, hT19⟩
      replace hF := im hF c20
      refine z_tabOut C 87 dX12_person_14 (f_tabOut (fun v h1 h2 e => by
        rcases (show v = 0 ∨ v = 1 ∨ v = 2 ∨ v = 3 by omega) with rfl | rfl | rfl | rfl
        · exact c8 (Int32.toInt_inj.mp (e.trans (by decide)))
        · exact c12 (Int32.toInt_inj.mp (e.trans (by decide)))
        · exact c16 (Int32.toInt_inj.mp (e.trans (by decide)))
        · exact c20 (Int32.toInt_inj.mp (e.trans (by decide))))) (by decide) ?_
      refine z_iconst (v := (-1)) C dX12_person_87 (by decide) ?_
      cases hF
      exact z_iret C hr dX12_person_88 ⟨rfl, rfl, hT2⟩
    · replace hF := ip hF c3
      refine z_iconst (v := (-1)) C dX12_person_11 (by decide) ?_
      cases hF
      exact z_iret C hr dX12_person_12 ⟨rfl, rfl, hT2⟩
theorem K_X12_person {G : zG} {l : Launch} {kd : kD} {N0 f : Nat} {S : aS} {v0 : Nat} {v1 : Int32} {v2 : Int32} {res : Option Value × aS} (hT : zT0 kd N0 S) (hpv0 : v0 < N0) (hkv0 : kd v0 = .inl 10) (hF : F_X12_person f 0 [.ref v0, .int v1, .int v2] S = some res) : zM G l 3 0 0 yX12_person cX12_person 3 (some .int) [.ref (zB G + v0), .int v1, .int v2] (cn G kd N0 S) (zPo G kd N0 res) := zM.of (by decide) rfl (Nat.le_of_ble_eq_true rfl) (fun X _ C hr _ => (B_X12_person C hr f) S v0 v1 v2 res hT hpv0 hkv0 hF)
def F_X12_empty_0 (f : Nat) (rc : Nat → List Value → aS → aR) (v0 : Nat) (v1 : Int32) (S : aS) : aR :=
  bI (F_X4_hasBin f 0 [.ref (gR S v0 5), .int v1] S) fun x2 S2 => if x2 = (0 : Int32) then some (some (.int ((-1))), S2) else bV (F_X3_push f 0 [.ref (gR S2 v0 7), .ref (gR S2 v0 5)] S2) fun S6 => bI (F_X4_emptyBin f 0 [.ref (gR S6 v0 5), .int v1, .int (gI S6 (gR S6 v0 1) 10)] S6) fun x9 S9 => some (some (.int x9), S9)
def F_X12_empty : Nat → Nat → List Value → aS → aR
  | 0, _, _, _ => none
  | f + 1, 0, vs, S => F_X12_empty_0 f (F_X12_empty f) (vR vs 0) (vI vs 1) S
  | _ + 1, _, _, _ => none
theorem dX12_empty_0 : decode cX12_empty 0 = .ok (.aload_n 0, 1) := by decide +kernel
theorem dX12_empty_1 : decode cX12_empty 1 = .ok (.getfield 39, 3) := by decide +kernel
theorem dX12_empty_4 : decode cX12_empty 4 = .ok (.iload_n 1, 1) := by decide +kernel
theorem dX12_empty_5 : decode cX12_empty 5 = .ok (.invokevirtual 168, 3) := by decide +kernel
theorem dX12_empty_8 : decode cX12_empty 8 = .ok (.ifCond .ne 5, 3) := by decide +kernel
theorem dX12_empty_11 : decode cX12_empty 11 = .ok (.iconst (-1), 1) := by decide +kernel
theorem dX12_empty_12 : decode cX12_empty 12 = .ok (.ireturn, 1) := by decide +kernel
theorem dX12_empty_13 : decode cX12_empty 13 = .ok (.aload_n 0, 1) := by decide +kernel
theorem dX12_empty_14 : decode cX12_empty 14 = .ok (.getfield 53, 3) := by decide +kernel
theorem dX12_empty_17 : decode cX12_empty 17 = .ok (.aload_n 0, 1) := by decide +kernel
theorem dX12_empty_18 : decode cX12_empty 18 = .ok (.getfield 39, 3) := by decide +kernel
theorem dX12_empty_21 : decode cX12_empty 21 = .ok (.invokevirtual 161, 3) := by decide +kernel
theorem dX12_empty_24 : decode cX12_empty 24 = .ok (.aload_n 0, 1) := by decide +kernel
theorem dX12_empty_25 : decode cX12_empty 25 = .ok (.getfield 39, 3) := by decide +kernel
theorem dX12_empty_28 : decode cX12_empty 28 = .ok (.iload_n 1, 1) := by decide +kernel
theorem dX12_empty_29 : decode cX12_empty 29 = .ok (.aload_n 0, 1) := by decide +kernel
theorem dX12_empty_30 : decode cX12_empty 30 = .ok (.getfield 19, 3) := by decide +kernel
theorem dX12_empty_33 : decode cX12_empty 33 = .ok (.getfield 171, 3) := by decide +kernel
theorem dX12_empty_36 : decode cX12_empty 36 = .ok (.invokevirtual 174, 3) := by decide +kernel
theorem dX12_empty_39 : decode cX12_empty 39 = .ok (.ireturn, 1) := by decide +kernel
set_option maxHeartbeats 4000000 in
set_option maxRecDepth 100000 in
theorem B_X12_empty {G : zG} {X : zX} {kd : kD} {N0 : Nat} (C : zCt G X 2 0 0 RX12 cX12_empty 2) (hr : (zXh X).sig.returnType = (some .int)) : ∀ f : Nat,
    (∀ (S : aS) (v0 : Nat) (v1 : Int32) (res : Option Value × aS), zT0 kd N0 S → v0 < N0 → kd v0 = .inl 10 → F_X12_empty f 0 [.ref v0, .int v1] S = some res → zV G X (zQX G X (zPo G kd N0 res) 0 0) 2 [some (.ref (zB G + v0)), some (.int v1)] [] (cn G kd N0 S) 0 0 0) := by
  intro f
  induction f with
  | zero => exact (fun _ _ _ _ _ _ _ h => by cases h)
  | succ f ih =>
    have ih0 := ih
    intro S v0 v1 res hT hpv0 hkv0 hF
    replace hF : F_X12_empty_0 f (F_X12_empty f) v0 v1 S = some res := hF
    unfold F_X12_empty_0 at hF
    refine z_aload_n C dX12_empty_0 rfl ?_
    refine f_getr C dX12_empty_1 zfRX12_39 hpv0 hkv0 rfl ?_
    obtain ⟨hp1, hk1⟩ := hT.1 v0 10 5 (.inl 3) hpv0 hkv0 rfl
    refine z_iload_n C dX12_empty_4 rfl ?_
    obtain ⟨x2, S2, h2, hF⟩ := bI_some hF
    refine f_cV (st2 := [.int x2]) C dX12_empty_5 zyX4_hasBin zvX4_hasBin lkRX12_168 (K_X4_hasBin (l := zXl X) hT hp1 hk1  h2) hp1 hk1 rfl (by decide) rfl rfl (Nat.le_of_ble_eq_true rfl) rfl (fun hT2 => ?_)
    refine z_if_ne C 13 dX12_empty_8 (by decide) (fun c3 => ?_) (fun c3 => ?_)
    · replace hF := im hF c3
      refine z_aload_n C dX12_empty_13 rfl ?_
      refine f_getr C dX12_empty_14 zfRX12_53 hpv0 hkv0 rfl ?_
      obtain ⟨hp4, hk4⟩ := hT2.1 v0 10 7 (.inl 2) hpv0 hkv0 rfl
      refine z_aload_n C dX12_empty_17 rfl ?_
      refine f_getr C dX12_empty_18 zfRX12_39 hpv0 hkv0 rfl ?_
      obtain ⟨hp5, hk5⟩ := hT2.1 v0 10 5 (.inl 3) hpv0 hkv0 rfl
      obtain ⟨S6, h6, hF⟩ := bV_some hF
      refine f_cV (st2 := []) C dX12_empty_21 zyX3_push zvX3_push lkRX12_161 (K_X3_push (l := zXl X) hT2 hp4 hk4 hp5 hk5 h6) hp4 hk4 rfl (by decide) rfl rfl (Nat.le_of_ble_eq_true rfl) rfl (fun hT6 => ?_)
      refine z_aload_n C dX12_empty_24 rfl ?_
      refine f_getr C dX12_empty_25 zfRX12_39 hpv0 hkv0 rfl ?_
      obtain ⟨hp7, hk7⟩ := hT6.1 v0 10 5 (.inl 3) hpv0 hkv0 rfl
      refine z_iload_n C dX12_empty_28 rfl ?_
      refine z_aload_n C dX12_empty_29 rfl ?_
      refine f_getr C dX12_empty_30 zfRX12_19 hpv0 hkv0 rfl ?_
      obtain ⟨hp8, hk8⟩ := hT6.1 v0 10 1 (.inl 5) hpv0 hkv0 rfl
      refine f_geti C dX12_empty_33 zfRX12_171 hp8 hk8 rfl ?_
      obtain ⟨x9, S9, h9, hF⟩ := bI_some hF
      refine f_cV (st2 := [.int x9]) C dX12_empty_36 zyX4_emptyBin zvX4_emptyBin lkRX12_174 (K_X4_emptyBin (l := zXl X) hT6 hp7 hk7   h9) hp7 hk7 rfl (by decide) rfl rfl (Nat.le_of_ble_eq_true rfl) rfl (fun hT9 => ?_)
      cases hF
      exact z_iret C hr dX12_empty_39 ⟨rfl, rfl, hT9⟩
    · replace hF := ip hF c3
      refine z_iconst (v := (-1)) C dX12_empty_11 (by decide) ?_
      cases hF
      exact z_iret C hr dX12_empty_12 ⟨rfl, rfl, hT2⟩
theorem K_X12_empty {G : zG} {l : Launch} {kd : kD} {N0 f : Nat} {S : aS} {v0 : Nat} {v1 : Int32} {res : Option Value × aS} (hT : zT0 kd N0 S) (hpv0 : v0 < N0) (hkv0 : kd v0 = .inl 10) (hF : F_X12_empty f 0 [.ref v0, .int v1] S = some res) : zM G l 2 0 0 yX12_empty cX12_empty 2 (some .int) [.ref (zB G + v0), .int v1] (cn G kd N0 S) (zPo G kd N0 res) := zM.of (by decide) rfl (Nat.le_of_ble_eq_true rfl) (fun X _ C hr _ => (B_X12_empty C hr f) S v0 v1 res hT hpv0 hkv0 hF)
def F_X12_put_0 (f : Nat) (rc : Nat → List Value → aS → aR) (v0 : Nat) (v1 : Int32) (v2 : Int32) (S : aS) : aR :=
  bI (F_X4_hasYard f 0 [.ref (gR S v0 5), .int v1] S) fun x2 S2 => if x2 = (0 : Int32) then rc 1 [] S2 else bI (F_X4_hasBin f 0 [.ref (gR S2 v0 5), .int v1] S2) fun x5 S5 => if x5 = (0 : Int32) then bI (F_X12_isWithin f 0 [.int v2, .int 1, .int 30] S5) fun x7 S7 => if x7 = (0 : Int32) then rc 1 [] S7 else bV (F_X3_push f 0 [.ref (gR S7 v0 7), .ref (gR S7 v0 5)] S7) fun S11 => bV (F_X4_setBin f 0 [.ref (gR S11 v0 5), .int v1, .int v2] S11) fun S13 => bZ 1 (some (some (.int 1), S13)) else rc 1 [] S5
def F_X12_put_1 (f : Nat) (rc : Nat → List Value → aS → aR)  (S : aS) : aR :=
  bZ 0 (some (some (.int 0), S))
def F_X12_put : Nat → Nat → List Value → aS → aR
  | 0, _, _, _ => none
  | f + 1, 0, vs, S => F_X12_put_0 f (F_X12_put f) (vR vs 0) (vI vs 1) (vI vs 2) S
  | f + 1, 1, vs, S => F_X12_put_1 f (F_X12_put f)  S
  | _ + 1, _, _, _ => none
theorem dX12_put_0 : decode cX12_put 0 = .ok (.aload_n 0, 1) := by decide +kernel
theorem dX12_put_1 : decode cX12_put 1 = .ok (.getfield 39, 3) := by decide +kernel
theorem dX12_put_4 : decode cX12_put 4 = .ok (.iload_n 1, 1) := by decide +kernel
theorem dX12_put_5 : decode cX12_put 5 = .ok (.invokevirtual 117, 3) := by decide +kernel
theorem dX12_put_8 : decode cX12_put 8 = .ok (.ifCond .eq 24, 3) := by decide +kernel
theorem dX12_put_11 : decode cX12_put 11 = .ok (.aload_n 0, 1) := by decide +kernel
theorem dX12_put_12 : decode cX12_put 12 = .ok (.getfield 39, 3) := by decide +kernel
theorem dX12_put_15 : decode cX12_put 15 = .ok (.iload_n 1, 1) := by decide +kernel
theorem dX12_put_16 : decode cX12_put 16 = .ok (.invokevirtual 168, 3) := by decide +kernel
theorem dX12_put_19 : decode cX12_put 19 = .ok (.ifCond .ne 13, 3) := by decide +kernel
theorem dX12_put_22 : decode cX12_put 22 = .ok (.iload_n 2, 1) := by decide +kernel
theorem dX12_put_23 : decode cX12_put 23 = .ok (.iconst 1, 1) := by decide +kernel
theorem dX12_put_24 : decode cX12_put 24 = .ok (.bipush 30, 2) := by decide +kernel
theorem dX12_put_26 : decode cX12_put 26 = .ok (.invokestatic 178, 3) := by decide +kernel
theorem dX12_put_29 : decode cX12_put 29 = .ok (.ifCond .ne 5, 3) := by decide +kernel
theorem dX12_put_32 : decode cX12_put 32 = .ok (.iconst 0, 1) := by decide +kernel
theorem dX12_put_33 : decode cX12_put 33 = .ok (.ireturn, 1) := by decide +kernel
theorem dX12_put_34 : decode cX12_put 34 = .ok (.aload_n 0, 1) := by decide +kernel
theorem dX12_put_35 : decode cX12_put 35 = .ok (.getfield 53, 3) := by decide +kernel
theorem dX12_put_38 : decode cX12_put 38 = .ok (.aload_n 0, 1) := by decide +kernel
theorem dX12_put_39 : decode cX12_put 39 = .ok (.getfield 39, 3) := by decide +kernel
theorem dX12_put_42 : decode cX12_put 42 = .ok (.invokevirtual 161, 3) := by decide +kernel
theorem dX12_put_45 : decode cX12_put 45 = .ok (.aload_n 0, 1) := by decide +kernel
theorem dX12_put_46 : decode cX12_put 46 = .ok (.getfield 39, 3) := by decide +kernel
theorem dX12_put_49 : decode cX12_put 49 = .ok (.iload_n 1, 1) := by decide +kernel
theorem dX12_put_50 : decode cX12_put 50 = .ok (.iload_n 2, 1) := by decide +kernel
theorem dX12_put_51 : decode cX12_put 51 = .ok (.invokevirtual 182, 3) := by decide +kernel
theorem dX12_put_54 : decode cX12_put 54 = .ok (.iconst 1, 1) := by decide +kernel
theorem dX12_put_55 : decode cX12_put 55 = .ok (.ireturn, 1) := by decide +kernel
set_option maxHeartbeats 4000000 in
set_option maxRecDepth 100000 in
theorem B_X12_put {G : zG} {X : zX} {kd : kD} {N0 : Nat} (C : zCt G X 2 0 0 RX12 cX12_put 3) (hr : (zXh X).sig.returnType = (some .boolean)) : ∀ f : Nat,
    (∀ (S : aS) (v0 : Nat) (v1 : Int32) (v2 : Int32) (res : Option Value × aS), zT0 kd N0 S → v0 < N0 → kd v0 = .inl 10 → F_X12_put f 0 [.ref v0, .int v1, .int v2] S = some res → zV G X (zQX G X (zPo G kd N0 res) 0 0) 3 [some (.ref (zB G + v0)), some (.int v1), some (.int v2)] [] (cn G kd N0 S) 0 0 0) ∧
    (∀ (S : aS)  (res : Option Value × aS), zT0 kd N0 S → F_X12_put f 1 [] S = some res → zV G X (zQX G X (zPo G kd N0 res) 0 0) 3 [none, none, none] [] (cn G kd N0 S) 32 0 0) := by
  intro f
  induction f with
  | zero => exact ⟨(fun _ _ _ _ _ _ _ _ h => by cases h), (fun _ _ _ h => by cases h)⟩
  | succ f ih =>
    obtain ⟨ih0, ih1⟩ := ih
    refine ⟨?_, ?_⟩
    · intro S v0 v1 v2 res hT hpv0 hkv0 hF
      replace hF : F_X12_put_0 f (F_X12_put f) v0 v1 v2 S = some res := hF
      unfold F_X12_put_0 at hF
      refine z_aload_n C dX12_put_0 rfl ?_
      refine f_getr C dX12_put_1 zfRX12_39 hpv0 hkv0 rfl ?_
      obtain ⟨hp1, hk1⟩ := hT.1 v0 10 5 (.inl 3) hpv0 hkv0 rfl
      refine z_iload_n C dX12_put_4 rfl ?_
      obtain ⟨x2, S2, h2, hF⟩ := bI_some hF
      refine f_cV (st2 := [.int x2]) C dX12_put_5 zyX4_hasYard zvX4_hasYard lkRX12_117 (K_X4_hasYard (l := zXl X) hT hp1 hk1  h2) hp1 hk1 rfl (by decide) rfl rfl (Nat.le_of_ble_eq_true rfl) rfl (fun hT2 => ?_)
      refine z_if_eq C 32 dX12_put_8 (by decide) (fun c3 => ?_) (fun c3 => ?_)
      · replace hF := ip hF c3
        refine z_mask [false, false, false] ?_ rfl
        exact ih1 S2  res hT2  hF
      · replace hF := im hF c3
        refine z_aload_n C dX12_put_11 rfl ?_
        refine f_getr C dX12_put_12 zfRX12_39 hpv0 hkv0 rfl ?_
        obtain ⟨hp4, hk4⟩ := hT2.1 v0 10 5 (.inl 3) hpv0 hkv0 rfl
        refine z_iload_n C dX12_put_15 rfl ?_
        obtain ⟨x5, S5, h5, hF⟩ := bI_some hF
        refine f_cV (st2 := [.int x5]) C dX12_put_16 zyX4_hasBin zvX4_hasBin lkRX12_168 (K_X4_hasBin (l := zXl X) hT2 hp4 hk4  h5) hp4 hk4 rfl (by decide) rfl rfl (Nat.le_of_ble_eq_true rfl) rfl (fun hT5 => ?_)
        refine z_if_ne C 32 dX12_put_19 (by decide) (fun c6 => ?_) (fun c6 => ?_)
        · replace hF := im hF c6
          refine z_mask [false, false, false] ?_ rfl
          exact ih1 S5  res hT5  hF
        · replace hF := ip hF c6
          refine z_iload_n C dX12_put_22 rfl ?_
          refine z_iconst (v := 1) C dX12_put_23 (by decide) ?_
          refine z_bipush (v := 30) C dX12_put_24 (by decide) ?_
          obtain ⟨x7, S7, h7, hF⟩ := bI_some hF
          refine f_cS (st2 := [.int x7]) C dX12_put_26 zyX12_isWithin zsX12_isWithin lkRX12_178 (K_X12_isWithin (l := zXl X) hT5    h7) (by decide) rfl rfl (Nat.le_of_ble_eq_true rfl) rfl (fun hT7 => ?_)
          refine z_if_ne C 34 dX12_put_29 (by decide) (fun c8 => ?_) (fun c8 => ?_)
          · replace hF := im hF c8
            refine z_aload_n C dX12_put_34 rfl ?_
            refine f_getr C dX12_put_35 zfRX12_53 hpv0 hkv0 rfl ?_
            obtain ⟨hp9, hk9⟩ := hT7.1 v0 10 7 (.inl 2) hpv0 hkv0 rfl
            refine z_aload_n C dX12_put_38 rfl ?_
            refine f_getr C dX12_put_39 zfRX12_39 hpv0 hkv0 rfl ?_
            obtain ⟨hp10, hk10⟩ := hT7.1 v0 10 5 (.inl 3) hpv0 hkv0 rfl
            obtain ⟨S11, h11, hF⟩ := bV_some hF
            refine f_cV (st2 := []) C dX12_put_42 zyX3_push zvX3_push lkRX12_161 (K_X3_push (l := zXl X) hT7 hp9 hk9 hp10 hk10 h11) hp9 hk9 rfl (by decide) rfl rfl (Nat.le_of_ble_eq_true rfl) rfl (fun hT11 => ?_)
            refine z_aload_n C dX12_put_45 rfl ?_
            refine f_getr C dX12_put_46 zfRX12_39 hpv0 hkv0 rfl ?_
            obtain ⟨hp12, hk12⟩ := hT11.1 v0 10 5 (.inl 3) hpv0 hkv0 rfl
            refine z_iload_n C dX12_put_49 rfl ?_
            refine z_iload_n C dX12_put_50 rfl ?_
            obtain ⟨S13, h13, hF⟩ := bV_some hF
            refine f_cV (st2 := []) C dX12_put_51 zyX4_setBin zvX4_setBin lkRX12_182 (K_X4_setBin (l := zXl X) hT11 hp12 hk12   h13) hp12 hk12 rfl (by decide) rfl rfl (Nat.le_of_ble_eq_true rfl) rfl (fun hT13 => ?_)
            refine z_iconst (v := 1) C dX12_put_54 (by decide) ?_
            obtain ⟨hz, hF⟩ := bZ_some hF
            cases hF
            exact z_zret C hr hz.1 dX12_put_55 ⟨rfl, rfl, hT13⟩
          · replace hF := ip hF c8
            refine z_mask [false, false, false] ?_ rfl
            exact ih1 S7  res hT7  hF
    · intro S  res hT  hF
      replace hF : F_X12_put_1 f (F_X12_put f)  S = some res := hF
      unfold F_X12_put_1 at hF
      refine z_iconst (v := 0) C dX12_put_32 (by decide) ?_
      obtain ⟨hz, hF⟩ := bZ_some hF
      cases hF
      exact z_zret C hr hz.1 dX12_put_33 ⟨rfl, rfl, hT⟩
theorem K_X12_put {G : zG} {l : Launch} {kd : kD} {N0 f : Nat} {S : aS} {v0 : Nat} {v1 : Int32} {v2 : Int32} {res : Option Value × aS} (hT : zT0 kd N0 S) (hpv0 : v0 < N0) (hkv0 : kd v0 = .inl 10) (hF : F_X12_put f 0 [.ref v0, .int v1, .int v2] S = some res) : zM G l 2 0 0 yX12_put cX12_put 3 (some .boolean) [.ref (zB G + v0), .int v1, .int v2] (cn G kd N0 S) (zPo G kd N0 res) := zM.of (by decide) rfl (Nat.le_of_ble_eq_true rfl) (fun X _ C hr _ => (B_X12_put C hr f).1 S v0 v1 v2 res hT hpv0 hkv0 hF)
def F_X12_off_0 (f : Nat) (rc : Nat → List Value → aS → aR) (v0 : Nat) (v1 : Int32) (S : aS) : aR :=
  bI (F_X4_hasBin f 0 [.ref (gR S v0 5), .int v1] S) fun x2 S2 => if x2 = (0 : Int32) then some (some (.int ((-1))), S2) else bV (F_X3_push f 0 [.ref (gR S2 v0 7), .ref (gR S2 v0 5)] S2) fun S6 => bI (F_X4_takeBin f 0 [.ref (gR S6 v0 5), .int v1] S6) fun x8 S8 => some (some (.int x8), S8)
def F_X12_off : Nat → Nat → List Value → aS → aR
  | 0, _, _, _ => none
  | f + 1, 0, vs, S => F_X12_off_0 f (F_X12_off f) (vR vs 0) (vI vs 1) S
  | _ + 1, _, _, _ => none
theorem dX12_off_0 : decode cX12_off 0 = .ok (.aload_n 0, 1) := by decide +kernel
theorem dX12_off_1 : decode cX12_off 1 = .ok (.getfield 39, 3) := by decide +kernel
theorem dX12_off_4 : decode cX12_off 4 = .ok (.iload_n 1, 1) := by decide +kernel
theorem dX12_off_5 : decode cX12_off 5 = .ok (.invokevirtual 168, 3) := by decide +kernel
theorem dX12_off_8 : decode cX12_off 8 = .ok (.ifCond .ne 5, 3) := by decide +kernel
theorem dX12_off_11 : decode cX12_off 11 = .ok (.iconst (-1), 1) := by decide +kernel
theorem dX12_off_12 : decode cX12_off 12 = .ok (.ireturn, 1) := by decide +kernel
theorem dX12_off_13 : decode cX12_off 13 = .ok (.aload_n 0, 1) := by decide +kernel
theorem dX12_off_14 : decode cX12_off 14 = .ok (.getfield 53, 3) := by decide +kernel
theorem dX12_off_17 : decode cX12_off 17 = .ok (.aload_n 0, 1) := by decide +kernel
theorem dX12_off_18 : decode cX12_off 18 = .ok (.getfield 39, 3) := by decide +kernel
theorem dX12_off_21 : decode cX12_off 21 = .ok (.invokevirtual 161, 3) := by decide +kernel
theorem dX12_off_24 : decode cX12_off 24 = .ok (.aload_n 0, 1) := by decide +kernel
theorem dX12_off_25 : decode cX12_off 25 = .ok (.getfield 39, 3) := by decide +kernel
theorem dX12_off_28 : decode cX12_off 28 = .ok (.iload_n 1, 1) := by decide +kernel
theorem dX12_off_29 : decode cX12_off 29 = .ok (.invokevirtual 186, 3) := by decide +kernel
theorem dX12_off_32 : decode cX12_off 32 = .ok (.ireturn, 1) := by decide +kernel
set_option maxHeartbeats 4000000 in
set_option maxRecDepth 100000 in
theorem B_X12_off {G : zG} {X : zX} {kd : kD} {N0 : Nat} (C : zCt G X 2 0 0 RX12 cX12_off 2) (hr : (zXh X).sig.returnType = (some .int)) : ∀ f : Nat,
    (∀ (S : aS) (v0 : Nat) (v1 : Int32) (res : Option Value × aS), zT0 kd N0 S → v0 < N0 → kd v0 = .inl 10 → F_X12_off f 0 [.ref v0, .int v1] S = some res → zV G X (zQX G X (zPo G kd N0 res) 0 0) 2 [some (.ref (zB G + v0)), some (.int v1)] [] (cn G kd N0 S) 0 0 0) := by
  intro f
  induction f with
  | zero => exact (fun _ _ _ _ _ _ _ h => by cases h)
  | succ f ih =>
    have ih0 := ih
    intro S v0 v1 res hT hpv0 hkv0 hF
    replace hF : F_X12_off_0 f (F_X12_off f) v0 v1 S = some res := hF
    unfold F_X12_off_0 at hF
    refine z_aload_n C dX12_off_0 rfl ?_
    refine f_getr C dX12_off_1 zfRX12_39 hpv0 hkv0 rfl ?_
    obtain ⟨hp1, hk1⟩ := hT.1 v0 10 5 (.inl 3) hpv0 hkv0 rfl
    refine z_iload_n C dX12_off_4 rfl ?_
    obtain ⟨x2, S2, h2, hF⟩ := bI_some hF
    refine f_cV (st2 := [.int x2]) C dX12_off_5 zyX4_hasBin zvX4_hasBin lkRX12_168 (K_X4_hasBin (l := zXl X) hT hp1 hk1  h2) hp1 hk1 rfl (by decide) rfl rfl (Nat.le_of_ble_eq_true rfl) rfl (fun hT2 => ?_)
    refine z_if_ne C 13 dX12_off_8 (by decide) (fun c3 => ?_) (fun c3 => ?_)
    · replace hF := im hF c3
      refine z_aload_n C dX12_off_13 rfl ?_
      refine f_getr C dX12_off_14 zfRX12_53 hpv0 hkv0 rfl ?_
      obtain ⟨hp4, hk4⟩ := hT2.1 v0 10 7 (.inl 2) hpv0 hkv0 rfl
      refine z_aload_n C dX12_off_17 rfl ?_
      refine f_getr C dX12_off_18 zfRX12_39 hpv0 hkv0 rfl ?_
      obtain ⟨hp5, hk5⟩ := hT2.1 v0 10 5 (.inl 3) hpv0 hkv0 rfl
      obtain ⟨S6, h6, hF⟩ := bV_some hF
      refine f_cV (st2 := []) C dX12_off_21 zyX3_push zvX3_push lkRX12_161 (K_X3_push (l := zXl X) hT2 hp4 hk4 hp5 hk5 h6) hp4 hk4 rfl (by decide) rfl rfl (Nat.le_of_ble_eq_true rfl) rfl (fun hT6 => ?_)
      refine z_aload_n C dX12_off_24 rfl ?_
      refine f_getr C dX12_off_25 zfRX12_39 hpv0 hkv0 rfl ?_
      obtain ⟨hp7, hk7⟩ := hT6.1 v0 10 5 (.inl 3) hpv0 hkv0 rfl
      refine z_iload_n C dX12_off_28 rfl ?_
      obtain ⟨x8, S8, h8, hF⟩ := bI_some hF
      refine f_cV (st2 := [.int x8]) C dX12_off_29 zyX4_takeBin zvX4_takeBin lkRX12_186 (K_X4_takeBin (l := zXl X) hT6 hp7 hk7  h8) hp7 hk7 rfl (by decide) rfl rfl (Nat.le_of_ble_eq_true rfl) rfl (fun hT8 => ?_)
      cases hF
      exact z_iret C hr dX12_off_32 ⟨rfl, rfl, hT8⟩
    · replace hF := ip hF c3
      refine z_iconst (v := (-1)) C dX12_off_11 (by decide) ?_
      cases hF
      exact z_iret C hr dX12_off_12 ⟨rfl, rfl, hT2⟩
theorem K_X12_off {G : zG} {l : Launch} {kd : kD} {N0 f : Nat} {S : aS} {v0 : Nat} {v1 : Int32} {res : Option Value × aS} (hT : zT0 kd N0 S) (hpv0 : v0 < N0) (hkv0 : kd v0 = .inl 10) (hF : F_X12_off f 0 [.ref v0, .int v1] S = some res) : zM G l 2 0 0 yX12_off cX12_off 2 (some .int) [.ref (zB G + v0), .int v1] (cn G kd N0 S) (zPo G kd N0 res) := zM.of (by decide) rfl (Nat.le_of_ble_eq_true rfl) (fun X _ C hr _ => (B_X12_off C hr f) S v0 v1 res hT hpv0 hkv0 hF)
def F_X12_sweep_0 (f : Nat) (rc : Nat → List Value → aS → aR) (v0 : Nat) (v1 : Int32) (S : aS) : aR :=
  bI (F_X4_hasYard f 0 [.ref (gR S v0 5), .int v1] S) fun x2 S2 => if x2 = (0 : Int32) then some (some (.int ((-1))), S2) else bV (F_X3_push f 0 [.ref (gR S2 v0 7), .ref (gR S2 v0 5)] S2) fun S6 => bI (F_X4_sweepYard f 0 [.ref (gR S6 v0 5), .int v1] S6) fun x8 S8 => some (some (.int x8), S8)
def F_X12_sweep : Nat → Nat → List Value → aS → aR
  | 0, _, _, _ => none
  | f + 1, 0, vs, S => F_X12_sweep_0 f (F_X12_sweep f) (vR vs 0) (vI vs 1) S
  | _ + 1, _, _, _ => none
theorem dX12_sweep_0 : decode cX12_sweep 0 = .ok (.aload_n 0, 1) := by decide +kernel
theorem dX12_sweep_1 : decode cX12_sweep 1 = .ok (.getfield 39, 3) := by decide +kernel
theorem dX12_sweep_4 : decode cX12_sweep 4 = .ok (.iload_n 1, 1) := by decide +kernel
theorem dX12_sweep_5 : decode cX12_sweep 5 = .ok (.invokevirtual 117, 3) := by decide +kernel
theorem dX12_sweep_8 : decode cX12_sweep 8 = .ok (.ifCond .ne 5, 3) := by decide +kernel
theorem dX12_sweep_11 : decode cX12_sweep 11 = .ok (.iconst (-1), 1) := by decide +kernel
theorem dX12_sweep_12 : decode cX12_sweep 12 = .ok (.ireturn, 1) := by decide +kernel
theorem dX12_sweep_13 : decode cX12_sweep 13 = .ok (.aload_n 0, 1) := by decide +kernel
theorem dX12_sweep_14 : decode cX12_sweep 14 = .ok (.getfield 53, 3) := by decide +kernel
theorem dX12_sweep_17 : decode cX12_sweep 17 = .ok (.aload_n 0, 1) := by decide +kernel
theorem dX12_sweep_18 : decode cX12_sweep 18 = .ok (.getfield 39, 3) := by decide +kernel
theorem dX12_sweep_21 : decode cX12_sweep 21 = .ok (.invokevirtual 161, 3) := by decide +kernel
theorem dX12_sweep_24 : decode cX12_sweep 24 = .ok (.aload_n 0, 1) := by decide +kernel
theorem dX12_sweep_25 : decode cX12_sweep 25 = .ok (.getfield 39, 3) := by decide +kernel
theorem dX12_sweep_28 : decode cX12_sweep 28 = .ok (.iload_n 1, 1) := by decide +kernel
theorem dX12_sweep_29 : decode cX12_sweep 29 = .ok (.invokevirtual 189, 3) := by decide +kernel
theorem dX12_sweep_32 : decode cX12_sweep 32 = .ok (.ireturn, 1) := by decide +kernel
set_option maxHeartbeats 4000000 in
set_option maxRecDepth 100000 in
theorem B_X12_sweep {G : zG} {X : zX} {kd : kD} {N0 : Nat} (C : zCt G X 2 0 0 RX12 cX12_sweep 2) (hr : (zXh X).sig.returnType = (some .int)) : ∀ f : Nat,
    (∀ (S : aS) (v0 : Nat) (v1 : Int32) (res : Option Value × aS), zT0 kd N0 S → v0 < N0 → kd v0 = .inl 10 → F_X12_sweep f 0 [.ref v0, .int v1] S = some res → zV G X (zQX G X (zPo G kd N0 res) 0 0) 2 [some (.ref (zB G + v0)), some (.int v1)] [] (cn G kd N0 S) 0 0 0) := by
  intro f
  induction f with
  | zero => exact (fun _ _ _ _ _ _ _ h => by cases h)
  | succ f ih =>
    have ih0 := ih
    intro S v0 v1 res hT hpv0 hkv0 hF
    replace hF : F_X12_sweep_0 f (F_X12_sweep f) v0 v1 S = some res := hF
    unfold F_X12_sweep_0 at hF
    refine z_aload_n C dX12_sweep_0 rfl ?_
    refine f_getr C dX12_sweep_1 zfRX12_39 hpv0 hkv0 rfl ?_
    obtain ⟨hp1, hk1⟩ := hT.1 v0 10 5 (.inl 3) hpv0 hkv0 rfl
    refine z_iload_n C dX12_sweep_4 rfl ?_
    obtain ⟨x2, S2, h2, hF⟩ := bI_some hF
    refine f_cV (st2 := [.int x2]) C dX12_sweep_5 zyX4_hasYard zvX4_hasYard lkRX12_117 (K_X4_hasYard (l := zXl X) hT hp1 hk1  h2) hp1 hk1 rfl (by decide) rfl rfl (Nat.le_of_ble_eq_true rfl) rfl (fun hT2 => ?_)
    refine z_if_ne C 13 dX12_sweep_8 (by decide) (fun c3 => ?_) (fun c3 => ?_)
    · replace hF := im hF c3
      refine z_aload_n C dX12_sweep_13 rfl ?_
      refine f_getr C dX12_sweep_14 zfRX12_53 hpv0 hkv0 rfl ?_
      obtain ⟨hp4, hk4⟩ := hT2.1 v0 10 7 (.inl 2) hpv0 hkv0 rfl
      refine z_aload_n C dX12_sweep_17 rfl ?_
      refine f_getr C dX12_sweep_18 zfRX12_39 hpv0 hkv0 rfl ?_
      obtain ⟨hp5, hk5⟩ := hT2.1 v0 10 5 (.inl 3) hpv0 hkv0 rfl
      obtain ⟨S6, h6, hF⟩ := bV_some hF
      refine f_cV (st2 := []) C dX12_sweep_21 zyX3_push zvX3_push lkRX12_161 (K_X3_push (l := zXl X) hT2 hp4 hk4 hp5 hk5 h6) hp4 hk4 rfl (by decide) rfl rfl (Nat.le_of_ble_eq_true rfl) rfl (fun hT6 => ?_)
      refine z_aload_n C dX12_sweep_24 rfl ?_
      refine f_getr C dX12_sweep_25 zfRX12_39 hpv0 hkv0 rfl ?_
      obtain ⟨hp7, hk7⟩ := hT6.1 v0 10 5 (.inl 3) hpv0 hkv0 rfl
      refine z_iload_n C dX12_sweep_28 rfl ?_
      obtain ⟨x8, S8, h8, hF⟩ := bI_some hF
      refine f_cV (st2 := [.int x8]) C dX12_sweep_29 zyX4_sweepYard zvX4_sweepYard lkRX12_189 (K_X4_sweepYard (l := zXl X) hT6 hp7 hk7  h8) hp7 hk7 rfl (by decide) rfl rfl (Nat.le_of_ble_eq_true rfl) rfl (fun hT8 => ?_)
      cases hF
      exact z_iret C hr dX12_sweep_32 ⟨rfl, rfl, hT8⟩
    · replace hF := ip hF c3
      refine z_iconst (v := (-1)) C dX12_sweep_11 (by decide) ?_
      cases hF
      exact z_iret C hr dX12_sweep_12 ⟨rfl, rfl, hT2⟩
theorem K_X12_sweep {G : zG} {l : Launch} {kd : kD} {N0 f : Nat} {S : aS} {v0 : Nat} {v1 : Int32} {res : Option Value × aS} (hT : zT0 kd N0 S) (hpv0 : v0 < N0) (hkv0 : kd v0 = .inl 10) (hF : F_X12_sweep f 0 [.ref v0, .int v1] S = some res) : zM G l 2 0 0 yX12_sweep cX12_sweep 2 (some .int) [.ref (zB G + v0), .int v1] (cn G kd N0 S) (zPo G kd N0 res) := zM.of (by decide) rfl (Nat.le_of_ble_eq_true rfl) (fun X _ C hr _ => (B_X12_sweep C hr f) S v0 v1 res hT hpv0 hkv0 hF)
def F_X12_hour_0 (f : Nat) (rc : Nat → List Value → aS → aR) (v0 : Nat) (S : aS) : aR :=
  bV (F_X3_push f 0 [.ref (gR S v0 7), .ref (gR S v0 5)] S) fun S3 => bI (F_X4_passHour f 0 [.ref (gR S3 v0 5), .ref (gR S3 v0 1)] S3) fun x6 S6 => some (some (.int x6), S6)
def F_X12_hour : Nat → Nat → List Value → aS → aR
  | 0, _, _, _ => none
  | f + 1, 0, vs, S => F_X12_hour_0 f (F_X12_hour f) (vR vs 0) S
  | _ + 1, _, _, _ => none
theorem dX12_hour_0 : decode cX12_hour 0 = .ok (.aload_n 0, 1) := by decide +kernel
theorem dX12_hour_1 : decode cX12_hour 1 = .ok (.getfield 53, 3) := by decide +kernel
theorem dX12_hour_4 : decode cX12_hour 4 = .ok (.aload_n 0, 1) := by decide +kernel
theorem dX12_hour_5 : decode cX12_hour 5 = .ok (.getfield 39, 3) := by decide +kernel
theorem dX12_hour_8 : decode cX12_hour 8 = .ok (.invokevirtual 161, 3) := by decide +kernel
theorem dX12_hour_11 : decode cX12_hour 11 = .ok (.aload_n 0, 1) := by decide +kernel
theorem dX12_hour_12 : decode cX12_hour 12 = .ok (.getfield 39, 3) := by decide +kernel
theorem dX12_hour_15 : decode cX12_hour 15 = .ok (.aload_n 0, 1) := by decide +kernel
theorem dX12_hour_16 : decode cX12_hour 16 = .ok (.getfield 19, 3) := by decide +kernel
theorem dX12_hour_19 : decode cX12_hour 19 = .ok (.invokevirtual 192, 3) := by decide +kernel
theorem dX12_hour_22 : decode cX12_hour 22 = .ok (.ireturn, 1) := by decide +kernel
set_option maxHeartbeats 4000000 in
set_option maxRecDepth 100000 in
theorem B_X12_hour {G : zG} {X : zX} {kd : kD} {N0 : Nat} (C : zCt G X 4 0 0 RX12 cX12_hour 1) (hr : (zXh X).sig.returnType = (some .int)) : ∀ f : Nat,
    (∀ (S : aS) (v0 : Nat) (res : Option Value × aS), zT0 kd N0 S → v0 < N0 → kd v0 = .inl 10 → F_X12_hour f 0 [.ref v0] S = some res → zV G X (zQX G X (zPo G kd N0 res) 0 0) 1 [some (.ref (zB G + v0))] [] (cn G kd N0 S) 0 0 0) := by
  intro f
  induction f with
  | zero => exact (fun _ _ _ _ _ _ h => by cases h)
  | succ f ih =>
    have ih0 := ih
    intro S v0 res hT hpv0 hkv0 hF
    replace hF : F_X12_hour_0 f (F_X12_hour f) v0 S = some res := hF
    unfold F_X12_hour_0 at hF
    refine z_aload_n C dX12_hour_0 rfl ?_
    refine f_getr C dX12_hour_1 zfRX12_53 hpv0 hkv0 rfl ?_
    obtain ⟨hp1, hk1⟩ := hT.1 v0 10 7 (.inl 2) hpv0 hkv0 rfl
    refine z_aload_n C dX12_hour_4 rfl ?_
    refine f_getr C dX12_hour_5 zfRX12_39 hpv0 hkv0 rfl ?_
    obtain ⟨hp2, hk2⟩ := hT.1 v0 10 5 (.inl 3) hpv0 hkv0 rfl
    obtain ⟨S3, h3, hF⟩ := bV_some hF
    refine f_cV (st2 := []) C dX12_hour_8 zyX3_push zvX3_push lkRX12_161 (K_X3_push (l := zXl X) hT hp1 hk1 hp2 hk2 h3) hp1 hk1 rfl (by decide) rfl rfl (Nat.le_of_ble_eq_true rfl) rfl (fun hT3 => ?_)
    refine z_aload_n C dX12_hour_11 rfl ?_
    refine f_getr C dX12_hour_12 zfRX12_39 hpv0 hkv0 rfl ?_
    obtain ⟨hp4, hk4⟩ := hT3.1 v0 10 5 (.inl 3) hpv0 hkv0 rfl
    refine z_aload_n C dX12_hour_15 rfl ?_
    refine f_getr C dX12_hour_16 zfRX12_19 hpv0 hkv0 rfl ?_
    obtain ⟨hp5, hk5⟩ := hT3.1 v0 10 1 (.inl 5) hpv0 hkv0 rfl
    obtain ⟨x6, S6, h6, hF⟩ := bI_some hF
    refine f_cV (st2 := [.int x6]) C dX12_hour_19 zyX4_passHour zvX4_passHour lkRX12_192 (K_X4_passHour (l := zXl X) hT3 hp4 hk4 hp5 hk5 h6) hp4 hk4 rfl (by decide) rfl rfl (Nat.le_of_ble_eq_true rfl) rfl (fun hT6 => ?_)
    cases hF
    exact z_iret C hr dX12_hour_22 ⟨rfl, rfl, hT6⟩
theorem K_X12_hour {G : zG} {l : Launch} {kd : kD} {N0 f : Nat} {S : aS} {v0 : Nat} {res : Option Value × aS} (hT : zT0 kd N0 S) (hpv0 : v0 < N0) (hkv0 : kd v0 = .inl 10) (hF : F_X12_hour f 0 [.ref v0] S = some res) : zM G l 4 0 0 yX12_hour cX12_hour 1 (some .int) [.ref (zB G + v0)] (cn G kd N0 S) (zPo G kd N0 res) := zM.of (by decide) rfl (Nat.le_of_ble_eq_true rfl) (fun X _ C hr _ => (B_X12_hour C hr f) S v0 res hT hpv0 hkv0 hF)
def F_X12_undo_0 (f : Nat) (rc : Nat → List Value → aS → aR) (v0 : Nat) (S : aS) : aR :=
  bI (F_X3_pop f 0 [.ref (gR S v0 7), .ref (gR S v0 5)] S) fun x3 S3 => bZ x3 (some (some (.int x3), S3))
def F_X12_undo : Nat → Nat → List Value → aS → aR
  | 0, _, _, _ => none
  | f + 1, 0, vs, S => F_X12_undo_0 f (F_X12_undo f) (vR vs 0) S
  | _ + 1, _, _, _ => none
theorem dX12_undo_0 : decode cX12_undo 0 = .ok (.aload_n 0, 1) := by decide +kernel
theorem dX12_undo_1 : decode cX12_undo 1 = .ok (.getfield 53, 3) := by decide +kernel
theorem dX12_undo_4 : decode cX12_undo 4 = .ok (.aload_n 0, 1) := by decide +kernel
theorem dX12_undo_5 : decode cX12_undo 5 = .ok (.getfield 39, 3) := by decide +kernel
theorem dX12_undo_8 : decode cX12_undo 8 = .ok (.invokevirtual 196, 3) := by decide +kernel
theorem dX12_undo_11 : decode cX12_undo 11 = .ok (.ireturn, 1) := by decide +kernel
set_option maxHeartbeats 4000000 in
set_option maxRecDepth 100000 in
theorem B_X12_undo {G : zG} {X : zX} {kd : kD} {N0 : Nat} (C : zCt G X 2 0 0 RX12 cX12_undo 1) (hr : (zXh X).sig.returnType = (some .boolean)) : ∀ f : Nat,
    (∀ (S : aS) (v0 : Nat) (res : Option Value × aS), zT0 kd N0 S → v0 < N0 → kd v0 = .inl 10 → F_X12_undo f 0 [.ref v0] S = some res → zV G X (zQX G X (zPo G kd N0 res) 0 0) 1 [some (.ref (zB G + v0))] [] (cn G kd N0 S) 0 0 0) := by
  intro f
  induction f with
  | zero => exact (fun _ _ _ _ _ _ h => by cases h)
  | succ f ih =>
    have ih0 := ih
    intro S v0 res hT hpv0 hkv0 hF
    replace hF : F_X12_undo_0 f (F_X12_undo f) v0 S = some res := hF
    unfold F_X12_undo_0 at hF
    refine z_aload_n C dX12_undo_0 rfl ?_
    refine f_getr C dX12_undo_1 zfRX12_53 hpv0 hkv0 rfl ?_
    obtain ⟨hp1, hk1⟩ := hT.1 v0 10 7 (.inl 2) hpv0 hkv0 rfl
    refine z_aload_n C dX12_undo_4 rfl ?_
    refine f_getr C dX12_undo_5 zfRX12_39 hpv0 hkv0 rfl ?_
    obtain ⟨hp2, hk2⟩ := hT.1 v0 10 5 (.inl 3) hpv0 hkv0 rfl
    obtain ⟨x3, S3, h3, hF⟩ := bI_some hF
    refine f_cV (st2 := [.int x3]) C dX12_undo_8 zyX3_pop zvX3_pop lkRX12_196 (K_X3_pop (l := zXl X) hT hp1 hk1 hp2 hk2 h3) hp1 hk1 rfl (by decide) rfl rfl (Nat.le_of_ble_eq_true rfl) rfl (fun hT3 => ?_)
    obtain ⟨hz, hF⟩ := bZ_some hF
    cases hF
    exact z_zret C hr hz.1 dX12_undo_11 ⟨rfl, rfl, hT3⟩
theorem K_X12_undo {G : zG} {l : Launch} {kd : kD} {N0 f : Nat} {S : aS} {v0 : Nat} {res : Option Value × aS} (hT : zT0 kd N0 S) (hpv0 : v0 < N0) (hkv0 : kd v0 = .inl 10) (hF : F_X12_undo f 0 [.ref v0] S = some res) : zM G l 2 0 0 yX12_undo cX12_undo 1 (some .boolean) [.ref (zB G + v0)] (cn G kd N0 S) (zPo G kd N0 res) := zM.of (by decide) rfl (Nat.le_of_ble_eq_true rfl) (fun X _ C hr _ => (B_X12_undo C hr f) S v0 res hT hpv0 hkv0 hF)
def F_X12_from_0 (f : Nat) (rc : Nat → List Value → aS → aR) (v0 : Nat) (v1 : Int32) (v2 : Int32) (S : aS) : aR :=
  bI (F_X6_hasPerson f 0 [.ref (gR S v0 1), .int v1] S) fun x2 S2 => if x2 = (0 : Int32) then rc 1 [] S2 else bI (F_X4_hasYard f 0 [.ref (gR S2 v0 5), .int v2] S2) fun x5 S5 => if x5 = (0 : Int32) then rc 1 [] S5 else bI (F_X9_leastHeapThatDraws f 0 [.ref (gR S5 v0 11), .int v1, .int v2] S5) fun x8 S8 => some (some (.int x8), S8)
def F_X12_from_1 (f : Nat) (rc : Nat → List Value → aS → aR)  (S : aS) : aR :=
  some (some (.int ((-1))), S)
def F_X12_from : Nat → Nat → List Value → aS → aR
  | 0, _, _, _ => none
  | f + 1, 0, vs, S => F_X12_from_0 f (F_X12_from f) (vR vs 0) (vI vs 1) (vI vs 2) S
  | f + 1, 1, vs, S => F_X12_from_1 f (F_X12_from f)  S
  | _ + 1, _, _, _ => none
theorem dX12_from_0 : decode cX12_from 0 = .ok (.aload_n 0, 1) := by decide +kernel
theorem dX12_from_1 : decode cX12_from 1 = .ok (.getfield 19, 3) := by decide +kernel
theorem dX12_from_4 : decode cX12_from 4 = .ok (.iload_n 1, 1) := by decide +kernel
theorem dX12_from_5 : decode cX12_from 5 = .ok (.invokevirtual 135, 3) := by decide +kernel
theorem dX12_from_8 : decode cX12_from 8 = .ok (.ifCond .eq 14, 3) := by decide +kernel
theorem dX12_from_11 : decode cX12_from 11 = .ok (.aload_n 0, 1) := by decide +kernel
theorem dX12_from_12 : decode cX12_from 12 = .ok (.getfield 39, 3) := by decide +kernel
theorem dX12_from_15 : decode cX12_from 15 = .ok (.iload_n 2, 1) := by decide +kernel
theorem dX12_from_16 : decode cX12_from 16 = .ok (.invokevirtual 117, 3) := by decide +kernel
theorem dX12_from_19 : decode cX12_from 19 = .ok (.ifCond .ne 5, 3) := by decide +kernel
theorem dX12_from_22 : decode cX12_from 22 = .ok (.iconst (-1), 1) := by decide +kernel
theorem dX12_from_23 : decode cX12_from 23 = .ok (.ireturn, 1) := by decide +kernel
theorem dX12_from_24 : decode cX12_from 24 = .ok (.aload_n 0, 1) := by decide +kernel
theorem dX12_from_25 : decode cX12_from 25 = .ok (.getfield 70, 3) := by decide +kernel
theorem dX12_from_28 : decode cX12_from 28 = .ok (.iload_n 1, 1) := by decide +kernel
theorem dX12_from_29 : decode cX12_from 29 = .ok (.iload_n 2, 1) := by decide +kernel
theorem dX12_from_30 : decode cX12_from 30 = .ok (.invokevirtual 253, 3) := by decide +kernel
theorem dX12_from_33 : decode cX12_from 33 = .ok (.ireturn, 1) := by decide +kernel
set_option maxHeartbeats 4000000 in
set_option maxRecDepth 100000 in
theorem B_X12_from {G : zG} {X : zX} {kd : kD} {N0 : Nat} (C : zCt G X 4 0 0 RX12 cX12_from 3) (hr : (zXh X).sig.returnType = (some .int)) : ∀ f : Nat,
    (∀ (S : aS) (v0 : Nat) (v1 : Int32) (v2 : Int32) (res : Option Value × aS), zT0 kd N0 S → v0 < N0 → kd v0 = .inl 10 → F_X12_from f 0 [.ref v0, .int v1, .int v2] S = some res → zV G X (zQX G X (zPo G kd N0 res) 0 0) 3 [some (.ref (zB G + v0)), some (.int v1), some (.int v2)] [] (cn G kd N0 S) 0 0 0) ∧
    (∀ (S : aS)  (res : Option Value × aS), zT0 kd N0 S → F_X12_from f 1 [] S = some res → zV G X (zQX G X (zPo G kd N0 res) 0 0) 3 [none, none, none] [] (cn G kd N0 S) 22 0 0) := by
  intro f
  induction f with
  | zero => exact ⟨(fun _ _ _ _ _ _ _ _ h => by cases h), (fun _ _ _ h => by cases h)⟩
  | succ f ih =>
    obtain ⟨ih0, ih1⟩ := ih
    refine ⟨?_, ?_⟩
    · intro S v0 v1 v2 res hT hpv0 hkv0 hF
      replace hF : F_X12_from_0 f (F_X12_from f) v0 v1 v2 S = some res := hF
      unfold F_X12_from_0 at hF
      refine z_aload_n C dX12_from_0 rfl ?_
      refine f_getr C dX12_from_1 zfRX12_19 hpv0 hkv0 rfl ?_
      obtain ⟨hp1, hk1⟩ := hT.1 v0 10 1 (.inl 5) hpv0 hkv0 rfl
      refine z_iload_n C dX12_from_4 rfl ?_
      obtain ⟨x2, S2, h2, hF⟩ := bI_some hF
      refine f_cV (st2 := [.int x2]) C dX12_from_5 zyX6_hasPerson zvX6_hasPerson lkRX12_135 (K_X6_hasPerson (l := zXl X) hT hp1 hk1  h2) hp1 hk1 rfl (by decide) rfl rfl (Nat.le_of_ble_eq_true rfl) rfl (fun hT2 => ?_)
      refine z_if_eq C 22 dX12_from_8 (by decide) (fun c3 => ?_) (fun c3 => ?_)
      · replace hF := ip hF c3
        refine z_mask [false, false, false] ?_ rfl
        exact ih1 S2  res hT2  hF
      · replace hF := im hF c3
        refine z_aload_n C dX12_from_11 rfl ?_
        refine f_getr C dX12_from_12 zfRX12_39 hpv0 hkv0 rfl ?_
        obtain ⟨hp4, hk4⟩ := hT2.1 v0 10 5 (.inl 3) hpv0 hkv0 rfl
        refine z_iload_n C dX12_from_15 rfl ?_
        obtain ⟨x5, S5, h5, hF⟩ := bI_some hF
        refine f_cV (st2 := [.int x5]) C dX12_from_16 zyX4_hasYard zvX4_hasYard lkRX12_117 (K_X4_hasYard (l := zXl X) hT2 hp4 hk4  h5) hp4 hk4 rfl (by decide) rfl rfl (Nat.le_of_ble_eq_true rfl) rfl (fun hT5 => ?_)
        refine z_if_ne C 24 dX12_from_19 (by decide) (fun c6 => ?_) (fun c6 => ?_)
        · replace hF := im hF c6
          refine z_aload_n C dX12_from_24 rfl ?_
          refine f_getr C dX12_from_25 zfRX12_70 hpv0 hkv0 rfl ?_
          obtain ⟨hp7, hk7⟩ := hT5.1 v0 10 11 (.inl 8) hpv0 hkv0 rfl
          refine z_iload_n C dX12_from_28 rfl ?_
          refine z_iload_n C dX12_from_29 rfl ?_
          obtain ⟨x8, S8, h8, hF⟩ := bI_some hF
          refine f_cV (st2 := [.int x8]) C dX12_from_30 zyX9_leastHeapThatDraws zvX9_leastHeapThatDraws lkRX12_253 (K_X9_leastHeapThatDraws (l := zXl X) hT5 hp7 hk7   h8) hp7 hk7 rfl (by decide) rfl rfl (Nat.le_of_ble_eq_true rfl) rfl (fun hT8 => ?_)
          cases hF
          exact z_iret C hr dX12_from_33 ⟨rfl, rfl, hT8⟩
        · replace hF := ip hF c6
          refine z_mask [false, false, false] ?_ rfl
          exact ih1 S5  res hT5  hF
    · intro S  res hT  hF
      replace hF : F_X12_from_1 f (F_X12_from f)  S = some res := hF
      unfold F_X12_from_1 at hF
      refine z_iconst (v := (-1)) C dX12_from_22 (by decide) ?_
      cases hF
      exact z_iret C hr dX12_from_23 ⟨rfl, rfl, hT⟩
theorem K_X12_from {G : zG} {l : Launch} {kd : kD} {N0 f : Nat} {S : aS} {v0 : Nat} {v1 : Int32} {v2 : Int32} {res : Option Value × aS} (hT : zT0 kd N0 S) (hpv0 : v0 < N0) (hkv0 : kd v0 = .inl 10) (hF : F_X12_from f 0 [.ref v0, .int v1, .int v2] S = some res) : zM G l 4 0 0 yX12_from cX12_from 3 (some .int) [.ref (zB G + v0), .int v1, .int v2] (cn G kd N0 S) (zPo G kd N0 res) := zM.of (by decide) rfl (Nat.le_of_ble_eq_true rfl) (fun X _ C hr _ => (B_X12_from C hr f).1 S v0 v1 v2 res hT hpv0 hkv0 hF)
def F_X12_find_0 (f : Nat) (rc : Nat → List Value → aS → aR) (v0 : Nat) (v1 : Int32) (v2 : Int32) (S : aS) : aR :=
  bI (F_X4_hasYard f 0 [.ref (gR S v0 5), .int v1] S) fun x2 S2 => if x2 = (0 : Int32) then rc 1 [] S2 else bI (F_X12_isWithin f 0 [.int v2, .int ((-99)), .int 99] S2) fun x4 S4 => if x4 = (0 : Int32) then rc 1 [] S4 else bV (F_X2_set f 0 [.ref (gR S4 v0 6), .int v1, .int v2] S4) fun S7 => bZ 1 (some (some (.int 1), S7))
def F_X12_find_1 (f : Nat) (rc : Nat → List Value → aS → aR)  (S : aS) : aR :=
  bZ 0 (some (some (.int 0), S))
def F_X12_find : Nat → Nat → List Value → aS → aR
  | 0, _, _, _ => none
  | f + 1, 0, vs, S => F_X12_find_0 f (F_X12_find f) (vR vs 0) (vI vs 1) (vI vs 2) S
  | f + 1, 1, vs, S => F_X12_find_1 f (F_X12_find f)  S
  | _ + 1, _, _, _ => none
theorem dX12_find_0 : decode cX12_find 0 = .ok (.aload_n 0, 1) := by decide +kernel
theorem dX12_find_1 : decode cX12_find 1 = .ok (.getfield 39, 3) := by decide +kernel
theorem dX12_find_4 : decode cX12_find 4 = .ok (.iload_n 1, 1) := by decide +kernel
theorem dX12_find_5 : decode cX12_find 5 = .ok (.invokevirtual 117, 3) := by decide +kernel
theorem dX12_find_8 : decode cX12_find 8 = .ok (.ifCond .eq 14, 3) := by decide +kernel
theorem dX12_find_11 : decode cX12_find 11 = .ok (.iload_n 2, 1) := by decide +kernel
theorem dX12_find_12 : decode cX12_find 12 = .ok (.bipush (-99), 2) := by decide +kernel
theorem dX12_find_14 : decode cX12_find 14 = .ok (.bipush 99, 2) := by decide +kernel
theorem dX12_find_16 : decode cX12_find 16 = .ok (.invokestatic 178, 3) := by decide +kernel
theorem dX12_find_19 : decode cX12_find 19 = .ok (.ifCond .ne 5, 3) := by decide +kernel
theorem dX12_find_22 : decode cX12_find 22 = .ok (.iconst 0, 1) := by decide +kernel
theorem dX12_find_23 : decode cX12_find 23 = .ok (.ireturn, 1) := by decide +kernel
theorem dX12_find_24 : decode cX12_find 24 = .ok (.aload_n 0, 1) := by decide +kernel
theorem dX12_find_25 : decode cX12_find 25 = .ok (.getfield 46, 3) := by decide +kernel
theorem dX12_find_28 : decode cX12_find 28 = .ok (.iload_n 1, 1) := by decide +kernel
theorem dX12_find_29 : decode cX12_find 29 = .ok (.iload_n 2, 1) := by decide +kernel
theorem dX12_find_30 : decode cX12_find 30 = .ok (.invokevirtual 262, 3) := by decide +kernel
theorem dX12_find_33 : decode cX12_find 33 = .ok (.iconst 1, 1) := by decide +kernel
theorem dX12_find_34 : decode cX12_find 34 = .ok (.ireturn, 1) := by decide +kernel
set_option maxHeartbeats 4000000 in
set_option maxRecDepth 100000 in
theorem B_X12_find {G : zG} {X : zX} {kd : kD} {N0 : Nat} (C : zCt G X 1 0 0 RX12 cX12_find 3) (hr : (zXh X).sig.returnType = (some .boolean)) : ∀ f : Nat,
    (∀ (S : aS) (v0 : Nat) (v1 : Int32) (v2 : Int32) (res : Option Value × aS), zT0 kd N0 S → v0 < N0 → kd v0 = .inl 10 → F_X12_find f 0 [.ref v0, .int v1, .int v2] S = some res → zV G X (zQX G X (zPo G kd N0 res) 0 0) 3 [some (.ref (zB G + v0)), some (.int v1), some (.int v2)] [] (cn G kd N0 S) 0 0 0) ∧
    (∀ (S : aS)  (res : Option Value × aS), zT0 kd N0 S → F_X12_find f 1 [] S = some res → zV G X (zQX G X (zPo G kd N0 res) 0 0) 3 [none, none, none] [] (cn G kd N0 S) 22 0 0) := by
  intro f
  induction f with
  | zero => exact ⟨(fun _ _ _ _ _ _ _ _ h => by cases h), (fun _ _ _ h => by cases h)⟩
  | succ f ih =>
    obtain ⟨ih0, ih1⟩ := ih
    refine ⟨?_, ?_⟩
    · intro S v0 v1 v2 res hT hpv0 hkv0 hF
      replace hF : F_X12_find_0 f (F_X12_find f) v0 v1 v2 S = some res := hF
      unfold F_X12_find_0 at hF
      refine z_aload_n C dX12_find_0 rfl ?_
      refine f_getr C dX12_find_1 zfRX12_39 hpv0 hkv0 rfl ?_
      obtain ⟨hp1, hk1⟩ := hT.1 v0 10 5 (.inl 3) hpv0 hkv0 rfl
      refine z_iload_n C dX12_find_4 rfl ?_
      obtain ⟨x2, S2, h2, hF⟩ := bI_some hF
      refine f_cV (st2 := [.int x2]) C dX12_find_5 zyX4_hasYard zvX4_hasYard lkRX12_117 (K_X4_hasYard (l := zXl X) hT hp1 hk1  h2) hp1 hk1 rfl (by decide) rfl rfl (Nat.le_of_ble_eq_true rfl) rfl (fun hT2 => ?_)
      refine z_if_eq C 22 dX12_find_8 (by decide) (fun c3 => ?_) (fun c3 => ?_)
      · replace hF := ip hF c3
        refine z_mask [false, false, false] ?_ rfl
        exact ih1 S2  res hT2  hF
      · replace hF := im hF c3
        refine z_iload_n C dX12_find_11 rfl ?_
        refine z_bipush (v := (-99)) C dX12_find_12 (by decide) ?_
        refine z_bipush (v := 99) C dX12_find_14 (by decide) ?_
        obtain ⟨x4, S4, h4, hF⟩ := bI_some hF
        refine f_cS (st2 := [.int x4]) C dX12_find_16 zyX12_isWithin zsX12_isWithin lkRX12_178 (K_X12_isWithin (l := zXl X) hT2    h4) (by decide) rfl rfl (Nat.le_of_ble_eq_true rfl) rfl (fun hT4 => ?_)
        refine z_if_ne C 24 dX12_find_19 (by decide) (fun c5 => ?_) (fun c5 => ?_)
        · replace hF := im hF c5
          refine z_aload_n C dX12_find_24 rfl ?_
          refine f_getr C dX12_find_25 zfRX12_46 hpv0 hkv0 rfl ?_
          obtain ⟨hp6, hk6⟩ := hT4.1 v0 10 6 (.inl 1) hpv0 hkv0 rfl
          refine z_iload_n C dX12_find_28 rfl ?_
          refine z_iload_n C dX12_find_29 rfl ?_
          obtain ⟨S7, h7, hF⟩ := bV_some hF
          refine f_cV (st2 := []) C dX12_find_30 zyX2_set zvX2_set lkRX12_262 (K_X2_set (l := zXl X) hT4 hp6 hk6   h7) hp6 hk6 rfl (by decide) rfl rfl (Nat.le_of_ble_eq_true rfl) rfl (fun hT7 => ?_)
          refine z_iconst (v := 1) C dX12_find_33 (by decide) ?_
          obtain ⟨hz, hF⟩ := bZ_some hF
          cases hF
          exact z_zret C hr hz.1 dX12_find_34 ⟨rfl, rfl, hT7⟩
        · replace hF := ip hF c5
          refine z_mask [false, false, false] ?_ rfl
          exact ih1 S4  res hT4  hF
    · intro S  res hT  hF
      replace hF : F_X12_find_1 f (F_X12_find f)  S = some res := hF
      unfold F_X12_find_1 at hF
      refine z_iconst (v := 0) C dX12_find_22 (by decide) ?_
      obtain ⟨hz, hF⟩ := bZ_some hF
      cases hF
      exact z_zret C hr hz.1 dX12_find_23 ⟨rfl, rfl, hT⟩
theorem K_X12_find {G : zG} {l : Launch} {kd : kD} {N0 f : Nat} {S : aS} {v0 : Nat} {v1 : Int32} {v2 : Int32} {res : Option Value × aS} (hT : zT0 kd N0 S) (hpv0 : v0 < N0) (hkv0 : kd v0 = .inl 10) (hF : F_X12_find f 0 [.ref v0, .int v1, .int v2] S = some res) : zM G l 1 0 0 yX12_find cX12_find 3 (some .boolean) [.ref (zB G + v0), .int v1, .int v2] (cn G kd N0 S) (zPo G kd N0 res) := zM.of (by decide) rfl (Nat.le_of_ble_eq_true rfl) (fun X _ C hr _ => (B_X12_find C hr f).1 S v0 v1 v2 res hT hpv0 hkv0 hF)
def F_X12_isAtRest_0 (f : Nat) (rc : Nat → List Value → aS → aR) (v0 : Int32) (v1 : Int32) (v2 : Int32) (v3 : Int32) (S : aS) : aR :=
  bI (F_X12_gain f 0 [.int v0, .int v1, .int v2, .int v3] S) fun x1 S1 => bI (F_X12_gain f 0 [.int v0, .int v1, .int ((1 : Int32) - v2), .int v3] S1) fun x2 S2 => if x1 < x2 then rc 1 [] S2 else bI (F_X12_gain f 0 [.int v0, .int v1, .int v3, .int v2] S2) fun x5 S5 => bI (F_X12_gain f 0 [.int v0, .int v1, .int ((1 : Int32) - v3), .int v2] S5) fun x6 S6 => bZ (if x5 < x6 then (0 : Int32) else (1 : Int32)) (some (some (.int (if x5 < x6 then (0 : Int32) else (1 : Int32))), S6))
def F_X12_isAtRest_1 (f : Nat) (rc : Nat → List Value → aS → aR)  (S : aS) : aR :=
  rc 2 [.int 0] S
def F_X12_isAtRest_2 (f : Nat) (rc : Nat → List Value → aS → aR) (w0 : Int32) (S : aS) : aR :=
  bZ w0 (some (some (.int w0), S))
def F_X12_isAtRest : Nat → Nat → List Value → aS → aR
  | 0, _, _, _ => none
  | f + 1, 0, vs, S => F_X12_isAtRest_0 f (F_X12_isAtRest f) (vI vs 0) (vI vs 1) (vI vs 2) (vI vs 3) S
  | f + 1, 1, vs, S => F_X12_isAtRest_1 f (F_X12_isAtRest f)  S
  | f + 1, 2, vs, S => F_X12_isAtRest_2 f (F_X12_isAtRest f) (vI vs 0) S
  | _ + 1, _, _, _ => none
theorem dX12_isAtRest_0 : decode cX12_isAtRest 0 = .ok (.iload_n 0, 1) := by decide +kernel
theorem dX12_isAtRest_1 : decode cX12_isAtRest 1 = .ok (.iload_n 1, 1) := by decide +kernel
theorem dX12_isAtRest_2 : decode cX12_isAtRest 2 = .ok (.iload_n 2, 1) := by decide +kernel
theorem dX12_isAtRest_3 : decode cX12_isAtRest 3 = .ok (.iload_n 3, 1) := by decide +kernel
theorem dX12_isAtRest_4 : decode cX12_isAtRest 4 = .ok (.invokestatic 282, 3) := by decide +kernel
theorem dX12_isAtRest_7 : decode cX12_isAtRest 7 = .ok (.iload_n 0, 1) := by decide +kernel
theorem dX12_isAtRest_8 : decode cX12_isAtRest 8 = .ok (.iload_n 1, 1) := by decide +kernel
theorem dX12_isAtRest_9 : decode cX12_isAtRest 9 = .ok (.iconst 1, 1) := by decide +kernel
theorem dX12_isAtRest_10 : decode cX12_isAtRest 10 = .ok (.iload_n 2, 1) := by decide +kernel
theorem dX12_isAtRest_11 : decode cX12_isAtRest 11 = .ok (.isub, 1) := by decide +kernel
theorem dX12_isAtRest_12 : decode cX12_isAtRest 12 = .ok (.iload_n 3, 1) := by decide +kernel
theorem dX12_isAtRest_13 : decode cX12_isAtRest 13 = .ok (.invokestatic 282, 3) := by decide +kernel
theorem dX12_isAtRest_16 : decode cX12_isAtRest 16 = .ok (.if_icmp .lt 26, 3) := by decide +kernel
theorem dX12_isAtRest_19 : decode cX12_isAtRest 19 = .ok (.iload_n 0, 1) := by decide +kernel
theorem dX12_isAtRest_20 : decode cX12_isAtRest 20 = .ok (.iload_n 1, 1) := by decide +kernel
theorem dX12_isAtRest_21 : decode cX12_isAtRest 21 = .ok (.iload_n 3, 1) := by decide +kernel
theorem dX12_isAtRest_22 : decode cX12_isAtRest 22 = .ok (.iload_n 2, 1) := by decide +kernel
theorem dX12_isAtRest_23 : decode cX12_isAtRest 23 = .ok (.invokestatic 282, 3) := by decide +kernel
theorem dX12_isAtRest_26 : decode cX12_isAtRest 26 = .ok (.iload_n 0, 1) := by decide +kernel
theorem dX12_isAtRest_27 : decode cX12_isAtRest 27 = .ok (.iload_n 1, 1) := by decide +kernel
theorem dX12_isAtRest_28 : decode cX12_isAtRest 28 = .ok (.iconst 1, 1) := by decide +kernel
theorem dX12_isAtRest_29 : decode cX12_isAtRest 29 = .ok (.iload_n 3, 1) := by decide +kernel
theorem dX12_isAtRest_30 : decode cX12_isAtRest 30 = .ok (.isub, 1) := by decide +kernel
theorem dX12_isAtRest_31 : decode cX12_isAtRest 31 = .ok (.iload_n 2, 1) := by decide +kernel
theorem dX12_isAtRest_32 : decode cX12_isAtRest 32 = .ok (.invokestatic 282, 3) := by decide +kernel
theorem dX12_isAtRest_35 : decode cX12_isAtRest 35 = .ok (.if_icmp .lt 7, 3) := by decide +kernel
theorem dX12_isAtRest_38 : decode cX12_isAtRest 38 = .ok (.iconst 1, 1) := by decide +kernel
theorem dX12_isAtRest_39 : decode cX12_isAtRest 39 = .ok (.goto 4, 3) := by decide +kernel
theorem dX12_isAtRest_42 : decode cX12_isAtRest 42 = .ok (.iconst 0, 1) := by decide +kernel
theorem dX12_isAtRest_43 : decode cX12_isAtRest 43 = .ok (.ireturn, 1) := by decide +kernel
set_option maxHeartbeats 4000000 in
set_option maxRecDepth 100000 in
theorem B_X12_isAtRest {G : zG} {X : zX} {kd : kD} {N0 : Nat} (C : zCt G X 1 0 0 RX12 cX12_isAtRest 4) (hr : (zXh X).sig.returnType = (some .boolean)) : ∀ f : Nat,
    (∀ (S : aS) (v0 : Int32) (v1 : Int32) (v2 : Int32) (v3 : Int32) (res : Option Value × aS), zT0 kd N0 S → F_X12_isAtRest f 0 [.int v0, .int v1, .int v2, .int v3] S = some res → zV G X (zQX G X (zPo G kd N0 res) 0 0) 4 [some (.int v0), some (.int v1), some (.int v2), some (.int v3)] [] (cn G kd N0 S) 0 0 0) ∧
    (∀ (S : aS)  (res : Option Value × aS), zT0 kd N0 S → F_X12_isAtRest f 1 [] S = some res → zV G X (zQX G X (zPo G kd N0 res) 0 0) 4 [none, none, none, none] [] (cn G kd N0 S) 42 0 0) ∧
    (∀ (S : aS) (w0 : Int32) (res : Option Value × aS), zT0 kd N0 S → F_X12_isAtRest f 2 [.int w0] S = some res → zV G X (zQX G X (zPo G kd N0 res) 0 0) 4 [none, none, none, none] [.int w0] (cn G kd N0 S) 43 0 0) := by
  intro f
  induction f with
  | zero => exact ⟨(fun _ _ _ _ _ _ _ h => by cases h), (fun _ _ _ h => by cases h), (fun _ _ _ _ h => by cases h)⟩
  | succ f ih =>
    obtain ⟨ih0, ih1, ih2⟩ := ih
    refine ⟨?_, ?_, ?_⟩
    · intro S v0 v1 v2 v3 res hT  hF
      replace hF : F_X12_isAtRest_0 f (F_X12_isAtRest f) v0 v1 v2 v3 S = some res := hF
      unfold F_X12_isAtRest_0 at hF
      refine z_iload_n C dX12_isAtRest_0 rfl ?_
      refine z_iload_n C dX12_isAtRest_1 rfl ?_
      refine z_iload_n C dX12_isAtRest_2 rfl ?_
      refine z_iload_n C dX12_isAtRest_3 rfl ?_
      obtain ⟨x1, S1, h1, hF⟩ := bI_some hF
      refine f_cS (st2 := [.int x1]) C dX12_isAtRest_4 zyX12_gain zsX12_gain lkRX12_282 (K_X12_gain (l := zXl X) hT     h1) (by decide) rfl rfl (Nat.le_of_ble_eq_true rfl) rfl (fun hT1 => ?_)
      refine z_iload_n C dX12_isAtRest_7 rfl ?_
      refine z_iload_n C dX12_isAtRest_8 rfl ?_
      refine z_iconst (v := 1) C dX12_isAtRest_9 (by decide) ?_
      refine z_iload_n C dX12_isAtRest_10 rfl ?_
      refine z_isub C dX12_isAtRest_11 ?_
      refine z_iload_n C dX12_isAtRest_12 rfl ?_
      obtain ⟨x2, S2, h2, hF⟩ := bI_some hF
      refine f_cS (st2 := [.int x2, .int x1]) C dX12_isAtRest_13 zyX12_gain zsX12_gain lkRX12_282 (K_X12_gain (l := zXl X) hT1     h2) (by decide) rfl rfl (Nat.le_of_ble_eq_true rfl) rfl (fun hT2 => ?_)
      refine z_icmp_lt C 42 dX12_isAtRest_16 (by decide) (fun c4 => ?_) (fun c4 => ?_)
      · replace hF := ip hF c4
        refine z_mask [false, false, false, false] ?_ rfl
        exact ih1 S2  res hT2  hF
      · replace hF := im hF c4
        refine z_iload_n C dX12_isAtRest_19 rfl ?_
        refine z_iload_n C dX12_isAtRest_20 rfl ?_
        refine z_iload_n C dX12_isAtRest_21 rfl ?_
        refine z_iload_n C dX12_isAtRest_22 rfl ?_
        obtain ⟨x5, S5, h5, hF⟩ := bI_some hF
        refine f_cS (st2 := [.int x5]) C dX12_isAtRest_23 zyX12_gain zsX12_gain lkRX12_282 (K_X12_gain (l := zXl X) hT2     h5) (by decide) rfl rfl (Nat.le_of_ble_eq_true rfl) rfl (fun hT5 => ?_)
        refine z_iload_n C dX12_isAtRest_26 rfl ?_
        refine z_iload_n C dX12_isAtRest_27 rfl ?_
        refine z_iconst (v := 1) C dX12_isAtRest_28 (by decide) ?_
        refine z_iload_n C dX12_isAtRest_29 rfl ?_
        refine z_isub C dX12_isAtRest_30 ?_
        refine z_iload_n C dX12_isAtRest_31 rfl ?_
        obtain ⟨x6, S6, h6, hF⟩ := bI_some hF
        refine f_cS (st2 := [.int x6, .int x5]) C dX12_isAtRest_32 zyX12_gain zsX12_gain lkRX12_282 (K_X12_gain (l := zXl X) hT5     h6) (by decide) rfl rfl (Nat.le_of_ble_eq_true rfl) rfl (fun hT6 => ?_)
        have hJ8 : zV G X (zQX G X (zPo G kd N0 res) 0 0) 4 [some (.int v0), some (.int v1), some (.int v2), some (.int v3)] [.int (if x5 < x6 then (0 : Int32) else (1 : Int32))] (cn G kd N0 S6) 43 0 0 := by
          obtain ⟨hz, hF⟩ := bZ_some hF
          cases hF
          exact z_zret C hr hz.1 dX12_isAtRest_43 ⟨rfl, rfl, hT6⟩
        refine z_icmp_lt C 42 dX12_isAtRest_35 (by decide) (fun c7 => ?_) (fun c7 => ?_)
        · refine z_iconst (v := 0) C dX12_isAtRest_42 (by decide) ?_
          exact zV.at hJ8 (by first | rfl | contradiction | (simp only [if_pos c7]; done)) (by first | rfl | contradiction | (simp only [if_pos c7]; done)) rfl rfl
        · refine z_iconst (v := 1) C dX12_isAtRest_38 (by decide) ?_
          refine z_goto C 43 dX12_isAtRest_39 (by decide) ?_
          exact zV.at hJ8 (by first | rfl | contradiction | (simp only [if_neg c7]; done)) (by first | rfl | contradiction | (simp only [if_neg c7]; done)) rfl rfl
    · intro S  res hT  hF
      replace hF : F_X12_isAtRest_1 f (F_X12_isAtRest f)  S = some res := hF
      unfold F_X12_isAtRest_1 at hF
      refine z_iconst (v := 0) C dX12_isAtRest_42 (by decide) ?_
      exact ih2 S 0 res hT  hF
    · intro S w0 res hT  hF
      replace hF : F_X12_isAtRest_2 f (F_X12_isAtRest f) w0 S = some res := hF
      unfold F_X12_isAtRest_2 at hF
      obtain ⟨hz, hF⟩ := bZ_some hF
      cases hF
      exact z_zret C hr hz.1 dX12_isAtRest_43 ⟨rfl, rfl, hT⟩
theorem K_X12_isAtRest {G : zG} {l : Launch} {kd : kD} {N0 f : Nat} {S : aS} {v0 : Int32} {v1 : Int32} {v2 : Int32} {v3 : Int32} {res : Option Value × aS} (hT : zT0 kd N0 S)  (hF : F_X12_isAtRest f 0 [.int v0, .int v1, .int v2, .int v3] S = some res) : zM G l 1 0 0 yX12_isAtRest cX12_isAtRest 4 (some .boolean) [.int v0, .int v1, .int v2, .int v3] (cn G kd N0 S) (zPo G kd N0 res) := zM.of (by decide) rfl (Nat.le_of_ble_eq_true rfl) (fun X _ C hr _ => (B_X12_isAtRest C hr f).1 S v0 v1 v2 v3 res hT  hF)
def F_X12_mark_0 (f : Nat) (rc : Nat → List Value → aS → aR) (v0 : Nat) (v1 : Int32) (v2 : Int32) (S : aS) : aR :=
  bI (F_X12_isWithin f 0 [.int v1, .int 0, .int 3] S) fun x1 S1 => if x1 = (0 : Int32) then bZ 0 (some (some (.int 0), S1)) else if v2 = (0 : Int32) then bX v1 4 fun q16 => bV (F_X4_become f 0 [.ref (gR S1 (gR S1 v0 8) q16), .ref (gR S1 v0 5)] S1) fun S18 => bX v1 4 fun q20 => bV (F_X2_become f 0 [.ref (gR S18 (gR S18 v0 9) q20), .ref (gR S18 v0 6)] S18) fun S22 => fS (sI S22 v0 10 ((gI S22 v0 10) ||| ((1 : Int32) <<< (v1 &&& 31)))) fun S23 => bZ 1 (some (some (.int 1), S23)) else if ((gI S1 v0 10) &&& ((1 : Int32) <<< (v1 &&& 31))) = (0 : Int32) then bZ 0 (some (some (.int 0), S1)) else bX v1 4 fun q7 => bV (F_X4_become f 0 [.ref (gR S1 v0 5), .ref (gR S1 (gR S1 v0 8) q7)] S1) fun S8 => bX v1 4 fun q11 => bV (F_X2_become f 0 [.ref (gR S8 v0 6), .ref (gR S8 (gR S8 v0 9) q11)] S8) fun S12 => bV (F_X3_clear f 0 [.ref (gR S12 v0 7)] S12) fun S14 => bZ 1 (some (some (.int 1), S14))
def F_X12_mark : Nat → Nat → List Value → aS → aR
  | 0, _, _, _ => none
  | f + 1, 0, vs, S => F_X12_mark_0 f (F_X12_mark f) (vR vs 0) (vI vs 1) (vI vs 2) S
  | _ + 1, _, _, _ => none
theorem dX12_mark_0 : decode cX12_mark 0 = .ok (.iload_n 1, 1) := by decide +kernel
theorem dX12_mark_1 : decode cX12_mark 1 = .ok (.iconst 0, 1) := by decide +kernel
theorem dX12_mark_2 : decode cX12_mark 2 = .ok (.iconst 3, 1) := by decide +kernel
theorem dX12_mark_3 : decode cX12_mark 3 = .ok (.invokestatic 178, 3) := by decide +kernel
theorem dX12_mark_6 : decode cX12_mark 6 = .ok (.ifCond .ne 5, 3) := by decide +kernel
theorem dX12_mark_9 : decode cX12_mark 9 = .ok (.iconst 0, 1) := by decide +kernel
theorem dX12_mark_10 : decode cX12_mark 10 = .ok (.ireturn, 1) := by decide +kernel
theorem dX12_mark_11 : decode cX12_mark 11 = .ok (.iconst 1, 1) := by decide +kernel
theorem dX12_mark_12 : decode cX12_mark 12 = .ok (.iload_n 1, 1) := by decide +kernel
theorem dX12_mark_13 : decode cX12_mark 13 = .ok (.ishl, 1) := by decide +kernel
theorem dX12_mark_14 : decode cX12_mark 14 = .ok (.istore_n 3, 1) := by decide +kernel
theorem dX12_mark_15 : decode cX12_mark 15 = .ok (.iload_n 2, 1) := by decide +kernel
theorem dX12_mark_16 : decode cX12_mark 16 = .ok (.ifCond .ne 41, 3) := by decide +kernel
theorem dX12_mark_19 : decode cX12_mark 19 = .ok (.aload_n 0, 1) := by decide +kernel
theorem dX12_mark_20 : decode cX12_mark 20 = .ok (.getfield 57, 3) := by decide +kernel
theorem dX12_mark_23 : decode cX12_mark 23 = .ok (.iload_n 1, 1) := by decide +kernel
theorem dX12_mark_24 : decode cX12_mark 24 = .ok (.aaload, 1) := by decide +kernel
theorem dX12_mark_25 : decode cX12_mark 25 = .ok (.aload_n 0, 1) := by decide +kernel
theorem dX12_mark_26 : decode cX12_mark 26 = .ok (.getfield 39, 3) := by decide +kernel
theorem dX12_mark_29 : decode cX12_mark 29 = .ok (.invokevirtual 296, 3) := by decide +kernel
theorem dX12_mark_32 : decode cX12_mark 32 = .ok (.aload_n 0, 1) := by decide +kernel
theorem dX12_mark_33 : decode cX12_mark 33 = .ok (.getfield 61, 3) := by decide +kernel
theorem dX12_mark_36 : decode cX12_mark 36 = .ok (.iload_n 1, 1) := by decide +kernel
theorem dX12_mark_37 : decode cX12_mark 37 = .ok (.aaload, 1) := by decide +kernel
theorem dX12_mark_38 : decode cX12_mark 38 = .ok (.aload_n 0, 1) := by decide +kernel
theorem dX12_mark_39 : decode cX12_mark 39 = .ok (.getfield 46, 3) := by decide +kernel
theorem dX12_mark_42 : decode cX12_mark 42 = .ok (.invokevirtual 299, 3) := by decide +kernel
theorem dX12_mark_45 : decode cX12_mark 45 = .ok (.aload_n 0, 1) := by decide +kernel
theorem dX12_mark_46 : decode cX12_mark 46 = .ok (.dup, 1) := by decide +kernel
theorem dX12_mark_47 : decode cX12_mark 47 = .ok (.getfield 94, 3) := by decide +kernel
theorem dX12_mark_50 : decode cX12_mark 50 = .ok (.iload_n 3, 1) := by decide +kernel
theorem dX12_mark_51 : decode cX12_mark 51 = .ok (.ior, 1) := by decide +kernel
theorem dX12_mark_52 : decode cX12_mark 52 = .ok (.putfield 94, 3) := by decide +kernel
theorem dX12_mark_55 : decode cX12_mark 55 = .ok (.iconst 1, 1) := by decide +kernel
theorem dX12_mark_56 : decode cX12_mark 56 = .ok (.ireturn, 1) := by decide +kernel
theorem dX12_mark_57 : decode cX12_mark 57 = .ok (.aload_n 0, 1) := by decide +kernel
theorem dX12_mark_58 : decode cX12_mark 58 = .ok (.getfield 94, 3) := by decide +kernel
theorem dX12_mark_61 : decode cX12_mark 61 = .ok (.iload_n 3, 1) := by decide +kernel
theorem dX12_mark_62 : decode cX12_mark 62 = .ok (.iand, 1) := by decide +kernel
theorem dX12_mark_63 : decode cX12_mark 63 = .ok (.ifCond .ne 5, 3) := by decide +kernel
theorem dX12_mark_66 : decode cX12_mark 66 = .ok (.iconst 0, 1) := by decide +kernel
theorem dX12_mark_67 : decode cX12_mark 67 = .ok (.ireturn, 1) := by decide +kernel
theorem dX12_mark_68 : decode cX12_mark 68 = .ok (.aload_n 0, 1) := by decide +kernel
theorem dX12_mark_69 : decode cX12_mark 69 = .ok (.getfield 39, 3) := by decide +kernel
theorem dX12_mark_72 : decode cX12_mark 72 = .ok (.aload_n 0, 1) := by decide +kernel
theorem dX12_mark_73 : decode cX12_mark 73 = .ok (.getfield 57, 3) := by decide +kernel
theorem dX12_mark_76 : decode cX12_mark 76 = .ok (.iload_n 1, 1) := by decide +kernel
theorem dX12_mark_77 : decode cX12_mark 77 = .ok (.aaload, 1) := by decide +kernel
theorem dX12_mark_78 : decode cX12_mark 78 = .ok (.invokevirtual 296, 3) := by decide +kernel
theorem dX12_mark_81 : decode cX12_mark 81 = .ok (.aload_n 0, 1) := by decide +kernel
theorem dX12_mark_82 : decode cX12_mark 82 = .ok (.getfield 46, 3) := by decide +kernel
theorem dX12_mark_85 : decode cX12_mark 85 = .ok (.aload_n 0, 1) := by decide +kernel
theorem dX12_mark_86 : decode cX12_mark 86 = .ok (.getfield 61, 3) := by decide +kernel
theorem dX12_mark_89 : decode cX12_mark 89 = .ok (.iload_n 1, 1) := by decide +kernel
theorem dX12_mark_90 : decode cX12_mark 90 = .ok (.aaload, 1) := by decide +kernel
theorem dX12_mark_91 : decode cX12_mark 91 = .ok (.invokevirtual 299, 3) := by decide +kernel
theorem dX12_mark_94 : decode cX12_mark 94 = .ok (.aload_n 0, 1) := by decide +kernel
theorem dX12_mark_95 : decode cX12_mark 95 = .ok (.getfield 53, 3) := by decide +kernel
theorem dX12_mark_98 : decode cX12_mark 98 = .ok (.invokevirtual 93, 3) := by decide +kernel
theorem dX12_mark_101 : decode cX12_mark 101 = .ok (.iconst 1, 1) := by decide +kernel
theorem dX12_mark_102 : decode cX12_mark 102 = .ok (.ireturn, 1) := by decide +kernel
set_option maxHeartbeats 4000000 in
set_option maxRecDepth 100000 in
theorem B_X12_mark {G : zG} {X : zX} {kd : kD} {N0 : Nat} (C : zCt G X 1 0 0 RX12 cX12_mark 4) (hr : (zXh X).sig.returnType = (some .boolean)) : ∀ f : Nat,
    (∀ (S : aS) (v0 : Nat) (v1 : Int32) (v2 : Int32) (res : Option Value × aS), zT0 kd N0 S → v0 < N0 → kd v0 = .inl 10 → F_X12_mark f 0 [.ref v0, .int v1, .int v2] S = some res → zV G X (zQX G X (zPo G kd N0 res) 0 0) 4 [some (.ref (zB G + v0)), some (.int v1), some (.int v2), none] [] (cn G kd N0 S) 0 0 0) := by
  intro f
  induction f with
  | zero => exact (fun _ _ _ _ _ _ _ _ h => by cases h)
  | succ f ih =>
    have ih0 := ih
    intro S v0 v1 v2 res hT hpv0 hkv0 hF
    replace hF : F_X12_mark_0 f (F_X12_mark f) v0 v1 v2 S = some res := hF
    unfold F_X12_mark_0 at hF
    refine z_iload_n C dX12_mark_0 rfl ?_
    refine z_iconst (v := 0) C dX12_mark_1 (by decide) ?_
    refine z_iconst (v := 3) C dX12_mark_2 (by decide) ?_
    obtain ⟨x1, S1, h1, hF⟩ := bI_some hF
    refine f_cS (st2 := [.int x1]) C dX12_mark_3 zyX12_isWithin zsX12_isWithin lkRX12_178 (K_X12_isWithin (l := zXl X) hT    h1) (by decide) rfl rfl (Nat.le_of_ble_eq_true rfl) rfl (fun hT1 => ?_)
    refine z_if_ne C 11 dX12_mark_6 (by decide) (fun c2 => ?_) (fun c2 => ?_)
    · replace hF := im hF c2
      refine z_iconst (v := 1) C dX12_mark_11 (by decide) ?_
      refine z_iload_n C dX12_mark_12 rfl ?_
      refine z_ishl C dX12_mark_13 ?_
      refine z_istore_n (lv2 := [some (.ref (zB G + v0)), some (.int v1), some (.int v2), some (.int ((1 : Int32) <<< (v1 &&& 31)))]) C dX12_mark_14 (by decide) rfl ?_
      refine z_iload_n C dX12_mark_15 rfl ?_
      refine z_if_ne C 57 dX12_mark_16 (by decide) (fun c3 => ?_) (fun c3 => ?_)
      · replace hF := im hF c3
        refine z_aload_n C dX12_mark_57 rfl ?_
        refine f_geti C dX12_mark_58 zfRX12_94 hpv0 hkv0 rfl ?_
        refine z_iload_n C dX12_mark_61 rfl ?_
        refine z_iand C dX12_mark_62 ?_
        refine z_if_ne C 68 dX12_mark_63 (by decide) (fun c4 => ?_) (fun c4 => ?_)
        · replace hF := im hF c4
          refine z_aload_n C dX12_mark_68 rfl ?_
          refine f_getr C dX12_mark_69 zfRX12_39 hpv0 hkv0 rfl ?_
          obtain ⟨hp5, hk5⟩ := hT1.1 v0 10 5 (.inl 3) hpv0 hkv0 rfl
          refine z_aload_n C dX12_mark_72 rfl ?_
          refine f_getr C dX12_mark_73 zfRX12_57 hpv0 hkv0 rfl ?_
          obtain ⟨hp6, hk6⟩ := hT1.1 v0 10 8 (.inr (4, 4)) hpv0 hkv0 rfl
          refine z_iload_n C dX12_mark_76 rfl ?_
          obtain ⟨hi7, hF⟩ := bX_some hF
          obtain ⟨q7, eq7⟩ : ∃ q : Nat, q = Int32.toNatClampNeg v1 := ⟨_, rfl⟩
          rw [← eq7] at hF
          refine f_aald C dX12_mark_77 hp6 hk6 rfl rfl rfl hi7 ?_
          obtain ⟨hp7, hk7⟩ := hT1.2.1 (gR S1 v0 8) 4 4 (.inl 3) q7 hp6 hk6 rfl (by rw [eq7]; exact Nat.not_le.mp fun z => hi7 (Or.inr z))
          rw [← eq7]
          obtain ⟨S8, h8, hF⟩ := bV_some hF
          refine f_cV (st2 := []) C dX12_mark_78 zyX4_become zvX4_become lkRX12_296 (K_X4_become (l := zXl X) hT1 hp5 hk5 hp7 hk7 h8) hp5 hk5 rfl (by decide) rfl rfl (Nat.le_of_ble_eq_true rfl) rfl (fun hT8 => ?_)
          refine z_aload_n C dX12_mark_81 rfl ?_
          refine f_getr C dX12_mark_82 zfRX12_46 hpv0 hkv0 rfl ?_
          obtain ⟨hp9, hk9⟩ := hT8.1 v0 10 6 (.inl 1) hpv0 hkv0 rfl
          refine z_aload_n C dX12_mark_85 rfl ?_
          refine f_getr C dX12_mark_86 zfRX12_61 hpv0 hkv0 rfl ?_
          obtain ⟨hp10, hk10⟩ := hT8.1 v0 10 9 (.inr (5, 4)) hpv0 hkv0 rfl
          refine z_iload_n C dX12_mark_89 rfl ?_
          obtain ⟨hi11, hF⟩ := bX_some hF
          obtain ⟨q11, eq11⟩ : ∃ q : Nat, q = Int32.toNatClampNeg v1 := ⟨_, rfl⟩
          rw [← eq11] at hF
          refine f_aald C dX12_mark_90 hp10 hk10 rfl rfl rfl hi11 ?_
          obtain ⟨hp11, hk11⟩ := hT8.2.1 (gR S8 v0 9) 5 4 (.inl 1) q11 hp10 hk10 rfl (by rw [eq11]; exact Nat.not_le.mp fun z => hi11 (Or.inr z))
          rw [← eq11]
          obtain ⟨S12, h12, hF⟩ := bV_some hF
          refine f_cV (st2 := []) C dX12_mark_91 zyX2_become zvX2_become lkRX12_299 (K_X2_become (l := zXl X) hT8 hp9 hk9 hp11 hk11 h12) hp9 hk9 rfl (by decide) rfl rfl (Nat.le_of_ble_eq_true rfl) rfl (fun hT12 => ?_)
          refine z_aload_n C dX12_mark_94 rfl ?_
          refine f_getr C dX12_mark_95 zfRX12_53 hpv0 hkv0 rfl ?_
          obtain ⟨hp13, hk13⟩ := hT12.1 v0 10 7 (.inl 2) hpv0 hkv0 rfl
          obtain ⟨S14, h14, hF⟩ := bV_some hF
          refine f_cV (st2 := []) C dX12_mark_98 zyX3_clear zvX3_clear lkRX12_93 (K_X3_clear (l := zXl X) hT12 hp13 hk13 h14) hp13 hk13 rfl (by decide) rfl rfl (Nat.le_of_ble_eq_true rfl) rfl (fun hT14 => ?_)
          refine z_iconst (v := 1) C dX12_mark_101 (by decide) ?_
          obtain ⟨hz, hF⟩ := bZ_some hF
          cases hF
          exact z_zret C hr hz.1 dX12_mark_102 ⟨rfl, rfl, hT14⟩
        · replace hF := ip hF c4
          refine z_iconst (v := 0) C dX12_mark_66 (by decide) ?_
          obtain ⟨hz, hF⟩ := bZ_some hF
          cases hF
          exact z_zret C hr hz.1 dX12_mark_67 ⟨rfl, rfl, hT1⟩
      · replace hF := ip hF c3
        refine z_aload_n C dX12_mark_19 rfl ?_
        refine f_getr C dX12_mark_20 zfRX12_57 hpv0 hkv0 rfl ?_
        obtain ⟨hp15, hk15⟩ := hT1.1 v0 10 8 (.inr (4, 4)) hpv0 hkv0 rfl
        refine z_iload_n C dX12_mark_23 rfl ?_
        obtain ⟨hi16, hF⟩ := bX_some hF
        obtain ⟨q16, eq16⟩ : ∃ q : Nat, q = Int32.toNatClampNeg v1 := ⟨_, rfl⟩
        rw [← eq16] at hF
        refine f_aald C dX12_mark_24 hp15 hk15 rfl rfl rfl hi16 ?_
        obtain ⟨hp16, hk16⟩ := hT1.2.1 (gR S1 v0 8) 4 4 (.inl 3) q16 hp15 hk15 rfl (by rw [eq16]; exact Nat.not_le.mp fun z => hi16 (Or.inr z))
        rw [← eq16]
        refine z_aload_n C dX12_mark_25 rfl ?_
        refine f_getr C dX12_mark_26 zfRX12_39 hpv0 hkv0 rfl ?_
        obtain ⟨hp17, hk17⟩ := hT1.1 v0 10 5 (.inl 3) hpv0 hkv0 rfl
        obtain ⟨S18, h18, hF⟩ := bV_some hF
        refine f_cV (st2 := []) C dX12_mark_29 zyX4_become zvX4_become lkRX12_296 (K_X4_become (l := zXl X) hT1 hp16 hk16 hp17 hk17 h18) hp16 hk16 rfl (by decide) rfl rfl (Nat.le_of_ble_eq_true rfl) rfl (fun hT18 => ?_)
        refine z_aload_n C dX12_mark_32 rfl ?_
        refine f_getr C dX12_mark_33 zfRX12_61 hpv0 hkv0 rfl ?_
        obtain ⟨hp19, hk19⟩ := hT18.1 v0 10 9 (.inr (5, 4)) hpv0 hkv0 rfl
        refine z_iload_n C dX12_mark_36 rfl ?_
        obtain ⟨hi20, hF⟩ := bX_some hF
        obtain ⟨q20, eq20⟩ : ∃ q : Nat, q = Int32.toNatClampNeg v1 := ⟨_, rfl⟩
        rw [← eq20] at hF
        refine f_aald C dX12_mark_37 hp19 hk19 rfl rfl rfl hi20 ?_
        obtain ⟨hp20, hk20⟩ := hT18.2.1 (gR S18 v0 9) 5 4 (.inl 1) q20 hp19 hk19 rfl (by rw [eq20]; exact Nat.not_le.mp fun z => hi20 (Or.inr z))
        rw [← eq20]
        refine z_aload_n C dX12_mark_38 rfl ?_
        refine f_getr C dX12_mark_39 zfRX12_46 hpv0 hkv0 rfl ?_
        obtain ⟨hp21, hk21⟩ := hT18.1 v0 10 6 (.inl 1) hpv0 hkv0 rfl
        obtain ⟨S22, h22, hF⟩ := bV_some hF
        refine f_cV (st2 := []) C dX12_mark_42 zyX2_become zvX2_become lkRX12_299 (K_X2_become (l := zXl X) hT18 hp20 hk20 hp21 hk21 h22) hp20 hk20 rfl (by decide) rfl rfl (Nat.le_of_ble_eq_true rfl) rfl (fun hT22 => ?_)
        refine z_aload_n C dX12_mark_45 rfl ?_
        refine z_dup C dX12_mark_46 rfl ?_
        refine f_geti C dX12_mark_47 zfRX12_94 hpv0 hkv0 rfl ?_
        refine z_iload_n C dX12_mark_50 rfl ?_
        refine z_ior C dX12_mark_51 ?_
        refine f_puti C dX12_mark_52 zfRX12_94 fw10_10 hpv0 hkv0 rfl rfl rfl ?_
        have hT23 : zT0 kd N0 (sI S22 v0 10 ((gI S22 v0 10) ||| ((1 : Int32) <<< (v1 &&& 31)))) := zT0_sI hT22
        replace hF := fS_e hF
        generalize sI S22 v0 10 ((gI S22 v0 10) ||| ((1 : Int32) <<< (v1 &&& 31))) = S23 at hF hT23 ⊢
        refine z_iconst (v := 1) C dX12_mark_55 (by decide) ?_
        obtain ⟨hz, hF⟩ := bZ_some hF
        cases hF
        exact z_zret C hr hz.1 dX12_mark_56 ⟨rfl, rfl, hT23⟩
    · replace hF := ip hF c2
      refine z_iconst (v := 0) C dX12_mark_9 (by decide) ?_
      obtain ⟨hz, hF⟩ := bZ_some hF
      cases hF
      exact z_zret C hr hz.1 dX12_mark_10 ⟨rfl, rfl, hT1⟩
theorem K_X12_mark {G : zG} {l : Launch} {kd : kD} {N0 f : Nat} {S : aS} {v0 : Nat} {v1 : Int32} {v2 : Int32} {res : Option Value × aS} (hT : zT0 kd N0 S) (hpv0 : v0 < N0) (hkv0 : kd v0 = .inl 10) (hF : F_X12_mark f 0 [.ref v0, .int v1, .int v2] S = some res) : zM G l 1 0 0 yX12_mark cX12_mark 4 (some .boolean) [.ref (zB G + v0), .int v1, .int v2] (cn G kd N0 S) (zPo G kd N0 res) := zM.of (by decide) rfl (Nat.le_of_ble_eq_true rfl) (fun X _ C hr _ => (B_X12_mark C hr f) S v0 v1 v2 res hT hpv0 hkv0 hF)
def F_X12_count_0 (f : Nat) (rc : Nat → List Value → aS → aR) (v0 : Nat) (v1 : Int32) (S : aS) : aR :=
  if v1 = 0 then some (some (.int (gI S (gR S v0 1) 0)), S) else if v1 = 1 then some (some (.int (gI S (gR S v0 1) 1)), S) else if v1 = 2 then bI (F_X4_binCount f 0 [.ref (gR S v0 5)] S) fun x7 S7 => some (some (.int x7), S7) else if v1 = 3 then some (some (.int (gI S (gR S v0 5) 4)), S) else if v1 = 4 then bI (F_X6_windOf f 0 [.ref (gR S v0 1), .int (gI S (gR S v0 5) 4)] S) fun x13 S13 => some (some (.int x13), S13) else if v1 = 5 then some (some (.int (gI S (gR S v0 5) 5)), S) else if v1 = 6 then some (some (.int (gI S (gR S v0 5) 6)), S) else if v1 = 7 then some (some (.int (gI S (gR S v0 5) 7)), S) else if v1 = 8 then some (some (.int (gI S (gR S v0 1) 11)), S) else if v1 = 9 then some (some (.int (gI S (gR S v0 3) 3)), S) else if v1 = 10 then bI (F_J6_bitCount_0f7a4 f 0 [.int (gI S (gR S v0 6) 1)] S) fun x26 S26 => some (some (.int x26), S26) else if v1 = 11 then some (some (.int (gI S (gR S v0 7) 2)), S) else if v1 = 12 then some (some (.int (gI S (gR S v0 0) 1)), S) else some (some (.int ((-1))), S)
def F_X12_count : Nat → Nat → List Value → aS → aR
  | 0, _, _, _ => none
  | f + 1, 0, vs, S => F_X12_count_0 f (F_X12_count f) (vR vs 0) (vI vs 1) S
  | _ + 1, _, _, _ => none
theorem dX12_count_0 : decode cX12_count 0 = .ok (.iload_n 1, 1) := by decide +kernel
theorem dX12_count_1 : decode cX12_count 1 = .ok (.tableswitch 181 0 12 #[67, 75, 83, 91, 99, 114, 122, 130, 138, 146, 154, 165, 173], 67) := by decide +kernel
theorem dX12_count_68 : decode cX12_count 68 = .ok (.aload_n 0, 1) := by decide +kernel
theorem dX12_count_69 : decode cX12_count 69 = .ok (.getfield 19, 3) := by decide +kernel
theorem dX12_count_72 : decode cX12_count 72 = .ok (.getfield 302, 3) := by decide +kernel
theorem dX12_count_75 : decode cX12_count 75 = .ok (.ireturn, 1) := by decide +kernel
theorem dX12_count_76 : decode cX12_count 76 = .ok (.aload_n 0, 1) := by decide +kernel
theorem dX12_count_77 : decode cX12_count 77 = .ok (.getfield 19, 3) := by decide +kernel
theorem dX12_count_80 : decode cX12_count 80 = .ok (.getfield 305, 3) := by decide +kernel
theorem dX12_count_83 : decode cX12_count 83 = .ok (.ireturn, 1) := by decide +kernel
theorem dX12_count_84 : decode cX12_count 84 = .ok (.aload_n 0, 1) := by decide +kernel
theorem dX12_count_85 : decode cX12_count 85 = .ok (.getfield 39, 3) := by decide +kernel
theorem dX12_count_88 : decode cX12_count 88 = .ok (.invokevirtual 308, 3) := by decide +kernel
theorem dX12_count_91 : decode cX12_count 91 = .ok (.ireturn, 1) := by decide +kernel
theorem dX12_count_92 : decode cX12_count 92 = .ok (.aload_n 0, 1) := by decide +kernel
theorem dX12_count_93 : decode cX12_count 93 = .ok (.getfield 39, 3) := by decide +kernel
theorem dX12_count_96 : decode cX12_count 96 = .ok (.getfield 311, 3) := by decide +kernel
theorem dX12_count_99 : decode cX12_count 99 = .ok (.ireturn, 1) := by decide +kernel
theorem dX12_count_100 : decode cX12_count 100 = .ok (.aload_n 0, 1) := by decide +kernel
theorem dX12_count_101 : decode cX12_count 101 = .ok (.getfield 19, 3) := by decide +kernel
theorem dX12_count_104 : decode cX12_count 104 = .ok (.aload_n 0, 1) := by decide +kernel
theorem dX12_count_105 : decode cX12_count 105 = .ok (.getfield 39, 3) := by decide +kernel
theorem dX12_count_108 : decode cX12_count 108 = .ok (.getfield 311, 3) := by decide +kernel
theorem dX12_count_111 : decode cX12_count 111 = .ok (.invokevirtual 314, 3) := by decide +kernel
theorem dX12_count_114 : decode cX12_count 114 = .ok (.ireturn, 1) := by decide +kernel
theorem dX12_count_115 : decode cX12_count 115 = .ok (.aload_n 0, 1) := by decide +kernel
theorem dX12_count_116 : decode cX12_count 116 = .ok (.getfield 39, 3) := by decide +kernel
theorem dX12_count_119 : decode cX12_count 119 = .ok (.getfield 290, 3) := by decide +kernel
theorem dX12_count_122 : decode cX12_count 122 = .ok (.ireturn, 1) := by decide +kernel
theorem dX12_count_123 : decode cX12_count 123 = .ok (.aload_n 0, 1) := by decide +kernel
theorem dX12_count_124 : decode cX12_count 124 = .ok (.getfield 39, 3) := by decide +kernel
theorem dX12_count_127 : decode cX12_count 127 = .ok (.getfield 317, 3) := by decide +kernel
theorem dX12_count_130 : decode cX12_count 130 = .ok (.ireturn, 1) := by decide +kernel
theorem dX12_count_131 : decode cX12_count 131 = .ok (.aload_n 0, 1) := by decide +kernel
theorem dX12_count_132 : decode cX12_count 132 = .ok (.getfield 39, 3) := by decide +kernel
theorem dX12_count_135 : decode cX12_count 135 = .ok (.getfield 293, 3) := by decide +kernel
theorem dX12_count_138 : decode cX12_count 138 = .ok (.ireturn, 1) := by decide +kernel
theorem dX12_count_139 : decode cX12_count 139 = .ok (.aload_n 0, 1) := by decide +kernel
theorem dX12_count_140 : decode cX12_count 140 = .ok (.getfield 19, 3) := by decide +kernel
theorem dX12_count_143 : decode cX12_count 143 = .ok (.getfield 320, 3) := by decide +kernel
theorem dX12_count_146 : decode cX12_count 146 = .ok (.ireturn, 1) := by decide +kernel
theorem dX12_count_147 : decode cX12_count 147 = .ok (.aload_n 0, 1) := by decide +kernel
theorem dX12_count_148 : decode cX12_count 148 = .ok (.getfield 29, 3) := by decide +kernel
theorem dX12_count_151 : decode cX12_count 151 = .ok (.getfield 323, 3) := by decide +kernel
theorem dX12_count_154 : decode cX12_count 154 = .ok (.ireturn, 1) := by decide +kernel
theorem dX12_count_155 : decode cX12_count 155 = .ok (.aload_n 0, 1) := by decide +kernel
theorem dX12_count_156 : decode cX12_count 156 = .ok (.getfield 46, 3) := by decide +kernel
theorem dX12_count_159 : decode cX12_count 159 = .ok (.getfield 326, 3) := by decide +kernel
theorem dX12_count_162 : decode cX12_count 162 = .ok (.invokestatic 327, 3) := by decide +kernel
theorem dX12_count_165 : decode cX12_count 165 = .ok (.ireturn, 1) := by decide +kernel
theorem dX12_count_166 : decode cX12_count 166 = .ok (.aload_n 0, 1) := by decide +kernel
theorem dX12_count_167 : decode cX12_count 167 = .ok (.getfield 53, 3) := by decide +kernel
theorem dX12_count_170 : decode cX12_count 170 = .ok (.getfield 332, 3) := by decide +kernel
theorem dX12_count_173 : decode cX12_count 173 = .ok (.ireturn, 1) := by decide +kernel
theorem dX12_count_174 : decode cX12_count 174 = .ok (.aload_n 0, 1) := by decide +kernel
theorem dX12_count_175 : decode cX12_count 175 = .ok (.getfield 10, 3) := by decide +kernel
theorem dX12_count_178 : decode cX12_count 178 = .ok (.getfield 106, 3) := by decide +kernel
theorem dX12_count_181 : decode cX12_count 181 = .ok (.ireturn, 1) := by decide +kernel
theorem dX12_count_182 : decode cX12_count 182 = .ok (.iconst (-1), 1) := by decide +kernel
theorem dX12_count_183 : decode cX12_count 183 = .ok (.ireturn, 1) := by decide +kernel
set_option maxHeartbeats 4000000 in
set_option maxRecDepth 100000 in
theorem B_X12_count {G : zG} {X : zX} {kd : kD} {N0 : Nat} (C : zCt G X 2 0 0 RX12 cX12_count 2) (hr : (zXh X).sig.returnType = (some .int)) : ∀ f : Nat,
    (∀ (S : aS) (v0 : Nat) (v1 : Int32) (res : Option Value × aS), zT0 kd N0 S → v0 < N0 → kd v0 = .inl 10 → F_X12_count f 0 [.ref v0, .int v1] S = some res → zV G X (zQX G X (zPo G kd N0 res) 0 0) 2 [some (.ref (zB G + v0)), some (.int v1)] [] (cn G kd N0 S) 0 0 0) := by
  intro f
  induction f with
  | zero => exact (fun _ _ _ _ _ _ _ h => by cases h)
  | succ f ih =>
    have ih0 := ih
    intro S v0 v1 res hT hpv0 hkv0 hF
    replace hF : F_X12_count_0 f (F_X12_count f) v0 v1 S = some res := hF
    unfold F_X12_count_0 at hF
    refine z_iload_n C dX12_count_0 rfl ?_
    by_cases c3 : v1 = 0
    · replace hF := ip hF c3
      refine z_tabIn C 68 dX12_count_1 (by rw [c3]; decide) (by rw [c3]; decide) (off := 67) (by rw [c3]; rfl) (by decide) ?_
      refine z_aload_n C dX12_count_68 rfl ?_
      refine f_getr C dX12_count_69 zfRX12_19 hpv0 hkv0 rfl ?_
      obtain ⟨hp2, hk2⟩ := hT.1 v0 10 1 (.inl 5) hpv0 hkv0 rfl
      refine f_geti C dX12_count_72 zfRX12_302 hp2 hk2 rfl ?_
      cases hF
      exact z_iret C hr dX12_count_75 ⟨rfl, rfl, hT⟩
    replace hF := im hF c3
    by_cases c5 : v1 = 1
    · replace hF := ip hF c5
      refine z_tabIn C 76 dX12_count_1 (by rw [c5]; decide) (by rw [c5]; decide) (off := 75) (by rw [c5]; rfl) (by decide) ?_
      refine z_aload_n C dX12_count_76 rfl ?_
      refine f_getr C dX12_count_77 zfRX12_19 hpv0 hkv0 rfl ?_
      obtain ⟨hp4, hk4⟩ := hT.1 v0 10 1 (.inl 5) hpv0 hkv0 rfl
      refine f_geti C dX12_count_80 zfRX12_305 hp4 hk4 rfl ?_
      cases hF
      exact z_iret C hr dX12_count_83 ⟨rfl, rfl, hT⟩
    replace hF := im hF c5
    by_cases c8 : v1 = 2
    · replace hF := ip hF c8
      refine z_tabIn C 84 dX12_count_1 (by rw [c8]; decide) (by rw [c8]; decide) (off := 83) (by rw [c8]; rfl) (by decide) ?_
      refine z_aload_n C dX12_count_84 rfl ?_
      refine f_getr C dX12_count_85 zfRX12_39 hpv0 hkv0 rfl ?_
      obtain ⟨hp6, hk6⟩ := hT.1 v0 10 5 (.inl 3) hpv0 hkv0 rfl
      obtain ⟨x7, S7, h7, hF⟩ := bI_some hF
      refine f_cV (st2 := [.int x7]) C dX12_count_88 zyX4_binCount zvX4_binCount lkRX12_308 (K_X4_binCount (l := zXl X) hT hp6 hk6 h7) hp6 hk6 rfl (by decide) rfl rfl (Nat.le_of_ble_eq_true rfl) rfl (fun hT7 => ?_)
      cases hF
      exact z_iret C hr dX12_count_91 ⟨rfl, rfl, hT7⟩
    replace hF := im hF c8
    by_cases c10 : v1 = 3
    · replace hF := ip hF c10
      refine z_tabIn C 92 dX12_count_1 (by rw [c10]; decide) (by rw [c10]; decide) (off := 91) (by rw [c10]; rfl) (by decide) ?_
      refine z_aload_n C dX12_count_92 rfl ?_
      refine f_getr C dX12_count_93 zfRX12_39 hpv0 hkv0 rfl ?_
      obtain ⟨hp9, hk9⟩ := hT.1 v0 10 5 (.inl 3) hpv0 hkv0 rfl
      refine f_geti C dX12_count_96 zfRX12_311 hp9 hk9 rfl ?_
      cases hF
      exact z_iret C hr dX12_count_99 ⟨rfl, rfl, hT⟩
    replace hF := im hF c10
    by_cases c14 : v1 = 4
    · replace hF := ip hF c14
      refine z_tabIn C 100 dX12_count_1 (by rw [c14]; decide) (by rw [c14]; decide) (off := 99) (by rw [c14]; rfl) (by decide) ?_
      refine z_aload_n C dX12_count_100 rfl ?_
      refine f_getr C dX12_count_101 zfRX12_19 hpv0 hkv0 rfl ?_
      obtain ⟨hp11, hk11⟩ := hT.1 v0 10 1 (.inl 5) hpv0 hkv0 rfl
      refine z_aload_n C dX12_count_104 rfl ?_
      refine f_getr C dX12_count_105 zfRX12_39 hpv0 hkv0 rfl ?_
      obtain ⟨hp12, hk12⟩ := hT.1 v0 10 5 (.inl 3) hpv0 hkv0 rfl
      refine f_geti C dX12_count_108 zfRX12_311 hp12 hk12 rfl ?_
      obtain ⟨x13, S13, h13, hF⟩ := bI_some hF
      refine f_cV (st2 := [.int x13]) C dX12_count_111 zyX6_windOf zvX6_windOf lkRX12_314 (K_X6_windOf (l := zXl X) hT hp11 hk11  h13) hp11 hk11 rfl (by decide) rfl rfl (Nat.le_of_ble_eq_true rfl) rfl (fun hT13 => ?_)
      cases hF
      exact z_iret C hr dX12_count_114 ⟨rfl, rfl, hT13⟩
    replace hF := im hF c14
    by_cases c16 : v1 = 5
    · replace hF := ip hF c16
      refine z_tabIn C 115 dX12_count_1 (by rw [c16]; decide) (by rw [c16]; decide) (off := 114) (by rw [c16]; rfl) (by decide) ?_
      refine z_aload_n C dX12_count_115 rfl ?_
      refine f_getr C dX12_count_116 zfRX12_39 hpv0 hkv0 rfl ?_
      obtain ⟨hp15, hk15⟩ := hT.1 v0 10 5 (.inl 3) hpv0 hkv0 rfl
      refine f_geti C dX12_count_119 zfRX12_290 hp15 hk15 rfl ?_
      cases hF
      exact z_iret C hr dX12_count_122 ⟨rfl, rfl, hT⟩
    replace hF := im hF c16
    by_cases c18 : v1 = 6
    · replace hF := ip hF c18
      refine z_tabIn C 123 dX12_count_1 (by rw [c18]; decide) (by rw [c18]; decide) (off := 122) (by rw [c18]; rfl) (by decide) ?_
      refine z_aload_n C dX12_count_123 rfl ?_
      refine f_getr C dX12_count_124 zfRX12_39 hpv0 hkv0 rfl ?_
      obtain ⟨hp17, hk17⟩ := hT.1 v0 10 5 (.inl 3) hpv0 hkv0 rfl
      refine f_geti C dX12_count_127 zfRX12_317 hp17 hk17 rfl ?_
      cases hF
      exact z_iret C hr dX12_count_130 ⟨rfl, rfl, hT⟩
    replace hF := im hF c18
    by_cases c20 : v1 = 7
    · replace hF := ip hF c20
      refine z_tabIn C 131 dX12_count_1 (by rw [c20]; decide) (by rw [c20]; decide) (off := 130) (by rw [c20]; rfl) (by decide) ?_
      refine z_aload_n C dX12_count_131 rfl ?_
      refine f_getr C dX12_count_132 zfRX12_39 hpv0 hkv0 rfl ?_
      obtain ⟨hp19, hk19⟩ := hT.1 v0 10 5 (.inl 3) hpv0 hkv0 rfl
      refine f_geti C dX12_count_135 zfRX12_293 hp19 hk19 rfl ?_
      cases hF
      exact z_iret C hr dX12_count_138 ⟨rfl, rfl, hT⟩
    replace hF := im hF c20
    by_cases c22 : v1 = 8
    · replace hF := ip hF c22
      refine z_tabIn C 139 dX12_count_1 (by rw [c22]; decide) (by rw [c22]; decide) (off := 138) (by rw [c22]; rfl) (by decide) ?_
      refine z_aload_n C dX12_count_139 rfl ?_
      refine f_getr C dX12_count_140 zfRX12_19 hpv0 hkv0 rfl ?_
      obtain ⟨hp21, hk21⟩ := hT.1 v0 10 1 (.inl 5) hpv0 hkv0 rfl
      refine f_geti C dX12_count_143 zfRX12_320 hp21 hk21 rfl ?_
      cases hF
      exact z_iret C hr dX12_count_146 ⟨rfl, rfl, hT⟩
    replace hF := im hF c22
    by_cases c24 : v1 = 9
    · replace hF := ip hF c24
      refine z_tabIn C 147 dX12_count_1 (by rw [c24]; decide) (by rw [c24]; decide) (off := 146) (by rw [c24]; rfl) (by decide) ?_
      refine z_aload_n C dX12_count_147 rfl ?_
      refine f_getr C dX12_count_148 zfRX12_29 hpv0 hkv0 rfl ?_
      obtain ⟨hp23, hk23⟩ := hT.1 v0 10 3 (.inl 0) hpv0 hkv0 rfl
      refine f_geti C dX12_count_151 zfRX12_323 hp23 hk23 rfl ?_
      cases hF
      exact z_iret C hr dX12_count_154 ⟨rfl, rfl, hT⟩
    replace hF := im hF c24
    by_cases c27 : v1 = 10
    · replace hF := ip hF c27
      refine z_tabIn C 155 dX12_count_1 (by rw [c27]; decide) (by rw [c27]; decide) (off := 154) (by rw [c27]; rfl) (by decide) ?_
      refine z_aload_n C dX12_count_155 rfl ?_
      refine f_getr C dX12_count_156 zfRX12_46 hpv0 hkv0 rfl ?_
      obtain ⟨hp25, hk25⟩ := hT.1 v0 10 6 (.inl 1) hpv0 hkv0 rfl
      refine f_geti C dX12_count_159 zfRX12_326 hp25 hk25 rfl ?_
      obtain ⟨x26, S26, h26, hF⟩ := bI_some hF
      refine f_cS (st2 := [.int x26]) C dX12_count_162 zyJ6_bitCount_0f7a4 zsJ6_bitCount_0f7a4 lkRX12_327 (K_J6_bitCount_0f7a4 (l := zXl X) hT  h26) (by decide) rfl rfl (Nat.le_of_ble_eq_true rfl) rfl (fun hT26 => ?_)
      cases hF
      exact z_iret C hr dX12_count_165 ⟨rfl, rfl, hT26⟩
    replace hF := im hF c27
    by_cases c29 : v1 = 11
    · replace hF := ip hF c29
      refine z_tabIn C 166 dX12_count_1 (by rw [c29]; decide) (by rw [c29]; decide) (off := 165) (by rw [c29]; rfl) (by decide) ?_
      refine z_aload_n C dX12_count_166 rfl ?_
      refine f_getr C dX12_count_167 zfRX12_53 hpv0 hkv0 rfl ?_
      obtain ⟨hp28, hk28⟩ := hT.1 v0 10 7 (.inl 2) hpv0 hkv0 rfl
      refine f_geti C dX12_count_170 zfRX12_332 hp28 hk28 rfl ?_
      cases hF
      exact z_iret C hr dX12_count_173 ⟨rfl, rfl, hT⟩
    replace hF := im hF c29
    by_cases c31 : v1 = 12
    · replace hF := ip hF c31
      refine z_tabIn C 174 dX12_count_1 (by rw [c31]; decide) (by rw [c31]; decide) (off := 173) (by rw [c31]; rfl) (by decide) ?_
      refine z_aload_n C dX12_count_174 rfl ?_
      refine f_getr C dX12_count_175 zfRX12_10 hpv0 hkv0 rfl ?_
      obtain ⟨hp30, hk30⟩ := hT.1 v0 10 0 (.inl 7) hpv0 hkv0 rfl
      refine f_geti C dX12_count_178 zfRX12_106 hp30 hk30 rfl ?_
      cases hF
      exact z_iret C hr dX12_count_181 ⟨rfl, rfl, hT⟩
    replace hF := im hF c31
    refine z_tabOut C 182 dX12_count_1 (f_tabOut (fun v h1 h2 e => by
      rcases (show v = 0 ∨ v = 1 ∨ v = 2 ∨ v = 3 ∨ v = 4 ∨ v = 5 ∨ v = 6 ∨ v = 7 ∨ v = 8 ∨ v = 9 ∨ v = 10 ∨ v = 11 ∨ v = 12 by omega) with rfl | rfl | rfl | rfl | rfl | rfl | rfl | rfl | rfl | rfl | rfl | rfl | rfl
      · exact c3 (Int32.toInt_inj.mp (e.trans (by decide)))
      · exact c5 (Int32.toInt_inj.mp (e.trans (by decide)))
      · exact c8 (Int32.toInt_inj.mp (e.trans (by decide)))
      · exact c10 (Int32.toInt_inj.mp (e.trans (by decide)))
      · exact c14 (Int32.toInt_inj.mp (e.trans (by decide)))
      · exact c16 (Int32.toInt_inj.mp (e.trans (by decide)))
      · exact c18 (Int32.toInt_inj.mp (e.trans (by decide)))
      · exact c20 (Int32.toInt_inj.mp (e.trans (by decide)))
      · exact c22 (Int32.toInt_inj.mp (e.trans (by decide)))
      · exact c24 (Int32.toInt_inj.mp (e.trans (by decide)))
      · exact c27 (Int32.toInt_inj.mp (e.trans (by decide)))
      · exact c29 (Int32.toInt_inj.mp (e.trans (by decide)))
      · exact c31 (Int32.toInt_inj.mp (e.trans (by decide))))) (by decide) ?_
    refine z_iconst (v := (-1)) C dX12_count_182 (by decide) ?_
    cases hF
    exact z_iret C hr dX12_count_183 ⟨rfl, rfl, hT⟩
theorem K_X12_count {G : zG} {l : Launch} {kd : kD} {N0 f : Nat} {S : aS} {v0 : Nat} {v1 : Int32} {res : Option Value × aS} (hT : zT0 kd N0 S) (hpv0 : v0 < N0) (hkv0 : kd v0 = .inl 10) (hF : F_X12_count f 0 [.ref v0, .int v1] S = some res) : zM G l 2 0 0 yX12_count cX12_count 2 (some .int) [.ref (zB G + v0), .int v1] (cn G kd N0 S) (zPo G kd N0 res) := zM.of (by decide) rfl (Nat.le_of_ble_eq_true rfl) (fun X _ C hr _ => (B_X12_count C hr f) S v0 v1 res hT hpv0 hkv0 hF)
def F_X13_feed_0 (f : Nat) (rc : Nat → List Value → aS → aR) (v0 : Nat) (v1 : Int64) (v2 : Int64) (v3 : Int64) (S : aS) : aR :=
  fS (sI S v0 0 0) fun S1 => bV (F_X13_lay f 0 [.ref v0, .long v1] S1) fun S2 => bV (F_X13_lay f 0 [.ref v0, .long v2] S2) fun S3 => bV (F_X13_lay f 0 [.ref v0, .long v3] S3) fun S4 => some (some (.int (gI S4 v0 2)), S4)
def F_X13_feed : Nat → Nat → List Value → aS → aR
  | 0, _, _, _ => none
  | f + 1, 0, vs, S => F_X13_feed_0 f (F_X13_feed f) (vR vs 0) (vJ vs 1) (vJ vs 2) (vJ vs 3) S
  | _ + 1, _, _, _ => none
theorem dX13_feed_0 : decode cX13_feed 0 = .ok (.aload_n 0, 1) := by decide +kernel
theorem dX13_feed_1 : decode cX13_feed 1 = .ok (.iconst 0, 1) := by decide +kernel
theorem dX13_feed_2 : decode cX13_feed 2 = .ok (.putfield 1, 3) := by decide +kernel
theorem dX13_feed_5 : decode cX13_feed 5 = .ok (.aload_n 0, 1) := by decide +kernel
theorem dX13_feed_6 : decode cX13_feed 6 = .ok (.lload_n 1, 1) := by decide +kernel
theorem dX13_feed_7 : decode cX13_feed 7 = .ok (.invokevirtual 7, 3) := by decide +kernel
theorem dX13_feed_10 : decode cX13_feed 10 = .ok (.aload_n 0, 1) := by decide +kernel
theorem dX13_feed_11 : decode cX13_feed 11 = .ok (.lload_n 3, 1) := by decide +kernel
theorem dX13_feed_12 : decode cX13_feed 12 = .ok (.invokevirtual 7, 3) := by decide +kernel
theorem dX13_feed_15 : decode cX13_feed 15 = .ok (.aload_n 0, 1) := by decide +kernel
theorem dX13_feed_16 : decode cX13_feed 16 = .ok (.lload 5, 2) := by decide +kernel
theorem dX13_feed_18 : decode cX13_feed 18 = .ok (.invokevirtual 7, 3) := by decide +kernel
theorem dX13_feed_21 : decode cX13_feed 21 = .ok (.aload_n 0, 1) := by decide +kernel
theorem dX13_feed_22 : decode cX13_feed 22 = .ok (.getfield 11, 3) := by decide +kernel
theorem dX13_feed_25 : decode cX13_feed 25 = .ok (.ireturn, 1) := by decide +kernel
set_option maxHeartbeats 4000000 in
set_option maxRecDepth 100000 in
theorem B_X13_feed {G : zG} {X : zX} {kd : kD} {N0 : Nat} (C : zCt G X 1 0 0 RX13 cX13_feed 7) (hr : (zXh X).sig.returnType = (some .int)) : ∀ f : Nat,
    (∀ (S : aS) (v0 : Nat) (v1 : Int64) (v2 : Int64) (v3 : Int64) (res : Option Value × aS), zT0 kd N0 S → v0 < N0 → kd v0 = .inl 11 → F_X13_feed f 0 [.ref v0, .long v1, .long v2, .long v3] S = some res → zV G X (zQX G X (zPo G kd N0 res) 0 0) 7 [some (.ref (zB G + v0)), some (.long v1), none, some (.long v2), none, some (.long v3), none] [] (cn G kd N0 S) 0 0 0) := by
  intro f
  induction f with
  | zero => exact (fun _ _ _ _ _ _ _ _ _ h => by cases h)
  | succ f ih =>
    have ih0 := ih
    intro S v0 v1 v2 v3 res hT hpv0 hkv0 hF
    replace hF : F_X13_feed_0 f (F_X13_feed f) v0 v1 v2 v3 S = some res := hF
    unfold F_X13_feed_0 at hF
    refine z_aload_n C dX13_feed_0 rfl ?_
    refine z_iconst (v := 0) C dX13_feed_1 (by decide) ?_
    refine f_puti C dX13_feed_2 zfRX13_1 fw11_0 hpv0 hkv0 rfl rfl rfl ?_
    have hT1 : zT0 kd N0 (sI S v0 0 0) := zT0_sI hT
    replace hF := fS_e hF
    generalize sI S v0 0 0 = S1 at hF hT1 ⊢
    refine z_aload_n C dX13_feed_5 rfl ?_
    refine z_lload_n C dX13_feed_6 rfl ?_
    obtain ⟨S2, h2, hF⟩ := bV_some hF
    refine f_cV (st2 := []) C dX13_feed_7 zyX13_lay zvX13_lay lkRX13_7 (K_X13_lay (l := zXl X) hT1 hpv0 hkv0  h2) hpv0 hkv0 rfl (by decide) rfl rfl (Nat.le_of_ble_eq_true rfl) rfl (fun hT2 => ?_)
    refine z_aload_n C dX13_feed_10 rfl ?_
    refine z_lload_n C dX13_feed_11 rfl ?_
    obtain ⟨S3, h3, hF⟩ := bV_some hF
    refine f_cV (st2 := []) C dX13_feed_12 zyX13_lay zvX13_lay lkRX13_7 (K_X13_lay (l := zXl X) hT2 hpv0 hkv0  h3) hpv0 hkv0 rfl (by decide) rfl rfl (Nat.le_of_ble_eq_true rfl) rfl (fun hT3 => ?_)
    refine z_aload_n C dX13_feed_15 rfl ?_
    refine z_lload C dX13_feed_16 rfl ?_
    obtain ⟨S4, h4, hF⟩ := bV_some hF
    refine f_cV (st2 := []) C dX13_feed_18 zyX13_lay zvX13_lay lkRX13_7 (K_X13_lay (l := zXl X) hT3 hpv0 hkv0  h4) hpv0 hkv0 rfl (by decide) rfl rfl (Nat.le_of_ble_eq_true rfl) rfl (fun hT4 => ?_)
    refine z_aload_n C dX13_feed_21 rfl ?_
    refine f_geti C dX13_feed_22 zfRX13_11 hpv0 hkv0 rfl ?_
    cases hF
    exact z_iret C hr dX13_feed_25 ⟨rfl, rfl, hT4⟩
theorem K_X13_feed {G : zG} {l : Launch} {kd : kD} {N0 f : Nat} {S : aS} {v0 : Nat} {v1 : Int64} {v2 : Int64} {v3 : Int64} {res : Option Value × aS} (hT : zT0 kd N0 S) (hpv0 : v0 < N0) (hkv0 : kd v0 = .inl 11) (hF : F_X13_feed f 0 [.ref v0, .long v1, .long v2, .long v3] S = some res) : zM G l 1 0 0 yX13_feed cX13_feed 7 (some .int) [.ref (zB G + v0), .long v1, .long v2, .long v3] (cn G kd N0 S) (zPo G kd N0 res) := zM.of (by decide) rfl (Nat.le_of_ble_eq_true rfl) (fun X _ C hr _ => (B_X13_feed C hr f) S v0 v1 v2 v3 res hT hpv0 hkv0 hF)
def F_X13_readOnce_0 (f : Nat) (rc : Nat → List Value → aS → aR) (v0 : Nat) (S : aS) : aR :=
  bI (F_X13_isWord f 0 [.ref v0, .int 0] S) fun x1 S1 => if x1 = (0 : Int32) then bI (F_X13_wordHere f 0 [.ref v0, .int 7, .int 5] S1) fun x4 S4 => rc 1 [.ref v0, .int (x4 + (1 : Int32))] S4 else rc 1 [.ref v0, .int 0] S1
def F_X13_readOnce_1 (f : Nat) (rc : Nat → List Value → aS → aR) (v0 : Nat) (w0 : Int32) (S : aS) : aR :=
  if w0 = (0 : Int32) then bI (F_X13_isWord f 0 [.ref v0, .int 0] S) fun x8 S8 => if x8 = (0 : Int32) then bV (F_X13_wrong f 0 [.ref v0, .int 1] S8) fun S12 => rc 3 [.ref v0, .int w0] S12 else rc 2 [.ref v0, .int w0] S8 else rc 2 [.ref v0, .int w0] S
def F_X13_readOnce_2 (f : Nat) (rc : Nat → List Value → aS → aR) (v0 : Nat) (v1 : Int32) (S : aS) : aR :=
  if (((gI S v0 18) >>> (v1 &&& 31)) &&& (1 : Int32)) = (1 : Int32) then bV (F_X13_wrong f 0 [.ref v0, .int 3] S) fun S15 => rc 3 [.ref v0, .int v1] S15 else rc 3 [.ref v0, .int v1] S
def F_X13_readOnce_3 (f : Nat) (rc : Nat → List Value → aS → aR) (v0 : Nat) (v1 : Int32) (S : aS) : aR :=
  if (gI S v0 8) ≤ (0 : Int32) then fS (sI S v0 18 ((gI S v0 18) ||| ((1 : Int32) <<< (v1 &&& 31)))) fun S17 => fS (sI S17 v0 7 ((gI S17 v0 7) + (1 : Int32))) fun S18 => if v1 = (0 : Int32) then bI (F_X13_takeNumber f 0 [.ref v0, .int 2, .int 8] S18) fun x44 S44 => bX 70 140 fun q45 => fS (sI S44 (gR S18 v0 10) q45 x44) fun S46 => rc 4 [] S46 else if v1 = (1 : Int32) then bV (F_X13_readWinds f 0 [.ref v0] S18) fun S42 => rc 4 [] S42 else if (4 : Int32) ≤ v1 then bX (((75 : Int32) + v1) - (4 : Int32)) 140 fun q32 => fS (sI S18 (gR S18 v0 10) q32 (gI S18 v0 13)) fun S33 => bV (F_X13_whole f 0 [.ref v0, .int 0] S33) fun S34 => bV (F_X13_emit f 0 [.ref v0, .int 0, .int 0] S34) fun S35 => rc 4 [] S35 else bI (F_X13_takeNumber f 0 [.ref v0, .int 0, .int (if v1 = (2 : Int32) then (99 : Int32) else (9 : Int32))] S18) fun x39 S39 => bX (((73 : Int32) + v1) - (2 : Int32)) 140 fun q40 => fS (sI S39 (gR S18 v0 10) q40 x39) fun S41 => rc 4 [] S41 else some (none, S)
def F_X13_readOnce_4 (f : Nat) (rc : Nat → List Value → aS → aR)  (S : aS) : aR :=
  some (none, S)
def F_X13_readOnce : Nat → Nat → List Value → aS → aR
  | 0, _, _, _ => none
  | f + 1, 0, vs, S => F_X13_readOnce_0 f (F_X13_readOnce f) (vR vs 0) S
  | f + 1, 1, vs, S => F_X13_readOnce_1 f (F_X13_readOnce f) (vR vs 0) (vI vs 1) S
  | f + 1, 2, vs, S => F_X13_readOnce_2 f (F_X13_readOnce f) (vR vs 0) (vI vs 1) S
  | f + 1, 3, vs, S => F_X13_readOnce_3 f (F_X13_readOnce f) (vR vs 0) (vI vs 1) S
  | f + 1, 4, vs, S => F_X13_readOnce_4 f (F_X13_readOnce f)  S
  | _ + 1, _, _, _ => none
theorem dX13_readOnce_0 : decode cX13_readOnce 0 = .ok (.aload_n 0, 1) := by decide +kernel
theorem dX13_readOnce_1 : decode cX13_readOnce 1 = .ok (.iconst 0, 1) := by decide +kernel
theorem dX13_readOnce_2 : decode cX13_readOnce 2 = .ok (.invokevirtual 186, 3) := by decide +kernel
theorem dX13_readOnce_5 : decode cX13_readOnce 5 = .ok (.ifCond .eq 7, 3) := by decide +kernel
theorem dX13_readOnce_8 : decode cX13_readOnce 8 = .ok (.iconst 0, 1) := by decide +kernel
theorem dX13_readOnce_9 : decode cX13_readOnce 9 = .ok (.goto 12, 3) := by decide +kernel
theorem dX13_readOnce_12 : decode cX13_readOnce 12 = .ok (.aload_n 0, 1) := by decide +kernel
theorem dX13_readOnce_13 : decode cX13_readOnce 13 = .ok (.bipush 7, 2) := by decide +kernel
theorem dX13_readOnce_15 : decode cX13_readOnce 15 = .ok (.iconst 5, 1) := by decide +kernel
theorem dX13_readOnce_16 : decode cX13_readOnce 16 = .ok (.invokevirtual 199, 3) := by decide +kernel
theorem dX13_readOnce_19 : decode cX13_readOnce 19 = .ok (.iconst 1, 1) := by decide +kernel
theorem dX13_readOnce_20 : decode cX13_readOnce 20 = .ok (.iadd, 1) := by decide +kernel
theorem dX13_readOnce_21 : decode cX13_readOnce 21 = .ok (.istore_n 1, 1) := by decide +kernel
theorem dX13_readOnce_22 : decode cX13_readOnce 22 = .ok (.iload_n 1, 1) := by decide +kernel
theorem dX13_readOnce_23 : decode cX13_readOnce 23 = .ok (.ifCond .ne 19, 3) := by decide +kernel
theorem dX13_readOnce_26 : decode cX13_readOnce 26 = .ok (.aload_n 0, 1) := by decide +kernel
theorem dX13_readOnce_27 : decode cX13_readOnce 27 = .ok (.iconst 0, 1) := by decide +kernel
theorem dX13_readOnce_28 : decode cX13_readOnce 28 = .ok (.invokevirtual 186, 3) := by decide +kernel
theorem dX13_readOnce_31 : decode cX13_readOnce 31 = .ok (.ifCond .ne 11, 3) := by decide +kernel
theorem dX13_readOnce_34 : decode cX13_readOnce 34 = .ok (.aload_n 0, 1) := by decide +kernel
theorem dX13_readOnce_35 : decode cX13_readOnce 35 = .ok (.iconst 1, 1) := by decide +kernel
theorem dX13_readOnce_36 : decode cX13_readOnce 36 = .ok (.invokevirtual 183, 3) := by decide +kernel
theorem dX13_readOnce_39 : decode cX13_readOnce 39 = .ok (.goto 20, 3) := by decide +kernel
theorem dX13_readOnce_42 : decode cX13_readOnce 42 = .ok (.aload_n 0, 1) := by decide +kernel
theorem dX13_readOnce_43 : decode cX13_readOnce 43 = .ok (.getfield 214, 3) := by decide +kernel
theorem dX13_readOnce_46 : decode cX13_readOnce 46 = .ok (.iload_n 1, 1) := by decide +kernel
theorem dX13_readOnce_47 : decode cX13_readOnce 47 = .ok (.ishr, 1) := by decide +kernel
theorem dX13_readOnce_48 : decode cX13_readOnce 48 = .ok (.iconst 1, 1) := by decide +kernel
theorem dX13_readOnce_49 : decode cX13_readOnce 49 = .ok (.iand, 1) := by decide +kernel
theorem dX13_readOnce_50 : decode cX13_readOnce 50 = .ok (.iconst 1, 1) := by decide +kernel
theorem dX13_readOnce_51 : decode cX13_readOnce 51 = .ok (.if_icmp .ne 8, 3) := by decide +kernel
theorem dX13_readOnce_54 : decode cX13_readOnce 54 = .ok (.aload_n 0, 1) := by decide +kernel
theorem dX13_readOnce_55 : decode cX13_readOnce 55 = .ok (.iconst 3, 1) := by decide +kernel
theorem dX13_readOnce_56 : decode cX13_readOnce 56 = .ok (.invokevirtual 183, 3) := by decide +kernel
theorem dX13_readOnce_59 : decode cX13_readOnce 59 = .ok (.aload_n 0, 1) := by decide +kernel
theorem dX13_readOnce_60 : decode cX13_readOnce 60 = .ok (.getfield 177, 3) := by decide +kernel
theorem dX13_readOnce_63 : decode cX13_readOnce 63 = .ok (.ifCond .le 4, 3) := by decide +kernel
theorem dX13_readOnce_66 : decode cX13_readOnce 66 = .ok (.return_, 1) := by decide +kernel
theorem dX13_readOnce_67 : decode cX13_readOnce 67 = .ok (.aload_n 0, 1) := by decide +kernel
theorem dX13_readOnce_68 : decode cX13_readOnce 68 = .ok (.dup, 1) := by decide +kernel
theorem dX13_readOnce_69 : decode cX13_readOnce 69 = .ok (.getfield 214, 3) := by decide +kernel
theorem dX13_readOnce_72 : decode cX13_readOnce 72 = .ok (.iconst 1, 1) := by decide +kernel
theorem dX13_readOnce_73 : decode cX13_readOnce 73 = .ok (.iload_n 1, 1) := by decide +kernel
theorem dX13_readOnce_74 : decode cX13_readOnce 74 = .ok (.ishl, 1) := by decide +kernel
theorem dX13_readOnce_75 : decode cX13_readOnce 75 = .ok (.ior, 1) := by decide +kernel
theorem dX13_readOnce_76 : decode cX13_readOnce 76 = .ok (.putfield 214, 3) := by decide +kernel
theorem dX13_readOnce_79 : decode cX13_readOnce 79 = .ok (.aload_n 0, 1) := by decide +kernel
theorem dX13_readOnce_80 : decode cX13_readOnce 80 = .ok (.dup, 1) := by decide +kernel
theorem dX13_readOnce_81 : decode cX13_readOnce 81 = .ok (.getfield 174, 3) := by decide +kernel
theorem dX13_readOnce_84 : decode cX13_readOnce 84 = .ok (.iconst 1, 1) := by decide +kernel
theorem dX13_readOnce_85 : decode cX13_readOnce 85 = .ok (.iadd, 1) := by decide +kernel
theorem dX13_readOnce_86 : decode cX13_readOnce 86 = .ok (.putfield 174, 3) := by decide +kernel
theorem dX13_readOnce_89 : decode cX13_readOnce 89 = .ok (.iload_n 1, 1) := by decide +kernel
theorem dX13_readOnce_90 : decode cX13_readOnce 90 = .ok (.ifCond .ne 20, 3) := by decide +kernel
theorem dX13_readOnce_93 : decode cX13_readOnce 93 = .ok (.aload_n 0, 1) := by decide +kernel
theorem dX13_readOnce_94 : decode cX13_readOnce 94 = .ok (.getfield 95, 3) := by decide +kernel
theorem dX13_readOnce_97 : decode cX13_readOnce 97 = .ok (.bipush 70, 2) := by decide +kernel
theorem dX13_readOnce_99 : decode cX13_readOnce 99 = .ok (.aload_n 0, 1) := by decide +kernel
theorem dX13_readOnce_100 : decode cX13_readOnce 100 = .ok (.iconst 2, 1) := by decide +kernel
theorem dX13_readOnce_101 : decode cX13_readOnce 101 = .ok (.bipush 8, 2) := by decide +kernel
theorem dX13_readOnce_103 : decode cX13_readOnce 103 = .ok (.invokevirtual 195, 3) := by decide +kernel
theorem dX13_readOnce_106 : decode cX13_readOnce 106 = .ok (.iastore, 1) := by decide +kernel
theorem dX13_readOnce_107 : decode cX13_readOnce 107 = .ok (.goto 77, 3) := by decide +kernel
theorem dX13_readOnce_110 : decode cX13_readOnce 110 = .ok (.iload_n 1, 1) := by decide +kernel
theorem dX13_readOnce_111 : decode cX13_readOnce 111 = .ok (.iconst 1, 1) := by decide +kernel
theorem dX13_readOnce_112 : decode cX13_readOnce 112 = .ok (.if_icmp .ne 10, 3) := by decide +kernel
theorem dX13_readOnce_115 : decode cX13_readOnce 115 = .ok (.aload_n 0, 1) := by decide +kernel
theorem dX13_readOnce_116 : decode cX13_readOnce 116 = .ok (.invokevirtual 247, 3) := by decide +kernel
theorem dX13_readOnce_119 : decode cX13_readOnce 119 = .ok (.goto 65, 3) := by decide +kernel
theorem dX13_readOnce_122 : decode cX13_readOnce 122 = .ok (.iload_n 1, 1) := by decide +kernel
theorem dX13_readOnce_123 : decode cX13_readOnce 123 = .ok (.iconst 4, 1) := by decide +kernel
theorem dX13_readOnce_124 : decode cX13_readOnce 124 = .ok (.if_icmp .ge 34, 3) := by decide +kernel
theorem dX13_readOnce_127 : decode cX13_readOnce 127 = .ok (.aload_n 0, 1) := by decide +kernel
theorem dX13_readOnce_128 : decode cX13_readOnce 128 = .ok (.getfield 95, 3) := by decide +kernel
theorem dX13_readOnce_131 : decode cX13_readOnce 131 = .ok (.bipush 73, 2) := by decide +kernel
theorem dX13_readOnce_133 : decode cX13_readOnce 133 = .ok (.iload_n 1, 1) := by decide +kernel
theorem dX13_readOnce_134 : decode cX13_readOnce 134 = .ok (.iadd, 1) := by decide +kernel
theorem dX13_readOnce_135 : decode cX13_readOnce 135 = .ok (.iconst 2, 1) := by decide +kernel
theorem dX13_readOnce_136 : decode cX13_readOnce 136 = .ok (.isub, 1) := by decide +kernel
theorem dX13_readOnce_137 : decode cX13_readOnce 137 = .ok (.aload_n 0, 1) := by decide +kernel
theorem dX13_readOnce_138 : decode cX13_readOnce 138 = .ok (.iconst 0, 1) := by decide +kernel
theorem dX13_readOnce_139 : decode cX13_readOnce 139 = .ok (.iload_n 1, 1) := by decide +kernel
theorem dX13_readOnce_140 : decode cX13_readOnce 140 = .ok (.iconst 2, 1) := by decide +kernel
theorem dX13_readOnce_141 : decode cX13_readOnce 141 = .ok (.if_icmp .ne 8, 3) := by decide +kernel
theorem dX13_readOnce_144 : decode cX13_readOnce 144 = .ok (.bipush 99, 2) := by decide +kernel
theorem dX13_readOnce_146 : decode cX13_readOnce 146 = .ok (.goto 5, 3) := by decide +kernel
theorem dX13_readOnce_149 : decode cX13_readOnce 149 = .ok (.bipush 9, 2) := by decide +kernel
theorem dX13_readOnce_151 : decode cX13_readOnce 151 = .ok (.invokevirtual 195, 3) := by decide +kernel
theorem dX13_readOnce_154 : decode cX13_readOnce 154 = .ok (.iastore, 1) := by decide +kernel
theorem dX13_readOnce_155 : decode cX13_readOnce 155 = .ok (.goto 29, 3) := by decide +kernel
theorem dX13_readOnce_158 : decode cX13_readOnce 158 = .ok (.aload_n 0, 1) := by decide +kernel
theorem dX13_readOnce_159 : decode cX13_readOnce 159 = .ok (.getfield 95, 3) := by decide +kernel
theorem dX13_readOnce_162 : decode cX13_readOnce 162 = .ok (.bipush 75, 2) := by decide +kernel
theorem dX13_readOnce_164 : decode cX13_readOnce 164 = .ok (.iload_n 1, 1) := by decide +kernel
theorem dX13_readOnce_165 : decode cX13_readOnce 165 = .ok (.iadd, 1) := by decide +kernel
theorem dX13_readOnce_166 : decode cX13_readOnce 166 = .ok (.iconst 4, 1) := by decide +kernel
theorem dX13_readOnce_167 : decode cX13_readOnce 167 = .ok (.isub, 1) := by decide +kernel
theorem dX13_readOnce_168 : decode cX13_readOnce 168 = .ok (.aload_n 0, 1) := by decide +kernel
theorem dX13_readOnce_169 : decode cX13_readOnce 169 = .ok (.getfield 211, 3) := by decide +kernel
theorem dX13_readOnce_172 : decode cX13_readOnce 172 = .ok (.iastore, 1) := by decide +kernel
theorem dX13_readOnce_173 : decode cX13_readOnce 173 = .ok (.aload_n 0, 1) := by decide +kernel
theorem dX13_readOnce_174 : decode cX13_readOnce 174 = .ok (.iconst 0, 1) := by decide +kernel
theorem dX13_readOnce_175 : decode cX13_readOnce 175 = .ok (.invokevirtual 250, 3) := by decide +kernel
theorem dX13_readOnce_178 : decode cX13_readOnce 178 = .ok (.aload_n 0, 1) := by decide +kernel
theorem dX13_readOnce_179 : decode cX13_readOnce 179 = .ok (.iconst 0, 1) := by decide +kernel
theorem dX13_readOnce_180 : decode cX13_readOnce 180 = .ok (.iconst 0, 1) := by decide +kernel
theorem dX13_readOnce_181 : decode cX13_readOnce 181 = .ok (.invokevirtual 253, 3) := by decide +kernel
theorem dX13_readOnce_184 : decode cX13_readOnce 184 = .ok (.return_, 1) := by decide +kernel
set_option maxHeartbeats 4000000 in
set_option maxRecDepth 100000 in
theorem B_X13_readOnce {G : zG} {X : zX} {kd : kD} {N0 : Nat} (C : zCt G X 43 0 0 RX13 cX13_readOnce 2) (hr : (zXh X).sig.returnType = none) : ∀ f : Nat,
    (∀ (S : aS) (v0 : Nat) (res : Option Value × aS), zT0 kd N0 S → v0 < N0 → kd v0 = .inl 11 → F_X13_readOnce f 0 [.ref v0] S = some res → zV G X (zQX G X (zPo G kd N0 res) 0 0) 2 [some (.ref (zB G + v0)), none] [] (cn G kd N0 S) 0 0 0) ∧
    (∀ (S : aS) (v0 : Nat) (w0 : Int32) (res : Option Value × aS), zT0 kd N0 S → v0 < N0 → kd v0 = .inl 11 → F_X13_readOnce f 1 [.ref v0, .int w0] S = some res → zV G X (zQX G X (zPo G kd N0 res) 0 0) 2 [some (.ref (zB G + v0)), none] [.int w0] (cn G kd N0 S) 21 0 0) ∧
    (∀ (S : aS) (v0 : Nat) (v1 : Int32) (res : Option Value × aS), zT0 kd N0 S → v0 < N0 → kd v0 = .inl 11 → F_X13_readOnce f 2 [.ref v0, .int v1] S = some res → zV G X (zQX G X (zPo G kd N0 res) 0 0) 2 [some (.ref (zB G + v0)), some (.int v1)] [] (cn G kd N0 S) 42 0 0) ∧
    (∀ (S : aS) (v0 : Nat) (v1 : Int32) (res : Option Value × aS), zT0 kd N0 S → v0 < N0 → kd v0 = .inl 11 → F_X13_readOnce f 3 [.ref v0, .int v1] S = some res → zV G X (zQX G X (zPo G kd N0 res) 0 0) 2 [some (.ref (zB G + v0)), some (.int v1)] [] (cn G kd N0 S) 59 0 0) ∧
    (∀ (S : aS)  (res : Option Value × aS), zT0 kd N0 S → F_X13_readOnce f 4 [] S = some res → zV G X (zQX G X (zPo G kd N0 res) 0 0) 2 [none, none] [] (cn G kd N0 S) 184 0 0) := by
  intro f
  induction f with
  | zero => exact ⟨(fun _ _ _ _ _ _ h => by cases h), (fun _ _ _ _ _ _ _ h => by cases h), (fun _ _ _ _ _ _ _ h => by cases h), (fun _ _ _ _ _ _ _ h => by cases h), (fun _ _ _ h => by cases h)⟩
  | succ f ih =>
    obtain ⟨ih0, ih1, ih2, ih3, ih4⟩ := ih
    refine ⟨?_, ?_, ?_, ?_, ?_⟩
    · intro S v0 res hT hpv0 hkv0 hF
      replace hF : F_X13_readOnce_0 f (F_X13_readOnce f) v0 S = some res := hF
      unfold F_X13_readOnce_0 at hF
      refine z_aload_n C dX13_readOnce_0 rfl ?_
      refine z_iconst (v := 0) C dX13_readOnce_1 (by decide) ?_
      obtain ⟨x1, S1, h1, hF⟩ := bI_some hF
      refine f_cV (st2 := [.int x1]) C dX13_readOnce_2 zyX13_isWord zvX13_isWord lkRX13_186 (K_X13_isWord (l := zXl X) hT hpv0 hkv0  h1) hpv0 hkv0 rfl (by decide) rfl rfl (Nat.le_of_ble_eq_true rfl) rfl (fun hT1 => ?_)
      refine z_if_eq C 12 dX13_readOnce_5 (by decide) (fun c3 => ?_) (fun c3 => ?_)
      · replace hF := ip hF c3
        refine z_aload_n C dX13_readOnce_12 rfl ?_
        refine z_bipush (v := 7) C dX13_readOnce_13 (by decide) ?_
        refine z_iconst (v := 5) C dX13_readOnce_15 (by decide) ?_
        obtain ⟨x4, S4, h4, hF⟩ := bI_some hF
        refine f_cV (st2 := [.int x4]) C dX13_readOnce_16 zyX13_wordHere zvX13_wordHere lkRX13_199 (K_X13_wordHere (l := zXl X) hT1 hpv0 hkv0   h4) hpv0 hkv0 rfl (by decide) rfl rfl (Nat.le_of_ble_eq_true rfl) rfl (fun hT4 => ?_)
        refine z_iconst (v := 1) C dX13_readOnce_19 (by decide) ?_
        refine z_iadd C dX13_readOnce_20 ?_
        exact ih1 S4 v0 (x4 + (1 : Int32)) res hT4 hpv0 hkv0  hF
      · replace hF := im hF c3
        refine z_iconst (v := 0) C dX13_readOnce_8 (by decide) ?_
        refine z_goto C 21 dX13_readOnce_9 (by decide) ?_
        exact ih1 S1 v0 0 res hT1 hpv0 hkv0  hF
    · intro S v0 w0 res hT hpv0 hkv0 hF
      replace hF : F_X13_readOnce_1 f (F_X13_readOnce f) v0 w0 S = some res := hF
      unfold F_X13_readOnce_1 at hF
      refine z_istore_n (lv2 := [some (.ref (zB G + v0)), some (.int w0)]) C dX13_readOnce_21 (by decide) rfl ?_
      refine z_iload_n C dX13_readOnce_22 rfl ?_
      refine z_if_ne C 42 dX13_readOnce_23 (by decide) (fun c7 => ?_) (fun c7 => ?_)
      · replace hF := im hF c7
        exact ih2 S v0 w0 res hT hpv0 hkv0  hF
      · replace hF := ip hF c7
        refine z_aload_n C dX13_readOnce_26 rfl ?_
        refine z_iconst (v := 0) C dX13_readOnce_27 (by decide) ?_
        obtain ⟨x8, S8, h8, hF⟩ := bI_some hF
        refine f_cV (st2 := [.int x8]) C dX13_readOnce_28 zyX13_isWord zvX13_isWord lkRX13_186 (K_X13_isWord (l := zXl X) hT hpv0 hkv0  h8) hpv0 hkv0 rfl (by decide) rfl rfl (Nat.le_of_ble_eq_true rfl) rfl (fun hT8 => ?_)
        refine z_if_ne C 42 dX13_readOnce_31 (by decide) (fun c11 => ?_) (fun c11 => ?_)
        · replace hF := im hF c11
          exact ih2 S8 v0 w0 res hT8 hpv0 hkv0  hF
        · replace hF := ip hF c11
          refine z_aload_n C dX13_readOnce_34 rfl ?_
          refine z_iconst (v := 1) C dX13_readOnce_35 (by decide) ?_
          obtain ⟨S12, h12, hF⟩ := bV_some hF
          refine f_cV (st2 := []) C dX13_readOnce_36 zyX13_wrong zvX13_wrong lkRX13_183 (K_X13_wrong (l := zXl X) hT8 hpv0 hkv0  h12) hpv0 hkv0 rfl (by decide) rfl rfl (Nat.le_of_ble_eq_true rfl) rfl (fun hT12 => ?_)
          refine z_goto C 59 dX13_readOnce_39 (by decide) ?_
          exact ih3 S12 v0 w0 res hT12 hpv0 hkv0  hF
    · intro S v0 v1 res hT hpv0 hkv0 hF
      replace hF : F_X13_readOnce_2 f (F_X13_readOnce f) v0 v1 S = some res := hF
      unfold F_X13_readOnce_2 at hF
      refine z_aload_n C dX13_readOnce_42 rfl ?_
      refine f_geti C dX13_readOnce_43 zfRX13_214 hpv0 hkv0 rfl ?_
      refine z_iload_n C dX13_readOnce_46 rfl ?_
      refine z_ishr C dX13_readOnce_47 ?_
      refine z_iconst (v := 1) C dX13_readOnce_48 (by decide) ?_
      refine z_iand C dX13_readOnce_49 ?_
      refine z_iconst (v := 1) C dX13_readOnce_50 (by decide) ?_
      refine z_icmp_ne C 59 dX13_readOnce_51 (by decide) (fun c14 => ?_) (fun c14 => ?_)
      · replace hF := im hF c14
        exact ih3 S v0 v1 res hT hpv0 hkv0  hF
      · replace hF := ip hF c14
        refine z_aload_n C dX13_readOnce_54 rfl ?_
        refine z_iconst (v := 3) C dX13_readOnce_55 (by decide) ?_
        obtain ⟨S15, h15, hF⟩ := bV_some hF
        refine f_cV (st2 := []) C dX13_readOnce_56 zyX13_wrong zvX13_wrong lkRX13_183 (K_X13_wrong (l := zXl X) hT hpv0 hkv0  h15) hpv0 hkv0 rfl (by decide) rfl rfl (Nat.le_of_ble_eq_true rfl) rfl (fun hT15 => ?_)
        exact ih3 S15 v0 v1 res hT15 hpv0 hkv0  hF
    · intro S v0 v1 res hT hpv0 hkv0 hF
      replace hF : F_X13_readOnce_3 f (F_X13_readOnce f) v0 v1 S = some res := hF
      unfold F_X13_readOnce_3 at hF
      refine z_aload_n C dX13_readOnce_59 rfl ?_
      refine f_geti C dX13_readOnce_60 zfRX13_177 hpv0 hkv0 rfl ?_
      refine z_if_le C 67 dX13_readOnce_63 (by decide) (fun c16 => ?_) (fun c16 => ?_)
      · replace hF := ip hF c16
        refine z_aload_n C dX13_readOnce_67 rfl ?_
        refine z_dup C dX13_readOnce_68 rfl ?_
        refine f_geti C dX13_readOnce_69 zfRX13_214 hpv0 hkv0 rfl ?_
        refine z_iconst (v := 1) C dX13_readOnce_72 (by decide) ?_
        refine z_iload_n C dX13_readOnce_73 rfl ?_
        refine z_ishl C dX13_readOnce_74 ?_
        refine z_ior C dX13_readOnce_75 ?_
        refine f_puti C dX13_readOnce_76 zfRX13_214 fw11_18 hpv0 hkv0 rfl rfl rfl ?_
        have hT17 : zT0 kd N0 (sI S v0 18 ((gI S v0 18) ||| ((1 : Int32) <<< (v1 &&& 31)))) := zT0_sI hT
        replace hF := fS_e hF
        generalize sI S v0 18 ((gI S v0 18) ||| ((1 : Int32) <<< (v1 &&& 31))) = S17 at hF hT17 ⊢
        refine z_aload_n C dX13_readOnce_79 rfl ?_
        refine z_dup C dX13_readOnce_80 rfl ?_
        refine f_geti C dX13_readOnce_81 zfRX13_174 hpv0 hkv0 rfl ?_
        refine z_iconst (v := 1) C dX13_readOnce_84 (by decide) ?_
        refine z_iadd C dX13_readOnce_85 ?_
        refine f_puti C dX13_readOnce_86 zfRX13_174 fw11_7 hpv0 hkv0 rfl rfl rfl ?_
        have hT18 : zT0 kd N0 (sI S17 v0 7 ((gI S17 v0 7) + (1 : Int32))) := zT0_sI hT17
        replace hF := fS_e hF
        generalize sI S17 v0 7 ((gI S17 v0 7) + (1 : Int32)) = S18 at hF hT18 ⊢
        refine z_iload_n C dX13_readOnce_89 rfl ?_
        refine z_if_ne C 110 dX13_readOnce_90 (by decide) (fun c23 => ?_) (fun c23 => ?_)
        · replace hF := im hF c23
          refine z_iload_n C dX13_readOnce_110 rfl ?_
          refine z_iconst (v := 1) C dX13_readOnce_111 (by decide) ?_
          refine z_icmp_ne C 122 dX13_readOnce_112 (by decide) (fun c27 => ?_) (fun c27 => ?_)
          · replace hF := im hF c27
            refine z_iload_n C dX13_readOnce_122 rfl ?_
            refine z_iconst (v := 4) C dX13_readOnce_123 (by decide) ?_
            refine z_icmp_ge C 158 dX13_readOnce_124 (by decide) (fun c30 => ?_) (fun c30 => ?_)
            · replace hF := ip hF c30
              refine z_aload_n C dX13_readOnce_158 rfl ?_
              refine f_getr C dX13_readOnce_159 zfRX13_95 hpv0 hkv0 rfl ?_
              obtain ⟨hp31, hk31⟩ := hT18.1 v0 11 10 (.inr (0, 140)) hpv0 hkv0 rfl
              refine z_bipush (v := 75) C dX13_readOnce_162 (by decide) ?_
              refine z_iload_n C dX13_readOnce_164 rfl ?_
              refine z_iadd C dX13_readOnce_165 ?_
              refine z_iconst (v := 4) C dX13_readOnce_166 (by decide) ?_
              refine z_isub C dX13_readOnce_167 ?_
              refine z_aload_n C dX13_readOnce_168 rfl ?_
              refine f_geti C dX13_readOnce_169 zfRX13_211 hpv0 hkv0 rfl ?_
              obtain ⟨hi32, hF⟩ := bX_some hF
              obtain ⟨q32, eq32⟩ : ∃ q : Nat, q = Int32.toNatClampNeg (((75 : Int32) + v1) - (4 : Int32)) := ⟨_, rfl⟩
              rw [← eq32] at hF
              refine f_iast C dX13_readOnce_172 hp31 hk31 hi32 ?_
              rw [← eq32]
              have hT33 : zT0 kd N0 (sI S18 (gR S18 v0 10) q32 (gI S18 v0 13)) := zT0_sI hT18
              replace hF := fS_e hF
              generalize sI S18 (gR S18 v0 10) q32 (gI S18 v0 13) = S33 at hF hT33 ⊢
              refine z_aload_n C dX13_readOnce_173 rfl ?_
              refine z_iconst (v := 0) C dX13_readOnce_174 (by decide) ?_
              obtain ⟨S34, h34, hF⟩ := bV_some hF
              refine f_cV (st2 := []) C dX13_readOnce_175 zyX13_whole zvX13_whole lkRX13_250 (K_X13_whole (l := zXl X) hT33 hpv0 hkv0  h34) hpv0 hkv0 rfl (by decide) rfl rfl (Nat.le_of_ble_eq_true rfl) rfl (fun hT34 => ?_)
              refine z_aload_n C dX13_readOnce_178 rfl ?_
              refine z_iconst (v := 0) C dX13_readOnce_179 (by decide) ?_
              refine z_iconst (v := 0) C dX13_readOnce_180 (by decide) ?_
              obtain ⟨S35, h35, hF⟩ := bV_some hF
              refine f_cV (st2 := []) C dX13_readOnce_181 zyX13_emit zvX13_emit lkRX13_253 (K_X13_emit (l := zXl X) hT34 hpv0 hkv0   h35) hpv0 hkv0 rfl (by decide) rfl rfl (Nat.le_of_ble_eq_true rfl) rfl (fun hT35 => ?_)
              refine z_mask [false, false] ?_ rfl
              exact ih4 S35  res hT35  hF
            · replace hF := im hF c30
              refine z_aload_n C dX13_readOnce_127 rfl ?_
              refine f_getr C dX13_readOnce_128 zfRX13_95 hpv0 hkv0 rfl ?_
              obtain ⟨hp36, hk36⟩ := hT18.1 v0 11 10 (.inr (0, 140)) hpv0 hkv0 rfl
              refine z_bipush (v := 73) C dX13_readOnce_131 (by decide) ?_
              refine z_iload_n C dX13_readOnce_133 rfl ?_
              refine z_iadd C dX13_readOnce_134 ?_
              refine z_iconst (v := 2) C dX13_readOnce_135 (by decide) ?_
              refine z_isub C dX13_readOnce_136 ?_
              refine z_aload_n C dX13_readOnce_137 rfl ?_
              refine z_iconst (v := 0) C dX13_readOnce_138 (by decide) ?_
              refine z_iload_n C dX13_readOnce_139 rfl ?_
              refine z_iconst (v := 2) C dX13_readOnce_140 (by decide) ?_
              have hJ38 : zV G X (zQX G X (zPo G kd N0 res) 0 0) 2 [some (.ref (zB G + v0)), some (.int v1)] [.int (if v1 = (2 : Int32) then (99 : Int32) else (9 : Int32)), .int 0, .ref (zB G + v0), .int (((73 : Int32) + v1) - (2 : Int32)), .ref (zB G + (gR S18 v0 10))] (cn G kd N0 S18) 151 0 0 := by
                obtain ⟨x39, S39, h39, hF⟩ := bI_some hF
                refine f_cV (st2 := [.int x39, .int (((73 : Int32) + v1) - (2 : Int32)), .ref (zB G + (gR S18 v0 10))]) C dX13_readOnce_151 zyX13_takeNumber zvX13_takeNumber lkRX13_195 (K_X13_takeNumber (l := zXl X) hT18 hpv0 hkv0   h39) hpv0 hkv0 rfl (by decide) rfl rfl (Nat.le_of_ble_eq_true rfl) rfl (fun hT39 => ?_)
                obtain ⟨hi40, hF⟩ := bX_some hF
                obtain ⟨q40, eq40⟩ : ∃ q : Nat, q = Int32.toNatClampNeg (((73 : Int32) + v1) - (2 : Int32)) := ⟨_, rfl⟩
                rw [← eq40] at hF
                refine f_iast C dX13_readOnce_154 hp36 hk36 hi40 ?_
                rw [← eq40]
                have hT41 : zT0 kd N0 (sI S39 (gR S18 v0 10) q40 x39) := zT0_sI hT39
                replace hF := fS_e hF
                generalize sI S39 (gR S18 v0 10) q40 x39 = S41 at hF hT41 ⊢
                refine z_goto C 184 dX13_readOnce_155 (by decide) ?_
                refine z_mask [false, false] ?_ rfl
                exact ih4 S41  res hT41  hF
              refine z_icmp_ne C 149 dX13_readOnce_141 (by decide) (fun c37 => ?_) (fun c37 => ?_)
              · refine z_bipush (v := 9) C dX13_readOnce_149 (by decide) ?_
                exact zV.at hJ38 (by first | rfl | contradiction | (simp only [if_neg c37]; done)) (by first | rfl | contradiction | (simp only [if_neg c37]; done)) rfl rfl
              · refine z_bipush (v := 99) C dX13_readOnce_144 (by decide) ?_
                refine z_goto C 151 dX13_readOnce_146 (by decide) ?_
                exact zV.at hJ38 (by first | rfl | contradiction | (simp only [if_pos c37]; done)) (by first | rfl | contradiction | (simp only [if_pos c37]; done)) rfl rfl
          · replace hF := ip hF c27
            refine z_aload_n C dX13_readOnce_115 rfl ?_
            obtain ⟨S42, h42, hF⟩ := bV_some hF
            refine f_cV (st2 := []) C dX13_readOnce_116 zyX13_readWinds zvX13_readWinds lkRX13_247 (K_X13_readWinds (l := zXl X) hT18 hpv0 hkv0 h42) hpv0 hkv0 rfl (by decide) rfl rfl (Nat.le_of_ble_eq_true rfl) rfl (fun hT42 => ?_)
            refine z_goto C 184 dX13_readOnce_119 (by decide) ?_
            refine z_mask [false, false] ?_ rfl
            exact ih4 S42  res hT42  hF
        · replace hF := ip hF c23
          refine z_aload_n C dX13_readOnce_93 rfl ?_
          refine f_getr C dX13_readOnce_94 zfRX13_95 hpv0 hkv0 rfl ?_
          obtain ⟨hp43, hk43⟩ := hT18.1 v0 11 10 (.inr (0, 140)) hpv0 hkv0 rfl
          refine z_bipush (v := 70) C dX13_readOnce_97 (by decide) ?_
          refine z_aload_n C dX13_readOnce_99 rfl ?_
          refine z_iconst (v := 2) C dX13_readOnce_100 (by decide) ?_
          refine z_bipush (v := 8) C dX13_readOnce_101 (by decide) ?_
          obtain ⟨x44, S44, h44, hF⟩ := bI_some hF
          refine f_cV (st2 := [.int x44, .int 70, .ref (zB G + (gR S18 v0 10))]) C dX13_readOnce_103 zyX13_takeNumber zvX13_takeNumber lkRX13_195 (K_X13_takeNumber (l := zXl X) hT18 hpv0 hkv0   h44) hpv0 hkv0 rfl (by decide) rfl rfl (Nat.le_of_ble_eq_true rfl) rfl (fun hT44 => ?_)
          obtain ⟨hi45, hF⟩ := bX_some hF
          obtain ⟨q45, eq45⟩ : ∃ q : Nat, q = Int32.toNatClampNeg 70 := ⟨_, rfl⟩
          rw [← eq45] at hF
          refine f_iast C dX13_readOnce_106 hp43 hk43 hi45 ?_
          rw [← eq45]
          have hT46 : zT0 kd N0 (sI S44 (gR S18 v0 10) q45 x44) := zT0_sI hT44
          replace hF := fS_e hF
          generalize sI S44 (gR S18 v0 10) q45 x44 = S46 at hF hT46 ⊢
          refine z_goto C 184 dX13_readOnce_107 (by decide) ?_
          refine z_mask [false, false] ?_ rfl
          exact ih4 S46  res hT46  hF
      · replace hF := im hF c16
        cases hF
        exact z_vret C hr dX13_readOnce_66 ⟨rfl, rfl, hT⟩
    · intro S  res hT  hF
      replace hF : F_X13_readOnce_4 f (F_X13_readOnce f)  S = some res := hF
      unfold F_X13_readOnce_4 at hF
      cases hF
      exact z_vret C hr dX13_readOnce_184 ⟨rfl, rfl, hT⟩
theorem K_X13_readOnce {G : zG} {l : Launch} {kd : kD} {N0 f : Nat} {S : aS} {v0 : Nat} {res : Option Value × aS} (hT : zT0 kd N0 S) (hpv0 : v0 < N0) (hkv0 : kd v0 = .inl 11) (hF : F_X13_readOnce f 0 [.ref v0] S = some res) : zM G l 43 0 0 yX13_readOnce cX13_readOnce 2 none [.ref (zB G + v0)] (cn G kd N0 S) (zPo G kd N0 res) := zM.of (by decide) rfl (Nat.le_of_ble_eq_true rfl) (fun X _ C hr _ => (B_X13_readOnce C hr f).1 S v0 res hT hpv0 hkv0 hF)
def F_X13_day_0 (f : Nat) (rc : Nat → List Value → aS → aR) (v0 : Nat) (S : aS) : aR :=
  fS (sI S v0 0 0) fun S1 => bV (F_X13_cutAll f 0 [.ref v0] S1) fun S2 => rc 1 [.ref v0, .int 0] S2
def F_X13_day_1 (f : Nat) (rc : Nat → List Value → aS → aR) (v0 : Nat) (v1 : Int32) (S : aS) : aR :=
  if (gI S v0 8) = (0 : Int32) then bX (gI S v0 7) 1002 fun q7 => if (gI S (gR S v0 4) q7) = (0 : Int32) then rc 2 [.ref v0, .int v1] S else bI (F_X13_wordHere f 0 [.ref v0, .int 12, .int 6] S) fun x10 S10 => if (0 : Int32) ≤ x10 then if v1 = (40 : Int32) then bV (F_X13_wrong f 0 [.ref v0, .int 5] S10) fun S28 => rc 4 [.ref v0, .int v1] S28 else fS (sI S10 v0 7 ((gI S10 v0 7) + (1 : Int32))) fun S16 => bX ((125 : Int32) + ((3 : Int32) * v1)) 250 fun q18 => fS (sI S16 (gR S16 v0 19) q18 x10) fun S19 => if x10 = (0 : Int32) then bI (F_X13_takePerson f 0 [.ref v0] S19) fun x27 S27 => rc 3 [.ref v0, .int v1, .int x10, .int x27, .int ((126 : Int32) + ((3 : Int32) * v1)), .ref (gR S19 v0 19)] S27 else if x10 = (5 : Int32) then rc 3 [.ref v0, .int v1, .int x10, .int 0, .int ((126 : Int32) + ((3 : Int32) * v1)), .ref (gR S19 v0 19)] S19 else bI (F_X13_takeNumber f 0 [.ref v0, .int 0, .int 7] S19) fun x26 S26 => rc 3 [.ref v0, .int v1, .int x10, .int x26, .int ((126 : Int32) + ((3 : Int32) * v1)), .ref (gR S19 v0 19)] S26 else bV (F_X13_wrong f 0 [.ref v0, .int 1] S10) fun S29 => rc 4 [.ref v0, .int v1] S29 else rc 2 [.ref v0, .int v1] S
def F_X13_day_2 (f : Nat) (rc : Nat → List Value → aS → aR) (v0 : Nat) (v1 : Int32) (S : aS) : aR :=
  if (gI S v0 8) ≤ (0 : Int32) then bX 0 250 fun q32 => fS (sI S (gR S v0 19) q32 v1) fun S33 => rc 5 [.ref v0, .int v1, .int 0] S33 else some (some (.int (gI S v0 8)), S)
def F_X13_day_3 (f : Nat) (rc : Nat → List Value → aS → aR) (v0 : Nat) (v1 : Int32) (v2 : Int32) (w0 : Int32) (w1 : Int32) (w2 : Nat) (S : aS) : aR :=
  bX w1 250 fun q34 => fS (sI S w2 q34 w0) fun S35 => if v2 = (2 : Int32) then bI (F_X13_takeNumber f 0 [.ref v0, .int 1, .int 30] S35) fun x39 S39 => rc 6 [.ref v0, .int v1, .int x39, .int ((127 : Int32) + ((3 : Int32) * v1)), .ref (gR S35 v0 19)] S39 else rc 6 [.ref v0, .int v1, .int 0, .int ((127 : Int32) + ((3 : Int32) * v1)), .ref (gR S35 v0 19)] S35
def F_X13_day_4 (f : Nat) (rc : Nat → List Value → aS → aR) (v0 : Nat) (v1 : Int32) (S : aS) : aR :=
  bV (F_X13_takeSign f 0 [.ref v0, .int 59] S) fun S40 => rc 1 [.ref v0, .int v1] S40
def F_X13_day_5 (f : Nat) (rc : Nat → List Value → aS → aR) (v0 : Nat) (v1 : Int32) (v2 : Int32) (S : aS) : aR :=
  if ((3 : Int32) * v1) ≤ v2 then some (some (.int 0), S) else bX ((125 : Int32) + v2) 250 fun q47 => bX ((1 : Int32) + v2) 250 fun q48 => fS (sI S (gR S v0 19) q48 (gI S (gR S v0 19) q47)) fun S49 => rc 5 [.ref v0, .int v1, .int (v2 + 1)] S49
def F_X13_day_6 (f : Nat) (rc : Nat → List Value → aS → aR) (v0 : Nat) (v1 : Int32) (w0 : Int32) (w1 : Int32) (w2 : Nat) (S : aS) : aR :=
  bX w1 250 fun q50 => fS (sI S w2 q50 w0) fun S51 => rc 4 [.ref v0, .int (v1 + 1)] S51
def F_X13_day : Nat → Nat → List Value → aS → aR
  | 0, _, _, _ => none
  | f + 1, 0, vs, S => F_X13_day_0 f (F_X13_day f) (vR vs 0) S
  | f + 1, 1, vs, S => F_X13_day_1 f (F_X13_day f) (vR vs 0) (vI vs 1) S
  | f + 1, 2, vs, S => F_X13_day_2 f (F_X13_day f) (vR vs 0) (vI vs 1) S
  | f + 1, 3, vs, S => F_X13_day_3 f (F_X13_day f) (vR vs 0) (vI vs 1) (vI vs 2) (vI vs 3) (vI vs 4) (vR vs 5) S
  | f + 1, 4, vs, S => F_X13_day_4 f (F_X13_day f) (vR vs 0) (vI vs 1) S
  | f + 1, 5, vs, S => F_X13_day_5 f (F_X13_day f) (vR vs 0) (vI vs 1) (vI vs 2) S
  | f + 1, 6, vs, S => F_X13_day_6 f (F_X13_day f) (vR vs 0) (vI vs 1) (vI vs 2) (vI vs 3) (vR vs 4) S
  | _ + 1, _, _, _ => none
theorem dX13_day_0 : decode cX13_day 0 = .ok (.aload_n 0, 1) := by decide +kernel
theorem dX13_day_1 : decode cX13_day 1 = .ok (.iconst 0, 1) := by decide +kernel
theorem dX13_day_2 : decode cX13_day 2 = .ok (.putfield 1, 3) := by decide +kernel
theorem dX13_day_5 : decode cX13_day 5 = .ok (.aload_n 0, 1) := by decide +kernel
theorem dX13_day_6 : decode cX13_day 6 = .ok (.invokevirtual 208, 3) := by decide +kernel
theorem dX13_day_9 : decode cX13_day 9 = .ok (.iconst 0, 1) := by decide +kernel
theorem dX13_day_10 : decode cX13_day 10 = .ok (.istore_n 1, 1) := by decide +kernel
theorem dX13_day_11 : decode cX13_day 11 = .ok (.aload_n 0, 1) := by decide +kernel
theorem dX13_day_12 : decode cX13_day 12 = .ok (.getfield 177, 3) := by decide +kernel
theorem dX13_day_15 : decode cX13_day 15 = .ok (.ifCond .ne 149, 3) := by decide +kernel
theorem dX13_day_18 : decode cX13_day 18 = .ok (.aload_n 0, 1) := by decide +kernel
theorem dX13_day_19 : decode cX13_day 19 = .ok (.getfield 24, 3) := by decide +kernel
theorem dX13_day_22 : decode cX13_day 22 = .ok (.aload_n 0, 1) := by decide +kernel
theorem dX13_day_23 : decode cX13_day 23 = .ok (.getfield 174, 3) := by decide +kernel
theorem dX13_day_26 : decode cX13_day 26 = .ok (.iaload, 1) := by decide +kernel
theorem dX13_day_27 : decode cX13_day 27 = .ok (.ifCond .eq 137, 3) := by decide +kernel
theorem dX13_day_30 : decode cX13_day 30 = .ok (.aload_n 0, 1) := by decide +kernel
theorem dX13_day_31 : decode cX13_day 31 = .ok (.bipush 12, 2) := by decide +kernel
theorem dX13_day_33 : decode cX13_day 33 = .ok (.bipush 6, 2) := by decide +kernel
theorem dX13_day_35 : decode cX13_day 35 = .ok (.invokevirtual 199, 3) := by decide +kernel
theorem dX13_day_38 : decode cX13_day 38 = .ok (.istore_n 2, 1) := by decide +kernel
theorem dX13_day_39 : decode cX13_day 39 = .ok (.iload_n 2, 1) := by decide +kernel
theorem dX13_day_40 : decode cX13_day 40 = .ok (.ifCond .ge 11, 3) := by decide +kernel
theorem dX13_day_43 : decode cX13_day 43 = .ok (.aload_n 0, 1) := by decide +kernel
theorem dX13_day_44 : decode cX13_day 44 = .ok (.iconst 1, 1) := by decide +kernel
theorem dX13_day_45 : decode cX13_day 45 = .ok (.invokevirtual 183, 3) := by decide +kernel
theorem dX13_day_48 : decode cX13_day 48 = .ok (.goto 107, 3) := by decide +kernel
theorem dX13_day_51 : decode cX13_day 51 = .ok (.iload_n 1, 1) := by decide +kernel
theorem dX13_day_52 : decode cX13_day 52 = .ok (.bipush 40, 2) := by decide +kernel
theorem dX13_day_54 : decode cX13_day 54 = .ok (.if_icmp .ne 11, 3) := by decide +kernel
theorem dX13_day_57 : decode cX13_day 57 = .ok (.aload_n 0, 1) := by decide +kernel
theorem dX13_day_58 : decode cX13_day 58 = .ok (.iconst 5, 1) := by decide +kernel
theorem dX13_day_59 : decode cX13_day 59 = .ok (.invokevirtual 183, 3) := by decide +kernel
theorem dX13_day_62 : decode cX13_day 62 = .ok (.goto 93, 3) := by decide +kernel
theorem dX13_day_65 : decode cX13_day 65 = .ok (.aload_n 0, 1) := by decide +kernel
theorem dX13_day_66 : decode cX13_day 66 = .ok (.dup, 1) := by decide +kernel
theorem dX13_day_67 : decode cX13_day 67 = .ok (.getfield 174, 3) := by decide +kernel
theorem dX13_day_70 : decode cX13_day 70 = .ok (.iconst 1, 1) := by decide +kernel
theorem dX13_day_71 : decode cX13_day 71 = .ok (.iadd, 1) := by decide +kernel
theorem dX13_day_72 : decode cX13_day 72 = .ok (.putfield 174, 3) := by decide +kernel
theorem dX13_day_75 : decode cX13_day 75 = .ok (.aload_n 0, 1) := by decide +kernel
theorem dX13_day_76 : decode cX13_day 76 = .ok (.getfield 110, 3) := by decide +kernel
theorem dX13_day_79 : decode cX13_day 79 = .ok (.bipush 125, 2) := by decide +kernel
theorem dX13_day_81 : decode cX13_day 81 = .ok (.iconst 3, 1) := by decide +kernel
theorem dX13_day_82 : decode cX13_day 82 = .ok (.iload_n 1, 1) := by decide +kernel
theorem dX13_day_83 : decode cX13_day 83 = .ok (.imul, 1) := by decide +kernel
theorem dX13_day_84 : decode cX13_day 84 = .ok (.iadd, 1) := by decide +kernel
theorem dX13_day_85 : decode cX13_day 85 = .ok (.iload_n 2, 1) := by decide +kernel
theorem dX13_day_86 : decode cX13_day 86 = .ok (.iastore, 1) := by decide +kernel
theorem dX13_day_87 : decode cX13_day 87 = .ok (.aload_n 0, 1) := by decide +kernel
theorem dX13_day_88 : decode cX13_day 88 = .ok (.getfield 110, 3) := by decide +kernel
theorem dX13_day_91 : decode cX13_day 91 = .ok (.bipush 126, 2) := by decide +kernel
theorem dX13_day_93 : decode cX13_day 93 = .ok (.iconst 3, 1) := by decide +kernel
theorem dX13_day_94 : decode cX13_day 94 = .ok (.iload_n 1, 1) := by decide +kernel
theorem dX13_day_95 : decode cX13_day 95 = .ok (.imul, 1) := by decide +kernel
theorem dX13_day_96 : decode cX13_day 96 = .ok (.iadd, 1) := by decide +kernel
theorem dX13_day_97 : decode cX13_day 97 = .ok (.iload_n 2, 1) := by decide +kernel
theorem dX13_day_98 : decode cX13_day 98 = .ok (.ifCond .ne 10, 3) := by decide +kernel
theorem dX13_day_101 : decode cX13_day 101 = .ok (.aload_n 0, 1) := by decide +kernel
theorem dX13_day_102 : decode cX13_day 102 = .ok (.invokevirtual 257, 3) := by decide +kernel
theorem dX13_day_105 : decode cX13_day 105 = .ok (.goto 19, 3) := by decide +kernel
theorem dX13_day_108 : decode cX13_day 108 = .ok (.iload_n 2, 1) := by decide +kernel
theorem dX13_day_109 : decode cX13_day 109 = .ok (.iconst 5, 1) := by decide +kernel
theorem dX13_day_110 : decode cX13_day 110 = .ok (.if_icmp .ne 7, 3) := by decide +kernel
theorem dX13_day_113 : decode cX13_day 113 = .ok (.iconst 0, 1) := by decide +kernel
theorem dX13_day_114 : decode cX13_day 114 = .ok (.goto 10, 3) := by decide +kernel
theorem dX13_day_117 : decode cX13_day 117 = .ok (.aload_n 0, 1) := by decide +kernel
theorem dX13_day_118 : decode cX13_day 118 = .ok (.iconst 0, 1) := by decide +kernel
theorem dX13_day_119 : decode cX13_day 119 = .ok (.bipush 7, 2) := by decide +kernel
theorem dX13_day_121 : decode cX13_day 121 = .ok (.invokevirtual 195, 3) := by decide +kernel
theorem dX13_day_124 : decode cX13_day 124 = .ok (.iastore, 1) := by decide +kernel
theorem dX13_day_125 : decode cX13_day 125 = .ok (.aload_n 0, 1) := by decide +kernel
theorem dX13_day_126 : decode cX13_day 126 = .ok (.getfield 110, 3) := by decide +kernel
theorem dX13_day_129 : decode cX13_day 129 = .ok (.bipush 127, 2) := by decide +kernel
theorem dX13_day_131 : decode cX13_day 131 = .ok (.iconst 3, 1) := by decide +kernel
theorem dX13_day_132 : decode cX13_day 132 = .ok (.iload_n 1, 1) := by decide +kernel
theorem dX13_day_133 : decode cX13_day 133 = .ok (.imul, 1) := by decide +kernel
theorem dX13_day_134 : decode cX13_day 134 = .ok (.iadd, 1) := by decide +kernel
theorem dX13_day_135 : decode cX13_day 135 = .ok (.iload_n 2, 1) := by decide +kernel
theorem dX13_day_136 : decode cX13_day 136 = .ok (.iconst 2, 1) := by decide +kernel
theorem dX13_day_137 : decode cX13_day 137 = .ok (.if_icmp .ne 13, 3) := by decide +kernel
theorem dX13_day_140 : decode cX13_day 140 = .ok (.aload_n 0, 1) := by decide +kernel
theorem dX13_day_141 : decode cX13_day 141 = .ok (.iconst 1, 1) := by decide +kernel
theorem dX13_day_142 : decode cX13_day 142 = .ok (.bipush 30, 2) := by decide +kernel
theorem dX13_day_144 : decode cX13_day 144 = .ok (.invokevirtual 195, 3) := by decide +kernel
theorem dX13_day_147 : decode cX13_day 147 = .ok (.goto 4, 3) := by decide +kernel
theorem dX13_day_150 : decode cX13_day 150 = .ok (.iconst 0, 1) := by decide +kernel
theorem dX13_day_151 : decode cX13_day 151 = .ok (.iastore, 1) := by decide +kernel
theorem dX13_day_152 : decode cX13_day 152 = .ok (.iinc 1 1, 3) := by decide +kernel
theorem dX13_day_155 : decode cX13_day 155 = .ok (.aload_n 0, 1) := by decide +kernel
theorem dX13_day_156 : decode cX13_day 156 = .ok (.bipush 59, 2) := by decide +kernel
theorem dX13_day_158 : decode cX13_day 158 = .ok (.invokevirtual 220, 3) := by decide +kernel
theorem dX13_day_161 : decode cX13_day 161 = .ok (.goto (-150), 3) := by decide +kernel
theorem dX13_day_164 : decode cX13_day 164 = .ok (.aload_n 0, 1) := by decide +kernel
theorem dX13_day_165 : decode cX13_day 165 = .ok (.getfield 177, 3) := by decide +kernel
theorem dX13_day_168 : decode cX13_day 168 = .ok (.ifCond .le 8, 3) := by decide +kernel
theorem dX13_day_171 : decode cX13_day 171 = .ok (.aload_n 0, 1) := by decide +kernel
theorem dX13_day_172 : decode cX13_day 172 = .ok (.getfield 177, 3) := by decide +kernel
theorem dX13_day_175 : decode cX13_day 175 = .ok (.ireturn, 1) := by decide +kernel
theorem dX13_day_176 : decode cX13_day 176 = .ok (.aload_n 0, 1) := by decide +kernel
theorem dX13_day_177 : decode cX13_day 177 = .ok (.getfield 110, 3) := by decide +kernel
theorem dX13_day_180 : decode cX13_day 180 = .ok (.iconst 0, 1) := by decide +kernel
theorem dX13_day_181 : decode cX13_day 181 = .ok (.iload_n 1, 1) := by decide +kernel
theorem dX13_day_182 : decode cX13_day 182 = .ok (.iastore, 1) := by decide +kernel
theorem dX13_day_183 : decode cX13_day 183 = .ok (.iconst 0, 1) := by decide +kernel
theorem dX13_day_184 : decode cX13_day 184 = .ok (.istore_n 2, 1) := by decide +kernel
theorem dX13_day_185 : decode cX13_day 185 = .ok (.iload_n 2, 1) := by decide +kernel
theorem dX13_day_186 : decode cX13_day 186 = .ok (.iconst 3, 1) := by decide +kernel
theorem dX13_day_187 : decode cX13_day 187 = .ok (.iload_n 1, 1) := by decide +kernel
theorem dX13_day_188 : decode cX13_day 188 = .ok (.imul, 1) := by decide +kernel
theorem dX13_day_189 : decode cX13_day 189 = .ok (.if_icmp .ge 26, 3) := by decide +kernel
theorem dX13_day_192 : decode cX13_day 192 = .ok (.aload_n 0, 1) := by decide +kernel
theorem dX13_day_193 : decode cX13_day 193 = .ok (.getfield 110, 3) := by decide +kernel
theorem dX13_day_196 : decode cX13_day 196 = .ok (.iconst 1, 1) := by decide +kernel
theorem dX13_day_197 : decode cX13_day 197 = .ok (.iload_n 2, 1) := by decide +kernel
theorem dX13_day_198 : decode cX13_day 198 = .ok (.iadd, 1) := by decide +kernel
theorem dX13_day_199 : decode cX13_day 199 = .ok (.aload_n 0, 1) := by decide +kernel
theorem dX13_day_200 : decode cX13_day 200 = .ok (.getfield 110, 3) := by decide +kernel
theorem dX13_day_203 : decode cX13_day 203 = .ok (.bipush 125, 2) := by decide +kernel
theorem dX13_day_205 : decode cX13_day 205 = .ok (.iload_n 2, 1) := by decide +kernel
theorem dX13_day_206 : decode cX13_day 206 = .ok (.iadd, 1) := by decide +kernel
theorem dX13_day_207 : decode cX13_day 207 = .ok (.iaload, 1) := by decide +kernel
theorem dX13_day_208 : decode cX13_day 208 = .ok (.iastore, 1) := by decide +kernel
theorem dX13_day_209 : decode cX13_day 209 = .ok (.iinc 2 1, 3) := by decide +kernel
theorem dX13_day_212 : decode cX13_day 212 = .ok (.goto (-27), 3) := by decide +kernel
theorem dX13_day_215 : decode cX13_day 215 = .ok (.iconst 0, 1) := by decide +kernel
theorem dX13_day_216 : decode cX13_day 216 = .ok (.ireturn, 1) := by decide +kernel
set_option maxHeartbeats 4000000 in
set_option maxRecDepth 100000 in
theorem B_X13_day {G : zG} {X : zX} {kd : kD} {N0 : Nat} (C : zCt G X 4 0 0 RX13 cX13_day 3) (hr : (zXh X).sig.returnType = (some .int)) : ∀ f : Nat,
    (∀ (S : aS) (v0 : Nat) (res : Option Value × aS), zT0 kd N0 S → v0 < N0 → kd v0 = .inl 11 → F_X13_day f 0 [.ref v0] S = some res → zV G X (zQX G X (zPo G kd N0 res) 0 0) 3 [some (.ref (zB G + v0)), none, none] [] (cn G kd N0 S) 0 0 0) ∧
    (∀ (S : aS) (v0 : Nat) (v1 : Int32) (res : Option Value × aS), zT0 kd N0 S → v0 < N0 → kd v0 = .inl 11 → F_X13_day f 1 [.ref v0, .int v1] S = some res → zV G X (zQX G X (zPo G kd N0 res) 0 0) 3 [some (.ref (zB G + v0)), some (.int v1), none] [] (cn G kd N0 S) 11 0 0) ∧
    (∀ (S : aS) (v0 : Nat) (v1 : Int32) (res : Option Value × aS), zT0 kd N0 S → v0 < N0 → kd v0 = .inl 11 → F_X13_day f 2 [.ref v0, .int v1] S = some res → zV G X (zQX G X (zPo G kd N0 res) 0 0) 3 [some (.ref (zB G + v0)), some (.int v1), none] [] (cn G kd N0 S) 164 0 0) ∧
    (∀ (S : aS) (v0 : Nat) (v1 : Int32) (v2 : Int32) (w0 : Int32) (w1 : Int32) (w2 : Nat) (res : Option Value × aS), zT0 kd N0 S → v0 < N0 → kd v0 = .inl 11 → w2 < N0 → kd w2 = .inr (0, 250) → F_X13_day f 3 [.ref v0, .int v1, .int v2, .int w0, .int w1, .ref w2] S = some res → zV G X (zQX G X (zPo G kd N0 res) 0 0) 3 [some (.ref (zB G + v0)), some (.int v1), some (.int v2)] [.int w0, .int w1, .ref (zB G + w2)] (cn G kd N0 S) 124 0 0) ∧
    (∀ (S : aS) (v0 : Nat) (v1 : Int32) (res : Option Value × aS), zT0 kd N0 S → v0 < N0 → kd v0 = .inl 11 → F_X13_day f 4 [.ref v0, .int v1] S = some res → zV G X (zQX G X (zPo G kd N0 res) 0 0) 3 [some (.ref (zB G + v0)), some (.int v1), none] [] (cn G kd N0 S) 155 0 0) ∧
    (∀ (S : aS) (v0 : Nat) (v1 : Int32) (v2 : Int32) (res : Option Value × aS), zT0 kd N0 S → v0 < N0 → kd v0 = .inl 11 → F_X13_day f 5 [.ref v0, .int v1, .int v2] S = some res → zV G X (zQX G X (zPo G kd N0 res) 0 0) 3 [some (.ref (zB G + v0)), some (.int v1), some (.int v2)] [] (cn G kd N0 S) 185 0 0) ∧
    (∀ (S : aS) (v0 : Nat) (v1 : Int32) (w0 : Int32) (w1 : Int32) (w2 : Nat) (res : Option Value × aS), zT0 kd N0 S → v0 < N0 → kd v0 = .inl 11 → w2 < N0 → kd w2 = .inr (0, 250) → F_X13_day f 6 [.ref v0, .int v1, .int w0, .int w1, .ref w2] S = some res → zV G X (zQX G X (zPo G kd N0 res) 0 0) 3 [some (.ref (zB G + v0)), some (.int v1), none] [.int w0, .int w1, .ref (zB G + w2)] (cn G kd N0 S) 151 0 0) := by
  intro f
  induction f with
  | zero => exact ⟨(fun _ _ _ _ _ _ h => by cases h), (fun _ _ _ _ _ _ _ h => by cases h), (fun _ _ _ _ _ _ _ h => by cases h), (fun _ _ _ _ _ _ _ _ _ _ _ _ _ h => by cases h), (fun _ _ _ _ _ _ _ h => by cases h), (fun _ _ _ _ _ _ _ _ h => by cases h), (fun _ _ _ _ _ _ _ _ _ _ _ _ h => by cases h)⟩
  | succ f ih =>
    obtain ⟨ih0, ih1, ih2, ih3, ih4, ih5, ih6⟩ := ih
    refine ⟨?_, ?_, ?_, ?_, ?_, ?_, ?_⟩
    · intro S v0 res hT hpv0 hkv0 hF
      replace hF : F_X13_day_0 f (F_X13_day f) v0 S = some res := hF
      unfold F_X13_day_0 at hF
      refine z_aload_n C dX13_day_0 rfl ?_
      refine z_iconst (v := 0) C dX13_day_1 (by decide) ?_
      refine f_puti C dX13_day_2 zfRX13_1 fw11_0 hpv0 hkv0 rfl rfl rfl ?_
      have hT1 : zT0 kd N0 (sI S v0 0 0) := zT0_sI hT
      replace hF := fS_e hF
      generalize sI S v0 0 0 = S1 at hF hT1 ⊢
      refine z_aload_n C dX13_day_5 rfl ?_
      obtain ⟨S2, h2, hF⟩ := bV_some hF
      refine f_cV (st2 := []) C dX13_day_6 zyX13_cutAll zvX13_cutAll lkRX13_208 (K_X13_cutAll (l := zXl X) hT1 hpv0 hkv0 h2) hpv0 hkv0 rfl (by decide) rfl rfl (Nat.le_of_ble_eq_true rfl) rfl (fun hT2 => ?_)
      refine z_iconst (v := 0) C dX13_day_9 (by decide) ?_
      refine z_istore_n (lv2 := [some (.ref (zB G + v0)), some (.int 0), none]) C dX13_day_10 (by decide) rfl ?_
      exact ih1 S2 v0 0 res hT2 hpv0 hkv0  hF
    · intro S v0 v1 res hT hpv0 hkv0 hF
      replace hF : F_X13_day_1 f (F_X13_day f) v0 v1 S = some res := hF
      unfold F_X13_day_1 at hF
      refine z_aload_n C dX13_day_11 rfl ?_
      refine f_geti C dX13_day_12 zfRX13_177 hpv0 hkv0 rfl ?_
      refine z_if_ne C 164 dX13_day_15 (by decide) (fun c5 => ?_) (fun c5 => ?_)
      · replace hF := im hF c5
        exact ih2 S v0 v1 res hT hpv0 hkv0  hF
      · replace hF := ip hF c5
        refine z_aload_n C dX13_day_18 rfl ?_
        refine f_getr C dX13_day_19 zfRX13_24 hpv0 hkv0 rfl ?_
        obtain ⟨hp6, hk6⟩ := hT.1 v0 11 4 (.inr (0, 1002)) hpv0 hkv0 rfl
        refine z_aload_n C dX13_day_22 rfl ?_
        refine f_geti C dX13_day_23 zfRX13_174 hpv0 hkv0 rfl ?_
        obtain ⟨hi7, hF⟩ := bX_some hF
        obtain ⟨q7, eq7⟩ : ∃ q : Nat, q = Int32.toNatClampNeg (gI S v0 7) := ⟨_, rfl⟩
        rw [← eq7] at hF
        refine f_iald C dX13_day_26 hp6 hk6 hi7 ?_
        rw [← eq7]
        refine z_if_eq C 164 dX13_day_27 (by decide) (fun c9 => ?_) (fun c9 => ?_)
        · replace hF := ip hF c9
          exact ih2 S v0 v1 res hT hpv0 hkv0  hF
        · replace hF := im hF c9
          refine z_aload_n C dX13_day_30 rfl ?_
          refine z_bipush (v := 12) C dX13_day_31 (by decide) ?_
          refine z_bipush (v := 6) C dX13_day_33 (by decide) ?_
          obtain ⟨x10, S10, h10, hF⟩ := bI_some hF
          refine f_cV (st2 := [.int x10]) C dX13_day_35 zyX13_wordHere zvX13_wordHere lkRX13_199 (K_X13_wordHere (l := zXl X) hT hpv0 hkv0   h10) hpv0 hkv0 rfl (by decide) rfl rfl (Nat.le_of_ble_eq_true rfl) rfl (fun hT10 => ?_)
          refine z_istore_n (lv2 := [some (.ref (zB G + v0)), some (.int v1), some (.int x10)]) C dX13_day_38 (by decide) rfl ?_
          refine z_iload_n C dX13_day_39 rfl ?_
          refine z_if_ge C 51 dX13_day_40 (by decide) (fun c13 => ?_) (fun c13 => ?_)
          · replace hF := ip hF c13
            refine z_iload_n C dX13_day_51 rfl ?_
            refine z_bipush (v := 40) C dX13_day_52 (by decide) ?_
            refine z_icmp_ne C 65 dX13_day_54 (by decide) (fun c15 => ?_) (fun c15 => ?_)
            · replace hF := im hF c15
              refine z_aload_n C dX13_day_65 rfl ?_
              refine z_dup C dX13_day_66 rfl ?_
              refine f_geti C dX13_day_67 zfRX13_174 hpv0 hkv0 rfl ?_
              refine z_iconst (v := 1) C dX13_day_70 (by decide) ?_
              refine z_iadd C dX13_day_71 ?_
              refine f_puti C dX13_day_72 zfRX13_174 fw11_7 hpv0 hkv0 rfl rfl rfl ?_
              have hT16 : zT0 kd N0 (sI S10 v0 7 ((gI S10 v0 7) + (1 : Int32))) := zT0_sI hT10
              replace hF := fS_e hF
              generalize sI S10 v0 7 ((gI S10 v0 7) + (1 : Int32)) = S16 at hF hT16 ⊢
              refine z_aload_n C dX13_day_75 rfl ?_
              refine f_getr C dX13_day_76 zfRX13_110 hpv0 hkv0 rfl ?_
              obtain ⟨hp17, hk17⟩ := hT16.1 v0 11 19 (.inr (0, 250)) hpv0 hkv0 rfl
              refine z_bipush (v := 125) C dX13_day_79 (by decide) ?_
              refine z_iconst (v := 3) C dX13_day_81 (by decide) ?_
              refine z_iload_n C dX13_day_82 rfl ?_
              refine z_imul C dX13_day_83 ?_
              refine z_iadd C dX13_day_84 ?_
              refine z_iload_n C dX13_day_85 rfl ?_
              obtain ⟨hi18, hF⟩ := bX_some hF
              obtain ⟨q18, eq18⟩ : ∃ q : Nat, q = Int32.toNatClampNeg ((125 : Int32) + ((3 : Int32) * v1)) := ⟨_, rfl⟩
              rw [← eq18] at hF
              refine f_iast C dX13_day_86 hp17 hk17 hi18 ?_
              rw [← eq18]
              have hT19 : zT0 kd N0 (sI S16 (gR S16 v0 19) q18 x10) := zT0_sI hT16
              replace hF := fS_e hF
              generalize sI S16 (gR S16 v0 19) q18 x10 = S19 at hF hT19 ⊢
              refine z_aload_n C dX13_day_87 rfl ?_
              refine f_getr C dX13_day_88 zfRX13_110 hpv0 hkv0 rfl ?_
              obtain ⟨hp20, hk20⟩ := hT19.1 v0 11 19 (.inr (0, 250)) hpv0 hkv0 rfl
              refine z_bipush (v := 126) C dX13_day_91 (by decide) ?_
              refine z_iconst (v := 3) C dX13_day_93 (by decide) ?_
              refine z_iload_n C dX13_day_94 rfl ?_
              refine z_imul C dX13_day_95 ?_
              refine z_iadd C dX13_day_96 ?_
              refine z_iload_n C dX13_day_97 rfl ?_
              refine z_if_ne C 108 dX13_day_98 (by decide) (fun c23 => ?_) (fun c23 => ?_)
              · replace hF := im hF c23
                refine z_iload_n C dX13_day_108 rfl ?_
                refine z_iconst (v := 5) C dX13_day_109 (by decide) ?_
                refine z_icmp_ne C 117 dX13_day_110 (by decide) (fun c25 => ?_) (fun c25 => ?_)
                · replace hF := im hF c25
                  refine z_aload_n C dX13_day_117 rfl ?_
                  refine z_iconst (v := 0) C dX13_day_118 (by decide) ?_
                  refine z_bipush (v := 7) C dX13_day_119 (by decide) ?_
                  obtain ⟨x26, S26, h26, hF⟩ := bI_some hF
                  refine f_cV (st2 := [.int x26, .int ((126 : Int32) + ((3 : Int32) * v1)), .ref (zB G + (gR S19 v0 19))]) C dX13_day_121 zyX13_takeNumber zvX13_takeNumber lkRX13_195 (K_X13_takeNumber (l := zXl X) hT19 hpv0 hkv0   h26) hpv0 hkv0 rfl (by decide) rfl rfl (Nat.le_of_ble_eq_true rfl) rfl (fun hT26 => ?_)
                  exact ih3 S26 v0 v1 x10 x26 ((126 : Int32) + ((3 : Int32) * v1)) (gR S19 v0 19) res hT26 hpv0 hkv0     hp20 hk20 hF
                · replace hF := ip hF c25
                  refine z_iconst (v := 0) C dX13_day_113 (by decide) ?_
                  refine z_goto C 124 dX13_day_114 (by decide) ?_
                  exact ih3 S19 v0 v1 x10 0 ((126 : Int32) + ((3 : Int32) * v1)) (gR S19 v0 19) res hT19 hpv0 hkv0     hp20 hk20 hF
              · replace hF := ip hF c23
                refine z_aload_n C dX13_day_101 rfl ?_
                obtain ⟨x27, S27, h27, hF⟩ := bI_some hF
                refine f_cV (st2 := [.int x27, .int ((126 : Int32) + ((3 : Int32) * v1)), .ref (zB G + (gR S19 v0 19))]) C dX13_day_102 zyX13_takePerson zvX13_takePerson lkRX13_257 (K_X13_takePerson (l := zXl X) hT19 hpv0 hkv0 h27) hpv0 hkv0 rfl (by decide) rfl rfl (Nat.le_of_ble_eq_true rfl) rfl (fun hT27 => ?_)
                refine z_goto C 124 dX13_day_105 (by decide) ?_
                exact ih3 S27 v0 v1 x10 x27 ((126 : Int32) + ((3 : Int32) * v1)) (gR S19 v0 19) res hT27 hpv0 hkv0     hp20 hk20 hF
            · replace hF := ip hF c15
              refine z_aload_n C dX13_day_57 rfl ?_
              refine z_iconst (v := 5) C dX13_day_58 (by decide) ?_
              obtain ⟨S28, h28, hF⟩ := bV_some hF
              refine f_cV (st2 := []) C dX13_day_59 zyX13_wrong zvX13_wrong lkRX13_183 (K_X13_wrong (l := zXl X) hT10 hpv0 hkv0  h28) hpv0 hkv0 rfl (by decide) rfl rfl (Nat.le_of_ble_eq_true rfl) rfl (fun hT28 => ?_)
              refine z_goto C 155 dX13_day_62 (by decide) ?_
              refine z_mask [true, true, false] ?_ rfl
              exact ih4 S28 v0 v1 res hT28 hpv0 hkv0  hF
          · replace hF := im hF c13
            refine z_aload_n C dX13_day_43 rfl ?_
            refine z_iconst (v := 1) C dX13_day_44 (by decide) ?_
            obtain ⟨S29, h29, hF⟩ := bV_some hF
            refine f_cV (st2 := []) C dX13_day_45 zyX13_wrong zvX13_wrong lkRX13_183 (K_X13_wrong (l := zXl X) hT10 hpv0 hkv0  h29) hpv0 hkv0 rfl (by decide) rfl rfl (Nat.le_of_ble_eq_true rfl) rfl (fun hT29 => ?_)
            refine z_goto C 155 dX13_day_48 (by decide) ?_
            refine z_mask [true, true, false] ?_ rfl
            exact ih4 S29 v0 v1 res hT29 hpv0 hkv0  hF
    · intro S v0 v1 res hT hpv0 hkv0 hF
      replace hF : F_X13_day_2 f (F_X13_day f) v0 v1 S = some res := hF
      unfold F_X13_day_2 at hF
      refine z_aload_n C dX13_day_164 rfl ?_
      refine f_geti C dX13_day_165 zfRX13_177 hpv0 hkv0 rfl ?_
      refine z_if_le C 176 dX13_day_168 (by decide) (fun c30 => ?_) (fun c30 => ?_)
      · replace hF := ip hF c30
        refine z_aload_n C dX13_day_176 rfl ?_
        refine f_getr C dX13_day_177 zfRX13_110 hpv0 hkv0 rfl ?_
        obtain ⟨hp31, hk31⟩ := hT.1 v0 11 19 (.inr (0, 250)) hpv0 hkv0 rfl
        refine z_iconst (v := 0) C dX13_day_180 (by decide) ?_
        refine z_iload_n C dX13_day_181 rfl ?_
        obtain ⟨hi32, hF⟩ := bX_some hF
        obtain ⟨q32, eq32⟩ : ∃ q : Nat, q = Int32.toNatClampNeg 0 := ⟨_, rfl⟩
        rw [← eq32] at hF
        refine f_iast C dX13_day_182 hp31 hk31 hi32 ?_
        rw [← eq32]
        have hT33 : zT0 kd N0 (sI S (gR S v0 19) q32 v1) := zT0_sI hT
        replace hF := fS_e hF
        generalize sI S (gR S v0 19) q32 v1 = S33 at hF hT33 ⊢
        refine z_iconst (v := 0) C dX13_day_183 (by decide) ?_
        refine z_istore_n (lv2 := [some (.ref (zB G + v0)), some (.int v1), some (.int 0)]) C dX13_day_184 (by decide) rfl ?_
        exact ih5 S33 v0 v1 0 res hT33 hpv0 hkv0   hF
      · replace hF := im hF c30
        refine z_aload_n C dX13_day_171 rfl ?_
        refine f_geti C dX13_day_172 zfRX13_177 hpv0 hkv0 rfl ?_
        cases hF
        exact z_iret C hr dX13_day_175 ⟨rfl, rfl, hT⟩
    · intro S v0 v1 v2 w0 w1 w2 res hT hpv0 hkv0 hpw2 hkw2 hF
      replace hF : F_X13_day_3 f (F_X13_day f) v0 v1 v2 w0 w1 w2 S = some res := hF
      unfold F_X13_day_3 at hF
      obtain ⟨hi34, hF⟩ := bX_some hF
      obtain ⟨q34, eq34⟩ : ∃ q : Nat, q = Int32.toNatClampNeg w1 := ⟨_, rfl⟩
      rw [← eq34] at hF
      refine f_iast C dX13_day_124 hpw2 hkw2 hi34 ?_
      rw [← eq34]
      have hT35 : zT0 kd N0 (sI S w2 q34 w0) := zT0_sI hT
      replace hF := fS_e hF
      generalize sI S w2 q34 w0 = S35 at hF hT35 ⊢
      refine z_aload_n C dX13_day_125 rfl ?_
      refine f_getr C dX13_day_126 zfRX13_110 hpv0 hkv0 rfl ?_
      obtain ⟨hp36, hk36⟩ := hT35.1 v0 11 19 (.inr (0, 250)) hpv0 hkv0 rfl
      refine z_bipush (v := 127) C dX13_day_129 (by decide) ?_
      refine z_iconst (v := 3) C dX13_day_131 (by decide) ?_
      refine z_iload_n C dX13_day_132 rfl ?_
      refine z_imul C dX13_day_133 ?_
      refine z_iadd C dX13_day_134 ?_
      refine z_iload_n C dX13_day_135 rfl ?_
      refine z_iconst (v := 2) C dX13_day_136 (by decide) ?_
      refine z_icmp_ne C 150 dX13_day_137 (by decide) (fun c38 => ?_) (fun c38 => ?_)
      · replace hF := im hF c38
        refine z_iconst (v := 0) C dX13_day_150 (by decide) ?_
        refine z_mask [true, true, false] ?_ rfl
        exact ih6 S35 v0 v1 0 ((127 : Int32) + ((3 : Int32) * v1)) (gR S35 v0 19) res hT35 hpv0 hkv0    hp36 hk36 hF
      · replace hF := ip hF c38
        refine z_aload_n C dX13_day_140 rfl ?_
        refine z_iconst (v := 1) C dX13_day_141 (by decide) ?_
        refine z_bipush (v := 30) C dX13_day_142 (by decide) ?_
        obtain ⟨x39, S39, h39, hF⟩ := bI_some hF
        refine f_cV (st2 := [.int x39, .int ((127 : Int32) + ((3 : Int32) * v1)), .ref (zB G + (gR S35 v0 19))]) C dX13_day_144 zyX13_takeNumber zvX13_takeNumber lkRX13_195 (K_X13_takeNumber (l := zXl X) hT35 hpv0 hkv0   h39) hpv0 hkv0 rfl (by decide) rfl rfl (Nat.le_of_ble_eq_true rfl) rfl (fun hT39 => ?_)
        refine z_goto C 151 dX13_day_147 (by decide) ?_
        refine z_mask [true, true, false] ?_ rfl
        exact ih6 S39 v0 v1 x39 ((127 : Int32) + ((3 : Int32) * v1)) (gR S35 v0 19) res hT39 hpv0 hkv0    hp36 hk36 hF
    · intro S v0 v1 res hT hpv0 hkv0 hF
      replace hF : F_X13_day_4 f (F_X13_day f) v0 v1 S = some res := hF
      unfold F_X13_day_4 at hF
      refine z_aload_n C dX13_day_155 rfl ?_
      refine z_bipush (v := 59) C dX13_day_156 (by decide) ?_
      obtain ⟨S40, h40, hF⟩ := bV_some hF
      refine f_cV (st2 := []) C dX13_day_158 zyX13_takeSign zvX13_takeSign lkRX13_220 (K_X13_takeSign (l := zXl X) hT hpv0 hkv0  h40) hpv0 hkv0 rfl (by decide) rfl rfl (Nat.le_of_ble_eq_true rfl) rfl (fun hT40 => ?_)
      refine z_goto C 11 dX13_day_161 (by decide) ?_
      exact ih1 S40 v0 v1 res hT40 hpv0 hkv0  hF
    · intro S v0 v1 v2 res hT hpv0 hkv0 hF
      replace hF : F_X13_day_5 f (F_X13_day f) v0 v1 v2 S = some res := hF
      unfold F_X13_day_5 at hF
      refine z_iload_n C dX13_day_185 rfl ?_
      refine z_iconst (v := 3) C dX13_day_186 (by decide) ?_
      refine z_iload_n C dX13_day_187 rfl ?_
      refine z_imul C dX13_day_188 ?_
      refine z_icmp_ge C 215 dX13_day_189 (by decide) (fun c44 => ?_) (fun c44 => ?_)
      · replace hF := ip hF c44
        refine z_iconst (v := 0) C dX13_day_215 (by decide) ?_
        cases hF
        exact z_iret C hr dX13_day_216 ⟨rfl, rfl, hT⟩
      · replace hF := im hF c44
        refine z_aload_n C dX13_day_192 rfl ?_
        refine f_getr C dX13_day_193 zfRX13_110 hpv0 hkv0 rfl ?_
        obtain ⟨hp45, hk45⟩ := hT.1 v0 11 19 (.inr (0, 250)) hpv0 hkv0 rfl
        refine z_iconst (v := 1) C dX13_day_196 (by decide) ?_
        refine z_iload_n C dX13_day_197 rfl ?_
        refine z_iadd C dX13_day_198 ?_
        refine z_aload_n C dX13_day_199 rfl ?_
        refine f_getr C dX13_day_200 zfRX13_110 hpv0 hkv0 rfl ?_
        obtain ⟨hp46, hk46⟩ := hT.1 v0 11 19 (.inr (0, 250)) hpv0 hkv0 rfl
        refine z_bipush (v := 125) C dX13_day_203 (by decide) ?_
        refine z_iload_n C dX13_day_205 rfl ?_
        refine z_iadd C dX13_day_206 ?_
        obtain ⟨hi47, hF⟩ := bX_some hF
        obtain ⟨q47, eq47⟩ : ∃ q : Nat, q = Int32.toNatClampNeg ((125 : Int32) + v2) := ⟨_, rfl⟩
        rw [← eq47] at hF
        refine f_iald C dX13_day_207 hp46 hk46 hi47 ?_
        rw [← eq47]
        obtain ⟨hi48, hF⟩ := bX_some hF
        obtain ⟨q48, eq48⟩ : ∃ q : Nat, q = Int32.toNatClampNeg ((1 : Int32) + v2) := ⟨_, rfl⟩
        rw [← eq48] at hF
        refine f_iast C dX13_day_208 hp45 hk45 hi48 ?_
        rw [← eq48]
        have hT49 : zT0 kd N0 (sI S (gR S v0 19) q48 (gI S (gR S v0 19) q47)) := zT0_sI hT
        replace hF := fS_e hF
        generalize sI S (gR S v0 19) q48 (gI S (gR S v0 19) q47) = S49 at hF hT49 ⊢
        refine z_iinc (v := v2 + 1) (lv2 := [some (.ref (zB G + v0)), some (.int v1), some (.int (v2 + 1))]) C dX13_day_209 rfl (by rw [show Int32.ofInt 1 = (1 : Int32) from by decide]) rfl ?_
        refine z_goto C 185 dX13_day_212 (by decide) ?_
        exact ih5 S49 v0 v1 (v2 + 1) res hT49 hpv0 hkv0   hF
    · intro S v0 v1 w0 w1 w2 res hT hpv0 hkv0 hpw2 hkw2 hF
      replace hF : F_X13_day_6 f (F_X13_day f) v0 v1 w0 w1 w2 S = some res := hF
      unfold F_X13_day_6 at hF
      obtain ⟨hi50, hF⟩ := bX_some hF
      obtain ⟨q50, eq50⟩ : ∃ q : Nat, q = Int32.toNatClampNeg w1 := ⟨_, rfl⟩
      rw [← eq50] at hF
      refine f_iast C dX13_day_151 hpw2 hkw2 hi50 ?_
      rw [← eq50]
      have hT51 : zT0 kd N0 (sI S w2 q50 w0) := zT0_sI hT
      replace hF := fS_e hF
      generalize sI S w2 q50 w0 = S51 at hF hT51 ⊢
      refine z_iinc (v := v1 + 1) (lv2 := [some (.ref (zB G + v0)), some (.int (v1 + 1)), none]) C dX13_day_152 rfl (by rw [show Int32.ofInt 1 = (1 : Int32) from by decide]) rfl ?_
      exact ih4 S51 v0 (v1 + 1) res hT51 hpv0 hkv0  hF
theorem K_X13_day {G : zG} {l : Launch} {kd : kD} {N0 f : Nat} {S : aS} {v0 : Nat} {res : Option Value × aS} (hT : zT0 kd N0 S) (hpv0 : v0 < N0) (hkv0 : kd v0 = .inl 11) (hF : F_X13_day f 0 [.ref v0] S = some res) : zM G l 4 0 0 yX13_day cX13_day 3 (some .int) [.ref (zB G + v0)] (cn G kd N0 S) (zPo G kd N0 res) := zM.of (by decide) rfl (Nat.le_of_ble_eq_true rfl) (fun X _ C hr _ => (B_X13_day C hr f).1 S v0 res hT hpv0 hkv0 hF)

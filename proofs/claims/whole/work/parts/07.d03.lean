def F_X13_yardHere_0 (f : Nat) (rc : Nat → List Value → aS → aR) (v0 : Nat) (v1 : Int32) (S : aS) : aR :=
  bI (F_X13_takeNumber f 0 [.ref v0, .int 0, .int 7] S) fun x1 S1 => if (gI S1 v0 8) = (0 : Int32) then bX (((70 : Int32) + v1) + x1) 140 fun q6 => if (gI S1 (gR S1 v0 10) q6) ≤ (0 : Int32) then rc 1 [.int x1] S1 else fS (sI S1 v0 7 ((gI S1 v0 7) - (1 : Int32))) fun S9 => bV (F_X13_wrong f 0 [.ref v0, .int 3] S9) fun S10 => rc 1 [.int x1] S10 else rc 1 [.int x1] S1
def F_X13_yardHere_1 (f : Nat) (rc : Nat → List Value → aS → aR) (v0 : Int32) (S : aS) : aR :=
  some (some (.int v0), S)
def F_X13_yardHere : Nat → Nat → List Value → aS → aR
  | 0, _, _, _ => none
  | f + 1, 0, vs, S => F_X13_yardHere_0 f (F_X13_yardHere f) (vR vs 0) (vI vs 1) S
  | f + 1, 1, vs, S => F_X13_yardHere_1 f (F_X13_yardHere f) (vI vs 0) S
  | _ + 1, _, _, _ => none
theorem dX13_yardHere_0 : decode cX13_yardHere 0 = .ok (.aload_n 0, 1) := by decide +kernel
theorem dX13_yardHere_1 : decode cX13_yardHere 1 = .ok (.iconst 0, 1) := by decide +kernel
theorem dX13_yardHere_2 : decode cX13_yardHere 2 = .ok (.bipush 7, 2) := by decide +kernel
theorem dX13_yardHere_4 : decode cX13_yardHere 4 = .ok (.invokevirtual 195, 3) := by decide +kernel
theorem dX13_yardHere_7 : decode cX13_yardHere 7 = .ok (.istore_n 2, 1) := by decide +kernel
theorem dX13_yardHere_8 : decode cX13_yardHere 8 = .ok (.aload_n 0, 1) := by decide +kernel
theorem dX13_yardHere_9 : decode cX13_yardHere 9 = .ok (.getfield 177, 3) := by decide +kernel
theorem dX13_yardHere_12 : decode cX13_yardHere 12 = .ok (.ifCond .ne 32, 3) := by decide +kernel
theorem dX13_yardHere_15 : decode cX13_yardHere 15 = .ok (.aload_n 0, 1) := by decide +kernel
theorem dX13_yardHere_16 : decode cX13_yardHere 16 = .ok (.getfield 95, 3) := by decide +kernel
theorem dX13_yardHere_19 : decode cX13_yardHere 19 = .ok (.bipush 70, 2) := by decide +kernel
theorem dX13_yardHere_21 : decode cX13_yardHere 21 = .ok (.iload_n 1, 1) := by decide +kernel
theorem dX13_yardHere_22 : decode cX13_yardHere 22 = .ok (.iadd, 1) := by decide +kernel
theorem dX13_yardHere_23 : decode cX13_yardHere 23 = .ok (.iload_n 2, 1) := by decide +kernel
theorem dX13_yardHere_24 : decode cX13_yardHere 24 = .ok (.iadd, 1) := by decide +kernel
theorem dX13_yardHere_25 : decode cX13_yardHere 25 = .ok (.iaload, 1) := by decide +kernel
theorem dX13_yardHere_26 : decode cX13_yardHere 26 = .ok (.ifCond .le 18, 3) := by decide +kernel
theorem dX13_yardHere_29 : decode cX13_yardHere 29 = .ok (.aload_n 0, 1) := by decide +kernel
theorem dX13_yardHere_30 : decode cX13_yardHere 30 = .ok (.dup, 1) := by decide +kernel
theorem dX13_yardHere_31 : decode cX13_yardHere 31 = .ok (.getfield 174, 3) := by decide +kernel
theorem dX13_yardHere_34 : decode cX13_yardHere 34 = .ok (.iconst 1, 1) := by decide +kernel
theorem dX13_yardHere_35 : decode cX13_yardHere 35 = .ok (.isub, 1) := by decide +kernel
theorem dX13_yardHere_36 : decode cX13_yardHere 36 = .ok (.putfield 174, 3) := by decide +kernel
theorem dX13_yardHere_39 : decode cX13_yardHere 39 = .ok (.aload_n 0, 1) := by decide +kernel
theorem dX13_yardHere_40 : decode cX13_yardHere 40 = .ok (.iconst 3, 1) := by decide +kernel
theorem dX13_yardHere_41 : decode cX13_yardHere 41 = .ok (.invokevirtual 183, 3) := by decide +kernel
theorem dX13_yardHere_44 : decode cX13_yardHere 44 = .ok (.iload_n 2, 1) := by decide +kernel
theorem dX13_yardHere_45 : decode cX13_yardHere 45 = .ok (.ireturn, 1) := by decide +kernel
set_option maxHeartbeats 4000000 in
set_option maxRecDepth 100000 in
theorem B_X13_yardHere {G : zG} {X : zX} {kd : kD} {N0 : Nat} (C : zCt G X 2 0 0 RX13 cX13_yardHere 3) (hr : (zXh X).sig.returnType = (some .int)) : ∀ f : Nat,
    (∀ (S : aS) (v0 : Nat) (v1 : Int32) (res : Option Value × aS), zT0 kd N0 S → v0 < N0 → kd v0 = .inl 11 → F_X13_yardHere f 0 [.ref v0, .int v1] S = some res → zV G X (zQX G X (zPo G kd N0 res) 0 0) 3 [some (.ref (zB G + v0)), some (.int v1), none] [] (cn G kd N0 S) 0 0 0) ∧
    (∀ (S : aS) (v0 : Int32) (res : Option Value × aS), zT0 kd N0 S → F_X13_yardHere f 1 [.int v0] S = some res → zV G X (zQX G X (zPo G kd N0 res) 0 0) 3 [none, none, some (.int v0)] [] (cn G kd N0 S) 44 0 0) := by
  intro f
  induction f with
  | zero => exact ⟨(fun _ _ _ _ _ _ _ h => by cases h), (fun _ _ _ _ h => by cases h)⟩
  | succ f ih =>
    obtain ⟨ih0, ih1⟩ := ih
    refine ⟨?_, ?_⟩
    · intro S v0 v1 res hT hpv0 hkv0 hF
      replace hF : F_X13_yardHere_0 f (F_X13_yardHere f) v0 v1 S = some res := hF
      unfold F_X13_yardHere_0 at hF
      refine z_aload_n C dX13_yardHere_0 rfl ?_
      refine z_iconst (v := 0) C dX13_yardHere_1 (by decide) ?_
      refine z_bipush (v := 7) C dX13_yardHere_2 (by decide) ?_
      obtain ⟨x1, S1, h1, hF⟩ := bI_some hF
      refine f_cV (st2 := [.int x1]) C dX13_yardHere_4 zyX13_takeNumber zvX13_takeNumber lkRX13_195 (K_X13_takeNumber (l := zXl X) hT hpv0 hkv0   h1) hpv0 hkv0 rfl (by decide) rfl rfl (Nat.le_of_ble_eq_true rfl) rfl (fun hT1 => ?_)
      refine z_istore_n (lv2 := [some (.ref (zB G + v0)), some (.int v1), some (.int x1)]) C dX13_yardHere_7 (by decide) rfl ?_
      refine z_aload_n C dX13_yardHere_8 rfl ?_
      refine f_geti C dX13_yardHere_9 zfRX13_177 hpv0 hkv0 rfl ?_
      refine z_if_ne C 44 dX13_yardHere_12 (by decide) (fun c4 => ?_) (fun c4 => ?_)
      · replace hF := im hF c4
        refine z_mask [false, false, true] ?_ rfl
        exact ih1 S1 x1 res hT1  hF
      · replace hF := ip hF c4
        refine z_aload_n C dX13_yardHere_15 rfl ?_
        refine f_getr C dX13_yardHere_16 zfRX13_95 hpv0 hkv0 rfl ?_
        obtain ⟨hp5, hk5⟩ := hT1.1 v0 11 10 (.inr (0, 140)) hpv0 hkv0 rfl
        refine z_bipush (v := 70) C dX13_yardHere_19 (by decide) ?_
        refine z_iload_n C dX13_yardHere_21 rfl ?_
        refine z_iadd C dX13_yardHere_22 ?_
        refine z_iload_n C dX13_yardHere_23 rfl ?_
        refine z_iadd C dX13_yardHere_24 ?_
        obtain ⟨hi6, hF⟩ := bX_some hF
        obtain ⟨q6, eq6⟩ : ∃ q : Nat, q = Int32.toNatClampNeg (((70 : Int32) + v1) + x1) := ⟨_, rfl⟩
        rw [← eq6] at hF
        refine f_iald C dX13_yardHere_25 hp5 hk5 hi6 ?_
        rw [← eq6]
        refine z_if_le C 44 dX13_yardHere_26 (by decide) (fun c8 => ?_) (fun c8 => ?_)
        · replace hF := ip hF c8
          refine z_mask [false, false, true] ?_ rfl
          exact ih1 S1 x1 res hT1  hF
        · replace hF := im hF c8
          refine z_aload_n C dX13_yardHere_29 rfl ?_
          refine z_dup C dX13_yardHere_30 rfl ?_
          refine f_geti C dX13_yardHere_31 zfRX13_174 hpv0 hkv0 rfl ?_
          refine z_iconst (v := 1) C dX13_yardHere_34 (by decide) ?_
          refine z_isub C dX13_yardHere_35 ?_
          refine f_puti C dX13_yardHere_36 zfRX13_174 fw11_7 hpv0 hkv0 rfl rfl rfl ?_
          have hT9 : zT0 kd N0 (sI S1 v0 7 ((gI S1 v0 7) - (1 : Int32))) := zT0_sI hT1
          replace hF := fS_e hF
          generalize sI S1 v0 7 ((gI S1 v0 7) - (1 : Int32)) = S9 at hF hT9 ⊢
          refine z_aload_n C dX13_yardHere_39 rfl ?_
          refine z_iconst (v := 3) C dX13_yardHere_40 (by decide) ?_
          obtain ⟨S10, h10, hF⟩ := bV_some hF
          refine f_cV (st2 := []) C dX13_yardHere_41 zyX13_wrong zvX13_wrong lkRX13_183 (K_X13_wrong (l := zXl X) hT9 hpv0 hkv0  h10) hpv0 hkv0 rfl (by decide) rfl rfl (Nat.le_of_ble_eq_true rfl) rfl (fun hT10 => ?_)
          refine z_mask [false, false, true] ?_ rfl
          exact ih1 S10 x1 res hT10  hF
    · intro S v0 res hT  hF
      replace hF : F_X13_yardHere_1 f (F_X13_yardHere f) v0 S = some res := hF
      unfold F_X13_yardHere_1 at hF
      refine z_iload_n C dX13_yardHere_44 rfl ?_
      cases hF
      exact z_iret C hr dX13_yardHere_45 ⟨rfl, rfl, hT⟩
theorem K_X13_yardHere {G : zG} {l : Launch} {kd : kD} {N0 f : Nat} {S : aS} {v0 : Nat} {v1 : Int32} {res : Option Value × aS} (hT : zT0 kd N0 S) (hpv0 : v0 < N0) (hkv0 : kd v0 = .inl 11) (hF : F_X13_yardHere f 0 [.ref v0, .int v1] S = some res) : zM G l 2 0 0 yX13_yardHere cX13_yardHere 3 (some .int) [.ref (zB G + v0), .int v1] (cn G kd N0 S) (zPo G kd N0 res) := zM.of (by decide) rfl (Nat.le_of_ble_eq_true rfl) (fun X _ C hr _ => (B_X13_yardHere C hr f).1 S v0 v1 res hT hpv0 hkv0 hF)
def F_X13_readPerson_0 (f : Nat) (rc : Nat → List Value → aS → aR) (v0 : Nat) (S : aS) : aR :=
  bX 71 140 fun q2 => if (gI S (gR S v0 10) q2) = (6 : Int32) then bV (F_X13_wrong f 0 [.ref v0, .int 5] S) fun S13 => some (none, S13) else fS (sI S v0 7 ((gI S v0 7) + (1 : Int32))) fun S4 => bI (F_X13_isName f 0 [.ref v0] S4) fun x5 S5 => if x5 = (0 : Int32) then bV (F_X13_wrong f 0 [.ref v0, .int 1] S5) fun S12 => rc 1 [.ref v0, .int (gI S (gR S v0 10) q2)] S12 else bI (F_X13_nameAt f 0 [.ref v0, .int 1] S5) fun x8 S8 => if x8 < (0 : Int32) then rc 1 [.ref v0, .int (gI S (gR S v0 10) q2)] S8 else bV (F_X13_wrong f 0 [.ref v0, .int 3] S8) fun S11 => rc 1 [.ref v0, .int (gI S (gR S v0 10) q2)] S11
def F_X13_readPerson_1 (f : Nat) (rc : Nat → List Value → aS → aR) (v0 : Nat) (v1 : Int32) (S : aS) : aR :=
  if (gI S v0 8) ≤ (0 : Int32) then bX (gI S v0 7) 1002 fun q17 => bX (gI S v0 17) 6 fun q18 => fS (sJ S (gR S v0 15) q18 (gJ S (gR S v0 6) q17)) fun S19 => fS (sI S19 v0 17 ((gI S19 v0 17) + (1 : Int32))) fun S20 => fS (sI S20 v0 7 ((gI S20 v0 7) + (1 : Int32))) fun S21 => bI (F_X13_takeOne f 0 [.ref v0, .int 18, .int 4] S21) fun x23 S23 => bX ((78 : Int32) + ((3 : Int32) * v1)) 140 fun q24 => fS (sI S23 (gR S21 v0 10) q24 x23) fun S25 => bI (F_X13_takeAfter f 0 [.ref v0, .int 2, .int 0, .int 9] S25) fun x27 S27 => bX (((78 : Int32) + ((3 : Int32) * v1)) + (1 : Int32)) 140 fun q28 => fS (sI S27 (gR S25 v0 10) q28 x27) fun S29 => bI (F_X13_takeAfter f 0 [.ref v0, .int 3, .int 0, .int 9] S29) fun x31 S31 => bX (((78 : Int32) + ((3 : Int32) * v1)) + (2 : Int32)) 140 fun q32 => fS (sI S31 (gR S29 v0 10) q32 x31) fun S33 => bX 71 140 fun q35 => bX 71 140 fun q36 => fS (sI S33 (gR S33 v0 10) q36 ((gI S33 (gR S33 v0 10) q35) + (1 : Int32))) fun S37 => some (none, S37) else some (none, S)
def F_X13_readPerson : Nat → Nat → List Value → aS → aR
  | 0, _, _, _ => none
  | f + 1, 0, vs, S => F_X13_readPerson_0 f (F_X13_readPerson f) (vR vs 0) S
  | f + 1, 1, vs, S => F_X13_readPerson_1 f (F_X13_readPerson f) (vR vs 0) (vI vs 1) S
  | _ + 1, _, _, _ => none
theorem dX13_readPerson_0 : decode cX13_readPerson 0 = .ok (.aload_n 0, 1) := by decide +kernel
theorem dX13_readPerson_1 : decode cX13_readPerson 1 = .ok (.getfield 95, 3) := by decide +kernel
theorem dX13_readPerson_4 : decode cX13_readPerson 4 = .ok (.bipush 71, 2) := by decide +kernel
theorem dX13_readPerson_6 : decode cX13_readPerson 6 = .ok (.iaload, 1) := by decide +kernel
theorem dX13_readPerson_7 : decode cX13_readPerson 7 = .ok (.istore_n 1, 1) := by decide +kernel
theorem dX13_readPerson_8 : decode cX13_readPerson 8 = .ok (.iload_n 1, 1) := by decide +kernel
theorem dX13_readPerson_9 : decode cX13_readPerson 9 = .ok (.bipush 6, 2) := by decide +kernel
theorem dX13_readPerson_11 : decode cX13_readPerson 11 = .ok (.if_icmp .ne 9, 3) := by decide +kernel
theorem dX13_readPerson_14 : decode cX13_readPerson 14 = .ok (.aload_n 0, 1) := by decide +kernel
theorem dX13_readPerson_15 : decode cX13_readPerson 15 = .ok (.iconst 5, 1) := by decide +kernel
theorem dX13_readPerson_16 : decode cX13_readPerson 16 = .ok (.invokevirtual 183, 3) := by decide +kernel
theorem dX13_readPerson_19 : decode cX13_readPerson 19 = .ok (.return_, 1) := by decide +kernel
theorem dX13_readPerson_20 : decode cX13_readPerson 20 = .ok (.aload_n 0, 1) := by decide +kernel
theorem dX13_readPerson_21 : decode cX13_readPerson 21 = .ok (.dup, 1) := by decide +kernel
theorem dX13_readPerson_22 : decode cX13_readPerson 22 = .ok (.getfield 174, 3) := by decide +kernel
theorem dX13_readPerson_25 : decode cX13_readPerson 25 = .ok (.iconst 1, 1) := by decide +kernel
theorem dX13_readPerson_26 : decode cX13_readPerson 26 = .ok (.iadd, 1) := by decide +kernel
theorem dX13_readPerson_27 : decode cX13_readPerson 27 = .ok (.putfield 174, 3) := by decide +kernel
theorem dX13_readPerson_30 : decode cX13_readPerson 30 = .ok (.aload_n 0, 1) := by decide +kernel
theorem dX13_readPerson_31 : decode cX13_readPerson 31 = .ok (.invokevirtual 232, 3) := by decide +kernel
theorem dX13_readPerson_34 : decode cX13_readPerson 34 = .ok (.ifCond .ne 11, 3) := by decide +kernel
theorem dX13_readPerson_37 : decode cX13_readPerson 37 = .ok (.aload_n 0, 1) := by decide +kernel
theorem dX13_readPerson_38 : decode cX13_readPerson 38 = .ok (.iconst 1, 1) := by decide +kernel
theorem dX13_readPerson_39 : decode cX13_readPerson 39 = .ok (.invokevirtual 183, 3) := by decide +kernel
theorem dX13_readPerson_42 : decode cX13_readPerson 42 = .ok (.goto 16, 3) := by decide +kernel
theorem dX13_readPerson_45 : decode cX13_readPerson 45 = .ok (.aload_n 0, 1) := by decide +kernel
theorem dX13_readPerson_46 : decode cX13_readPerson 46 = .ok (.iconst 1, 1) := by decide +kernel
theorem dX13_readPerson_47 : decode cX13_readPerson 47 = .ok (.invokevirtual 236, 3) := by decide +kernel
theorem dX13_readPerson_50 : decode cX13_readPerson 50 = .ok (.ifCond .lt 8, 3) := by decide +kernel
theorem dX13_readPerson_53 : decode cX13_readPerson 53 = .ok (.aload_n 0, 1) := by decide +kernel
theorem dX13_readPerson_54 : decode cX13_readPerson 54 = .ok (.iconst 3, 1) := by decide +kernel
theorem dX13_readPerson_55 : decode cX13_readPerson 55 = .ok (.invokevirtual 183, 3) := by decide +kernel
theorem dX13_readPerson_58 : decode cX13_readPerson 58 = .ok (.aload_n 0, 1) := by decide +kernel
theorem dX13_readPerson_59 : decode cX13_readPerson 59 = .ok (.getfield 177, 3) := by decide +kernel
theorem dX13_readPerson_62 : decode cX13_readPerson 62 = .ok (.ifCond .le 4, 3) := by decide +kernel
theorem dX13_readPerson_65 : decode cX13_readPerson 65 = .ok (.return_, 1) := by decide +kernel
theorem dX13_readPerson_66 : decode cX13_readPerson 66 = .ok (.aload_n 0, 1) := by decide +kernel
theorem dX13_readPerson_67 : decode cX13_readPerson 67 = .ok (.getfield 107, 3) := by decide +kernel
theorem dX13_readPerson_70 : decode cX13_readPerson 70 = .ok (.aload_n 0, 1) := by decide +kernel
theorem dX13_readPerson_71 : decode cX13_readPerson 71 = .ok (.getfield 202, 3) := by decide +kernel
theorem dX13_readPerson_74 : decode cX13_readPerson 74 = .ok (.aload_n 0, 1) := by decide +kernel
theorem dX13_readPerson_75 : decode cX13_readPerson 75 = .ok (.getfield 30, 3) := by decide +kernel
theorem dX13_readPerson_78 : decode cX13_readPerson 78 = .ok (.aload_n 0, 1) := by decide +kernel
theorem dX13_readPerson_79 : decode cX13_readPerson 79 = .ok (.getfield 174, 3) := by decide +kernel
theorem dX13_readPerson_82 : decode cX13_readPerson 82 = .ok (.laload, 1) := by decide +kernel
theorem dX13_readPerson_83 : decode cX13_readPerson 83 = .ok (.lastore, 1) := by decide +kernel
theorem dX13_readPerson_84 : decode cX13_readPerson 84 = .ok (.aload_n 0, 1) := by decide +kernel
theorem dX13_readPerson_85 : decode cX13_readPerson 85 = .ok (.dup, 1) := by decide +kernel
theorem dX13_readPerson_86 : decode cX13_readPerson 86 = .ok (.getfield 202, 3) := by decide +kernel
theorem dX13_readPerson_89 : decode cX13_readPerson 89 = .ok (.iconst 1, 1) := by decide +kernel
theorem dX13_readPerson_90 : decode cX13_readPerson 90 = .ok (.iadd, 1) := by decide +kernel
theorem dX13_readPerson_91 : decode cX13_readPerson 91 = .ok (.putfield 202, 3) := by decide +kernel
theorem dX13_readPerson_94 : decode cX13_readPerson 94 = .ok (.aload_n 0, 1) := by decide +kernel
theorem dX13_readPerson_95 : decode cX13_readPerson 95 = .ok (.dup, 1) := by decide +kernel
theorem dX13_readPerson_96 : decode cX13_readPerson 96 = .ok (.getfield 174, 3) := by decide +kernel
theorem dX13_readPerson_99 : decode cX13_readPerson 99 = .ok (.iconst 1, 1) := by decide +kernel
theorem dX13_readPerson_100 : decode cX13_readPerson 100 = .ok (.iadd, 1) := by decide +kernel
theorem dX13_readPerson_101 : decode cX13_readPerson 101 = .ok (.putfield 174, 3) := by decide +kernel
theorem dX13_readPerson_104 : decode cX13_readPerson 104 = .ok (.bipush 78, 2) := by decide +kernel
theorem dX13_readPerson_106 : decode cX13_readPerson 106 = .ok (.iconst 3, 1) := by decide +kernel
theorem dX13_readPerson_107 : decode cX13_readPerson 107 = .ok (.iload_n 1, 1) := by decide +kernel
theorem dX13_readPerson_108 : decode cX13_readPerson 108 = .ok (.imul, 1) := by decide +kernel
theorem dX13_readPerson_109 : decode cX13_readPerson 109 = .ok (.iadd, 1) := by decide +kernel
theorem dX13_readPerson_110 : decode cX13_readPerson 110 = .ok (.istore_n 2, 1) := by decide +kernel
theorem dX13_readPerson_111 : decode cX13_readPerson 111 = .ok (.aload_n 0, 1) := by decide +kernel
theorem dX13_readPerson_112 : decode cX13_readPerson 112 = .ok (.getfield 95, 3) := by decide +kernel
theorem dX13_readPerson_115 : decode cX13_readPerson 115 = .ok (.iload_n 2, 1) := by decide +kernel
theorem dX13_readPerson_116 : decode cX13_readPerson 116 = .ok (.aload_n 0, 1) := by decide +kernel
theorem dX13_readPerson_117 : decode cX13_readPerson 117 = .ok (.bipush 18, 2) := by decide +kernel
theorem dX13_readPerson_119 : decode cX13_readPerson 119 = .ok (.iconst 4, 1) := by decide +kernel
theorem dX13_readPerson_120 : decode cX13_readPerson 120 = .ok (.invokevirtual 240, 3) := by decide +kernel
theorem dX13_readPerson_123 : decode cX13_readPerson 123 = .ok (.iastore, 1) := by decide +kernel
theorem dX13_readPerson_124 : decode cX13_readPerson 124 = .ok (.aload_n 0, 1) := by decide +kernel
theorem dX13_readPerson_125 : decode cX13_readPerson 125 = .ok (.getfield 95, 3) := by decide +kernel
theorem dX13_readPerson_128 : decode cX13_readPerson 128 = .ok (.iload_n 2, 1) := by decide +kernel
theorem dX13_readPerson_129 : decode cX13_readPerson 129 = .ok (.iconst 1, 1) := by decide +kernel
theorem dX13_readPerson_130 : decode cX13_readPerson 130 = .ok (.iadd, 1) := by decide +kernel
theorem dX13_readPerson_131 : decode cX13_readPerson 131 = .ok (.aload_n 0, 1) := by decide +kernel
theorem dX13_readPerson_132 : decode cX13_readPerson 132 = .ok (.iconst 2, 1) := by decide +kernel
theorem dX13_readPerson_133 : decode cX13_readPerson 133 = .ok (.iconst 0, 1) := by decide +kernel
theorem dX13_readPerson_134 : decode cX13_readPerson 134 = .ok (.bipush 9, 2) := by decide +kernel
theorem dX13_readPerson_136 : decode cX13_readPerson 136 = .ok (.invokevirtual 243, 3) := by decide +kernel
theorem dX13_readPerson_139 : decode cX13_readPerson 139 = .ok (.iastore, 1) := by decide +kernel
theorem dX13_readPerson_140 : decode cX13_readPerson 140 = .ok (.aload_n 0, 1) := by decide +kernel
theorem dX13_readPerson_141 : decode cX13_readPerson 141 = .ok (.getfield 95, 3) := by decide +kernel
theorem dX13_readPerson_144 : decode cX13_readPerson 144 = .ok (.iload_n 2, 1) := by decide +kernel
theorem dX13_readPerson_145 : decode cX13_readPerson 145 = .ok (.iconst 2, 1) := by decide +kernel
theorem dX13_readPerson_146 : decode cX13_readPerson 146 = .ok (.iadd, 1) := by decide +kernel
theorem dX13_readPerson_147 : decode cX13_readPerson 147 = .ok (.aload_n 0, 1) := by decide +kernel
theorem dX13_readPerson_148 : decode cX13_readPerson 148 = .ok (.iconst 3, 1) := by decide +kernel
theorem dX13_readPerson_149 : decode cX13_readPerson 149 = .ok (.iconst 0, 1) := by decide +kernel
theorem dX13_readPerson_150 : decode cX13_readPerson 150 = .ok (.bipush 9, 2) := by decide +kernel
theorem dX13_readPerson_152 : decode cX13_readPerson 152 = .ok (.invokevirtual 243, 3) := by decide +kernel
theorem dX13_readPerson_155 : decode cX13_readPerson 155 = .ok (.iastore, 1) := by decide +kernel
theorem dX13_readPerson_156 : decode cX13_readPerson 156 = .ok (.aload_n 0, 1) := by decide +kernel
theorem dX13_readPerson_157 : decode cX13_readPerson 157 = .ok (.getfield 95, 3) := by decide +kernel
theorem dX13_readPerson_160 : decode cX13_readPerson 160 = .ok (.bipush 71, 2) := by decide +kernel
theorem dX13_readPerson_162 : decode cX13_readPerson 162 = .ok (.dup2, 1) := by decide +kernel
theorem dX13_readPerson_163 : decode cX13_readPerson 163 = .ok (.iaload, 1) := by decide +kernel
theorem dX13_readPerson_164 : decode cX13_readPerson 164 = .ok (.iconst 1, 1) := by decide +kernel
theorem dX13_readPerson_165 : decode cX13_readPerson 165 = .ok (.iadd, 1) := by decide +kernel
theorem dX13_readPerson_166 : decode cX13_readPerson 166 = .ok (.iastore, 1) := by decide +kernel
theorem dX13_readPerson_167 : decode cX13_readPerson 167 = .ok (.return_, 1) := by decide +kernel
set_option maxHeartbeats 4000000 in
set_option maxRecDepth 100000 in
theorem B_X13_readPerson {G : zG} {X : zX} {kd : kD} {N0 : Nat} (C : zCt G X 4 0 0 RX13 cX13_readPerson 3) (hr : (zXh X).sig.returnType = none) : ∀ f : Nat,
    (∀ (S : aS) (v0 : Nat) (res : Option Value × aS), zT0 kd N0 S → v0 < N0 → kd v0 = .inl 11 → F_X13_readPerson f 0 [.ref v0] S = some res → zV G X (zQX G X (zPo G kd N0 res) 0 0) 3 [some (.ref (zB G + v0)), none, none] [] (cn G kd N0 S) 0 0 0) ∧
    (∀ (S : aS) (v0 : Nat) (v1 : Int32) (res : Option Value × aS), zT0 kd N0 S → v0 < N0 → kd v0 = .inl 11 → F_X13_readPerson f 1 [.ref v0, .int v1] S = some res → zV G X (zQX G X (zPo G kd N0 res) 0 0) 3 [some (.ref (zB G + v0)), some (.int v1), none] [] (cn G kd N0 S) 58 0 0) := by
  intro f
  induction f with
  | zero => exact ⟨(fun _ _ _ _ _ _ h => by cases h), (fun _ _ _ _ _ _ _ h => by cases h)⟩
  | succ f ih =>
    obtain ⟨ih0, ih1⟩ := ih
    refine ⟨?_, ?_⟩
    · intro S v0 res hT hpv0 hkv0 hF
      replace hF : F_X13_readPerson_0 f (F_X13_readPerson f) v0 S = some res := hF
      unfold F_X13_readPerson_0 at hF
      refine z_aload_n C dX13_readPerson_0 rfl ?_
      refine f_getr C dX13_readPerson_1 zfRX13_95 hpv0 hkv0 rfl ?_
      obtain ⟨hp1, hk1⟩ := hT.1 v0 11 10 (.inr (0, 140)) hpv0 hkv0 rfl
      refine z_bipush (v := 71) C dX13_readPerson_4 (by decide) ?_
      obtain ⟨hi2, hF⟩ := bX_some hF
      obtain ⟨q2, eq2⟩ : ∃ q : Nat, q = Int32.toNatClampNeg 71 := ⟨_, rfl⟩
      rw [← eq2] at hF
      refine f_iald C dX13_readPerson_6 hp1 hk1 hi2 ?_
      rw [← eq2]
      refine z_istore_n (lv2 := [some (.ref (zB G + v0)), some (.int (gI S (gR S v0 10) q2)), none]) C dX13_readPerson_7 (by decide) rfl ?_
      refine z_iload_n C dX13_readPerson_8 rfl ?_
      refine z_bipush (v := 6) C dX13_readPerson_9 (by decide) ?_
      refine z_icmp_ne C 20 dX13_readPerson_11 (by decide) (fun c3 => ?_) (fun c3 => ?_)
      · replace hF := im hF c3
        refine z_aload_n C dX13_readPerson_20 rfl ?_
        refine z_dup C dX13_readPerson_21 rfl ?_
        refine f_geti C dX13_readPerson_22 zfRX13_174 hpv0 hkv0 rfl ?_
        refine z_iconst (v := 1) C dX13_readPerson_25 (by decide) ?_
        refine z_iadd C dX13_readPerson_26 ?_
        refine f_puti C dX13_readPerson_27 zfRX13_174 fw11_7 hpv0 hkv0 rfl rfl rfl ?_
        have hT4 : zT0 kd N0 (sI S v0 7 ((gI S v0 7) + (1 : Int32))) := zT0_sI hT
        replace hF := fS_e hF
        generalize sI S v0 7 ((gI S v0 7) + (1 : Int32)) = S4 at hF hT4 ⊢
        refine z_aload_n C dX13_readPerson_30 rfl ?_
        obtain ⟨x5, S5, h5, hF⟩ := bI_some hF
        refine f_cV (st2 := [.int x5]) C dX13_readPerson_31 zyX13_isName zvX13_isName lkRX13_232 (K_X13_isName (l := zXl X) hT4 hpv0 hkv0 h5) hpv0 hkv0 rfl (by decide) rfl rfl (Nat.le_of_ble_eq_true rfl) rfl (fun hT5 => ?_)
        refine z_if_ne C 45 dX13_readPerson_34 (by decide) (fun c7 => ?_) (fun c7 => ?_)
        · replace hF := im hF c7
          refine z_aload_n C dX13_readPerson_45 rfl ?_
          refine z_iconst (v := 1) C dX13_readPerson_46 (by decide) ?_
          obtain ⟨x8, S8, h8, hF⟩ := bI_some hF
          refine f_cV (st2 := [.int x8]) C dX13_readPerson_47 zyX13_nameAt zvX13_nameAt lkRX13_236 (K_X13_nameAt (l := zXl X) hT5 hpv0 hkv0  h8) hpv0 hkv0 rfl (by decide) rfl rfl (Nat.le_of_ble_eq_true rfl) rfl (fun hT8 => ?_)
          refine z_if_lt C 58 dX13_readPerson_50 (by decide) (fun c10 => ?_) (fun c10 => ?_)
          · replace hF := ip hF c10
            exact ih1 S8 v0 (gI S (gR S v0 10) q2) res hT8 hpv0 hkv0  hF
          · replace hF := im hF c10
            refine z_aload_n C dX13_readPerson_53 rfl ?_
            refine z_iconst (v := 3) C dX13_readPerson_54 (by decide) ?_
            obtain ⟨S11, h11, hF⟩ := bV_some hF
            refine f_cV (st2 := []) C dX13_readPerson_55 zyX13_wrong zvX13_wrong lkRX13_183 (K_X13_wrong (l := zXl X) hT8 hpv0 hkv0  h11) hpv0 hkv0 rfl (by decide) rfl rfl (Nat.le_of_ble_eq_true rfl) rfl (fun hT11 => ?_)
            exact ih1 S11 v0 (gI S (gR S v0 10) q2) res hT11 hpv0 hkv0  hF
        · replace hF := ip hF c7
          refine z_aload_n C dX13_readPerson_37 rfl ?_
          refine z_iconst (v := 1) C dX13_readPerson_38 (by decide) ?_
          obtain ⟨S12, h12, hF⟩ := bV_some hF
          refine f_cV (st2 := []) C dX13_readPerson_39 zyX13_wrong zvX13_wrong lkRX13_183 (K_X13_wrong (l := zXl X) hT5 hpv0 hkv0  h12) hpv0 hkv0 rfl (by decide) rfl rfl (Nat.le_of_ble_eq_true rfl) rfl (fun hT12 => ?_)
          refine z_goto C 58 dX13_readPerson_42 (by decide) ?_
          exact ih1 S12 v0 (gI S (gR S v0 10) q2) res hT12 hpv0 hkv0  hF
      · replace hF := ip hF c3
        refine z_aload_n C dX13_readPerson_14 rfl ?_
        refine z_iconst (v := 5) C dX13_readPerson_15 (by decide) ?_
        obtain ⟨S13, h13, hF⟩ := bV_some hF
        refine f_cV (st2 := []) C dX13_readPerson_16 zyX13_wrong zvX13_wrong lkRX13_183 (K_X13_wrong (l := zXl X) hT hpv0 hkv0  h13) hpv0 hkv0 rfl (by decide) rfl rfl (Nat.le_of_ble_eq_true rfl) rfl (fun hT13 => ?_)
        cases hF
        exact z_vret C hr dX13_readPerson_19 ⟨rfl, rfl, hT13⟩
    · intro S v0 v1 res hT hpv0 hkv0 hF
      replace hF : F_X13_readPerson_1 f (F_X13_readPerson f) v0 v1 S = some res := hF
      unfold F_X13_readPerson_1 at hF
      refine z_aload_n C dX13_readPerson_58 rfl ?_
      refine f_geti C dX13_readPerson_59 zfRX13_177 hpv0 hkv0 rfl ?_
      refine z_if_le C 66 dX13_readPerson_62 (by decide) (fun c14 => ?_) (fun c14 => ?_)
      · replace hF := ip hF c14
        refine z_aload_n C dX13_readPerson_66 rfl ?_
        refine f_getr C dX13_readPerson_67 zfRX13_107 hpv0 hkv0 rfl ?_
        obtain ⟨hp15, hk15⟩ := hT.1 v0 11 15 (.inr (1, 6)) hpv0 hkv0 rfl
        refine z_aload_n C dX13_readPerson_70 rfl ?_
        refine f_geti C dX13_readPerson_71 zfRX13_202 hpv0 hkv0 rfl ?_
        refine z_aload_n C dX13_readPerson_74 rfl ?_
        refine f_getr C dX13_readPerson_75 zfRX13_30 hpv0 hkv0 rfl ?_
        obtain ⟨hp16, hk16⟩ := hT.1 v0 11 6 (.inr (1, 1002)) hpv0 hkv0 rfl
        refine z_aload_n C dX13_readPerson_78 rfl ?_
        refine f_geti C dX13_readPerson_79 zfRX13_174 hpv0 hkv0 rfl ?_
        obtain ⟨hi17, hF⟩ := bX_some hF
        obtain ⟨q17, eq17⟩ : ∃ q : Nat, q = Int32.toNatClampNeg (gI S v0 7) := ⟨_, rfl⟩
        rw [← eq17] at hF
        refine f_lald C dX13_readPerson_82 hp16 hk16 hi17 ?_
        rw [← eq17]
        obtain ⟨hi18, hF⟩ := bX_some hF
        obtain ⟨q18, eq18⟩ : ∃ q : Nat, q = Int32.toNatClampNeg (gI S v0 17) := ⟨_, rfl⟩
        rw [← eq18] at hF
        refine f_last C dX13_readPerson_83 hp15 hk15 hi18 ?_
        rw [← eq18]
        have hT19 : zT0 kd N0 (sJ S (gR S v0 15) q18 (gJ S (gR S v0 6) q17)) := zT0_sJ hT
        replace hF := fS_e hF
        generalize sJ S (gR S v0 15) q18 (gJ S (gR S v0 6) q17) = S19 at hF hT19 ⊢
        refine z_aload_n C dX13_readPerson_84 rfl ?_
        refine z_dup C dX13_readPerson_85 rfl ?_
        refine f_geti C dX13_readPerson_86 zfRX13_202 hpv0 hkv0 rfl ?_
        refine z_iconst (v := 1) C dX13_readPerson_89 (by decide) ?_
        refine z_iadd C dX13_readPerson_90 ?_
        refine f_puti C dX13_readPerson_91 zfRX13_202 fw11_17 hpv0 hkv0 rfl rfl rfl ?_
        have hT20 : zT0 kd N0 (sI S19 v0 17 ((gI S19 v0 17) + (1 : Int32))) := zT0_sI hT19
        replace hF := fS_e hF
        generalize sI S19 v0 17 ((gI S19 v0 17) + (1 : Int32)) = S20 at hF hT20 ⊢
        refine z_aload_n C dX13_readPerson_94 rfl ?_
        refine z_dup C dX13_readPerson_95 rfl ?_
        refine f_geti C dX13_readPerson_96 zfRX13_174 hpv0 hkv0 rfl ?_
        refine z_iconst (v := 1) C dX13_readPerson_99 (by decide) ?_
        refine z_iadd C dX13_readPerson_100 ?_
        refine f_puti C dX13_readPerson_101 zfRX13_174 fw11_7 hpv0 hkv0 rfl rfl rfl ?_
        have hT21 : zT0 kd N0 (sI S20 v0 7 ((gI S20 v0 7) + (1 : Int32))) := zT0_sI hT20
        replace hF := fS_e hF
        generalize sI S20 v0 7 ((gI S20 v0 7) + (1 : Int32)) = S21 at hF hT21 ⊢
        refine z_bipush (v := 78) C dX13_readPerson_104 (by decide) ?_
        refine z_iconst (v := 3) C dX13_readPerson_106 (by decide) ?_
        refine z_iload_n C dX13_readPerson_107 rfl ?_
        refine z_imul C dX13_readPerson_108 ?_
        refine z_iadd C dX13_readPerson_109 ?_
        refine z_istore_n (lv2 := [some (.ref (zB G + v0)), some (.int v1), some (.int ((78 : Int32) + ((3 : Int32) * v1)))]) C dX13_readPerson_110 (by decide) rfl ?_
        refine z_aload_n C dX13_readPerson_111 rfl ?_
        refine f_getr C dX13_readPerson_112 zfRX13_95 hpv0 hkv0 rfl ?_
        obtain ⟨hp22, hk22⟩ := hT21.1 v0 11 10 (.inr (0, 140)) hpv0 hkv0 rfl
        refine z_iload_n C dX13_readPerson_115 rfl ?_
        refine z_aload_n C dX13_readPerson_116 rfl ?_
        refine z_bipush (v := 18) C dX13_readPerson_117 (by decide) ?_
        refine z_iconst (v := 4) C dX13_readPerson_119 (by decide) ?_
        obtain ⟨x23, S23, h23, hF⟩ := bI_some hF
        refine f_cV (st2 := [.int x23, .int ((78 : Int32) + ((3 : Int32) * v1)), .ref (zB G + (gR S21 v0 10))]) C dX13_readPerson_120 zyX13_takeOne zvX13_takeOne lkRX13_240 (K_X13_takeOne (l := zXl X) hT21 hpv0 hkv0   h23) hpv0 hkv0 rfl (by decide) rfl rfl (Nat.le_of_ble_eq_true rfl) rfl (fun hT23 => ?_)
        obtain ⟨hi24, hF⟩ := bX_some hF
        obtain ⟨q24, eq24⟩ : ∃ q : Nat, q = Int32.toNatClampNeg ((78 : Int32) + ((3 : Int32) * v1)) := ⟨_, rfl⟩
        rw [← eq24] at hF
        refine f_iast C dX13_readPerson_123 hp22 hk22 hi24 ?_
        rw [← eq24]
        have hT25 : zT0 kd N0 (sI S23 (gR S21 v0 10) q24 x23) := zT0_sI hT23
        replace hF := fS_e hF
        generalize sI S23 (gR S21 v0 10) q24 x23 = S25 at hF hT25 ⊢
        refine z_aload_n C dX13_readPerson_124 rfl ?_
        refine f_getr C dX13_readPerson_125 zfRX13_95 hpv0 hkv0 rfl ?_
        obtain ⟨hp26, hk26⟩ := hT25.1 v0 11 10 (.inr (0, 140)) hpv0 hkv0 rfl
        refine z_iload_n C dX13_readPerson_128 rfl ?_
        refine z_iconst (v := 1) C dX13_readPerson_129 (by decide) ?_
        refine z_iadd C dX13_readPerson_130 ?_
        refine z_aload_n C dX13_readPerson_131 rfl ?_
        refine z_iconst (v := 2) C dX13_readPerson_132 (by decide) ?_
        refine z_iconst (v := 0) C dX13_readPerson_133 (by decide) ?_
        refine z_bipush (v := 9) C dX13_readPerson_134 (by decide) ?_
        obtain ⟨x27, S27, h27, hF⟩ := bI_some hF
        refine f_cV (st2 := [.int x27, .int (((78 : Int32) + ((3 : Int32) * v1)) + (1 : Int32)), .ref (zB G + (gR S25 v0 10))]) C dX13_readPerson_136 zyX13_takeAfter zvX13_takeAfter lkRX13_243 (K_X13_takeAfter (l := zXl X) hT25 hpv0 hkv0    h27) hpv0 hkv0 rfl (by decide) rfl rfl (Nat.le_of_ble_eq_true rfl) rfl (fun hT27 => ?_)
        obtain ⟨hi28, hF⟩ := bX_some hF
        obtain ⟨q28, eq28⟩ : ∃ q : Nat, q = Int32.toNatClampNeg (((78 : Int32) + ((3 : Int32) * v1)) + (1 : Int32)) := ⟨_, rfl⟩
        rw [← eq28] at hF
        refine f_iast C dX13_readPerson_139 hp26 hk26 hi28 ?_
        rw [← eq28]
        have hT29 : zT0 kd N0 (sI S27 (gR S25 v0 10) q28 x27) := zT0_sI hT27
        replace hF := fS_e hF
        generalize sI S27 (gR S25 v0 10) q28 x27 = S29 at hF hT29 ⊢
        refine z_aload_n C dX13_readPerson_140 rfl ?_
        refine f_getr C dX13_readPerson_141 zfRX13_95 hpv0 hkv0 rfl ?_
        obtain ⟨hp30, hk30⟩ := hT29.1 v0 11 10 (.inr (0, 140)) hpv0 hkv0 rfl
        refine z_iload_n C dX13_readPerson_144 rfl ?_
        refine z_iconst (v := 2) C dX13_readPerson_145 (by decide) ?_
        refine z_iadd C dX13_readPerson_146 ?_
        refine z_aload_n C dX13_readPerson_147 rfl ?_
        refine z_iconst (v := 3) C dX13_readPerson_148 (by decide) ?_
        refine z_iconst (v := 0) C dX13_readPerson_149 (by decide) ?_
        refine z_bipush (v := 9) C dX13_readPerson_150 (by decide) ?_
        obtain ⟨x31, S31, h31, hF⟩ := bI_some hF
        refine f_cV (st2 := [.int x31, .int (((78 : Int32) + ((3 : Int32) * v1)) + (2 : Int32)), .ref (zB G + (gR S29 v0 10))]) C dX13_readPerson_152 zyX13_takeAfter zvX13_takeAfter lkRX13_243 (K_X13_takeAfter (l := zXl X) hT29 hpv0 hkv0    h31) hpv0 hkv0 rfl (by decide) rfl rfl (Nat.le_of_ble_eq_true rfl) rfl (fun hT31 => ?_)
        obtain ⟨hi32, hF⟩ := bX_some hF
        obtain ⟨q32, eq32⟩ : ∃ q : Nat, q = Int32.toNatClampNeg (((78 : Int32) + ((3 : Int32) * v1)) + (2 : Int32)) := ⟨_, rfl⟩
        rw [← eq32] at hF
        refine f_iast C dX13_readPerson_155 hp30 hk30 hi32 ?_
        rw [← eq32]
        have hT33 : zT0 kd N0 (sI S31 (gR S29 v0 10) q32 x31) := zT0_sI hT31
        replace hF := fS_e hF
        generalize sI S31 (gR S29 v0 10) q32 x31 = S33 at hF hT33 ⊢
        refine z_aload_n C dX13_readPerson_156 rfl ?_
        refine f_getr C dX13_readPerson_157 zfRX13_95 hpv0 hkv0 rfl ?_
        obtain ⟨hp34, hk34⟩ := hT33.1 v0 11 10 (.inr (0, 140)) hpv0 hkv0 rfl
        refine z_bipush (v := 71) C dX13_readPerson_160 (by decide) ?_
        refine z_dup2 C dX13_readPerson_162 rfl rfl ?_
        obtain ⟨hi35, hF⟩ := bX_some hF
        obtain ⟨q35, eq35⟩ : ∃ q : Nat, q = Int32.toNatClampNeg 71 := ⟨_, rfl⟩
        rw [← eq35] at hF
        refine f_iald C dX13_readPerson_163 hp34 hk34 hi35 ?_
        rw [← eq35]
        refine z_iconst (v := 1) C dX13_readPerson_164 (by decide) ?_
        refine z_iadd C dX13_readPerson_165 ?_
        obtain ⟨hi36, hF⟩ := bX_some hF
        obtain ⟨q36, eq36⟩ : ∃ q : Nat, q = Int32.toNatClampNeg 71 := ⟨_, rfl⟩
        rw [← eq36] at hF
        refine f_iast C dX13_readPerson_166 hp34 hk34 hi36 ?_
        rw [← eq36]
        have hT37 : zT0 kd N0 (sI S33 (gR S33 v0 10) q36 ((gI S33 (gR S33 v0 10) q35) + (1 : Int32))) := zT0_sI hT33
        replace hF := fS_e hF
        generalize sI S33 (gR S33 v0 10) q36 ((gI S33 (gR S33 v0 10) q35) + (1 : Int32)) = S37 at hF hT37 ⊢
        cases hF
        exact z_vret C hr dX13_readPerson_167 ⟨rfl, rfl, hT37⟩
      · replace hF := im hF c14
        cases hF
        exact z_vret C hr dX13_readPerson_65 ⟨rfl, rfl, hT⟩
theorem K_X13_readPerson {G : zG} {l : Launch} {kd : kD} {N0 f : Nat} {S : aS} {v0 : Nat} {res : Option Value × aS} (hT : zT0 kd N0 S) (hpv0 : v0 < N0) (hkv0 : kd v0 = .inl 11) (hF : F_X13_readPerson f 0 [.ref v0] S = some res) : zM G l 4 0 0 yX13_readPerson cX13_readPerson 3 none [.ref (zB G + v0)] (cn G kd N0 S) (zPo G kd N0 res) := zM.of (by decide) rfl (Nat.le_of_ble_eq_true rfl) (fun X _ C hr _ => (B_X13_readPerson C hr f).1 S v0 res hT hpv0 hkv0 hF)
def F_X13_readWinds_0 (f : Nat) (rc : Nat → List Value → aS → aR) (v0 : Nat) (S : aS) : aR :=
  rc 1 [.ref v0, .int 0] S
def F_X13_readWinds_1 (f : Nat) (rc : Nat → List Value → aS → aR) (v0 : Nat) (v1 : Int32) (S : aS) : aR :=
  if (gI S v0 8) = (0 : Int32) then if v1 = (0 : Int32) then rc 3 [.ref v0, .int v1] S else bX (gI S v0 7) 1002 fun q7 => if (gI S (gR S v0 4) q7) = (2 : Int32) then rc 3 [.ref v0, .int v1] S else rc 2 [.ref v0, .int v1] S else rc 2 [.ref v0, .int v1] S
def F_X13_readWinds_2 (f : Nat) (rc : Nat → List Value → aS → aR) (v0 : Nat) (v1 : Int32) (S : aS) : aR :=
  bX 72 140 fun q11 => fS (sI S (gR S v0 10) q11 v1) fun S12 => some (none, S12)
def F_X13_readWinds_3 (f : Nat) (rc : Nat → List Value → aS → aR) (v0 : Nat) (v1 : Int32) (S : aS) : aR :=
  bI (F_X13_takeNumber f 0 [.ref v0, .int 0, .int 2] S) fun x13 S13 => if (gI S13 v0 8) = (0 : Int32) then if v1 = (12 : Int32) then fS (sI S13 v0 7 ((gI S13 v0 7) - (1 : Int32))) fun S22 => bV (F_X13_wrong f 0 [.ref v0, .int 5] S22) fun S23 => rc 5 [.ref v0, .int v1] S23 else rc 4 [.ref v0, .int v1, .int x13] S13 else rc 4 [.ref v0, .int v1, .int x13] S13
def F_X13_readWinds_4 (f : Nat) (rc : Nat → List Value → aS → aR) (v0 : Nat) (v1 : Int32) (v2 : Int32) (S : aS) : aR :=
  if (gI S v0 8) = (0 : Int32) then bX ((112 : Int32) + v1) 140 fun q28 => fS (sI S (gR S v0 10) q28 v2) fun S29 => rc 5 [.ref v0, .int (v1 + 1)] S29 else rc 5 [.ref v0, .int v1] S
def F_X13_readWinds_5 (f : Nat) (rc : Nat → List Value → aS → aR) (v0 : Nat) (v1 : Int32) (S : aS) : aR :=
  rc 1 [.ref v0, .int v1] S
def F_X13_readWinds : Nat → Nat → List Value → aS → aR
  | 0, _, _, _ => none
  | f + 1, 0, vs, S => F_X13_readWinds_0 f (F_X13_readWinds f) (vR vs 0) S
  | f + 1, 1, vs, S => F_X13_readWinds_1 f (F_X13_readWinds f) (vR vs 0) (vI vs 1) S
  | f + 1, 2, vs, S => F_X13_readWinds_2 f (F_X13_readWinds f) (vR vs 0) (vI vs 1) S
  | f + 1, 3, vs, S => F_X13_readWinds_3 f (F_X13_readWinds f) (vR vs 0) (vI vs 1) S
  | f + 1, 4, vs, S => F_X13_readWinds_4 f (F_X13_readWinds f) (vR vs 0) (vI vs 1) (vI vs 2) S
  | f + 1, 5, vs, S => F_X13_readWinds_5 f (F_X13_readWinds f) (vR vs 0) (vI vs 1) S
  | _ + 1, _, _, _ => none
theorem dX13_readWinds_0 : decode cX13_readWinds 0 = .ok (.iconst 0, 1) := by decide +kernel
theorem dX13_readWinds_1 : decode cX13_readWinds 1 = .ok (.istore_n 1, 1) := by decide +kernel
theorem dX13_readWinds_2 : decode cX13_readWinds 2 = .ok (.aload_n 0, 1) := by decide +kernel
theorem dX13_readWinds_3 : decode cX13_readWinds 3 = .ok (.getfield 177, 3) := by decide +kernel
theorem dX13_readWinds_6 : decode cX13_readWinds 6 = .ok (.ifCond .ne 81, 3) := by decide +kernel
theorem dX13_readWinds_9 : decode cX13_readWinds 9 = .ok (.iload_n 1, 1) := by decide +kernel
theorem dX13_readWinds_10 : decode cX13_readWinds 10 = .ok (.ifCond .eq 16, 3) := by decide +kernel
theorem dX13_readWinds_13 : decode cX13_readWinds 13 = .ok (.aload_n 0, 1) := by decide +kernel
theorem dX13_readWinds_14 : decode cX13_readWinds 14 = .ok (.getfield 24, 3) := by decide +kernel
theorem dX13_readWinds_17 : decode cX13_readWinds 17 = .ok (.aload_n 0, 1) := by decide +kernel
theorem dX13_readWinds_18 : decode cX13_readWinds 18 = .ok (.getfield 174, 3) := by decide +kernel
theorem dX13_readWinds_21 : decode cX13_readWinds 21 = .ok (.iaload, 1) := by decide +kernel
theorem dX13_readWinds_22 : decode cX13_readWinds 22 = .ok (.iconst 2, 1) := by decide +kernel
theorem dX13_readWinds_23 : decode cX13_readWinds 23 = .ok (.if_icmp .ne 64, 3) := by decide +kernel
theorem dX13_readWinds_26 : decode cX13_readWinds 26 = .ok (.aload_n 0, 1) := by decide +kernel
theorem dX13_readWinds_27 : decode cX13_readWinds 27 = .ok (.iconst 0, 1) := by decide +kernel
theorem dX13_readWinds_28 : decode cX13_readWinds 28 = .ok (.iconst 2, 1) := by decide +kernel
theorem dX13_readWinds_29 : decode cX13_readWinds 29 = .ok (.invokevirtual 195, 3) := by decide +kernel
theorem dX13_readWinds_32 : decode cX13_readWinds 32 = .ok (.istore_n 2, 1) := by decide +kernel
theorem dX13_readWinds_33 : decode cX13_readWinds 33 = .ok (.aload_n 0, 1) := by decide +kernel
theorem dX13_readWinds_34 : decode cX13_readWinds 34 = .ok (.getfield 177, 3) := by decide +kernel
theorem dX13_readWinds_37 : decode cX13_readWinds 37 = .ok (.ifCond .ne 27, 3) := by decide +kernel
theorem dX13_readWinds_40 : decode cX13_readWinds 40 = .ok (.iload_n 1, 1) := by decide +kernel
theorem dX13_readWinds_41 : decode cX13_readWinds 41 = .ok (.bipush 12, 2) := by decide +kernel
theorem dX13_readWinds_43 : decode cX13_readWinds 43 = .ok (.if_icmp .ne 21, 3) := by decide +kernel
theorem dX13_readWinds_46 : decode cX13_readWinds 46 = .ok (.aload_n 0, 1) := by decide +kernel
theorem dX13_readWinds_47 : decode cX13_readWinds 47 = .ok (.dup, 1) := by decide +kernel
theorem dX13_readWinds_48 : decode cX13_readWinds 48 = .ok (.getfield 174, 3) := by decide +kernel
theorem dX13_readWinds_51 : decode cX13_readWinds 51 = .ok (.iconst 1, 1) := by decide +kernel
theorem dX13_readWinds_52 : decode cX13_readWinds 52 = .ok (.isub, 1) := by decide +kernel
theorem dX13_readWinds_53 : decode cX13_readWinds 53 = .ok (.putfield 174, 3) := by decide +kernel
theorem dX13_readWinds_56 : decode cX13_readWinds 56 = .ok (.aload_n 0, 1) := by decide +kernel
theorem dX13_readWinds_57 : decode cX13_readWinds 57 = .ok (.iconst 5, 1) := by decide +kernel
theorem dX13_readWinds_58 : decode cX13_readWinds 58 = .ok (.invokevirtual 183, 3) := by decide +kernel
theorem dX13_readWinds_61 : decode cX13_readWinds 61 = .ok (.goto 23, 3) := by decide +kernel
theorem dX13_readWinds_64 : decode cX13_readWinds 64 = .ok (.aload_n 0, 1) := by decide +kernel
theorem dX13_readWinds_65 : decode cX13_readWinds 65 = .ok (.getfield 177, 3) := by decide +kernel
theorem dX13_readWinds_68 : decode cX13_readWinds 68 = .ok (.ifCond .ne 16, 3) := by decide +kernel
theorem dX13_readWinds_71 : decode cX13_readWinds 71 = .ok (.aload_n 0, 1) := by decide +kernel
theorem dX13_readWinds_72 : decode cX13_readWinds 72 = .ok (.getfield 95, 3) := by decide +kernel
theorem dX13_readWinds_75 : decode cX13_readWinds 75 = .ok (.bipush 112, 2) := by decide +kernel
theorem dX13_readWinds_77 : decode cX13_readWinds 77 = .ok (.iload_n 1, 1) := by decide +kernel
theorem dX13_readWinds_78 : decode cX13_readWinds 78 = .ok (.iadd, 1) := by decide +kernel
theorem dX13_readWinds_79 : decode cX13_readWinds 79 = .ok (.iload_n 2, 1) := by decide +kernel
theorem dX13_readWinds_80 : decode cX13_readWinds 80 = .ok (.iastore, 1) := by decide +kernel
theorem dX13_readWinds_81 : decode cX13_readWinds 81 = .ok (.iinc 1 1, 3) := by decide +kernel
theorem dX13_readWinds_84 : decode cX13_readWinds 84 = .ok (.goto (-82), 3) := by decide +kernel
theorem dX13_readWinds_87 : decode cX13_readWinds 87 = .ok (.aload_n 0, 1) := by decide +kernel
theorem dX13_readWinds_88 : decode cX13_readWinds 88 = .ok (.getfield 95, 3) := by decide +kernel
theorem dX13_readWinds_91 : decode cX13_readWinds 91 = .ok (.bipush 72, 2) := by decide +kernel
theorem dX13_readWinds_93 : decode cX13_readWinds 93 = .ok (.iload_n 1, 1) := by decide +kernel
theorem dX13_readWinds_94 : decode cX13_readWinds 94 = .ok (.iastore, 1) := by decide +kernel
theorem dX13_readWinds_95 : decode cX13_readWinds 95 = .ok (.return_, 1) := by decide +kernel
set_option maxHeartbeats 4000000 in
set_option maxRecDepth 100000 in
theorem B_X13_readWinds {G : zG} {X : zX} {kd : kD} {N0 : Nat} (C : zCt G X 2 0 0 RX13 cX13_readWinds 3) (hr : (zXh X).sig.returnType = none) : ∀ f : Nat,
    (∀ (S : aS) (v0 : Nat) (res : Option Value × aS), zT0 kd N0 S → v0 < N0 → kd v0 = .inl 11 → F_X13_readWinds f 0 [.ref v0] S = some res → zV G X (zQX G X (zPo G kd N0 res) 0 0) 3 [some (.ref (zB G + v0)), none, none] [] (cn G kd N0 S) 0 0 0) ∧
    (∀ (S : aS) (v0 : Nat) (v1 : Int32) (res : Option Value × aS), zT0 kd N0 S → v0 < N0 → kd v0 = .inl 11 → F_X13_readWinds f 1 [.ref v0, .int v1] S = some res → zV G X (zQX G X (zPo G kd N0 res) 0 0) 3 [some (.ref (zB G + v0)), some (.int v1), none] [] (cn G kd N0 S) 2 0 0) ∧
    (∀ (S : aS) (v0 : Nat) (v1 : Int32) (res : Option Value × aS), zT0 kd N0 S → v0 < N0 → kd v0 = .inl 11 → F_X13_readWinds f 2 [.ref v0, .int v1] S = some res → zV G X (zQX G X (zPo G kd N0 res) 0 0) 3 [some (.ref (zB G + v0)), some (.int v1), none] [] (cn G kd N0 S) 87 0 0) ∧
    (∀ (S : aS) (v0 : Nat) (v1 : Int32) (res : Option Value × aS), zT0 kd N0 S → v0 < N0 → kd v0 = .inl 11 → F_X13_readWinds f 3 [.ref v0, .int v1] S = some res → zV G X (zQX G X (zPo G kd N0 res) 0 0) 3 [some (.ref (zB G + v0)), some (.int v1), none] [] (cn G kd N0 S) 26 0 0) ∧
    (∀ (S : aS) (v0 : Nat) (v1 : Int32) (v2 : Int32) (res : Option Value × aS), zT0 kd N0 S → v0 < N0 → kd v0 = .inl 11 → F_X13_readWinds f 4 [.ref v0, .int v1, .int v2] S = some res → zV G X (zQX G X (zPo G kd N0 res) 0 0) 3 [some (.ref (zB G + v0)), some (.int v1), some (.int v2)] [] (cn G kd N0 S) 64 0 0) ∧
    (∀ (S : aS) (v0 : Nat) (v1 : Int32) (res : Option Value × aS), zT0 kd N0 S → v0 < N0 → kd v0 = .inl 11 → F_X13_readWinds f 5 [.ref v0, .int v1] S = some res → zV G X (zQX G X (zPo G kd N0 res) 0 0) 3 [some (.ref (zB G + v0)), some (.int v1), none] [] (cn G kd N0 S) 84 0 0) := by
  intro f
  induction f with
  | zero => exact ⟨(fun _ _ _ _ _ _ h => by cases h), (fun _ _ _ _ _ _ _ h => by cases h), (fun _ _ _ _ _ _ _ h => by cases h), (fun _ _ _ _ _ _ _ h => by cases h), (fun _ _ _ _ _ _ _ _ h => by cases h), (fun _ _ _ _ _ _ _ h => by cases h)⟩
  | succ f ih =>
    obtain ⟨ih0, ih1, ih2, ih3, ih4, ih5⟩ := ih
    refine ⟨?_, ?_, ?_, ?_, ?_, ?_⟩
    · intro S v0 res hT hpv0 hkv0 hF
      replace hF : F_X13_readWinds_0 f (F_X13_readWinds f) v0 S = some res := hF
      unfold F_X13_readWinds_0 at hF
      refine z_iconst (v := 0) C dX13_readWinds_0 (by decide) ?_
      refine z_istore_n (lv2 := [some (.ref (zB G + v0)), some (.int 0), none]) C dX13_readWinds_1 (by decide) rfl ?_
      exact ih1 S v0 0 res hT hpv0 hkv0  hF
    · intro S v0 v1 res hT hpv0 hkv0 hF
      replace hF : F_X13_readWinds_1 f (F_X13_readWinds f) v0 v1 S = some res := hF
      unfold F_X13_readWinds_1 at hF
      refine z_aload_n C dX13_readWinds_2 rfl ?_
      refine f_geti C dX13_readWinds_3 zfRX13_177 hpv0 hkv0 rfl ?_
      refine z_if_ne C 87 dX13_readWinds_6 (by decide) (fun c3 => ?_) (fun c3 => ?_)
      · replace hF := im hF c3
        exact ih2 S v0 v1 res hT hpv0 hkv0  hF
      · replace hF := ip hF c3
        refine z_iload_n C dX13_readWinds_9 rfl ?_
        refine z_if_eq C 26 dX13_readWinds_10 (by decide) (fun c5 => ?_) (fun c5 => ?_)
        · replace hF := ip hF c5
          exact ih3 S v0 v1 res hT hpv0 hkv0  hF
        · replace hF := im hF c5
          refine z_aload_n C dX13_readWinds_13 rfl ?_
          refine f_getr C dX13_readWinds_14 zfRX13_24 hpv0 hkv0 rfl ?_
          obtain ⟨hp6, hk6⟩ := hT.1 v0 11 4 (.inr (0, 1002)) hpv0 hkv0 rfl
          refine z_aload_n C dX13_readWinds_17 rfl ?_
          refine f_geti C dX13_readWinds_18 zfRX13_174 hpv0 hkv0 rfl ?_
          obtain ⟨hi7, hF⟩ := bX_some hF
          obtain ⟨q7, eq7⟩ : ∃ q : Nat, q = Int32.toNatClampNeg (gI S v0 7) := ⟨_, rfl⟩
          rw [← eq7] at hF
          refine f_iald C dX13_readWinds_21 hp6 hk6 hi7 ?_
          rw [← eq7]
          refine z_iconst (v := 2) C dX13_readWinds_22 (by decide) ?_
          refine z_icmp_ne C 87 dX13_readWinds_23 (by decide) (fun c9 => ?_) (fun c9 => ?_)
          · replace hF := im hF c9
            exact ih2 S v0 v1 res hT hpv0 hkv0  hF
          · replace hF := ip hF c9
            exact ih3 S v0 v1 res hT hpv0 hkv0  hF
    · intro S v0 v1 res hT hpv0 hkv0 hF
      replace hF : F_X13_readWinds_2 f (F_X13_readWinds f) v0 v1 S = some res := hF
      unfold F_X13_readWinds_2 at hF
      refine z_aload_n C dX13_readWinds_87 rfl ?_
      refine f_getr C dX13_readWinds_88 zfRX13_95 hpv0 hkv0 rfl ?_
      obtain ⟨hp10, hk10⟩ := hT.1 v0 11 10 (.inr (0, 140)) hpv0 hkv0 rfl
      refine z_bipush (v := 72) C dX13_readWinds_91 (by decide) ?_
      refine z_iload_n C dX13_readWinds_93 rfl ?_
      obtain ⟨hi11, hF⟩ := bX_some hF
      obtain ⟨q11, eq11⟩ : ∃ q : Nat, q = Int32.toNatClampNeg 72 := ⟨_, rfl⟩
      rw [← eq11] at hF
      refine f_iast C dX13_readWinds_94 hp10 hk10 hi11 ?_
      rw [← eq11]
      have hT12 : zT0 kd N0 (sI S (gR S v0 10) q11 v1) := zT0_sI hT
      replace hF := fS_e hF
      generalize sI S (gR S v0 10) q11 v1 = S12 at hF hT12 ⊢
      cases hF
      exact z_vret C hr dX13_readWinds_95 ⟨rfl, rfl, hT12⟩
    · intro S v0 v1 res hT hpv0 hkv0 hF
      replace hF : F_X13_readWinds_3 f (F_X13_readWinds f) v0 v1 S = some res := hF
      unfold F_X13_readWinds_3 at hF
      refine z_aload_n C dX13_readWinds_26 rfl ?_
      refine z_iconst (v := 0) C dX13_readWinds_27 (by decide) ?_
      refine z_iconst (v := 2) C dX13_readWinds_28 (by decide) ?_
      obtain ⟨x13, S13, h13, hF⟩ := bI_some hF
      refine f_cV (st2 := [.int x13]) C dX13_readWinds_29 zyX13_takeNumber zvX13_takeNumber lkRX13_195 (K_X13_takeNumber (l := zXl X) hT hpv0 hkv0   h13) hpv0 hkv0 rfl (by decide) rfl rfl (Nat.le_of_ble_eq_true rfl) rfl (fun hT13 => ?_)
      refine z_istore_n (lv2 := [some (.ref (zB G + v0)), some (.int v1), some (.int x13)]) C dX13_readWinds_32 (by decide) rfl ?_
      refine z_aload_n C dX13_readWinds_33 rfl ?_
      refine f_geti C dX13_readWinds_34 zfRX13_177 hpv0 hkv0 rfl ?_
      refine z_if_ne C 64 dX13_readWinds_37 (by decide) (fun c17 => ?_) (fun c17 => ?_)
      · replace hF := im hF c17
        exact ih4 S13 v0 v1 x13 res hT13 hpv0 hkv0   hF
      · replace hF := ip hF c17
        refine z_iload_n C dX13_readWinds_40 rfl ?_
        refine z_bipush (v := 12) C dX13_readWinds_41 (by decide) ?_
        refine z_icmp_ne C 64 dX13_readWinds_43 (by decide) (fun c21 => ?_) (fun c21 => ?_)
        · replace hF := im hF c21
          exact ih4 S13 v0 v1 x13 res hT13 hpv0 hkv0   hF
        · replace hF := ip hF c21
          refine z_aload_n C dX13_readWinds_46 rfl ?_
          refine z_dup C dX13_readWinds_47 rfl ?_
          refine f_geti C dX13_readWinds_48 zfRX13_174 hpv0 hkv0 rfl ?_
          refine z_iconst (v := 1) C dX13_readWinds_51 (by decide) ?_
          refine z_isub C dX13_readWinds_52 ?_
          refine f_puti C dX13_readWinds_53 zfRX13_174 fw11_7 hpv0 hkv0 rfl rfl rfl ?_
          have hT22 : zT0 kd N0 (sI S13 v0 7 ((gI S13 v0 7) - (1 : Int32))) := zT0_sI hT13
          replace hF := fS_e hF
          generalize sI S13 v0 7 ((gI S13 v0 7) - (1 : Int32)) = S22 at hF hT22 ⊢
          refine z_aload_n C dX13_readWinds_56 rfl ?_
          refine z_iconst (v := 5) C dX13_readWinds_57 (by decide) ?_
          obtain ⟨S23, h23, hF⟩ := bV_some hF
          refine f_cV (st2 := []) C dX13_readWinds_58 zyX13_wrong zvX13_wrong lkRX13_183 (K_X13_wrong (l := zXl X) hT22 hpv0 hkv0  h23) hpv0 hkv0 rfl (by decide) rfl rfl (Nat.le_of_ble_eq_true rfl) rfl (fun hT23 => ?_)
          refine z_goto C 84 dX13_readWinds_61 (by decide) ?_
          refine z_mask [true, true, false] ?_ rfl
          exact ih5 S23 v0 v1 res hT23 hpv0 hkv0  hF
    · intro S v0 v1 v2 res hT hpv0 hkv0 hF
      replace hF : F_X13_readWinds_4 f (F_X13_readWinds f) v0 v1 v2 S = some res := hF
      unfold F_X13_readWinds_4 at hF
      refine z_aload_n C dX13_readWinds_64 rfl ?_
      refine f_geti C dX13_readWinds_65 zfRX13_177 hpv0 hkv0 rfl ?_
      refine z_if_ne C 84 dX13_readWinds_68 (by decide) (fun c26 => ?_) (fun c26 => ?_)
      · replace hF := im hF c26
        refine z_mask [true, true, false] ?_ rfl
        exact ih5 S v0 v1 res hT hpv0 hkv0  hF
      · replace hF := ip hF c26
        refine z_aload_n C dX13_readWinds_71 rfl ?_
        refine f_getr C dX13_readWinds_72 zfRX13_95 hpv0 hkv0 rfl ?_
        obtain ⟨hp27, hk27⟩ := hT.1 v0 11 10 (.inr (0, 140)) hpv0 hkv0 rfl
        refine z_bipush (v := 112) C dX13_readWinds_75 (by decide) ?_
        refine z_iload_n C dX13_readWinds_77 rfl ?_
        refine z_iadd C dX13_readWinds_78 ?_
        refine z_iload_n C dX13_readWinds_79 rfl ?_
        obtain ⟨hi28, hF⟩ := bX_some hF
        obtain ⟨q28, eq28⟩ : ∃ q : Nat, q = Int32.toNatClampNeg ((112 : Int32) + v1) := ⟨_, rfl⟩
        rw [← eq28] at hF
        refine f_iast C dX13_readWinds_80 hp27 hk27 hi28 ?_
        rw [← eq28]
        have hT29 : zT0 kd N0 (sI S (gR S v0 10) q28 v2) := zT0_sI hT
        replace hF := fS_e hF
        generalize sI S (gR S v0 10) q28 v2 = S29 at hF hT29 ⊢
        refine z_iinc (v := v1 + 1) (lv2 := [some (.ref (zB G + v0)), some (.int (v1 + 1)), some (.int v2)]) C dX13_readWinds_81 rfl (by rw [show Int32.ofInt 1 = (1 : Int32) from by decide]) rfl ?_
        refine z_mask [true, true, false] ?_ rfl
        exact ih5 S29 v0 (v1 + 1) res hT29 hpv0 hkv0  hF
    · intro S v0 v1 res hT hpv0 hkv0 hF
      replace hF : F_X13_readWinds_5 f (F_X13_readWinds f) v0 v1 S = some res := hF
      unfold F_X13_readWinds_5 at hF
      refine z_goto C 2 dX13_readWinds_84 (by decide) ?_
      exact ih1 S v0 v1 res hT hpv0 hkv0  hF
theorem K_X13_readWinds {G : zG} {l : Launch} {kd : kD} {N0 f : Nat} {S : aS} {v0 : Nat} {res : Option Value × aS} (hT : zT0 kd N0 S) (hpv0 : v0 < N0) (hkv0 : kd v0 = .inl 11) (hF : F_X13_readWinds f 0 [.ref v0] S = some res) : zM G l 2 0 0 yX13_readWinds cX13_readWinds 3 none [.ref (zB G + v0)] (cn G kd N0 S) (zPo G kd N0 res) := zM.of (by decide) rfl (Nat.le_of_ble_eq_true rfl) (fun X _ C hr _ => (B_X13_readWinds C hr f).1 S v0 res hT hpv0 hkv0 hF)
def F_X13_takePerson_0 (f : Nat) (rc : Nat → List Value → aS → aR) (v0 : Nat) (S : aS) : aR :=
  bI (F_X13_isName f 0 [.ref v0] S) fun x1 S1 => if x1 = (0 : Int32) then bV (F_X13_wrong f 0 [.ref v0, .int 1] S1) fun S4 => rc 1 [.ref v0] S4 else rc 1 [.ref v0] S1
def F_X13_takePerson_1 (f : Nat) (rc : Nat → List Value → aS → aR) (v0 : Nat) (S : aS) : aR :=
  if (gI S v0 8) ≤ (0 : Int32) then bI (F_X13_nameAt f 0 [.ref v0, .int 0] S) fun x7 S7 => rc 2 [.ref v0, .int x7] S7 else rc 2 [.ref v0, .int ((-1))] S
def F_X13_takePerson_2 (f : Nat) (rc : Nat → List Value → aS → aR) (v0 : Nat) (w0 : Int32) (S : aS) : aR :=
  if (gI S v0 8) = (0 : Int32) then if (0 : Int32) ≤ w0 then rc 3 [.ref v0, .int w0] S else bV (F_X13_wrong f 0 [.ref v0, .int 2] S) fun S13 => rc 3 [.ref v0, .int w0] S13 else rc 3 [.ref v0, .int w0] S
def F_X13_takePerson_3 (f : Nat) (rc : Nat → List Value → aS → aR) (v0 : Nat) (v1 : Int32) (S : aS) : aR :=
  fS (sI S v0 7 ((gI S v0 7) + (if (gI S v0 8) ≤ (0 : Int32) then (1 : Int32) else (0 : Int32)))) fun S16 => some (some (.int (if (gI S16 v0 8) ≤ (0 : Int32) then v1 else (0 : Int32))), S16)
def F_X13_takePerson : Nat → Nat → List Value → aS → aR
  | 0, _, _, _ => none
  | f + 1, 0, vs, S => F_X13_takePerson_0 f (F_X13_takePerson f) (vR vs 0) S
  | f + 1, 1, vs, S => F_X13_takePerson_1 f (F_X13_takePerson f) (vR vs 0) S
  | f + 1, 2, vs, S => F_X13_takePerson_2 f (F_X13_takePerson f) (vR vs 0) (vI vs 1) S
  | f + 1, 3, vs, S => F_X13_takePerson_3 f (F_X13_takePerson f) (vR vs 0) (vI vs 1) S
  | _ + 1, _, _, _ => none
theorem dX13_takePerson_0 : decode cX13_takePerson 0 = .ok (.aload_n 0, 1) := by decide +kernel
theorem dX13_takePerson_1 : decode cX13_takePerson 1 = .ok (.invokevirtual 232, 3) := by decide +kernel
theorem dX13_takePerson_4 : decode cX13_takePerson 4 = .ok (.ifCond .ne 8, 3) := by decide +kernel
theorem dX13_takePerson_7 : decode cX13_takePerson 7 = .ok (.aload_n 0, 1) := by decide +kernel
theorem dX13_takePerson_8 : decode cX13_takePerson 8 = .ok (.iconst 1, 1) := by decide +kernel
theorem dX13_takePerson_9 : decode cX13_takePerson 9 = .ok (.invokevirtual 183, 3) := by decide +kernel
theorem dX13_takePerson_12 : decode cX13_takePerson 12 = .ok (.aload_n 0, 1) := by decide +kernel
theorem dX13_takePerson_13 : decode cX13_takePerson 13 = .ok (.getfield 177, 3) := by decide +kernel
theorem dX13_takePerson_16 : decode cX13_takePerson 16 = .ok (.ifCond .le 7, 3) := by decide +kernel
theorem dX13_takePerson_19 : decode cX13_takePerson 19 = .ok (.iconst (-1), 1) := by decide +kernel
theorem dX13_takePerson_20 : decode cX13_takePerson 20 = .ok (.goto 8, 3) := by decide +kernel
theorem dX13_takePerson_23 : decode cX13_takePerson 23 = .ok (.aload_n 0, 1) := by decide +kernel
theorem dX13_takePerson_24 : decode cX13_takePerson 24 = .ok (.iconst 0, 1) := by decide +kernel
theorem dX13_takePerson_25 : decode cX13_takePerson 25 = .ok (.invokevirtual 236, 3) := by decide +kernel
theorem dX13_takePerson_28 : decode cX13_takePerson 28 = .ok (.istore_n 1, 1) := by decide +kernel
theorem dX13_takePerson_29 : decode cX13_takePerson 29 = .ok (.aload_n 0, 1) := by decide +kernel
theorem dX13_takePerson_30 : decode cX13_takePerson 30 = .ok (.getfield 177, 3) := by decide +kernel
theorem dX13_takePerson_33 : decode cX13_takePerson 33 = .ok (.ifCond .ne 12, 3) := by decide +kernel
theorem dX13_takePerson_36 : decode cX13_takePerson 36 = .ok (.iload_n 1, 1) := by decide +kernel
theorem dX13_takePerson_37 : decode cX13_takePerson 37 = .ok (.ifCond .ge 8, 3) := by decide +kernel
theorem dX13_takePerson_40 : decode cX13_takePerson 40 = .ok (.aload_n 0, 1) := by decide +kernel
theorem dX13_takePerson_41 : decode cX13_takePerson 41 = .ok (.iconst 2, 1) := by decide +kernel
theorem dX13_takePerson_42 : decode cX13_takePerson 42 = .ok (.invokevirtual 183, 3) := by decide +kernel
theorem dX13_takePerson_45 : decode cX13_takePerson 45 = .ok (.aload_n 0, 1) := by decide +kernel
theorem dX13_takePerson_46 : decode cX13_takePerson 46 = .ok (.dup, 1) := by decide +kernel
theorem dX13_takePerson_47 : decode cX13_takePerson 47 = .ok (.getfield 174, 3) := by decide +kernel
theorem dX13_takePerson_50 : decode cX13_takePerson 50 = .ok (.aload_n 0, 1) := by decide +kernel
theorem dX13_takePerson_51 : decode cX13_takePerson 51 = .ok (.getfield 177, 3) := by decide +kernel
theorem dX13_takePerson_54 : decode cX13_takePerson 54 = .ok (.ifCond .le 7, 3) := by decide +kernel
theorem dX13_takePerson_57 : decode cX13_takePerson 57 = .ok (.iconst 0, 1) := by decide +kernel
theorem dX13_takePerson_58 : decode cX13_takePerson 58 = .ok (.goto 4, 3) := by decide +kernel
theorem dX13_takePerson_61 : decode cX13_takePerson 61 = .ok (.iconst 1, 1) := by decide +kernel
theorem dX13_takePerson_62 : decode cX13_takePerson 62 = .ok (.iadd, 1) := by decide +kernel
theorem dX13_takePerson_63 : decode cX13_takePerson 63 = .ok (.putfield 174, 3) := by decide +kernel
theorem dX13_takePerson_66 : decode cX13_takePerson 66 = .ok (.aload_n 0, 1) := by decide +kernel
theorem dX13_takePerson_67 : decode cX13_takePerson 67 = .ok (.getfield 177, 3) := by decide +kernel
theorem dX13_takePerson_70 : decode cX13_takePerson 70 = .ok (.ifCond .le 7, 3) := by decide +kernel
theorem dX13_takePerson_73 : decode cX13_takePerson 73 = .ok (.iconst 0, 1) := by decide +kernel
theorem dX13_takePerson_74 : decode cX13_takePerson 74 = .ok (.goto 4, 3) := by decide +kernel
theorem dX13_takePerson_77 : decode cX13_takePerson 77 = .ok (.iload_n 1, 1) := by decide +kernel
theorem dX13_takePerson_78 : decode cX13_takePerson 78 = .ok (.ireturn, 1) := by decide +kernel
set_option maxHeartbeats 4000000 in
set_option maxRecDepth 100000 in
theorem B_X13_takePerson {G : zG} {X : zX} {kd : kD} {N0 : Nat} (C : zCt G X 3 0 0 RX13 cX13_takePerson 2) (hr : (zXh X).sig.returnType = (some .int)) : ∀ f : Nat,
    (∀ (S : aS) (v0 : Nat) (res : Option Value × aS), zT0 kd N0 S → v0 < N0 → kd v0 = .inl 11 → F_X13_takePerson f 0 [.ref v0] S = some res → zV G X (zQX G X (zPo G kd N0 res) 0 0) 2 [some (.ref (zB G + v0)), none] [] (cn G kd N0 S) 0 0 0) ∧
    (∀ (S : aS) (v0 : Nat) (res : Option Value × aS), zT0 kd N0 S → v0 < N0 → kd v0 = .inl 11 → F_X13_takePerson f 1 [.ref v0] S = some res → zV G X (zQX G X (zPo G kd N0 res) 0 0) 2 [some (.ref (zB G + v0)), none] [] (cn G kd N0 S) 12 0 0) ∧
    (∀ (S : aS) (v0 : Nat) (w0 : Int32) (res : Option Value × aS), zT0 kd N0 S → v0 < N0 → kd v0 = .inl 11 → F_X13_takePerson f 2 [.ref v0, .int w0] S = some res → zV G X (zQX G X (zPo G kd N0 res) 0 0) 2 [some (.ref (zB G + v0)), none] [.int w0] (cn G kd N0 S) 28 0 0) ∧
    (∀ (S : aS) (v0 : Nat) (v1 : Int32) (res : Option Value × aS), zT0 kd N0 S → v0 < N0 → kd v0 = .inl 11 → F_X13_takePerson f 3 [.ref v0, .int v1] S = some res → zV G X (zQX G X (zPo G kd N0 res) 0 0) 2 [some (.ref (zB G + v0)), some (.int v1)] [] (cn G kd N0 S) 45 0 0) := by
  intro f
  induction f with
  | zero => exact ⟨(fun _ _ _ _ _ _ h => by cases h), (fun _ _ _ _ _ _ h => by cases h), (fun _ _ _ _ _ _ _ h => by cases h), (fun _ _ _ _ _ _ _ h => by cases h)⟩
  | succ f ih =>
    obtain ⟨ih0, ih1, ih2, ih3⟩ := ih
    refine ⟨?_, ?_, ?_, ?_⟩
    · intro S v0 res hT hpv0 hkv0 hF
      replace hF : F_X13_takePerson_0 f (F_X13_takePerson f) v0 S = some res := hF
      unfold F_X13_takePerson_0 at hF
      refine z_aload_n C dX13_takePerson_0 rfl ?_
      obtain ⟨x1, S1, h1, hF⟩ := bI_some hF
      refine f_cV (st2 := [.int x1]) C dX13_takePerson_1 zyX13_isName zvX13_isName lkRX13_232 (K_X13_isName (l := zXl X) hT hpv0 hkv0 h1) hpv0 hkv0 rfl (by decide) rfl rfl (Nat.le_of_ble_eq_true rfl) rfl (fun hT1 => ?_)
      refine z_if_ne C 12 dX13_takePerson_4 (by decide) (fun c3 => ?_) (fun c3 => ?_)
      · replace hF := im hF c3
        exact ih1 S1 v0 res hT1 hpv0 hkv0 hF
      · replace hF := ip hF c3
        refine z_aload_n C dX13_takePerson_7 rfl ?_
        refine z_iconst (v := 1) C dX13_takePerson_8 (by decide) ?_
        obtain ⟨S4, h4, hF⟩ := bV_some hF
        refine f_cV (st2 := []) C dX13_takePerson_9 zyX13_wrong zvX13_wrong lkRX13_183 (K_X13_wrong (l := zXl X) hT1 hpv0 hkv0  h4) hpv0 hkv0 rfl (by decide) rfl rfl (Nat.le_of_ble_eq_true rfl) rfl (fun hT4 => ?_)
        exact ih1 S4 v0 res hT4 hpv0 hkv0 hF
    · intro S v0 res hT hpv0 hkv0 hF
      replace hF : F_X13_takePerson_1 f (F_X13_takePerson f) v0 S = some res := hF
      unfold F_X13_takePerson_1 at hF
      refine z_aload_n C dX13_takePerson_12 rfl ?_
      refine f_geti C dX13_takePerson_13 zfRX13_177 hpv0 hkv0 rfl ?_
      refine z_if_le C 23 dX13_takePerson_16 (by decide) (fun c6 => ?_) (fun c6 => ?_)
      · replace hF := ip hF c6
        refine z_aload_n C dX13_takePerson_23 rfl ?_
        refine z_iconst (v := 0) C dX13_takePerson_24 (by decide) ?_
        obtain ⟨x7, S7, h7, hF⟩ := bI_some hF
        refine f_cV (st2 := [.int x7]) C dX13_takePerson_25 zyX13_nameAt zvX13_nameAt lkRX13_236 (K_X13_nameAt (l := zXl X) hT hpv0 hkv0  h7) hpv0 hkv0 rfl (by decide) rfl rfl (Nat.le_of_ble_eq_true rfl) rfl (fun hT7 => ?_)
        exact ih2 S7 v0 x7 res hT7 hpv0 hkv0  hF
      · replace hF := im hF c6
        refine z_iconst (v := (-1)) C dX13_takePerson_19 (by decide) ?_
        refine z_goto C 28 dX13_takePerson_20 (by decide) ?_
        exact ih2 S v0 ((-1)) res hT hpv0 hkv0  hF
    · intro S v0 w0 res hT hpv0 hkv0 hF
      replace hF : F_X13_takePerson_2 f (F_X13_takePerson f) v0 w0 S = some res := hF
      unfold F_X13_takePerson_2 at hF
      refine z_istore_n (lv2 := [some (.ref (zB G + v0)), some (.int w0)]) C dX13_takePerson_28 (by decide) rfl ?_
      refine z_aload_n C dX13_takePerson_29 rfl ?_
      refine f_geti C dX13_takePerson_30 zfRX13_177 hpv0 hkv0 rfl ?_
      refine z_if_ne C 45 dX13_takePerson_33 (by decide) (fun c10 => ?_) (fun c10 => ?_)
      · replace hF := im hF c10
        exact ih3 S v0 w0 res hT hpv0 hkv0  hF
      · replace hF := ip hF c10
        refine z_iload_n C dX13_takePerson_36 rfl ?_
        refine z_if_ge C 45 dX13_takePerson_37 (by decide) (fun c12 => ?_) (fun c12 => ?_)
        · replace hF := ip hF c12
          exact ih3 S v0 w0 res hT hpv0 hkv0  hF
        · replace hF := im hF c12
          refine z_aload_n C dX13_takePerson_40 rfl ?_
          refine z_iconst (v := 2) C dX13_takePerson_41 (by decide) ?_
          obtain ⟨S13, h13, hF⟩ := bV_some hF
          refine f_cV (st2 := []) C dX13_takePerson_42 zyX13_wrong zvX13_wrong lkRX13_183 (K_X13_wrong (l := zXl X) hT hpv0 hkv0  h13) hpv0 hkv0 rfl (by decide) rfl rfl (Nat.le_of_ble_eq_true rfl) rfl (fun hT13 => ?_)
          exact ih3 S13 v0 w0 res hT13 hpv0 hkv0  hF
    · intro S v0 v1 res hT hpv0 hkv0 hF
      replace hF : F_X13_takePerson_3 f (F_X13_takePerson f) v0 v1 S = some res := hF
      unfold F_X13_takePerson_3 at hF
      refine z_aload_n C dX13_takePerson_45 rfl ?_
      refine z_dup C dX13_takePerson_46 rfl ?_
      refine f_geti C dX13_takePerson_47 zfRX13_174 hpv0 hkv0 rfl ?_
      refine z_aload_n C dX13_takePerson_50 rfl ?_
      refine f_geti C dX13_takePerson_51 zfRX13_177 hpv0 hkv0 rfl ?_
      have hJ15 : zV G X (zQX G X (zPo G kd N0 res) 0 0) 2 [some (.ref (zB G + v0)), some (.int v1)] [.int (if (gI S v0 8) ≤ (0 : Int32) then (1 : Int32) else (0 : Int32)), .int (gI S v0 7), .ref (zB G + v0)] (cn G kd N0 S) 62 0 0 := by
        refine z_iadd C dX13_takePerson_62 ?_
        refine f_puti C dX13_takePerson_63 zfRX13_174 fw11_7 hpv0 hkv0 rfl rfl rfl ?_
        have hT16 : zT0 kd N0 (sI S v0 7 ((gI S v0 7) + (if (gI S v0 8) ≤ (0 : Int32) then (1 : Int32) else (0 : Int32)))) := zT0_sI hT
        replace hF := fS_e hF
        generalize sI S v0 7 ((gI S v0 7) + (if (gI S v0 8) ≤ (0 : Int32) then (1 : Int32) else (0 : Int32))) = S16 at hF hT16 ⊢
        refine z_aload_n C dX13_takePerson_66 rfl ?_
        refine f_geti C dX13_takePerson_67 zfRX13_177 hpv0 hkv0 rfl ?_
        have hJ18 : zV G X (zQX G X (zPo G kd N0 res) 0 0) 2 [some (.ref (zB G + v0)), some (.int v1)] [.int (if (gI S16 v0 8) ≤ (0 : Int32) then v1 else (0 : Int32))] (cn G kd N0 S16) 78 0 0 := by
          cases hF
          exact z_iret C hr dX13_takePerson_78 ⟨rfl, rfl, hT16⟩
        refine z_if_le C 77 dX13_takePerson_70 (by decide) (fun c17 => ?_) (fun c17 => ?_)
        · refine z_iload_n C dX13_takePerson_77 rfl ?_
          exact zV.at hJ18 (by first | rfl | contradiction | (simp only [if_pos c17]; done)) (by first | rfl | contradiction | (simp only [if_pos c17]; done)) rfl rfl
        · refine z_iconst (v := 0) C dX13_takePerson_73 (by decide) ?_
          refine z_goto C 78 dX13_takePerson_74 (by decide) ?_
          exact zV.at hJ18 (by first | rfl | contradiction | (simp only [if_neg c17]; done)) (by first | rfl | contradiction | (simp only [if_neg c17]; done)) rfl rfl
      refine z_if_le C 61 dX13_takePerson_54 (by decide) (fun c14 => ?_) (fun c14 => ?_)
      · refine z_iconst (v := 1) C dX13_takePerson_61 (by decide) ?_
        exact zV.at hJ15 (by first | rfl | contradiction | (simp only [if_pos c14]; done)) (by first | rfl | contradiction | (simp only [if_pos c14]; done)) rfl rfl
      · refine z_iconst (v := 0) C dX13_takePerson_57 (by decide) ?_
        refine z_goto C 62 dX13_takePerson_58 (by decide) ?_
        exact zV.at hJ15 (by first | rfl | contradiction | (simp only [if_neg c14]; done)) (by first | rfl | contradiction | (simp only [if_neg c14]; done)) rfl rfl
theorem K_X13_takePerson {G : zG} {l : Launch} {kd : kD} {N0 f : Nat} {S : aS} {v0 : Nat} {res : Option Value × aS} (hT : zT0 kd N0 S) (hpv0 : v0 < N0) (hkv0 : kd v0 = .inl 11) (hF : F_X13_takePerson f 0 [.ref v0] S = some res) : zM G l 3 0 0 yX13_takePerson cX13_takePerson 2 (some .int) [.ref (zB G + v0)] (cn G kd N0 S) (zPo G kd N0 res) := zM.of (by decide) rfl (Nat.le_of_ble_eq_true rfl) (fun X _ C hr _ => (B_X13_takePerson C hr f).1 S v0 res hT hpv0 hkv0 hF)
def F_X13_emit_0 (f : Nat) (rc : Nat → List Value → aS → aR) (v0 : Nat) (v1 : Int32) (v2 : Int32) (S : aS) : aR :=
  bX ((1100 : Int32) + (gI S v0 13)) 2200 fun q2 => fS (sI S (gR S v0 11) q2 v1) fun S3 => bX ((1100 : Int32) + (gI S3 v0 13)) 2200 fun q5 => fS (sI S3 (gR S3 v0 12) q5 v2) fun S6 => fS (sI S6 v0 13 ((gI S6 v0 13) + (1 : Int32))) fun S7 => some (none, S7)
def F_X13_emit : Nat → Nat → List Value → aS → aR
  | 0, _, _, _ => none
  | f + 1, 0, vs, S => F_X13_emit_0 f (F_X13_emit f) (vR vs 0) (vI vs 1) (vI vs 2) S
  | _ + 1, _, _, _ => none
theorem dX13_emit_0 : decode cX13_emit 0 = .ok (.aload_n 0, 1) := by decide +kernel
theorem dX13_emit_1 : decode cX13_emit 1 = .ok (.getfield 98, 3) := by decide +kernel
theorem dX13_emit_4 : decode cX13_emit 4 = .ok (.sipush 1100, 3) := by decide +kernel
theorem dX13_emit_7 : decode cX13_emit 7 = .ok (.aload_n 0, 1) := by decide +kernel
theorem dX13_emit_8 : decode cX13_emit 8 = .ok (.getfield 211, 3) := by decide +kernel
theorem dX13_emit_11 : decode cX13_emit 11 = .ok (.iadd, 1) := by decide +kernel
theorem dX13_emit_12 : decode cX13_emit 12 = .ok (.iload_n 1, 1) := by decide +kernel
theorem dX13_emit_13 : decode cX13_emit 13 = .ok (.iastore, 1) := by decide +kernel
theorem dX13_emit_14 : decode cX13_emit 14 = .ok (.aload_n 0, 1) := by decide +kernel
theorem dX13_emit_15 : decode cX13_emit 15 = .ok (.getfield 101, 3) := by decide +kernel
theorem dX13_emit_18 : decode cX13_emit 18 = .ok (.sipush 1100, 3) := by decide +kernel
theorem dX13_emit_21 : decode cX13_emit 21 = .ok (.aload_n 0, 1) := by decide +kernel
theorem dX13_emit_22 : decode cX13_emit 22 = .ok (.getfield 211, 3) := by decide +kernel
theorem dX13_emit_25 : decode cX13_emit 25 = .ok (.iadd, 1) := by decide +kernel
theorem dX13_emit_26 : decode cX13_emit 26 = .ok (.iload_n 2, 1) := by decide +kernel
theorem dX13_emit_27 : decode cX13_emit 27 = .ok (.iastore, 1) := by decide +kernel
theorem dX13_emit_28 : decode cX13_emit 28 = .ok (.aload_n 0, 1) := by decide +kernel
theorem dX13_emit_29 : decode cX13_emit 29 = .ok (.dup, 1) := by decide +kernel
theorem dX13_emit_30 : decode cX13_emit 30 = .ok (.getfield 211, 3) := by decide +kernel
theorem dX13_emit_33 : decode cX13_emit 33 = .ok (.iconst 1, 1) := by decide +kernel
theorem dX13_emit_34 : decode cX13_emit 34 = .ok (.iadd, 1) := by decide +kernel
theorem dX13_emit_35 : decode cX13_emit 35 = .ok (.putfield 211, 3) := by decide +kernel
theorem dX13_emit_38 : decode cX13_emit 38 = .ok (.return_, 1) := by decide +kernel
set_option maxHeartbeats 4000000 in
set_option maxRecDepth 100000 in
theorem B_X13_emit {G : zG} {X : zX} {kd : kD} {N0 : Nat} (C : zCt G X 0 0 0 RX13 cX13_emit 3) (hr : (zXh X).sig.returnType = none) : ∀ f : Nat,
    (∀ (S : aS) (v0 : Nat) (v1 : Int32) (v2 : Int32) (res : Option Value × aS), zT0 kd N0 S → v0 < N0 → kd v0 = .inl 11 → F_X13_emit f 0 [.ref v0, .int v1, .int v2] S = some res → zV G X (zQX G X (zPo G kd N0 res) 0 0) 3 [some (.ref (zB G + v0)), some (.int v1), some (.int v2)] [] (cn G kd N0 S) 0 0 0) := by
  intro f
  induction f with
  | zero => exact (fun _ _ _ _ _ _ _ _ h => by cases h)
  | succ f ih =>
    have ih0 := ih
    intro S v0 v1 v2 res hT hpv0 hkv0 hF
    replace hF : F_X13_emit_0 f (F_X13_emit f) v0 v1 v2 S = some res := hF
    unfold F_X13_emit_0 at hF
    refine z_aload_n C dX13_emit_0 rfl ?_
    refine f_getr C dX13_emit_1 zfRX13_98 hpv0 hkv0 rfl ?_
    obtain ⟨hp1, hk1⟩ := hT.1 v0 11 11 (.inr (0, 2200)) hpv0 hkv0 rfl
    refine z_sipush (v := 1100) C dX13_emit_4 (by decide) ?_
    refine z_aload_n C dX13_emit_7 rfl ?_
    refine f_geti C dX13_emit_8 zfRX13_211 hpv0 hkv0 rfl ?_
    refine z_iadd C dX13_emit_11 ?_
    refine z_iload_n C dX13_emit_12 rfl ?_
    obtain ⟨hi2, hF⟩ := bX_some hF
    obtain ⟨q2, eq2⟩ : ∃ q : Nat, q = Int32.toNatClampNeg ((1100 : Int32) + (gI S v0 13)) := ⟨_, rfl⟩
    rw [← eq2] at hF
    refine f_iast C dX13_emit_13 hp1 hk1 hi2 ?_
    rw [← eq2]
    have hT3 : zT0 kd N0 (sI S (gR S v0 11) q2 v1) := zT0_sI hT
    replace hF := fS_e hF
    generalize sI S (gR S v0 11) q2 v1 = S3 at hF hT3 ⊢
    refine z_aload_n C dX13_emit_14 rfl ?_
    refine f_getr C dX13_emit_15 zfRX13_101 hpv0 hkv0 rfl ?_
    obtain ⟨hp4, hk4⟩ := hT3.1 v0 11 12 (.inr (0, 2200)) hpv0 hkv0 rfl
    refine z_sipush (v := 1100) C dX13_emit_18 (by decide) ?_
    refine z_aload_n C dX13_emit_21 rfl ?_
    refine f_geti C dX13_emit_22 zfRX13_211 hpv0 hkv0 rfl ?_
    refine z_iadd C dX13_emit_25 ?_
    refine z_iload_n C dX13_emit_26 rfl ?_
    obtain ⟨hi5, hF⟩ := bX_some hF
    obtain ⟨q5, eq5⟩ : ∃ q : Nat, q = Int32.toNatClampNeg ((1100 : Int32) + (gI S3 v0 13)) := ⟨_, rfl⟩
    rw [← eq5] at hF
    refine f_iast C dX13_emit_27 hp4 hk4 hi5 ?_
    rw [← eq5]
    have hT6 : zT0 kd N0 (sI S3 (gR S3 v0 12) q5 v2) := zT0_sI hT3
    replace hF := fS_e hF
    generalize sI S3 (gR S3 v0 12) q5 v2 = S6 at hF hT6 ⊢
    refine z_aload_n C dX13_emit_28 rfl ?_
    refine z_dup C dX13_emit_29 rfl ?_
    refine f_geti C dX13_emit_30 zfRX13_211 hpv0 hkv0 rfl ?_
    refine z_iconst (v := 1) C dX13_emit_33 (by decide) ?_
    refine z_iadd C dX13_emit_34 ?_
    refine f_puti C dX13_emit_35 zfRX13_211 fw11_13 hpv0 hkv0 rfl rfl rfl ?_
    have hT7 : zT0 kd N0 (sI S6 v0 13 ((gI S6 v0 13) + (1 : Int32))) := zT0_sI hT6
    replace hF := fS_e hF
    generalize sI S6 v0 13 ((gI S6 v0 13) + (1 : Int32)) = S7 at hF hT7 ⊢
    cases hF
    exact z_vret C hr dX13_emit_38 ⟨rfl, rfl, hT7⟩
theorem K_X13_emit {G : zG} {l : Launch} {kd : kD} {N0 f : Nat} {S : aS} {v0 : Nat} {v1 : Int32} {v2 : Int32} {res : Option Value × aS} (hT : zT0 kd N0 S) (hpv0 : v0 < N0) (hkv0 : kd v0 = .inl 11) (hF : F_X13_emit f 0 [.ref v0, .int v1, .int v2] S = some res) : zM G l 0 0 0 yX13_emit cX13_emit 3 none [.ref (zB G + v0), .int v1, .int v2] (cn G kd N0 S) (zPo G kd N0 res) := zM.of (by decide) rfl (Nat.le_of_ble_eq_true rfl) (fun X _ C hr _ => (B_X13_emit C hr f) S v0 v1 v2 res hT hpv0 hkv0 hF)
def F_X13_both_0 (f : Nat) (rc : Nat → List Value → aS → aR) (v0 : Int32) (v1 : Int32) (v2 : Int32) (S : aS) : aR :=
  if v0 = 4 then some (some (.int (v1 + v2)), S) else if v0 = 5 then some (some (.int (v1 - v2)), S) else if v0 = 6 then some (some (.int (v1 * v2)), S) else if v0 = 7 then some (some (.int (if v2 ≤ v1 then (0 : Int32) else (1 : Int32))), S) else if v0 = 8 then some (some (.int (if v1 = v2 then (1 : Int32) else (0 : Int32))), S) else if v0 = 9 then some (some (.int (if v1 = (0 : Int32) then (0 : Int32) else if v2 = (0 : Int32) then (0 : Int32) else (1 : Int32))), S) else some (some (.int (if v1 = (0 : Int32) then if v2 = (0 : Int32) then (0 : Int32) else (1 : Int32) else (1 : Int32))), S)
def F_X13_both : Nat → Nat → List Value → aS → aR
  | 0, _, _, _ => none
  | f + 1, 0, vs, S => F_X13_both_0 f (F_X13_both f) (vI vs 0) (vI vs 1) (vI vs 2) S
  | _ + 1, _, _, _ => none
theorem dX13_both_0 : decode cX13_both 0 = .ok (.iload_n 0, 1) := by decide +kernel
theorem dX13_both_1 : decode cX13_both 1 = .ok (.tableswitch 87 4 9 #[39, 43, 47, 51, 62, 73], 39) := by decide +kernel
theorem dX13_both_40 : decode cX13_both 40 = .ok (.iload_n 1, 1) := by decide +kernel
theorem dX13_both_41 : decode cX13_both 41 = .ok (.iload_n 2, 1) := by decide +kernel
theorem dX13_both_42 : decode cX13_both 42 = .ok (.iadd, 1) := by decide +kernel
theorem dX13_both_43 : decode cX13_both 43 = .ok (.ireturn, 1) := by decide +kernel
theorem dX13_both_44 : decode cX13_both 44 = .ok (.iload_n 1, 1) := by decide +kernel
theorem dX13_both_45 : decode cX13_both 45 = .ok (.iload_n 2, 1) := by decide +kernel
theorem dX13_both_46 : decode cX13_both 46 = .ok (.isub, 1) := by decide +kernel
theorem dX13_both_47 : decode cX13_both 47 = .ok (.ireturn, 1) := by decide +kernel
theorem dX13_both_48 : decode cX13_both 48 = .ok (.iload_n 1, 1) := by decide +kernel
theorem dX13_both_49 : decode cX13_both 49 = .ok (.iload_n 2, 1) := by decide +kernel
theorem dX13_both_50 : decode cX13_both 50 = .ok (.imul, 1) := by decide +kernel
theorem dX13_both_51 : decode cX13_both 51 = .ok (.ireturn, 1) := by decide +kernel
theorem dX13_both_52 : decode cX13_both 52 = .ok (.iload_n 1, 1) := by decide +kernel
theorem dX13_both_53 : decode cX13_both 53 = .ok (.iload_n 2, 1) := by decide +kernel
theorem dX13_both_54 : decode cX13_both 54 = .ok (.if_icmp .ge 7, 3) := by decide +kernel
theorem dX13_both_57 : decode cX13_both 57 = .ok (.iconst 1, 1) := by decide +kernel
theorem dX13_both_58 : decode cX13_both 58 = .ok (.goto 4, 3) := by decide +kernel
theorem dX13_both_61 : decode cX13_both 61 = .ok (.iconst 0, 1) := by decide +kernel
theorem dX13_both_62 : decode cX13_both 62 = .ok (.ireturn, 1) := by decide +kernel
theorem dX13_both_63 : decode cX13_both 63 = .ok (.iload_n 1, 1) := by decide +kernel
theorem dX13_both_64 : decode cX13_both 64 = .ok (.iload_n 2, 1) := by decide +kernel
theorem dX13_both_65 : decode cX13_both 65 = .ok (.if_icmp .ne 7, 3) := by decide +kernel
theorem dX13_both_68 : decode cX13_both 68 = .ok (.iconst 1, 1) := by decide +kernel
theorem dX13_both_69 : decode cX13_both 69 = .ok (.goto 4, 3) := by decide +kernel
theorem dX13_both_72 : decode cX13_both 72 = .ok (.iconst 0, 1) := by decide +kernel
theorem dX13_both_73 : decode cX13_both 73 = .ok (.ireturn, 1) := by decide +kernel
theorem dX13_both_74 : decode cX13_both 74 = .ok (.iload_n 1, 1) := by decide +kernel
theorem dX13_both_75 : decode cX13_both 75 = .ok (.ifCond .eq 11, 3) := by decide +kernel
theorem dX13_both_78 : decode cX13_both 78 = .ok (.iload_n 2, 1) := by decide +kernel
theorem dX13_both_79 : decode cX13_both 79 = .ok (.ifCond .eq 7, 3) := by decide +kernel
theorem dX13_both_82 : decode cX13_both 82 = .ok (.iconst 1, 1) := by decide +kernel
theorem dX13_both_83 : decode cX13_both 83 = .ok (.goto 4, 3) := by decide +kernel
theorem dX13_both_86 : decode cX13_both 86 = .ok (.iconst 0, 1) := by decide +kernel
theorem dX13_both_87 : decode cX13_both 87 = .ok (.ireturn, 1) := by decide +kernel
theorem dX13_both_88 : decode cX13_both 88 = .ok (.iload_n 1, 1) := by decide +kernel
theorem dX13_both_89 : decode cX13_both 89 = .ok (.ifCond .ne 7, 3) := by decide +kernel
theorem dX13_both_92 : decode cX13_both 92 = .ok (.iload_n 2, 1) := by decide +kernel
theorem dX13_both_93 : decode cX13_both 93 = .ok (.ifCond .eq 7, 3) := by decide +kernel
theorem dX13_both_96 : decode cX13_both 96 = .ok (.iconst 1, 1) := by decide +kernel
theorem dX13_both_97 : decode cX13_both 97 = .ok (.goto 4, 3) := by decide +kernel
theorem dX13_both_100 : decode cX13_both 100 = .ok (.iconst 0, 1) := by decide +kernel
theorem dX13_both_101 : decode cX13_both 101 = .ok (.ireturn, 1) := by decide +kernel
set_option maxHeartbeats 4000000 in
set_option maxRecDepth 100000 in
theorem B_X13_both {G : zG} {X : zX} {kd : kD} {N0 : Nat} (C : zCt G X 0 0 0 RX13 cX13_both 3) (hr : (zXh X).sig.returnType = (some .int)) : ∀ f : Nat,
    (∀ (S : aS) (v0 : Int32) (v1 : Int32) (v2 : Int32) (res : Option Value × aS), zT0 kd N0 S → F_X13_both f 0 [.int v0, .int v1, .int v2] S = some res → zV G X (zQX G X (zPo G kd N0 res) 0 0) 3 [some (.int v0), some (.int v1), some (.int v2)] [] (cn G kd N0 S) 0 0 0) := by
  intro f
  induction f with
  | zero => exact (fun _ _ _ _ _ _ h => by cases h)
  | succ f ih =>
    have ih0 := ih
    intro S v0 v1 v2 res hT  hF
    replace hF : F_X13_both_0 f (F_X13_both f) v0 v1 v2 S = some res := hF
    unfold F_X13_both_0 at hF
    refine z_iload_n C dX13_both_0 rfl ?_
    by_cases c2 : v0 = 4
    · replace hF := ip hF c2
      refine z_tabIn C 40 dX13_both_1 (by rw [c2]; decide) (by rw [c2]; decide) (off := 39) (by rw [c2]; rfl) (by decide) ?_
      refine z_iload_n C dX13_both_40 rfl ?_
      refine z_iload_n C dX13_both_41 rfl ?_
      refine z_iadd C dX13_both_42 ?_
      cases hF
      exact z_iret C hr dX13_both_43 ⟨rfl, rfl, hT⟩
    replace hF := im hF c2
    by_cases c3 : v0 = 5
    · replace hF := ip hF c3
      refine z_tabIn C 44 dX13_both_1 (by rw [c3]; decide) (by rw [c3]; decide) (off := 43) (by rw [c3]; rfl) (by decide) ?_
      refine z_iload_n C dX13_both_44 rfl ?_
      refine z_iload_n C dX13_both_45 rfl ?_
      refine z_isub C dX13_both_46 ?_
      cases hF
      exact z_iret C hr dX13_both_47 ⟨rfl, rfl, hT⟩
    replace hF := im hF c3
    by_cases c4 : v0 = 6
    · replace hF := ip hF c4
      refine z_tabIn C 48 dX13_both_1 (by rw [c4]; decide) (by rw [c4]; decide) (off := 47) (by rw [c4]; rfl) (by decide) ?_
      refine z_iload_n C dX13_both_48 rfl ?_
      refine z_iload_n C dX13_both_49 rfl ?_
      refine z_imul C dX13_both_50 ?_
      cases hF
      exact z_iret C hr dX13_both_51 ⟨rfl, rfl, hT⟩
    replace hF := im hF c4
    by_cases c7 : v0 = 7
    · replace hF := ip hF c7
      refine z_tabIn C 52 dX13_both_1 (by rw [c7]; decide) (by rw [c7]; decide) (off := 51) (by rw [c7]; rfl) (by decide) ?_
      refine z_iload_n C dX13_both_52 rfl ?_
      refine z_iload_n C dX13_both_53 rfl ?_
      have hJ6 : zV G X (zQX G X (zPo G kd N0 res) 0 0) 3 [some (.int v0), some (.int v1), some (.int v2)] [.int (if v2 ≤ v1 then (0 : Int32) else (1 : Int32))] (cn G kd N0 S) 62 0 0 := by
        cases hF
        exact z_iret C hr dX13_both_62 ⟨rfl, rfl, hT⟩
      refine z_icmp_ge C 61 dX13_both_54 (by decide) (fun c5 => ?_) (fun c5 => ?_)
      · refine z_iconst (v := 0) C dX13_both_61 (by decide) ?_
        exact zV.at hJ6 (by first | rfl | contradiction | (simp only [if_pos c5]; done)) (by first | rfl | contradiction | (simp only [if_pos c5]; done)) rfl rfl
      · refine z_iconst (v := 1) C dX13_both_57 (by decide) ?_
        refine z_goto C 62 dX13_both_58 (by decide) ?_
        exact zV.at hJ6 (by first | rfl | contradiction | (simp only [if_neg c5]; done)) (by first | rfl | contradiction | (simp only [if_neg c5]; done)) rfl rfl
    replace hF := im hF c7
    by_cases c10 : v0 = 8
    · replace hF := ip hF c10
      refine z_tabIn C 63 dX13_both_1 (by rw [c10]; decide) (by rw [c10]; decide) (off := 62) (by rw [c10]; rfl) (by decide) ?_
      refine z_iload_n C dX13_both_63 rfl ?_
      refine z_iload_n C dX13_both_64 rfl ?_
      have hJ9 : zV G X (zQX G X (zPo G kd N0 res) 0 0) 3 [some (.int v0), some (.int v1), some (.int v2)] [.int (if v1 = v2 then (1 : Int32) else (0 : Int32))] (cn G kd N0 S) 73 0 0 := by
        cases hF
        exact z_iret C hr dX13_both_73 ⟨rfl, rfl, hT⟩
      refine z_icmp_ne C 72 dX13_both_65 (by decide) (fun c8 => ?_) (fun c8 => ?_)
      · refine z_iconst (v := 0) C dX13_both_72 (by decide) ?_
        exact zV.at hJ9 (by first | rfl | contradiction | (simp only [if_neg c8]; done)) (by first | rfl | contradiction | (simp only [if_neg c8]; done)) rfl rfl
      · refine z_iconst (v := 1) C dX13_both_68 (by decide) ?_
        refine z_goto C 73 dX13_both_69 (by decide) ?_
        exact zV.at hJ9 (by first | rfl | contradiction | (simp only [if_pos c8]; done)) (by first | rfl | contradiction | (simp only [if_pos c8]; done)) rfl rfl
    replace hF := im hF c10
    by_cases c14 : v0 = 9
    · replace hF := ip hF c14
      refine z_tabIn C 74 dX13_both_1 (by rw [c14]; decide) (by rw [c14]; decide) (off := 73) (by rw [c14]; rfl) (by decide) ?_
      refine z_iload_n C dX13_both_74 rfl ?_
      have hJ13 : zV G X (zQX G X (zPo G kd N0 res) 0 0) 3 [some (.int v0), some (.int v1), some (.int v2)] [.int (if v1 = (0 : Int32) then (0 : Int32) else if v2 = (0 : Int32) then (0 : Int32) else (1 : Int32))] (cn G kd N0 S) 87 0 0 := by
        cases hF
        exact z_iret C hr dX13_both_87 ⟨rfl, rfl, hT⟩
      refine z_if_eq C 86 dX13_both_75 (by decide) (fun c11 => ?_) (fun c11 => ?_)
      · refine z_iconst (v := 0) C dX13_both_86 (by decide) ?_
        exact zV.at hJ13 (by first | rfl | contradiction | (simp only [if_pos c11]; done)) (by first | rfl | contradiction | (simp only [if_pos c11]; done)) rfl rfl
      · refine z_iload_n C dX13_both_78 rfl ?_
        refine z_if_eq C 86 dX13_both_79 (by decide) (fun c12 => ?_) (fun c12 => ?_)
        · refine z_iconst (v := 0) C dX13_both_86 (by decide) ?_
          exact zV.at hJ13 (by first | rfl | contradiction | (simp only [if_neg c11, if_pos c12]; done)) (by first | rfl | contradiction | (simp only [if_neg c11, if_pos c12]; done)) rfl rfl
        · refine z_iconst (v := 1) C dX13_both_82 (by decide) ?_
          refine z_goto C 87 dX13_both_83 (by decide) ?_
          exact zV.at hJ13 (by first | rfl | contradiction | (simp only [if_neg c11, if_neg c12]; done)) (by first | rfl | contradiction | (simp only [if_neg c11, if_neg c12]; done)) rfl rfl
    replace hF := im hF c14
    refine z_tabOut C 88 dX13_both_1 (f_tabOut (fun v h1 h2 e => by
      rcases (show v = 4 ∨ v = 5 ∨ v = 6 ∨ v = 7 ∨ v = 8 ∨ v = 9 by omega) with rfl | rfl | rfl | rfl | rfl | rfl
      · exact c2 (Int32.toInt_inj.mp (e.trans (by decide)))
      · exact c3 (Int32.toInt_inj.mp (e.trans (by decide)))
      · exact c4 (Int32.toInt_inj.mp (e.trans (by decide)))
      · exact c7 (Int32.toInt_inj.mp (e.trans (by decide)))
      · exact c10 (Int32.toInt_inj.mp (e.trans (by decide)))
      · exact c14 (Int32.toInt_inj.mp (e.trans (by decide))))) (by decide) ?_
    refine z_iload_n C dX13_both_88 rfl ?_
    have hJ17 : zV G X (zQX G X (zPo G kd N0 res) 0 0) 3 [some (.int v0), some (.int v1), some (.int v2)] [.int (if v1 = (0 : Int32) then if v2 = (0 : Int32) then (0 : Int32) else (1 : Int32) else (1 : Int32))] (cn G kd N0 S) 101 0 0 := by
      cases hF
      exact z_iret C hr dX13_both_101 ⟨rfl, rfl, hT⟩
    refine z_if_ne C 96 dX13_both_89 (by decide) (fun c15 => ?_) (fun c15 => ?_)
    · refine z_iconst (v := 1) C dX13_both_96 (by decide) ?_
      refine z_goto C 101 dX13_both_97 (by decide) ?_
      exact zV.at hJ17 (by first | rfl | contradiction | (simp only [if_neg c15]; done)) (by first | rfl | contradiction | (simp only [if_neg c15]; done)) rfl rfl
    · refine z_iload_n C dX13_both_92 rfl ?_
      refine z_if_eq C 100 dX13_both_93 (by decide) (fun c16 => ?_) (fun c16 => ?_)
      · refine z_iconst (v := 0) C dX13_both_100 (by decide) ?_
        exact zV.at hJ17 (by first | rfl | contradiction | (simp only [if_pos c15, if_pos c16]; done)) (by first | rfl | contradiction | (simp only [if_pos c15, if_pos c16]; done)) rfl rfl
      · refine z_iconst (v := 1) C dX13_both_96 (by decide) ?_
        refine z_goto C 101 dX13_both_97 (by decide) ?_
        exact zV.at hJ17 (by first | rfl | contradiction | (simp only [if_pos c15, if_neg c16]; done)) (by first | rfl | contradiction | (simp only [if_pos c15, if_neg c16]; done)) rfl rfl
theorem K_X13_both {G : zG} {l : Launch} {kd : kD} {N0 f : Nat} {S : aS} {v0 : Int32} {v1 : Int32} {v2 : Int32} {res : Option Value × aS} (hT : zT0 kd N0 S)  (hF : F_X13_both f 0 [.int v0, .int v1, .int v2] S = some res) : zM G l 0 0 0 yX13_both cX13_both 3 (some .int) [.int v0, .int v1, .int v2] (cn G kd N0 S) (zPo G kd N0 res) := zM.of (by decide) rfl (Nat.le_of_ble_eq_true rfl) (fun X _ C hr _ => (B_X13_both C hr f) S v0 v1 v2 res hT  hF)
def F_X13_copies_0 (f : Nat) (rc : Nat → List Value → aS → aR) (v0 : Nat) (v1 : Int32) (v2 : Int32) (v3 : Int32) (S : aS) : aR :=
  rc 1 [.ref v0, .int v1, .int v2, .int v3, .int 0] S
def F_X13_copies_1 (f : Nat) (rc : Nat → List Value → aS → aR) (v0 : Nat) (v1 : Int32) (v2 : Int32) (v3 : Int32) (v4 : Int32) (S : aS) : aR :=
  if v3 ≤ v4 then some (none, S) else bX (v1 + v4) 828 fun q7 => bX (v2 + v4) 828 fun q8 => fS (sI S (gR S v0 22) q8 (gI S (gR S v0 22) q7)) fun S9 => rc 1 [.ref v0, .int v1, .int v2, .int v3, .int (v4 + 1)] S9
def F_X13_copies : Nat → Nat → List Value → aS → aR
  | 0, _, _, _ => none
  | f + 1, 0, vs, S => F_X13_copies_0 f (F_X13_copies f) (vR vs 0) (vI vs 1) (vI vs 2) (vI vs 3) S
  | f + 1, 1, vs, S => F_X13_copies_1 f (F_X13_copies f) (vR vs 0) (vI vs 1) (vI vs 2) (vI vs 3) (vI vs 4) S
  | _ + 1, _, _, _ => none
theorem dX13_copies_0 : decode cX13_copies 0 = .ok (.iconst 0, 1) := by decide +kernel
theorem dX13_copies_1 : decode cX13_copies 1 = .ok (.istore 4, 2) := by decide +kernel
theorem dX13_copies_3 : decode cX13_copies 3 = .ok (.iload 4, 2) := by decide +kernel
theorem dX13_copies_5 : decode cX13_copies 5 = .ok (.iload_n 3, 1) := by decide +kernel
theorem dX13_copies_6 : decode cX13_copies 6 = .ok (.if_icmp .ge 27, 3) := by decide +kernel
theorem dX13_copies_9 : decode cX13_copies 9 = .ok (.aload_n 0, 1) := by decide +kernel
theorem dX13_copies_10 : decode cX13_copies 10 = .ok (.getfield 119, 3) := by decide +kernel
theorem dX13_copies_13 : decode cX13_copies 13 = .ok (.iload_n 2, 1) := by decide +kernel
theorem dX13_copies_14 : decode cX13_copies 14 = .ok (.iload 4, 2) := by decide +kernel
theorem dX13_copies_16 : decode cX13_copies 16 = .ok (.iadd, 1) := by decide +kernel
theorem dX13_copies_17 : decode cX13_copies 17 = .ok (.aload_n 0, 1) := by decide +kernel
theorem dX13_copies_18 : decode cX13_copies 18 = .ok (.getfield 119, 3) := by decide +kernel
theorem dX13_copies_21 : decode cX13_copies 21 = .ok (.iload_n 1, 1) := by decide +kernel
theorem dX13_copies_22 : decode cX13_copies 22 = .ok (.iload 4, 2) := by decide +kernel
theorem dX13_copies_24 : decode cX13_copies 24 = .ok (.iadd, 1) := by decide +kernel
theorem dX13_copies_25 : decode cX13_copies 25 = .ok (.iaload, 1) := by decide +kernel
theorem dX13_copies_26 : decode cX13_copies 26 = .ok (.iastore, 1) := by decide +kernel
theorem dX13_copies_27 : decode cX13_copies 27 = .ok (.iinc 4 1, 3) := by decide +kernel
theorem dX13_copies_30 : decode cX13_copies 30 = .ok (.goto (-27), 3) := by decide +kernel
theorem dX13_copies_33 : decode cX13_copies 33 = .ok (.return_, 1) := by decide +kernel
set_option maxHeartbeats 4000000 in
set_option maxRecDepth 100000 in
theorem B_X13_copies {G : zG} {X : zX} {kd : kD} {N0 : Nat} (C : zCt G X 0 0 0 RX13 cX13_copies 5) (hr : (zXh X).sig.returnType = none) : ∀ f : Nat,
    (∀ (S : aS) (v0 : Nat) (v1 : Int32) (v2 : Int32) (v3 : Int32) (res : Option Value × aS), zT0 kd N0 S → v0 < N0 → kd v0 = .inl 11 → F_X13_copies f 0 [.ref v0, .int v1, .int v2, .int v3] S = some res → zV G X (zQX G X (zPo G kd N0 res) 0 0) 5 [some (.ref (zB G + v0)), some (.int v1), some (.int v2), some (.int v3), none] [] (cn G kd N0 S) 0 0 0) ∧
    (∀ (S : aS) (v0 : Nat) (v1 : Int32) (v2 : Int32) (v3 : Int32) (v4 : Int32) (res : Option Value × aS), zT0 kd N0 S → v0 < N0 → kd v0 = .inl 11 → F_X13_copies f 1 [.ref v0, .int v1, .int v2, .int v3, .int v4] S = some res → zV G X (zQX G X (zPo G kd N0 res) 0 0) 5 [some (.ref (zB G + v0)), some (.int v1), some (.int v2), some (.int v3), some (.int v4)] [] (cn G kd N0 S) 3 0 0) := by
  intro f
  induction f with
  | zero => exact ⟨(fun _ _ _ _ _ _ _ _ _ h => by cases h), (fun _ _ _ _ _ _ _ _ _ _ h => by cases h)⟩
  | succ f ih =>
    obtain ⟨ih0, ih1⟩ := ih
    refine ⟨?_, ?_⟩
    · intro S v0 v1 v2 v3 res hT hpv0 hkv0 hF
      replace hF : F_X13_copies_0 f (F_X13_copies f) v0 v1 v2 v3 S = some res := hF
      unfold F_X13_copies_0 at hF
      refine z_iconst (v := 0) C dX13_copies_0 (by decide) ?_
      refine z_istore (lv2 := [some (.ref (zB G + v0)), some (.int v1), some (.int v2), some (.int v3), some (.int 0)]) C dX13_copies_1 (by decide) rfl ?_
      exact ih1 S v0 v1 v2 v3 0 res hT hpv0 hkv0     hF
    · intro S v0 v1 v2 v3 v4 res hT hpv0 hkv0 hF
      replace hF : F_X13_copies_1 f (F_X13_copies f) v0 v1 v2 v3 v4 S = some res := hF
      unfold F_X13_copies_1 at hF
      refine z_iload C dX13_copies_3 rfl ?_
      refine z_iload_n C dX13_copies_5 rfl ?_
      refine z_icmp_ge C 33 dX13_copies_6 (by decide) (fun c4 => ?_) (fun c4 => ?_)
      · replace hF := ip hF c4
        cases hF
        exact z_vret C hr dX13_copies_33 ⟨rfl, rfl, hT⟩
      · replace hF := im hF c4
        refine z_aload_n C dX13_copies_9 rfl ?_
        refine f_getr C dX13_copies_10 zfRX13_119 hpv0 hkv0 rfl ?_
        obtain ⟨hp5, hk5⟩ := hT.1 v0 11 22 (.inr (0, 828)) hpv0 hkv0 rfl
        refine z_iload_n C dX13_copies_13 rfl ?_
        refine z_iload C dX13_copies_14 rfl ?_
        refine z_iadd C dX13_copies_16 ?_
        refine z_aload_n C dX13_copies_17 rfl ?_
        refine f_getr C dX13_copies_18 zfRX13_119 hpv0 hkv0 rfl ?_
        obtain ⟨hp6, hk6⟩ := hT.1 v0 11 22 (.inr (0, 828)) hpv0 hkv0 rfl
        refine z_iload_n C dX13_copies_21 rfl ?_
        refine z_iload C dX13_copies_22 rfl ?_
        refine z_iadd C dX13_copies_24 ?_
        obtain ⟨hi7, hF⟩ := bX_some hF
        obtain ⟨q7, eq7⟩ : ∃ q : Nat, q = Int32.toNatClampNeg (v1 + v4) := ⟨_, rfl⟩
        rw [← eq7] at hF
        refine f_iald C dX13_copies_25 hp6 hk6 hi7 ?_
        rw [← eq7]
        obtain ⟨hi8, hF⟩ := bX_some hF
        obtain ⟨q8, eq8⟩ : ∃ q : Nat, q = Int32.toNatClampNeg (v2 + v4) := ⟨_, rfl⟩
        rw [← eq8] at hF
        refine f_iast C dX13_copies_26 hp5 hk5 hi8 ?_
        rw [← eq8]
        have hT9 : zT0 kd N0 (sI S (gR S v0 22) q8 (gI S (gR S v0 22) q7)) := zT0_sI hT
        replace hF := fS_e hF
        generalize sI S (gR S v0 22) q8 (gI S (gR S v0 22) q7) = S9 at hF hT9 ⊢
        refine z_iinc (v := v4 + 1) (lv2 := [some (.ref (zB G + v0)), some (.int v1), some (.int v2), some (.int v3), some (.int (v4 + 1))]) C dX13_copies_27 rfl (by rw [show Int32.ofInt 1 = (1 : Int32) from by decide]) rfl ?_
        refine z_goto C 3 dX13_copies_30 (by decide) ?_
        exact ih1 S9 v0 v1 v2 v3 (v4 + 1) res hT9 hpv0 hkv0     hF
theorem K_X13_copies {G : zG} {l : Launch} {kd : kD} {N0 f : Nat} {S : aS} {v0 : Nat} {v1 : Int32} {v2 : Int32} {v3 : Int32} {res : Option Value × aS} (hT : zT0 kd N0 S) (hpv0 : v0 < N0) (hkv0 : kd v0 = .inl 11) (hF : F_X13_copies f 0 [.ref v0, .int v1, .int v2, .int v3] S = some res) : zM G l 0 0 0 yX13_copies cX13_copies 5 none [.ref (zB G + v0), .int v1, .int v2, .int v3] (cn G kd N0 S) (zPo G kd N0 res) := zM.of (by decide) rfl (Nat.le_of_ble_eq_true rfl) (fun X _ C hr _ => (B_X13_copies C hr f).1 S v0 v1 v2 v3 res hT hpv0 hkv0 hF)
def F_X13_keeps_0 (f : Nat) (rc : Nat → List Value → aS → aR) (v0 : Nat) (S : aS) : aR :=
  if (gI S v0 23) = (16 : Int32) then rc 2 [.ref v0, .int 1] S else rc 1 [.ref v0] S
def F_X13_keeps_1 (f : Nat) (rc : Nat → List Value → aS → aR) (v0 : Nat) (S : aS) : aR :=
  bV (F_X13_copies f 0 [.ref v0, .int 0, .int ((36 : Int32) * ((5 : Int32) + (gI S v0 23))), .int 28] S) fun S4 => fS (sI S4 v0 23 ((gI S4 v0 23) + (1 : Int32))) fun S5 => some (none, S5)
def F_X13_keeps_2 (f : Nat) (rc : Nat → List Value → aS → aR) (v0 : Nat) (v1 : Int32) (S : aS) : aR :=
  if (16 : Int32) ≤ v1 then fS (sI S v0 23 ((gI S v0 23) - (1 : Int32))) fun S8 => rc 1 [.ref v0] S8 else bV (F_X13_copies f 0 [.ref v0, .int ((36 : Int32) * ((5 : Int32) + v1)), .int ((36 : Int32) * (((5 : Int32) + v1) - (1 : Int32))), .int 28] S) fun S9 => rc 2 [.ref v0, .int (v1 + 1)] S9
def F_X13_keeps : Nat → Nat → List Value → aS → aR
  | 0, _, _, _ => none
  | f + 1, 0, vs, S => F_X13_keeps_0 f (F_X13_keeps f) (vR vs 0) S
  | f + 1, 1, vs, S => F_X13_keeps_1 f (F_X13_keeps f) (vR vs 0) S
  | f + 1, 2, vs, S => F_X13_keeps_2 f (F_X13_keeps f) (vR vs 0) (vI vs 1) S
  | _ + 1, _, _, _ => none
theorem dX13_keeps_0 : decode cX13_keeps 0 = .ok (.aload_n 0, 1) := by decide +kernel
theorem dX13_keeps_1 : decode cX13_keeps 1 = .ok (.getfield 285, 3) := by decide +kernel
theorem dX13_keeps_4 : decode cX13_keeps 4 = .ok (.bipush 16, 2) := by decide +kernel
theorem dX13_keeps_6 : decode cX13_keeps 6 = .ok (.if_icmp .ne 47, 3) := by decide +kernel
theorem dX13_keeps_9 : decode cX13_keeps 9 = .ok (.iconst 1, 1) := by decide +kernel
theorem dX13_keeps_10 : decode cX13_keeps 10 = .ok (.istore_n 1, 1) := by decide +kernel
theorem dX13_keeps_11 : decode cX13_keeps 11 = .ok (.iload_n 1, 1) := by decide +kernel
theorem dX13_keeps_12 : decode cX13_keeps 12 = .ok (.bipush 16, 2) := by decide +kernel
theorem dX13_keeps_14 : decode cX13_keeps 14 = .ok (.if_icmp .ge 29, 3) := by decide +kernel
theorem dX13_keeps_17 : decode cX13_keeps 17 = .ok (.aload_n 0, 1) := by decide +kernel
theorem dX13_keeps_18 : decode cX13_keeps 18 = .ok (.bipush 36, 2) := by decide +kernel
theorem dX13_keeps_20 : decode cX13_keeps 20 = .ok (.iconst 5, 1) := by decide +kernel
theorem dX13_keeps_21 : decode cX13_keeps 21 = .ok (.iload_n 1, 1) := by decide +kernel
theorem dX13_keeps_22 : decode cX13_keeps 22 = .ok (.iadd, 1) := by decide +kernel
theorem dX13_keeps_23 : decode cX13_keeps 23 = .ok (.imul, 1) := by decide +kernel
theorem dX13_keeps_24 : decode cX13_keeps 24 = .ok (.bipush 36, 2) := by decide +kernel
theorem dX13_keeps_26 : decode cX13_keeps 26 = .ok (.iconst 5, 1) := by decide +kernel
theorem dX13_keeps_27 : decode cX13_keeps 27 = .ok (.iload_n 1, 1) := by decide +kernel
theorem dX13_keeps_28 : decode cX13_keeps 28 = .ok (.iadd, 1) := by decide +kernel
theorem dX13_keeps_29 : decode cX13_keeps 29 = .ok (.iconst 1, 1) := by decide +kernel
theorem dX13_keeps_30 : decode cX13_keeps 30 = .ok (.isub, 1) := by decide +kernel
theorem dX13_keeps_31 : decode cX13_keeps 31 = .ok (.imul, 1) := by decide +kernel
theorem dX13_keeps_32 : decode cX13_keeps 32 = .ok (.bipush 28, 2) := by decide +kernel
theorem dX13_keeps_34 : decode cX13_keeps 34 = .ok (.invokevirtual 288, 3) := by decide +kernel
theorem dX13_keeps_37 : decode cX13_keeps 37 = .ok (.iinc 1 1, 3) := by decide +kernel
theorem dX13_keeps_40 : decode cX13_keeps 40 = .ok (.goto (-29), 3) := by decide +kernel
theorem dX13_keeps_43 : decode cX13_keeps 43 = .ok (.aload_n 0, 1) := by decide +kernel
theorem dX13_keeps_44 : decode cX13_keeps 44 = .ok (.dup, 1) := by decide +kernel
theorem dX13_keeps_45 : decode cX13_keeps 45 = .ok (.getfield 285, 3) := by decide +kernel
theorem dX13_keeps_48 : decode cX13_keeps 48 = .ok (.iconst 1, 1) := by decide +kernel
theorem dX13_keeps_49 : decode cX13_keeps 49 = .ok (.isub, 1) := by decide +kernel
theorem dX13_keeps_50 : decode cX13_keeps 50 = .ok (.putfield 285, 3) := by decide +kernel
theorem dX13_keeps_53 : decode cX13_keeps 53 = .ok (.aload_n 0, 1) := by decide +kernel
theorem dX13_keeps_54 : decode cX13_keeps 54 = .ok (.iconst 0, 1) := by decide +kernel
theorem dX13_keeps_55 : decode cX13_keeps 55 = .ok (.bipush 36, 2) := by decide +kernel
theorem dX13_keeps_57 : decode cX13_keeps 57 = .ok (.iconst 5, 1) := by decide +kernel
theorem dX13_keeps_58 : decode cX13_keeps 58 = .ok (.aload_n 0, 1) := by decide +kernel
theorem dX13_keeps_59 : decode cX13_keeps 59 = .ok (.getfield 285, 3) := by decide +kernel
theorem dX13_keeps_62 : decode cX13_keeps 62 = .ok (.iadd, 1) := by decide +kernel
theorem dX13_keeps_63 : decode cX13_keeps 63 = .ok (.imul, 1) := by decide +kernel
theorem dX13_keeps_64 : decode cX13_keeps 64 = .ok (.bipush 28, 2) := by decide +kernel
theorem dX13_keeps_66 : decode cX13_keeps 66 = .ok (.invokevirtual 288, 3) := by decide +kernel
theorem dX13_keeps_69 : decode cX13_keeps 69 = .ok (.aload_n 0, 1) := by decide +kernel
theorem dX13_keeps_70 : decode cX13_keeps 70 = .ok (.dup, 1) := by decide +kernel
theorem dX13_keeps_71 : decode cX13_keeps 71 = .ok (.getfield 285, 3) := by decide +kernel
theorem dX13_keeps_74 : decode cX13_keeps 74 = .ok (.iconst 1, 1) := by decide +kernel
theorem dX13_keeps_75 : decode cX13_keeps 75 = .ok (.iadd, 1) := by decide +kernel
theorem dX13_keeps_76 : decode cX13_keeps 76 = .ok (.putfield 285, 3) := by decide +kernel
theorem dX13_keeps_79 : decode cX13_keeps 79 = .ok (.return_, 1) := by decide +kernel
set_option maxHeartbeats 4000000 in
set_option maxRecDepth 100000 in
theorem B_X13_keeps {G : zG} {X : zX} {kd : kD} {N0 : Nat} (C : zCt G X 1 0 0 RX13 cX13_keeps 2) (hr : (zXh X).sig.returnType = none) : ∀ f : Nat,
    (∀ (S : aS) (v0 : Nat) (res : Option Value × aS), zT0 kd N0 S → v0 < N0 → kd v0 = .inl 11 → F_X13_keeps f 0 [.ref v0] S = some res → zV G X (zQX G X (zPo G kd N0 res) 0 0) 2 [some (.ref (zB G + v0)), none] [] (cn G kd N0 S) 0 0 0) ∧
    (∀ (S : aS) (v0 : Nat) (res : Option Value × aS), zT0 kd N0 S → v0 < N0 → kd v0 = .inl 11 → F_X13_keeps f 1 [.ref v0] S = some res → zV G X (zQX G X (zPo G kd N0 res) 0 0) 2 [some (.ref (zB G + v0)), none] [] (cn G kd N0 S) 53 0 0) ∧
    (∀ (S : aS) (v0 : Nat) (v1 : Int32) (res : Option Value × aS), zT0 kd N0 S → v0 < N0 → kd v0 = .inl 11 → F_X13_keeps f 2 [.ref v0, .int v1] S = some res → zV G X (zQX G X (zPo G kd N0 res) 0 0) 2 [some (.ref (zB G + v0)), some (.int v1)] [] (cn G kd N0 S) 11 0 0) := by
  intro f
  induction f with
  | zero => exact ⟨(fun _ _ _ _ _ _ h => by cases h), (fun _ _ _ _ _ _ h => by cases h), (fun _ _ _ _ _ _ _ h => by cases h)⟩
  | succ f ih =>
    obtain ⟨ih0, ih1, ih2⟩ := ih
    refine ⟨?_, ?_, ?_⟩
    · intro S v0 res hT hpv0 hkv0 hF
      replace hF : F_X13_keeps_0 f (F_X13_keeps f) v0 S = some res := hF
      unfold F_X13_keeps_0 at hF
      refine z_aload_n C dX13_keeps_0 rfl ?_
      refine f_geti C dX13_keeps_1 zfRX13_285 hpv0 hkv0 rfl ?_
      refine z_bipush (v := 16) C dX13_keeps_4 (by decide) ?_
      refine z_icmp_ne C 53 dX13_keeps_6 (by decide) (fun c3 => ?_) (fun c3 => ?_)
      · replace hF := im hF c3
        exact ih1 S v0 res hT hpv0 hkv0 hF
      · replace hF := ip hF c3
        refine z_iconst (v := 1) C dX13_keeps_9 (by decide) ?_
        refine z_istore_n (lv2 := [some (.ref (zB G + v0)), some (.int 1)]) C dX13_keeps_10 (by decide) rfl ?_
        exact ih2 S v0 1 res hT hpv0 hkv0  hF
    · intro S v0 res hT hpv0 hkv0 hF
      replace hF : F_X13_keeps_1 f (F_X13_keeps f) v0 S = some res := hF
      unfold F_X13_keeps_1 at hF
      refine z_aload_n C dX13_keeps_53 rfl ?_
      refine z_iconst (v := 0) C dX13_keeps_54 (by decide) ?_
      refine z_bipush (v := 36) C dX13_keeps_55 (by decide) ?_
      refine z_iconst (v := 5) C dX13_keeps_57 (by decide) ?_
      refine z_aload_n C dX13_keeps_58 rfl ?_
      refine f_geti C dX13_keeps_59 zfRX13_285 hpv0 hkv0 rfl ?_
      refine z_iadd C dX13_keeps_62 ?_
      refine z_imul C dX13_keeps_63 ?_
      refine z_bipush (v := 28) C dX13_keeps_64 (by decide) ?_
      obtain ⟨S4, h4, hF⟩ := bV_some hF
      refine f_cV (st2 := []) C dX13_keeps_66 zyX13_copies zvX13_copies lkRX13_288 (K_X13_copies (l := zXl X) hT hpv0 hkv0    h4) hpv0 hkv0 rfl (by decide) rfl rfl (Nat.le_of_ble_eq_true rfl) rfl (fun hT4 => ?_)
      refine z_aload_n C dX13_keeps_69 rfl ?_
      refine z_dup C dX13_keeps_70 rfl ?_
      refine f_geti C dX13_keeps_71 zfRX13_285 hpv0 hkv0 rfl ?_
      refine z_iconst (v := 1) C dX13_keeps_74 (by decide) ?_
      refine z_iadd C dX13_keeps_75 ?_
      refine f_puti C dX13_keeps_76 zfRX13_285 fw11_23 hpv0 hkv0 rfl rfl rfl ?_
      have hT5 : zT0 kd N0 (sI S4 v0 23 ((gI S4 v0 23) + (1 : Int32))) := zT0_sI hT4
      replace hF := fS_e hF
      generalize sI S4 v0 23 ((gI S4 v0 23) + (1 : Int32)) = S5 at hF hT5 ⊢
      cases hF
      exact z_vret C hr dX13_keeps_79 ⟨rfl, rfl, hT5⟩
    · intro S v0 v1 res hT hpv0 hkv0 hF
      replace hF : F_X13_keeps_2 f (F_X13_keeps f) v0 v1 S = some res := hF
      unfold F_X13_keeps_2 at hF
      refine z_iload_n C dX13_keeps_11 rfl ?_
      refine z_bipush (v := 16) C dX13_keeps_12 (by decide) ?_
      refine z_icmp_ge C 43 dX13_keeps_14 (by decide) (fun c7 => ?_) (fun c7 => ?_)
      · replace hF := ip hF c7
        refine z_aload_n C dX13_keeps_43 rfl ?_
        refine z_dup C dX13_keeps_44 rfl ?_
        refine f_geti C dX13_keeps_45 zfRX13_285 hpv0 hkv0 rfl ?_
        refine z_iconst (v := 1) C dX13_keeps_48 (by decide) ?_
        refine z_isub C dX13_keeps_49 ?_
        refine f_puti C dX13_keeps_50 zfRX13_285 fw11_23 hpv0 hkv0 rfl rfl rfl ?_
        have hT8 : zT0 kd N0 (sI S v0 23 ((gI S v0 23) - (1 : Int32))) := zT0_sI hT
        replace hF := fS_e hF
        generalize sI S v0 23 ((gI S v0 23) - (1 : Int32)) = S8 at hF hT8 ⊢
        refine z_mask [true, false] ?_ rfl
        exact ih1 S8 v0 res hT8 hpv0 hkv0 hF
      · replace hF := im hF c7
        refine z_aload_n C dX13_keeps_17 rfl ?_
        refine z_bipush (v := 36) C dX13_keeps_18 (by decide) ?_
        refine z_iconst (v := 5) C dX13_keeps_20 (by decide) ?_
        refine z_iload_n C dX13_keeps_21 rfl ?_
        refine z_iadd C dX13_keeps_22 ?_
        refine z_imul C dX13_keeps_23 ?_
        refine z_bipush (v := 36) C dX13_keeps_24 (by decide) ?_
        refine z_iconst (v := 5) C dX13_keeps_26 (by decide) ?_
        refine z_iload_n C dX13_keeps_27 rfl ?_
        refine z_iadd C dX13_keeps_28 ?_
        refine z_iconst (v := 1) C dX13_keeps_29 (by decide) ?_
        refine z_isub C dX13_keeps_30 ?_
        refine z_imul C dX13_keeps_31 ?_
        refine z_bipush (v := 28) C dX13_keeps_32 (by decide) ?_
        obtain ⟨S9, h9, hF⟩ := bV_some hF
        refine f_cV (st2 := []) C dX13_keeps_34 zyX13_copies zvX13_copies lkRX13_288 (K_X13_copies (l := zXl X) hT hpv0 hkv0    h9) hpv0 hkv0 rfl (by decide) rfl rfl (Nat.le_of_ble_eq_true rfl) rfl (fun hT9 => ?_)
        refine z_iinc (v := v1 + 1) (lv2 := [some (.ref (zB G + v0)), some (.int (v1 + 1))]) C dX13_keeps_37 rfl (by rw [show Int32.ofInt 1 = (1 : Int32) from by decide]) rfl ?_
        refine z_goto C 11 dX13_keeps_40 (by decide) ?_
        exact ih2 S9 v0 (v1 + 1) res hT9 hpv0 hkv0  hF
theorem K_X13_keeps {G : zG} {l : Launch} {kd : kD} {N0 f : Nat} {S : aS} {v0 : Nat} {res : Option Value × aS} (hT : zT0 kd N0 S) (hpv0 : v0 < N0) (hkv0 : kd v0 = .inl 11) (hF : F_X13_keeps f 0 [.ref v0] S = some res) : zM G l 1 0 0 yX13_keeps cX13_keeps 2 none [.ref (zB G + v0)] (cn G kd N0 S) (zPo G kd N0 res) := zM.of (by decide) rfl (Nat.le_of_ble_eq_true rfl) (fun X _ C hr _ => (B_X13_keeps C hr f).1 S v0 res hT hpv0 hkv0 hF)
def F_X13_yards_0 (f : Nat) (rc : Nat → List Value → aS → aR) (v0 : Nat) (S : aS) : aR :=
  bX 0 140 fun q2 => some (some (.int (gI S (gR S v0 10) q2)), S)
def F_X13_yards : Nat → Nat → List Value → aS → aR
  | 0, _, _, _ => none
  | f + 1, 0, vs, S => F_X13_yards_0 f (F_X13_yards f) (vR vs 0) S
  | _ + 1, _, _, _ => none
theorem dX13_yards_0 : decode cX13_yards 0 = .ok (.aload_n 0, 1) := by decide +kernel
theorem dX13_yards_1 : decode cX13_yards 1 = .ok (.getfield 95, 3) := by decide +kernel
theorem dX13_yards_4 : decode cX13_yards 4 = .ok (.iconst 0, 1) := by decide +kernel
theorem dX13_yards_5 : decode cX13_yards 5 = .ok (.iaload, 1) := by decide +kernel
theorem dX13_yards_6 : decode cX13_yards 6 = .ok (.ireturn, 1) := by decide +kernel
set_option maxHeartbeats 4000000 in
set_option maxRecDepth 100000 in
theorem B_X13_yards {G : zG} {X : zX} {kd : kD} {N0 : Nat} (C : zCt G X 0 0 0 RX13 cX13_yards 1) (hr : (zXh X).sig.returnType = (some .int)) : ∀ f : Nat,
    (∀ (S : aS) (v0 : Nat) (res : Option Value × aS), zT0 kd N0 S → v0 < N0 → kd v0 = .inl 11 → F_X13_yards f 0 [.ref v0] S = some res → zV G X (zQX G X (zPo G kd N0 res) 0 0) 1 [some (.ref (zB G + v0))] [] (cn G kd N0 S) 0 0 0) := by
  intro f
  induction f with
  | zero => exact (fun _ _ _ _ _ _ h => by cases h)
  | succ f ih =>
    have ih0 := ih
    intro S v0 res hT hpv0 hkv0 hF
    replace hF : F_X13_yards_0 f (F_X13_yards f) v0 S = some res := hF
    unfold F_X13_yards_0 at hF
    refine z_aload_n C dX13_yards_0 rfl ?_
    refine f_getr C dX13_yards_1 zfRX13_95 hpv0 hkv0 rfl ?_
    obtain ⟨hp1, hk1⟩ := hT.1 v0 11 10 (.inr (0, 140)) hpv0 hkv0 rfl
    refine z_iconst (v := 0) C dX13_yards_4 (by decide) ?_
    obtain ⟨hi2, hF⟩ := bX_some hF
    obtain ⟨q2, eq2⟩ : ∃ q : Nat, q = Int32.toNatClampNeg 0 := ⟨_, rfl⟩
    rw [← eq2] at hF
    refine f_iald C dX13_yards_5 hp1 hk1 hi2 ?_
    rw [← eq2]
    cases hF
    exact z_iret C hr dX13_yards_6 ⟨rfl, rfl, hT⟩
theorem K_X13_yards {G : zG} {l : Launch} {kd : kD} {N0 f : Nat} {S : aS} {v0 : Nat} {res : Option Value × aS} (hT : zT0 kd N0 S) (hpv0 : v0 < N0) (hkv0 : kd v0 = .inl 11) (hF : F_X13_yards f 0 [.ref v0] S = some res) : zM G l 0 0 0 yX13_yards cX13_yards 1 (some .int) [.ref (zB G + v0)] (cn G kd N0 S) (zPo G kd N0 res) := zM.of (by decide) rfl (Nat.le_of_ble_eq_true rfl) (fun X _ C hr _ => (B_X13_yards C hr f) S v0 res hT hpv0 hkv0 hF)
def F_X13_people_0 (f : Nat) (rc : Nat → List Value → aS → aR) (v0 : Nat) (S : aS) : aR :=
  bX 1 140 fun q2 => some (some (.int (gI S (gR S v0 10) q2)), S)
def F_X13_people : Nat → Nat → List Value → aS → aR
  | 0, _, _, _ => none
  | f + 1, 0, vs, S => F_X13_people_0 f (F_X13_people f) (vR vs 0) S
  | _ + 1, _, _, _ => none
theorem dX13_people_0 : decode cX13_people 0 = .ok (.aload_n 0, 1) := by decide +kernel
theorem dX13_people_1 : decode cX13_people 1 = .ok (.getfield 95, 3) := by decide +kernel
theorem dX13_people_4 : decode cX13_people 4 = .ok (.iconst 1, 1) := by decide +kernel
theorem dX13_people_5 : decode cX13_people 5 = .ok (.iaload, 1) := by decide +kernel
theorem dX13_people_6 : decode cX13_people 6 = .ok (.ireturn, 1) := by decide +kernel
set_option maxHeartbeats 4000000 in
set_option maxRecDepth 100000 in
theorem B_X13_people {G : zG} {X : zX} {kd : kD} {N0 : Nat} (C : zCt G X 0 0 0 RX13 cX13_people 1) (hr : (zXh X).sig.returnType = (some .int)) : ∀ f : Nat,
    (∀ (S : aS) (v0 : Nat) (res : Option Value × aS), zT0 kd N0 S → v0 < N0 → kd v0 = .inl 11 → F_X13_people f 0 [.ref v0] S = some res → zV G X (zQX G X (zPo G kd N0 res) 0 0) 1 [some (.ref (zB G + v0))] [] (cn G kd N0 S) 0 0 0) := by
  intro f
  induction f with
  | zero => exact (fun _ _ _ _ _ _ h => by cases h)
  | succ f ih =>
    have ih0 := ih
    intro S v0 res hT hpv0 hkv0 hF
    replace hF : F_X13_people_0 f (F_X13_people f) v0 S = some res := hF
    unfold F_X13_people_0 at hF
    refine z_aload_n C dX13_people_0 rfl ?_
    refine f_getr C dX13_people_1 zfRX13_95 hpv0 hkv0 rfl ?_
    obtain ⟨hp1, hk1⟩ := hT.1 v0 11 10 (.inr (0, 140)) hpv0 hkv0 rfl
    refine z_iconst (v := 1) C dX13_people_4 (by decide) ?_
    obtain ⟨hi2, hF⟩ := bX_some hF
    obtain ⟨q2, eq2⟩ : ∃ q : Nat, q = Int32.toNatClampNeg 1 := ⟨_, rfl⟩
    rw [← eq2] at hF
    refine f_iald C dX13_people_5 hp1 hk1 hi2 ?_
    rw [← eq2]
    cases hF
    exact z_iret C hr dX13_people_6 ⟨rfl, rfl, hT⟩
theorem K_X13_people {G : zG} {l : Launch} {kd : kD} {N0 f : Nat} {S : aS} {v0 : Nat} {res : Option Value × aS} (hT : zT0 kd N0 S) (hpv0 : v0 < N0) (hkv0 : kd v0 = .inl 11) (hF : F_X13_people f 0 [.ref v0] S = some res) : zM G l 0 0 0 yX13_people cX13_people 1 (some .int) [.ref (zB G + v0)] (cn G kd N0 S) (zPo G kd N0 res) := zM.of (by decide) rfl (Nat.le_of_ble_eq_true rfl) (fun X _ C hr _ => (B_X13_people C hr f) S v0 res hT hpv0 hkv0 hF)
def F_X13_personOf_0 (f : Nat) (rc : Nat → List Value → aS → aR) (v0 : Nat) (v1 : Int32) (v2 : Int32) (S : aS) : aR :=
  bX (((8 : Int32) + ((3 : Int32) * v1)) + v2) 140 fun q2 => some (some (.int (gI S (gR S v0 10) q2)), S)
def F_X13_personOf : Nat → Nat → List Value → aS → aR
  | 0, _, _, _ => none
  | f + 1, 0, vs, S => F_X13_personOf_0 f (F_X13_personOf f) (vR vs 0) (vI vs 1) (vI vs 2) S
  | _ + 1, _, _, _ => none
theorem dX13_personOf_0 : decode cX13_personOf 0 = .ok (.aload_n 0, 1) := by decide +kernel
theorem dX13_personOf_1 : decode cX13_personOf 1 = .ok (.getfield 95, 3) := by decide +kernel
theorem dX13_personOf_4 : decode cX13_personOf 4 = .ok (.bipush 8, 2) := by decide +kernel
theorem dX13_personOf_6 : decode cX13_personOf 6 = .ok (.iconst 3, 1) := by decide +kernel
theorem dX13_personOf_7 : decode cX13_personOf 7 = .ok (.iload_n 1, 1) := by decide +kernel
theorem dX13_personOf_8 : decode cX13_personOf 8 = .ok (.imul, 1) := by decide +kernel
theorem dX13_personOf_9 : decode cX13_personOf 9 = .ok (.iadd, 1) := by decide +kernel
theorem dX13_personOf_10 : decode cX13_personOf 10 = .ok (.iload_n 2, 1) := by decide +kernel
theorem dX13_personOf_11 : decode cX13_personOf 11 = .ok (.iadd, 1) := by decide +kernel
theorem dX13_personOf_12 : decode cX13_personOf 12 = .ok (.iaload, 1) := by decide +kernel
theorem dX13_personOf_13 : decode cX13_personOf 13 = .ok (.ireturn, 1) := by decide +kernel
set_option maxHeartbeats 4000000 in
set_option maxRecDepth 100000 in
theorem B_X13_personOf {G : zG} {X : zX} {kd : kD} {N0 : Nat} (C : zCt G X 0 0 0 RX13 cX13_personOf 3) (hr : (zXh X).sig.returnType = (some .int)) : ∀ f : Nat,
    (∀ (S : aS) (v0 : Nat) (v1 : Int32) (v2 : Int32) (res : Option Value × aS), zT0 kd N0 S → v0 < N0 → kd v0 = .inl 11 → F_X13_personOf f 0 [.ref v0, .int v1, .int v2] S = some res → zV G X (zQX G X (zPo G kd N0 res) 0 0) 3 [some (.ref (zB G + v0)), some (.int v1), some (.int v2)] [] (cn G kd N0 S) 0 0 0) := by
  intro f
  induction f with
  | zero => exact (fun _ _ _ _ _ _ _ _ h => by cases h)
  | succ f ih =>
    have ih0 := ih
    intro S v0 v1 v2 res hT hpv0 hkv0 hF
    replace hF : F_X13_personOf_0 f (F_X13_personOf f) v0 v1 v2 S = some res := hF
    unfold F_X13_personOf_0 at hF
    refine z_aload_n C dX13_personOf_0 rfl ?_
    refine f_getr C dX13_personOf_1 zfRX13_95 hpv0 hkv0 rfl ?_
    obtain ⟨hp1, hk1⟩ := hT.1 v0 11 10 (.inr (0, 140)) hpv0 hkv0 rfl
    refine z_bipush (v := 8) C dX13_personOf_4 (by decide) ?_
    refine z_iconst (v := 3) C dX13_personOf_6 (by decide) ?_
    refine z_iload_n C dX13_personOf_7 rfl ?_
    refine z_imul C dX13_personOf_8 ?_
    refine z_iadd C dX13_personOf_9 ?_
    refine z_iload_n C dX13_personOf_10 rfl ?_
    refine z_iadd C dX13_personOf_11 ?_
    obtain ⟨hi2, hF⟩ := bX_some hF
    obtain ⟨q2, eq2⟩ : ∃ q : Nat, q = Int32.toNatClampNeg (((8 : Int32) + ((3 : Int32) * v1)) + v2) := ⟨_, rfl⟩
    rw [← eq2] at hF
    refine f_iald C dX13_personOf_12 hp1 hk1 hi2 ?_
    rw [← eq2]
    cases hF
    exact z_iret C hr dX13_personOf_13 ⟨rfl, rfl, hT⟩
theorem K_X13_personOf {G : zG} {l : Launch} {kd : kD} {N0 f : Nat} {S : aS} {v0 : Nat} {v1 : Int32} {v2 : Int32} {res : Option Value × aS} (hT : zT0 kd N0 S) (hpv0 : v0 < N0) (hkv0 : kd v0 = .inl 11) (hF : F_X13_personOf f 0 [.ref v0, .int v1, .int v2] S = some res) : zM G l 0 0 0 yX13_personOf cX13_personOf 3 (some .int) [.ref (zB G + v0), .int v1, .int v2] (cn G kd N0 S) (zPo G kd N0 res) := zM.of (by decide) rfl (Nat.le_of_ble_eq_true rfl) (fun X _ C hr _ => (B_X13_personOf C hr f) S v0 v1 v2 res hT hpv0 hkv0 hF)
def F_X13_isYard_0 (f : Nat) (rc : Nat → List Value → aS → aR) (v0 : Nat) (v1 : Int32) (S : aS) : aR :=
  if v1 < (0 : Int32) then rc 1 [] S else bI (F_X13_yards f 0 [.ref v0] S) fun x3 S3 => bZ (if x3 ≤ v1 then (0 : Int32) else (1 : Int32)) (some (some (.int (if x3 ≤ v1 then (0 : Int32) else (1 : Int32))), S3))
def F_X13_isYard_1 (f : Nat) (rc : Nat → List Value → aS → aR)  (S : aS) : aR :=
  rc 2 [.int 0] S
def F_X13_isYard_2 (f : Nat) (rc : Nat → List Value → aS → aR) (w0 : Int32) (S : aS) : aR :=
  bZ w0 (some (some (.int w0), S))
def F_X13_isYard : Nat → Nat → List Value → aS → aR
  | 0, _, _, _ => none
  | f + 1, 0, vs, S => F_X13_isYard_0 f (F_X13_isYard f) (vR vs 0) (vI vs 1) S
  | f + 1, 1, vs, S => F_X13_isYard_1 f (F_X13_isYard f)  S
  | f + 1, 2, vs, S => F_X13_isYard_2 f (F_X13_isYard f) (vI vs 0) S
  | _ + 1, _, _, _ => none
theorem dX13_isYard_0 : decode cX13_isYard 0 = .ok (.iload_n 1, 1) := by decide +kernel
theorem dX13_isYard_1 : decode cX13_isYard 1 = .ok (.ifCond .lt 15, 3) := by decide +kernel
theorem dX13_isYard_4 : decode cX13_isYard 4 = .ok (.iload_n 1, 1) := by decide +kernel
theorem dX13_isYard_5 : decode cX13_isYard 5 = .ok (.aload_n 0, 1) := by decide +kernel
theorem dX13_isYard_6 : decode cX13_isYard 6 = .ok (.invokevirtual 279, 3) := by decide +kernel
theorem dX13_isYard_9 : decode cX13_isYard 9 = .ok (.if_icmp .ge 7, 3) := by decide +kernel
theorem dX13_isYard_12 : decode cX13_isYard 12 = .ok (.iconst 1, 1) := by decide +kernel
theorem dX13_isYard_13 : decode cX13_isYard 13 = .ok (.goto 4, 3) := by decide +kernel
theorem dX13_isYard_16 : decode cX13_isYard 16 = .ok (.iconst 0, 1) := by decide +kernel
theorem dX13_isYard_17 : decode cX13_isYard 17 = .ok (.ireturn, 1) := by decide +kernel
set_option maxHeartbeats 4000000 in
set_option maxRecDepth 100000 in
theorem B_X13_isYard {G : zG} {X : zX} {kd : kD} {N0 : Nat} (C : zCt G X 1 0 0 RX13 cX13_isYard 2) (hr : (zXh X).sig.returnType = (some .boolean)) : ∀ f : Nat,
    (∀ (S : aS) (v0 : Nat) (v1 : Int32) (res : Option Value × aS), zT0 kd N0 S → v0 < N0 → kd v0 = .inl 11 → F_X13_isYard f 0 [.ref v0, .int v1] S = some res → zV G X (zQX G X (zPo G kd N0 res) 0 0) 2 [some (.ref (zB G + v0)), some (.int v1)] [] (cn G kd N0 S) 0 0 0) ∧
    (∀ (S : aS)  (res : Option Value × aS), zT0 kd N0 S → F_X13_isYard f 1 [] S = some res → zV G X (zQX G X (zPo G kd N0 res) 0 0) 2 [none, none] [] (cn G kd N0 S) 16 0 0) ∧
    (∀ (S : aS) (w0 : Int32) (res : Option Value × aS), zT0 kd N0 S → F_X13_isYard f 2 [.int w0] S = some res → zV G X (zQX G X (zPo G kd N0 res) 0 0) 2 [none, none] [.int w0] (cn G kd N0 S) 17 0 0) := by
  intro f
  induction f with
  | zero => exact ⟨(fun _ _ _ _ _ _ _ h => by cases h), (fun _ _ _ h => by cases h), (fun _ _ _ _ h => by cases h)⟩
  | succ f ih =>
    obtain ⟨ih0, ih1, ih2⟩ := ih
    refine ⟨?_, ?_, ?_⟩
    · intro S v0 v1 res hT hpv0 hkv0 hF
      replace hF : F_X13_isYard_0 f (F_X13_isYard f) v0 v1 S = some res := hF
      unfold F_X13_isYard_0 at hF
      refine z_iload_n C dX13_isYard_0 rfl ?_
      refine z_if_lt C 16 dX13_isYard_1 (by decide) (fun c2 => ?_) (fun c2 => ?_)
      · replace hF := ip hF c2
        refine z_mask [false, false] ?_ rfl
        exact ih1 S  res hT  hF
      · replace hF := im hF c2
        refine z_iload_n C dX13_isYard_4 rfl ?_
        refine z_aload_n C dX13_isYard_5 rfl ?_
        obtain ⟨x3, S3, h3, hF⟩ := bI_some hF
        refine f_cV (st2 := [.int x3, .int v1]) C dX13_isYard_6 zyX13_yards zvX13_yards lkRX13_279 (K_X13_yards (l := zXl X) hT hpv0 hkv0 h3) hpv0 hkv0 rfl (by decide) rfl rfl (Nat.le_of_ble_eq_true rfl) rfl (fun hT3 => ?_)
        have hJ5 : zV G X (zQX G X (zPo G kd N0 res) 0 0) 2 [some (.ref (zB G + v0)), some (.int v1)] [.int (if x3 ≤ v1 then (0 : Int32) else (1 : Int32))] (cn G kd N0 S3) 17 0 0 := by
          obtain ⟨hz, hF⟩ := bZ_some hF
          cases hF
          exact z_zret C hr hz.1 dX13_isYard_17 ⟨rfl, rfl, hT3⟩
        refine z_icmp_ge C 16 dX13_isYard_9 (by decide) (fun c4 => ?_) (fun c4 => ?_)
        · refine z_iconst (v := 0) C dX13_isYard_16 (by decide) ?_
          exact zV.at hJ5 (by first | rfl | contradiction | (simp only [if_pos c4]; done)) (by first | rfl | contradiction | (simp only [if_pos c4]; done)) rfl rfl
        · refine z_iconst (v := 1) C dX13_isYard_12 (by decide) ?_
          refine z_goto C 17 dX13_isYard_13 (by decide) ?_
          exact zV.at hJ5 (by first | rfl | contradiction | (simp only [if_neg c4]; done)) (by first | rfl | contradiction | (simp only [if_neg c4]; done)) rfl rfl
    · intro S  res hT  hF
      replace hF : F_X13_isYard_1 f (F_X13_isYard f)  S = some res := hF
      unfold F_X13_isYard_1 at hF
      refine z_iconst (v := 0) C dX13_isYard_16 (by decide) ?_
      exact ih2 S 0 res hT  hF
    · intro S w0 res hT  hF
      replace hF : F_X13_isYard_2 f (F_X13_isYard f) w0 S = some res := hF
      unfold F_X13_isYard_2 at hF
      obtain ⟨hz, hF⟩ := bZ_some hF
      cases hF
      exact z_zret C hr hz.1 dX13_isYard_17 ⟨rfl, rfl, hT⟩
theorem K_X13_isYard {G : zG} {l : Launch} {kd : kD} {N0 f : Nat} {S : aS} {v0 : Nat} {v1 : Int32} {res : Option Value × aS} (hT : zT0 kd N0 S) (hpv0 : v0 < N0) (hkv0 : kd v0 = .inl 11) (hF : F_X13_isYard f 0 [.ref v0, .int v1] S = some res) : zM G l 1 0 0 yX13_isYard cX13_isYard 2 (some .boolean) [.ref (zB G + v0), .int v1] (cn G kd N0 S) (zPo G kd N0 res) := zM.of (by decide) rfl (Nat.le_of_ble_eq_true rfl) (fun X _ C hr _ => (B_X13_isYard C hr f).1 S v0 v1 res hT hpv0 hkv0 hF)
def F_X13_isPerson_0 (f : Nat) (rc : Nat → List Value → aS → aR) (v0 : Nat) (v1 : Int32) (S : aS) : aR :=
  if v1 < (0 : Int32) then rc 1 [] S else bI (F_X13_people f 0 [.ref v0] S) fun x3 S3 => bZ (if x3 ≤ v1 then (0 : Int32) else (1 : Int32)) (some (some (.int (if x3 ≤ v1 then (0 : Int32) else (1 : Int32))), S3))
def F_X13_isPerson_1 (f : Nat) (rc : Nat → List Value → aS → aR)  (S : aS) : aR :=
  rc 2 [.int 0] S
def F_X13_isPerson_2 (f : Nat) (rc : Nat → List Value → aS → aR) (w0 : Int32) (S : aS) : aR :=
  bZ w0 (some (some (.int w0), S))
def F_X13_isPerson : Nat → Nat → List Value → aS → aR
  | 0, _, _, _ => none
  | f + 1, 0, vs, S => F_X13_isPerson_0 f (F_X13_isPerson f) (vR vs 0) (vI vs 1) S
  | f + 1, 1, vs, S => F_X13_isPerson_1 f (F_X13_isPerson f)  S
  | f + 1, 2, vs, S => F_X13_isPerson_2 f (F_X13_isPerson f) (vI vs 0) S
  | _ + 1, _, _, _ => none
theorem dX13_isPerson_0 : decode cX13_isPerson 0 = .ok (.iload_n 1, 1) := by decide +kernel
theorem dX13_isPerson_1 : decode cX13_isPerson 1 = .ok (.ifCond .lt 15, 3) := by decide +kernel
theorem dX13_isPerson_4 : decode cX13_isPerson 4 = .ok (.iload_n 1, 1) := by decide +kernel
theorem dX13_isPerson_5 : decode cX13_isPerson 5 = .ok (.aload_n 0, 1) := by decide +kernel
theorem dX13_isPerson_6 : decode cX13_isPerson 6 = .ok (.invokevirtual 292, 3) := by decide +kernel
theorem dX13_isPerson_9 : decode cX13_isPerson 9 = .ok (.if_icmp .ge 7, 3) := by decide +kernel
theorem dX13_isPerson_12 : decode cX13_isPerson 12 = .ok (.iconst 1, 1) := by decide +kernel
theorem dX13_isPerson_13 : decode cX13_isPerson 13 = .ok (.goto 4, 3) := by decide +kernel
theorem dX13_isPerson_16 : decode cX13_isPerson 16 = .ok (.iconst 0, 1) := by decide +kernel
theorem dX13_isPerson_17 : decode cX13_isPerson 17 = .ok (.ireturn, 1) := by decide +kernel
set_option maxHeartbeats 4000000 in
set_option maxRecDepth 100000 in
theorem B_X13_isPerson {G : zG} {X : zX} {kd : kD} {N0 : Nat} (C : zCt G X 1 0 0 RX13 cX13_isPerson 2) (hr : (zXh X).sig.returnType = (some .boolean)) : ∀ f : Nat,
    (∀ (S : aS) (v0 : Nat) (v1 : Int32) (res : Option Value × aS), zT0 kd N0 S → v0 < N0 → kd v0 = .inl 11 → F_X13_isPerson f 0 [.ref v0, .int v1] S = some res → zV G X (zQX G X (zPo G kd N0 res) 0 0) 2 [some (.ref (zB G + v0)), some (.int v1)] [] (cn G kd N0 S) 0 0 0) ∧
    (∀ (S : aS)  (res : Option Value × aS), zT0 kd N0 S → F_X13_isPerson f 1 [] S = some res → zV G X (zQX G X (zPo G kd N0 res) 0 0) 2 [none, none] [] (cn G kd N0 S) 16 0 0) ∧
    (∀ (S : aS) (w0 : Int32) (res : Option Value × aS), zT0 kd N0 S → F_X13_isPerson f 2 [.int w0] S = some res → zV G X (zQX G X (zPo G kd N0 res) 0 0) 2 [none, none] [.int w0] (cn G kd N0 S) 17 0 0) := by
  intro f
  induction f with
  | zero => exact ⟨(fun _ _ _ _ _ _ _ h => by cases h), (fun _ _ _ h => by cases h), (fun _ _ _ _ h => by cases h)⟩
  | succ f ih =>
    obtain ⟨ih0, ih1, ih2⟩ := ih
    refine ⟨?_, ?_, ?_⟩
    · intro S v0 v1 res hT hpv0 hkv0 hF
      replace hF : F_X13_isPerson_0 f (F_X13_isPerson f) v0 v1 S = some res := hF
      unfold F_X13_isPerson_0 at hF
      refine z_iload_n C dX13_isPerson_0 rfl ?_
      refine z_if_lt C 16 dX13_isPerson_1 (by decide) (fun c2 => ?_) (fun c2 => ?_)
      · replace hF := ip hF c2
        refine z_mask [false, false] ?_ rfl
        exact ih1 S  res hT  hF
      · replace hF := im hF c2
        refine z_iload_n C dX13_isPerson_4 rfl ?_
        refine z_aload_n C dX13_isPerson_5 rfl ?_
        obtain ⟨x3, S3, h3, hF⟩ := bI_some hF
        refine f_cV (st2 := [.int x3, .int v1]) C dX13_isPerson_6 zyX13_people zvX13_people lkRX13_292 (K_X13_people (l := zXl X) hT hpv0 hkv0 h3) hpv0 hkv0 rfl (by decide) rfl rfl (Nat.le_of_ble_eq_true rfl) rfl (fun hT3 => ?_)
        have hJ5 : zV G X (zQX G X (zPo G kd N0 res) 0 0) 2 [some (.ref (zB G + v0)), some (.int v1)] [.int (if x3 ≤ v1 then (0 : Int32) else (1 : Int32))] (cn G kd N0 S3) 17 0 0 := by
          obtain ⟨hz, hF⟩ := bZ_some hF
          cases hF
          exact z_zret C hr hz.1 dX13_isPerson_17 ⟨rfl, rfl, hT3⟩
        refine z_icmp_ge C 16 dX13_isPerson_9 (by decide) (fun c4 => ?_) (fun c4 => ?_)
        · refine z_iconst (v := 0) C dX13_isPerson_16 (by decide) ?_
          exact zV.at hJ5 (by first | rfl | contradiction | (simp only [if_pos c4]; done)) (by first | rfl | contradiction | (simp only [if_pos c4]; done)) rfl rfl
        · refine z_iconst (v := 1) C dX13_isPerson_12 (by decide) ?_
          refine z_goto C 17 dX13_isPerson_13 (by decide) ?_
          exact zV.at hJ5 (by first | rfl | contradiction | (simp only [if_neg c4]; done)) (by first | rfl | contradiction | (simp only [if_neg c4]; done)) rfl rfl
    · intro S  res hT  hF
      replace hF : F_X13_isPerson_1 f (F_X13_isPerson f)  S = some res := hF
      unfold F_X13_isPerson_1 at hF
      refine z_iconst (v := 0) C dX13_isPerson_16 (by decide) ?_
      exact ih2 S 0 res hT  hF
    · intro S w0 res hT  hF
      replace hF : F_X13_isPerson_2 f (F_X13_isPerson f) w0 S = some res := hF
      unfold F_X13_isPerson_2 at hF
      obtain ⟨hz, hF⟩ := bZ_some hF
      cases hF
      exact z_zret C hr hz.1 dX13_isPerson_17 ⟨rfl, rfl, hT⟩
theorem K_X13_isPerson {G : zG} {l : Launch} {kd : kD} {N0 f : Nat} {S : aS} {v0 : Nat} {v1 : Int32} {res : Option Value × aS} (hT : zT0 kd N0 S) (hpv0 : v0 < N0) (hkv0 : kd v0 = .inl 11) (hF : F_X13_isPerson f 0 [.ref v0, .int v1] S = some res) : zM G l 1 0 0 yX13_isPerson cX13_isPerson 2 (some .boolean) [.ref (zB G + v0), .int v1] (cn G kd N0 S) (zPo G kd N0 res) := zM.of (by decide) rfl (Nat.le_of_ble_eq_true rfl) (fun X _ C hr _ => (B_X13_isPerson C hr f).1 S v0 v1 res hT hpv0 hkv0 hF)
def F_X13_isBin_0 (f : Nat) (rc : Nat → List Value → aS → aR) (v0 : Nat) (v1 : Int32) (v2 : Int32) (S : aS) : aR :=
  bX ((v1 + (12 : Int32)) + v2) 828 fun q2 => bZ (if (gI S (gR S v0 22) q2) ≤ (0 : Int32) then (0 : Int32) else (1 : Int32)) (some (some (.int (if (gI S (gR S v0 22) q2) ≤ (0 : Int32) then (0 : Int32) else (1 : Int32))), S))
def F_X13_isBin : Nat → Nat → List Value → aS → aR
  | 0, _, _, _ => none
  | f + 1, 0, vs, S => F_X13_isBin_0 f (F_X13_isBin f) (vR vs 0) (vI vs 1) (vI vs 2) S
  | _ + 1, _, _, _ => none
theorem dX13_isBin_0 : decode cX13_isBin 0 = .ok (.aload_n 0, 1) := by decide +kernel
theorem dX13_isBin_1 : decode cX13_isBin 1 = .ok (.getfield 119, 3) := by decide +kernel
theorem dX13_isBin_4 : decode cX13_isBin 4 = .ok (.iload_n 1, 1) := by decide +kernel
theorem dX13_isBin_5 : decode cX13_isBin 5 = .ok (.bipush 12, 2) := by decide +kernel
theorem dX13_isBin_7 : decode cX13_isBin 7 = .ok (.iadd, 1) := by decide +kernel
theorem dX13_isBin_8 : decode cX13_isBin 8 = .ok (.iload_n 2, 1) := by decide +kernel
theorem dX13_isBin_9 : decode cX13_isBin 9 = .ok (.iadd, 1) := by decide +kernel
theorem dX13_isBin_10 : decode cX13_isBin 10 = .ok (.iaload, 1) := by decide +kernel
theorem dX13_isBin_11 : decode cX13_isBin 11 = .ok (.ifCond .le 7, 3) := by decide +kernel
theorem dX13_isBin_14 : decode cX13_isBin 14 = .ok (.iconst 1, 1) := by decide +kernel
theorem dX13_isBin_15 : decode cX13_isBin 15 = .ok (.goto 4, 3) := by decide +kernel
theorem dX13_isBin_18 : decode cX13_isBin 18 = .ok (.iconst 0, 1) := by decide +kernel
theorem dX13_isBin_19 : decode cX13_isBin 19 = .ok (.ireturn, 1) := by decide +kernel
set_option maxHeartbeats 4000000 in
set_option maxRecDepth 100000 in
theorem B_X13_isBin {G : zG} {X : zX} {kd : kD} {N0 : Nat} (C : zCt G X 0 0 0 RX13 cX13_isBin 3) (hr : (zXh X).sig.returnType = (some .boolean)) : ∀ f : Nat,
    (∀ (S : aS) (v0 : Nat) (v1 : Int32) (v2 : Int32) (res : Option Value × aS), zT0 kd N0 S → v0 < N0 → kd v0 = .inl 11 → F_X13_isBin f 0 [.ref v0, .int v1, .int v2] S = some res → zV G X (zQX G X (zPo G kd N0 res) 0 0) 3 [some (.ref (zB G + v0)), some (.int v1), some (.int v2)] [] (cn G kd N0 S) 0 0 0) := by
  intro f
  induction f with
  | zero => exact (fun _ _ _ _ _ _ _ _ h => by cases h)
  | succ f ih =>
    have ih0 := ih
    intro S v0 v1 v2 res hT hpv0 hkv0 hF
    replace hF : F_X13_isBin_0 f (F_X13_isBin f) v0 v1 v2 S = some res := hF
    unfold F_X13_isBin_0 at hF
    refine z_aload_n C dX13_isBin_0 rfl ?_
    refine f_getr C dX13_isBin_1 zfRX13_119 hpv0 hkv0 rfl ?_
    obtain ⟨hp1, hk1⟩ := hT.1 v0 11 22 (.inr (0, 828)) hpv0 hkv0 rfl
    refine z_iload_n C dX13_isBin_4 rfl ?_
    refine z_bipush (v := 12) C dX13_isBin_5 (by decide) ?_
    refine z_iadd C dX13_isBin_7 ?_
    refine z_iload_n C dX13_isBin_8 rfl ?_
    refine z_iadd C dX13_isBin_9 ?_
    obtain ⟨hi2, hF⟩ := bX_some hF
    obtain ⟨q2, eq2⟩ : ∃ q : Nat, q = Int32.toNatClampNeg ((v1 + (12 : Int32)) + v2) := ⟨_, rfl⟩
    rw [← eq2] at hF
    refine f_iald C dX13_isBin_10 hp1 hk1 hi2 ?_
    rw [← eq2]
    have hJ4 : zV G X (zQX G X (zPo G kd N0 res) 0 0) 3 [some (.ref (zB G + v0)), some (.int v1), some (.int v2)] [.int (if (gI S (gR S v0 22) q2) ≤ (0 : Int32) then (0 : Int32) else (1 : Int32))] (cn G kd N0 S) 19 0 0 := by
      obtain ⟨hz, hF⟩ := bZ_some hF
      cases hF
      exact z_zret C hr hz.1 dX13_isBin_19 ⟨rfl, rfl, hT⟩
    refine z_if_le C 18 dX13_isBin_11 (by decide) (fun c3 => ?_) (fun c3 => ?_)
    · refine z_iconst (v := 0) C dX13_isBin_18 (by decide) ?_
      exact zV.at hJ4 (by first | rfl | contradiction | (simp only [if_pos c3]; done)) (by first | rfl | contradiction | (simp only [if_pos c3]; done)) rfl rfl
    · refine z_iconst (v := 1) C dX13_isBin_14 (by decide) ?_
      refine z_goto C 19 dX13_isBin_15 (by decide) ?_
      exact zV.at hJ4 (by first | rfl | contradiction | (simp only [if_neg c3]; done)) (by first | rfl | contradiction | (simp only [if_neg c3]; done)) rfl rfl
theorem K_X13_isBin {G : zG} {l : Launch} {kd : kD} {N0 f : Nat} {S : aS} {v0 : Nat} {v1 : Int32} {v2 : Int32} {res : Option Value × aS} (hT : zT0 kd N0 S) (hpv0 : v0 < N0) (hkv0 : kd v0 = .inl 11) (hF : F_X13_isBin f 0 [.ref v0, .int v1, .int v2] S = some res) : zM G l 0 0 0 yX13_isBin cX13_isBin 3 (some .boolean) [.ref (zB G + v0), .int v1, .int v2] (cn G kd N0 S) (zPo G kd N0 res) := zM.of (by decide) rfl (Nat.le_of_ble_eq_true rfl) (fun X _ C hr _ => (B_X13_isBin C hr f) S v0 v1 v2 res hT hpv0 hkv0 hF)
def F_X13_hasRoom_0 (f : Nat) (rc : Nat → List Value → aS → aR) (v0 : Nat) (v1 : Int32) (v2 : Int32) (S : aS) : aR :=
  bX ((v1 + (20 : Int32)) + v2) 828 fun q2 => bX ((v1 + (12 : Int32)) + v2) 828 fun q4 => bZ (if (gI S (gR S v0 22) q4) ≤ (gI S (gR S v0 22) q2) then (0 : Int32) else (1 : Int32)) (some (some (.int (if (gI S (gR S v0 22) q4) ≤ (gI S (gR S v0 22) q2) then (0 : Int32) else (1 : Int32))), S))
def F_X13_hasRoom : Nat → Nat → List Value → aS → aR
  | 0, _, _, _ => none
  | f + 1, 0, vs, S => F_X13_hasRoom_0 f (F_X13_hasRoom f) (vR vs 0) (vI vs 1) (vI vs 2) S
  | _ + 1, _, _, _ => none
theorem dX13_hasRoom_0 : decode cX13_hasRoom 0 = .ok (.aload_n 0, 1) := by decide +kernel
theorem dX13_hasRoom_1 : decode cX13_hasRoom 1 = .ok (.getfield 119, 3) := by decide +kernel
theorem dX13_hasRoom_4 : decode cX13_hasRoom 4 = .ok (.iload_n 1, 1) := by decide +kernel
theorem dX13_hasRoom_5 : decode cX13_hasRoom 5 = .ok (.bipush 20, 2) := by decide +kernel
theorem dX13_hasRoom_7 : decode cX13_hasRoom 7 = .ok (.iadd, 1) := by decide +kernel
theorem dX13_hasRoom_8 : decode cX13_hasRoom 8 = .ok (.iload_n 2, 1) := by decide +kernel
theorem dX13_hasRoom_9 : decode cX13_hasRoom 9 = .ok (.iadd, 1) := by decide +kernel
theorem dX13_hasRoom_10 : decode cX13_hasRoom 10 = .ok (.iaload, 1) := by decide +kernel
theorem dX13_hasRoom_11 : decode cX13_hasRoom 11 = .ok (.aload_n 0, 1) := by decide +kernel
theorem dX13_hasRoom_12 : decode cX13_hasRoom 12 = .ok (.getfield 119, 3) := by decide +kernel
theorem dX13_hasRoom_15 : decode cX13_hasRoom 15 = .ok (.iload_n 1, 1) := by decide +kernel
theorem dX13_hasRoom_16 : decode cX13_hasRoom 16 = .ok (.bipush 12, 2) := by decide +kernel
theorem dX13_hasRoom_18 : decode cX13_hasRoom 18 = .ok (.iadd, 1) := by decide +kernel
theorem dX13_hasRoom_19 : decode cX13_hasRoom 19 = .ok (.iload_n 2, 1) := by decide +kernel
theorem dX13_hasRoom_20 : decode cX13_hasRoom 20 = .ok (.iadd, 1) := by decide +kernel
theorem dX13_hasRoom_21 : decode cX13_hasRoom 21 = .ok (.iaload, 1) := by decide +kernel
theorem dX13_hasRoom_22 : decode cX13_hasRoom 22 = .ok (.if_icmp .ge 7, 3) := by decide +kernel
theorem dX13_hasRoom_25 : decode cX13_hasRoom 25 = .ok (.iconst 1, 1) := by decide +kernel
theorem dX13_hasRoom_26 : decode cX13_hasRoom 26 = .ok (.goto 4, 3) := by decide +kernel
theorem dX13_hasRoom_29 : decode cX13_hasRoom 29 = .ok (.iconst 0, 1) := by decide +kernel
theorem dX13_hasRoom_30 : decode cX13_hasRoom 30 = .ok (.ireturn, 1) := by decide +kernel
set_option maxHeartbeats 4000000 in
set_option maxRecDepth 100000 in
theorem B_X13_hasRoom {G : zG} {X : zX} {kd : kD} {N0 : Nat} (C : zCt G X 0 0 0 RX13 cX13_hasRoom 3) (hr : (zXh X).sig.returnType = (some .boolean)) : ∀ f : Nat,
    (∀ (S : aS) (v0 : Nat) (v1 : Int32) (v2 : Int32) (res : Option Value × aS), zT0 kd N0 S → v0 < N0 → kd v0 = .inl 11 → F_X13_hasRoom f 0 [.ref v0, .int v1, .int v2] S = some res → zV G X (zQX G X (zPo G kd N0 res) 0 0) 3 [some (.ref (zB G + v0)), some (.int v1), some (.int v2)] [] (cn G kd N0 S) 0 0 0) := by
  intro f
  induction f with
  | zero => exact (fun _ _ _ _ _ _ _ _ h => by cases h)
  | succ f ih =>
    have ih0 := ih
    intro S v0 v1 v2 res hT hpv0 hkv0 hF
    replace hF : F_X13_hasRoom_0 f (F_X13_hasRoom f) v0 v1 v2 S = some res := hF
    unfold F_X13_hasRoom_0 at hF
    refine z_aload_n C dX13_hasRoom_0 rfl ?_
    refine f_getr C dX13_hasRoom_1 zfRX13_119 hpv0 hkv0 rfl ?_
    obtain ⟨hp1, hk1⟩ := hT.1 v0 11 22 (.inr (0, 828)) hpv0 hkv0 rfl
    refine z_iload_n C dX13_hasRoom_4 rfl ?_
    refine z_bipush (v := 20) C dX13_hasRoom_5 (by decide) ?_
    refine z_iadd C dX13_hasRoom_7 ?_
    refine z_iload_n C dX13_hasRoom_8 rfl ?_
    refine z_iadd C dX13_hasRoom_9 ?_
    obtain ⟨hi2, hF⟩ := bX_some hF
    obtain ⟨q2, eq2⟩ : ∃ q : Nat, q = Int32.toNatClampNeg ((v1 + (20 : Int32)) + v2) := ⟨_, rfl⟩
    rw [← eq2] at hF
    refine f_iald C dX13_hasRoom_10 hp1 hk1 hi2 ?_
    rw [← eq2]
    refine z_aload_n C dX13_hasRoom_11 rfl ?_
    refine f_getr C dX13_hasRoom_12 zfRX13_119 hpv0 hkv0 rfl ?_
    obtain ⟨hp3, hk3⟩ := hT.1 v0 11 22 (.inr (0, 828)) hpv0 hkv0 rfl
    refine z_iload_n C dX13_hasRoom_15 rfl ?_
    refine z_bipush (v := 12) C dX13_hasRoom_16 (by decide) ?_
    refine z_iadd C dX13_hasRoom_18 ?_
    refine z_iload_n C dX13_hasRoom_19 rfl ?_
    refine z_iadd C dX13_hasRoom_20 ?_
    obtain ⟨hi4, hF⟩ := bX_some hF
    obtain ⟨q4, eq4⟩ : ∃ q : Nat, q = Int32.toNatClampNeg ((v1 + (12 : Int32)) + v2) := ⟨_, rfl⟩
    rw [← eq4] at hF
    refine f_iald C dX13_hasRoom_21 hp3 hk3 hi4 ?_
    rw [← eq4]
    have hJ6 : zV G X (zQX G X (zPo G kd N0 res) 0 0) 3 [some (.ref (zB G + v0)), some (.int v1), some (.int v2)] [.int (if (gI S (gR S v0 22) q4) ≤ (gI S (gR S v0 22) q2) then (0 : Int32) else (1 : Int32))] (cn G kd N0 S) 30 0 0 := by
      obtain ⟨hz, hF⟩ := bZ_some hF
      cases hF
      exact z_zret C hr hz.1 dX13_hasRoom_30 ⟨rfl, rfl, hT⟩
    refine z_icmp_ge C 29 dX13_hasRoom_22 (by decide) (fun c5 => ?_) (fun c5 => ?_)
    · refine z_iconst (v := 0) C dX13_hasRoom_29 (by decide) ?_
      exact zV.at hJ6 (by first | rfl | contradiction | (simp only [if_pos c5]; done)) (by first | rfl | contradiction | (simp only [if_pos c5]; done)) rfl rfl
    · refine z_iconst (v := 1) C dX13_hasRoom_25 (by decide) ?_
      refine z_goto C 30 dX13_hasRoom_26 (by decide) ?_
      exact zV.at hJ6 (by first | rfl | contradiction | (simp only [if_neg c5]; done)) (by first | rfl | contradiction | (simp only [if_neg c5]; done)) rfl rfl
theorem K_X13_hasRoom {G : zG} {l : Launch} {kd : kD} {N0 f : Nat} {S : aS} {v0 : Nat} {v1 : Int32} {v2 : Int32} {res : Option Value × aS} (hT : zT0 kd N0 S) (hpv0 : v0 < N0) (hkv0 : kd v0 = .inl 11) (hF : F_X13_hasRoom f 0 [.ref v0, .int v1, .int v2] S = some res) : zM G l 0 0 0 yX13_hasRoom cX13_hasRoom 3 (some .boolean) [.ref (zB G + v0), .int v1, .int v2] (cn G kd N0 S) (zPo G kd N0 res) := zM.of (by decide) rfl (Nat.le_of_ble_eq_true rfl) (fun X _ C hr _ => (B_X13_hasRoom C hr f) S v0 v1 v2 res hT hpv0 hkv0 hF)
def F_X13_nearOf_0 (f : Nat) (rc : Nat → List Value → aS → aR) (v0 : Nat) (v1 : Int32) (v2 : Int32) (S : aS) : aR :=
  rc 1 [.ref v0, .int v1, .int v2, .int (v2 + (1 : Int32))] S
def F_X13_nearOf_1 (f : Nat) (rc : Nat → List Value → aS → aR) (v0 : Nat) (v1 : Int32) (v2 : Int32) (v3 : Int32) (S : aS) : aR :=
  bI (F_X13_yards f 0 [.ref v0] S) fun x1 S1 => if x1 ≤ v3 then some (some (.int 9), S1) else bI (F_X13_hasRoom f 0 [.ref v0, .int v1, .int v3] S1) fun x3 S3 => if x3 = (0 : Int32) then rc 1 [.ref v0, .int v1, .int v2, .int (v3 + 1)] S3 else some (some (.int (v3 - (if (0 : Int32) ≤ v2 then v2 else (0 : Int32)))), S3)
def F_X13_nearOf : Nat → Nat → List Value → aS → aR
  | 0, _, _, _ => none
  | f + 1, 0, vs, S => F_X13_nearOf_0 f (F_X13_nearOf f) (vR vs 0) (vI vs 1) (vI vs 2) S
  | f + 1, 1, vs, S => F_X13_nearOf_1 f (F_X13_nearOf f) (vR vs 0) (vI vs 1) (vI vs 2) (vI vs 3) S
  | _ + 1, _, _, _ => none
theorem dX13_nearOf_0 : decode cX13_nearOf 0 = .ok (.iload_n 2, 1) := by decide +kernel
theorem dX13_nearOf_1 : decode cX13_nearOf 1 = .ok (.iconst 1, 1) := by decide +kernel
theorem dX13_nearOf_2 : decode cX13_nearOf 2 = .ok (.iadd, 1) := by decide +kernel
theorem dX13_nearOf_3 : decode cX13_nearOf 3 = .ok (.istore_n 3, 1) := by decide +kernel
theorem dX13_nearOf_4 : decode cX13_nearOf 4 = .ok (.iload_n 3, 1) := by decide +kernel
theorem dX13_nearOf_5 : decode cX13_nearOf 5 = .ok (.aload_n 0, 1) := by decide +kernel
theorem dX13_nearOf_6 : decode cX13_nearOf 6 = .ok (.invokevirtual 279, 3) := by decide +kernel
theorem dX13_nearOf_9 : decode cX13_nearOf 9 = .ok (.if_icmp .ge 30, 3) := by decide +kernel
theorem dX13_nearOf_12 : decode cX13_nearOf 12 = .ok (.aload_n 0, 1) := by decide +kernel
theorem dX13_nearOf_13 : decode cX13_nearOf 13 = .ok (.iload_n 1, 1) := by decide +kernel
theorem dX13_nearOf_14 : decode cX13_nearOf 14 = .ok (.iload_n 3, 1) := by decide +kernel
theorem dX13_nearOf_15 : decode cX13_nearOf 15 = .ok (.invokevirtual 295, 3) := by decide +kernel
theorem dX13_nearOf_18 : decode cX13_nearOf 18 = .ok (.ifCond .eq 15, 3) := by decide +kernel
theorem dX13_nearOf_21 : decode cX13_nearOf 21 = .ok (.iload_n 3, 1) := by decide +kernel
theorem dX13_nearOf_22 : decode cX13_nearOf 22 = .ok (.iload_n 2, 1) := by decide +kernel
theorem dX13_nearOf_23 : decode cX13_nearOf 23 = .ok (.ifCond .ge 7, 3) := by decide +kernel
theorem dX13_nearOf_26 : decode cX13_nearOf 26 = .ok (.iconst 0, 1) := by decide +kernel
theorem dX13_nearOf_27 : decode cX13_nearOf 27 = .ok (.goto 4, 3) := by decide +kernel
theorem dX13_nearOf_30 : decode cX13_nearOf 30 = .ok (.iload_n 2, 1) := by decide +kernel
theorem dX13_nearOf_31 : decode cX13_nearOf 31 = .ok (.isub, 1) := by decide +kernel
theorem dX13_nearOf_32 : decode cX13_nearOf 32 = .ok (.ireturn, 1) := by decide +kernel
theorem dX13_nearOf_33 : decode cX13_nearOf 33 = .ok (.iinc 3 1, 3) := by decide +kernel
theorem dX13_nearOf_36 : decode cX13_nearOf 36 = .ok (.goto (-32), 3) := by decide +kernel
theorem dX13_nearOf_39 : decode cX13_nearOf 39 = .ok (.bipush 9, 2) := by decide +kernel
theorem dX13_nearOf_41 : decode cX13_nearOf 41 = .ok (.ireturn, 1) := by decide +kernel
set_option maxHeartbeats 4000000 in
set_option maxRecDepth 100000 in
theorem B_X13_nearOf {G : zG} {X : zX} {kd : kD} {N0 : Nat} (C : zCt G X 1 0 0 RX13 cX13_nearOf 4) (hr : (zXh X).sig.returnType = (some .int)) : ∀ f : Nat,
    (∀ (S : aS) (v0 : Nat) (v1 : Int32) (v2 : Int32) (res : Option Value × aS), zT0 kd N0 S → v0 < N0 → kd v0 = .inl 11 → F_X13_nearOf f 0 [.ref v0, .int v1, .int v2] S = some res → zV G X (zQX G X (zPo G kd N0 res) 0 0) 4 [some (.ref (zB G + v0)), some (.int v1), some (.int v2), none] [] (cn G kd N0 S) 0 0 0) ∧
    (∀ (S : aS) (v0 : Nat) (v1 : Int32) (v2 : Int32) (v3 : Int32) (res : Option Value × aS), zT0 kd N0 S → v0 < N0 → kd v0 = .inl 11 → F_X13_nearOf f 1 [.ref v0, .int v1, .int v2, .int v3] S = some res → zV G X (zQX G X (zPo G kd N0 res) 0 0) 4 [some (.ref (zB G + v0)), some (.int v1), some (.int v2), some (.int v3)] [] (cn G kd N0 S) 4 0 0) := by
  intro f
  induction f with
  | zero => exact ⟨(fun _ _ _ _ _ _ _ _ h => by cases h), (fun _ _ _ _ _ _ _ _ _ h => by cases h)⟩
  | succ f ih =>
    obtain ⟨ih0, ih1⟩ := ih
    refine ⟨?_, ?_⟩
    · intro S v0 v1 v2 res hT hpv0 hkv0 hF
      replace hF : F_X13_nearOf_0 f (F_X13_nearOf f) v0 v1 v2 S = some res := hF
      unfold F_X13_nearOf_0 at hF
      refine z_iload_n C dX13_nearOf_0 rfl ?_
      refine z_iconst (v := 1) C dX13_nearOf_1 (by decide) ?_
      refine z_iadd C dX13_nearOf_2 ?_
      refine z_istore_n (lv2 := [some (.ref (zB G + v0)), some (.int v1), some (.int v2), some (.int (v2 + (1 : Int32)))]) C dX13_nearOf_3 (by decide) rfl ?_
      exact ih1 S v0 v1 v2 (v2 + (1 : Int32)) res hT hpv0 hkv0    hF
    · intro S v0 v1 v2 v3 res hT hpv0 hkv0 hF
      replace hF : F_X13_nearOf_1 f (F_X13_nearOf f) v0 v1 v2 v3 S = some res := hF
      unfold F_X13_nearOf_1 at hF
      refine z_iload_n C dX13_nearOf_4 rfl ?_
      refine z_aload_n C dX13_nearOf_5 rfl ?_
      obtain ⟨x1, S1, h1, hF⟩ := bI_some hF
      refine f_cV (st2 := [.int x1, .int v3]) C dX13_nearOf_6 zyX13_yards zvX13_yards lkRX13_279 (K_X13_yards (l := zXl X) hT hpv0 hkv0 h1) hpv0 hkv0 rfl (by decide) rfl rfl (Nat.le_of_ble_eq_true rfl) rfl (fun hT1 => ?_)
      refine z_icmp_ge C 39 dX13_nearOf_9 (by decide) (fun c2 => ?_) (fun c2 => ?_)
      · replace hF := ip hF c2
        refine z_bipush (v := 9) C dX13_nearOf_39 (by decide) ?_
        cases hF
        exact z_iret C hr dX13_nearOf_41 ⟨rfl, rfl, hT1⟩
      · replace hF := im hF c2
        refine z_aload_n C dX13_nearOf_12 rfl ?_
        refine z_iload_n C dX13_nearOf_13 rfl ?_
        refine z_iload_n C dX13_nearOf_14 rfl ?_
        obtain ⟨x3, S3, h3, hF⟩ := bI_some hF
        refine f_cV (st2 := [.int x3]) C dX13_nearOf_15 zyX13_hasRoom zvX13_hasRoom lkRX13_295 (K_X13_hasRoom (l := zXl X) hT1 hpv0 hkv0   h3) hpv0 hkv0 rfl (by decide) rfl rfl (Nat.le_of_ble_eq_true rfl) rfl (fun hT3 => ?_)
        refine z_if_eq C 33 dX13_nearOf_18 (by decide) (fun c4 => ?_) (fun c4 => ?_)
        · replace hF := ip hF c4
          refine z_iinc (v := v3 + 1) (lv2 := [some (.ref (zB G + v0)), some (.int v1), some (.int v2), some (.int (v3 + 1))]) C dX13_nearOf_33 rfl (by rw [show Int32.ofInt 1 = (1 : Int32) from by decide]) rfl ?_
          refine z_goto C 4 dX13_nearOf_36 (by decide) ?_
          exact ih1 S3 v0 v1 v2 (v3 + 1) res hT3 hpv0 hkv0    hF
        · replace hF := im hF c4
          refine z_iload_n C dX13_nearOf_21 rfl ?_
          refine z_iload_n C dX13_nearOf_22 rfl ?_
          have hJ6 : zV G X (zQX G X (zPo G kd N0 res) 0 0) 4 [some (.ref (zB G + v0)), some (.int v1), some (.int v2), some (.int v3)] [.int (if (0 : Int32) ≤ v2 then v2 else (0 : Int32)), .int v3] (cn G kd N0 S3) 31 0 0 := by
            refine z_isub C dX13_nearOf_31 ?_
            cases hF
            exact z_iret C hr dX13_nearOf_32 ⟨rfl, rfl, hT3⟩
          refine z_if_ge C 30 dX13_nearOf_23 (by decide) (fun c5 => ?_) (fun c5 => ?_)
          · refine z_iload_n C dX13_nearOf_30 rfl ?_
            exact zV.at hJ6 (by first | rfl | contradiction | (simp only [if_pos c5]; done)) (by first | rfl | contradiction | (simp only [if_pos c5]; done)) rfl rfl
          · refine z_iconst (v := 0) C dX13_nearOf_26 (by decide) ?_
            refine z_goto C 31 dX13_nearOf_27 (by decide) ?_
            exact zV.at hJ6 (by first | rfl | contradiction | (simp only [if_neg c5]; done)) (by first | rfl | contradiction | (simp only [if_neg c5]; done)) rfl rfl
theorem K_X13_nearOf {G : zG} {l : Launch} {kd : kD} {N0 f : Nat} {S : aS} {v0 : Nat} {v1 : Int32} {v2 : Int32} {res : Option Value × aS} (hT : zT0 kd N0 S) (hpv0 : v0 < N0) (hkv0 : kd v0 = .inl 11) (hF : F_X13_nearOf f 0 [.ref v0, .int v1, .int v2] S = some res) : zM G l 1 0 0 yX13_nearOf cX13_nearOf 4 (some .int) [.ref (zB G + v0), .int v1, .int v2] (cn G kd N0 S) (zPo G kd N0 res) := zM.of (by decide) rfl (Nat.le_of_ble_eq_true rfl) (fun X _ C hr _ => (B_X13_nearOf C hr f).1 S v0 v1 v2 res hT hpv0 hkv0 hF)
def F_X13_lyingIn_0 (f : Nat) (rc : Nat → List Value → aS → aR) (v0 : Nat) (v1 : Int32) (S : aS) : aR :=
  rc 1 [.ref v0, .int v1, .int 0, .int 0] S
def F_X13_lyingIn_1 (f : Nat) (rc : Nat → List Value → aS → aR) (v0 : Nat) (v1 : Int32) (v2 : Int32) (v3 : Int32) (S : aS) : aR :=
  bI (F_X13_yards f 0 [.ref v0] S) fun x1 S1 => if x1 ≤ v3 then some (some (.int v2), S1) else bX ((v1 + (4 : Int32)) + v3) 828 fun q6 => rc 1 [.ref v0, .int v1, .int (v2 + (gI S1 (gR S1 v0 22) q6)), .int (v3 + 1)] S1
def F_X13_lyingIn : Nat → Nat → List Value → aS → aR
  | 0, _, _, _ => none
  | f + 1, 0, vs, S => F_X13_lyingIn_0 f (F_X13_lyingIn f) (vR vs 0) (vI vs 1) S
  | f + 1, 1, vs, S => F_X13_lyingIn_1 f (F_X13_lyingIn f) (vR vs 0) (vI vs 1) (vI vs 2) (vI vs 3) S
  | _ + 1, _, _, _ => none
theorem dX13_lyingIn_0 : decode cX13_lyingIn 0 = .ok (.iconst 0, 1) := by decide +kernel
theorem dX13_lyingIn_1 : decode cX13_lyingIn 1 = .ok (.istore_n 2, 1) := by decide +kernel
theorem dX13_lyingIn_2 : decode cX13_lyingIn 2 = .ok (.iconst 0, 1) := by decide +kernel
theorem dX13_lyingIn_3 : decode cX13_lyingIn 3 = .ok (.istore_n 3, 1) := by decide +kernel
theorem dX13_lyingIn_4 : decode cX13_lyingIn 4 = .ok (.iload_n 3, 1) := by decide +kernel
theorem dX13_lyingIn_5 : decode cX13_lyingIn 5 = .ok (.aload_n 0, 1) := by decide +kernel
theorem dX13_lyingIn_6 : decode cX13_lyingIn 6 = .ok (.invokevirtual 279, 3) := by decide +kernel
theorem dX13_lyingIn_9 : decode cX13_lyingIn 9 = .ok (.if_icmp .ge 22, 3) := by decide +kernel
theorem dX13_lyingIn_12 : decode cX13_lyingIn 12 = .ok (.iload_n 2, 1) := by decide +kernel
theorem dX13_lyingIn_13 : decode cX13_lyingIn 13 = .ok (.aload_n 0, 1) := by decide +kernel
theorem dX13_lyingIn_14 : decode cX13_lyingIn 14 = .ok (.getfield 119, 3) := by decide +kernel
theorem dX13_lyingIn_17 : decode cX13_lyingIn 17 = .ok (.iload_n 1, 1) := by decide +kernel
theorem dX13_lyingIn_18 : decode cX13_lyingIn 18 = .ok (.iconst 4, 1) := by decide +kernel
theorem dX13_lyingIn_19 : decode cX13_lyingIn 19 = .ok (.iadd, 1) := by decide +kernel
theorem dX13_lyingIn_20 : decode cX13_lyingIn 20 = .ok (.iload_n 3, 1) := by decide +kernel
theorem dX13_lyingIn_21 : decode cX13_lyingIn 21 = .ok (.iadd, 1) := by decide +kernel
theorem dX13_lyingIn_22 : decode cX13_lyingIn 22 = .ok (.iaload, 1) := by decide +kernel
theorem dX13_lyingIn_23 : decode cX13_lyingIn 23 = .ok (.iadd, 1) := by decide +kernel
theorem dX13_lyingIn_24 : decode cX13_lyingIn 24 = .ok (.istore_n 2, 1) := by decide +kernel
theorem dX13_lyingIn_25 : decode cX13_lyingIn 25 = .ok (.iinc 3 1, 3) := by decide +kernel
theorem dX13_lyingIn_28 : decode cX13_lyingIn 28 = .ok (.goto (-24), 3) := by decide +kernel
theorem dX13_lyingIn_31 : decode cX13_lyingIn 31 = .ok (.iload_n 2, 1) := by decide +kernel
theorem dX13_lyingIn_32 : decode cX13_lyingIn 32 = .ok (.ireturn, 1) := by decide +kernel
set_option maxHeartbeats 4000000 in
set_option maxRecDepth 100000 in
theorem B_X13_lyingIn {G : zG} {X : zX} {kd : kD} {N0 : Nat} (C : zCt G X 1 0 0 RX13 cX13_lyingIn 4) (hr : (zXh X).sig.returnType = (some .int)) : ∀ f : Nat,
    (∀ (S : aS) (v0 : Nat) (v1 : Int32) (res : Option Value × aS), zT0 kd N0 S → v0 < N0 → kd v0 = .inl 11 → F_X13_lyingIn f 0 [.ref v0, .int v1] S = some res → zV G X (zQX G X (zPo G kd N0 res) 0 0) 4 [some (.ref (zB G + v0)), some (.int v1), none, none] [] (cn G kd N0 S) 0 0 0) ∧
    (∀ (S : aS) (v0 : Nat) (v1 : Int32) (v2 : Int32) (v3 : Int32) (res : Option Value × aS), zT0 kd N0 S → v0 < N0 → kd v0 = .inl 11 → F_X13_lyingIn f 1 [.ref v0, .int v1, .int v2, .int v3] S = some res → zV G X (zQX G X (zPo G kd N0 res) 0 0) 4 [some (.ref (zB G + v0)), some (.int v1), some (.int v2), some (.int v3)] [] (cn G kd N0 S) 4 0 0) := by
  intro f
  induction f with
  | zero => exact ⟨(fun _ _ _ _ _ _ _ h => by cases h), (fun _ _ _ _ _ _ _ _ _ h => by cases h)⟩
  | succ f ih =>
    obtain ⟨ih0, ih1⟩ := ih
    refine ⟨?_, ?_⟩
    · intro S v0 v1 res hT hpv0 hkv0 hF
      replace hF : F_X13_lyingIn_0 f (F_X13_lyingIn f) v0 v1 S = some res := hF
      unfold F_X13_lyingIn_0 at hF
      refine z_iconst (v := 0) C dX13_lyingIn_0 (by decide) ?_
      refine z_istore_n (lv2 := [some (.ref (zB G + v0)), some (.int v1), some (.int 0), none]) C dX13_lyingIn_1 (by decide) rfl ?_
      refine z_iconst (v := 0) C dX13_lyingIn_2 (by decide) ?_
      refine z_istore_n (lv2 := [some (.ref (zB G + v0)), some (.int v1), some (.int 0), some (.int 0)]) C dX13_lyingIn_3 (by decide) rfl ?_
      exact ih1 S v0 v1 0 0 res hT hpv0 hkv0    hF
    · intro S v0 v1 v2 v3 res hT hpv0 hkv0 hF
      replace hF : F_X13_lyingIn_1 f (F_X13_lyingIn f) v0 v1 v2 v3 S = some res := hF
      unfold F_X13_lyingIn_1 at hF
      refine z_iload_n C dX13_lyingIn_4 rfl ?_
      refine z_aload_n C dX13_lyingIn_5 rfl ?_
      obtain ⟨x1, S1, h1, hF⟩ := bI_some hF
      refine f_cV (st2 := [.int x1, .int v3]) C dX13_lyingIn_6 zyX13_yards zvX13_yards lkRX13_279 (K_X13_yards (l := zXl X) hT hpv0 hkv0 h1) hpv0 hkv0 rfl (by decide) rfl rfl (Nat.le_of_ble_eq_true rfl) rfl (fun hT1 => ?_)
      refine z_icmp_ge C 31 dX13_lyingIn_9 (by decide) (fun c4 => ?_) (fun c4 => ?_)
      · replace hF := ip hF c4
        refine z_iload_n C dX13_lyingIn_31 rfl ?_
        cases hF
        exact z_iret C hr dX13_lyingIn_32 ⟨rfl, rfl, hT1⟩
      · replace hF := im hF c4
        refine z_iload_n C dX13_lyingIn_12 rfl ?_
        refine z_aload_n C dX13_lyingIn_13 rfl ?_
        refine f_getr C dX13_lyingIn_14 zfRX13_119 hpv0 hkv0 rfl ?_
        obtain ⟨hp5, hk5⟩ := hT1.1 v0 11 22 (.inr (0, 828)) hpv0 hkv0 rfl
        refine z_iload_n C dX13_lyingIn_17 rfl ?_
        refine z_iconst (v := 4) C dX13_lyingIn_18 (by decide) ?_
        refine z_iadd C dX13_lyingIn_19 ?_
        refine z_iload_n C dX13_lyingIn_20 rfl ?_
        refine z_iadd C dX13_lyingIn_21 ?_
        obtain ⟨hi6, hF⟩ := bX_some hF
        obtain ⟨q6, eq6⟩ : ∃ q : Nat, q = Int32.toNatClampNeg ((v1 + (4 : Int32)) + v3) := ⟨_, rfl⟩
        rw [← eq6] at hF
        refine f_iald C dX13_lyingIn_22 hp5 hk5 hi6 ?_
        rw [← eq6]
        refine z_iadd C dX13_lyingIn_23 ?_
        refine z_istore_n (lv2 := [some (.ref (zB G + v0)), some (.int v1), some (.int (v2 + (gI S1 (gR S1 v0 22) q6))), some (.int v3)]) C dX13_lyingIn_24 (by decide) rfl ?_
        refine z_iinc (v := v3 + 1) (lv2 := [some (.ref (zB G + v0)), some (.int v1), some (.int (v2 + (gI S1 (gR S1 v0 22) q6))), some (.int (v3 + 1))]) C dX13_lyingIn_25 rfl (by rw [show Int32.ofInt 1 = (1 : Int32) from by decide]) rfl ?_
        refine z_goto C 4 dX13_lyingIn_28 (by decide) ?_
        exact ih1 S1 v0 v1 (v2 + (gI S1 (gR S1 v0 22) q6)) (v3 + 1) res hT1 hpv0 hkv0    hF
theorem K_X13_lyingIn {G : zG} {l : Launch} {kd : kD} {N0 f : Nat} {S : aS} {v0 : Nat} {v1 : Int32} {res : Option Value × aS} (hT : zT0 kd N0 S) (hpv0 : v0 < N0) (hkv0 : kd v0 = .inl 11) (hF : F_X13_lyingIn f 0 [.ref v0, .int v1] S = some res) : zM G l 1 0 0 yX13_lyingIn cX13_lyingIn 4 (some .int) [.ref (zB G + v0), .int v1] (cn G kd N0 S) (zPo G kd N0 res) := zM.of (by decide) rfl (Nat.le_of_ble_eq_true rfl) (fun X _ C hr _ => (B_X13_lyingIn C hr f).1 S v0 v1 res hT hpv0 hkv0 hF)
def F_X13_depositNow_0 (f : Nat) (rc : Nat → List Value → aS → aR) (v0 : Nat) (S : aS) : aR :=
  if (gI S v0 25) < (0 : Int32) then bX 4 140 fun q5 => rc 1 [.int (gI S (gR S v0 10) q5)] S else rc 1 [.int (gI S v0 25)] S
def F_X13_depositNow_1 (f : Nat) (rc : Nat → List Value → aS → aR) (w0 : Int32) (S : aS) : aR :=
  some (some (.int w0), S)
def F_X13_depositNow : Nat → Nat → List Value → aS → aR
  | 0, _, _, _ => none
  | f + 1, 0, vs, S => F_X13_depositNow_0 f (F_X13_depositNow f) (vR vs 0) S
  | f + 1, 1, vs, S => F_X13_depositNow_1 f (F_X13_depositNow f) (vI vs 0) S
  | _ + 1, _, _, _ => none
theorem dX13_depositNow_0 : decode cX13_depositNow 0 = .ok (.aload_n 0, 1) := by decide +kernel
theorem dX13_depositNow_1 : decode cX13_depositNow 1 = .ok (.getfield 126, 3) := by decide +kernel
theorem dX13_depositNow_4 : decode cX13_depositNow 4 = .ok (.ifCond .lt 10, 3) := by decide +kernel
theorem dX13_depositNow_7 : decode cX13_depositNow 7 = .ok (.aload_n 0, 1) := by decide +kernel
theorem dX13_depositNow_8 : decode cX13_depositNow 8 = .ok (.getfield 126, 3) := by decide +kernel
theorem dX13_depositNow_11 : decode cX13_depositNow 11 = .ok (.goto 9, 3) := by decide +kernel
theorem dX13_depositNow_14 : decode cX13_depositNow 14 = .ok (.aload_n 0, 1) := by decide +kernel
theorem dX13_depositNow_15 : decode cX13_depositNow 15 = .ok (.getfield 95, 3) := by decide +kernel
theorem dX13_depositNow_18 : decode cX13_depositNow 18 = .ok (.iconst 4, 1) := by decide +kernel
theorem dX13_depositNow_19 : decode cX13_depositNow 19 = .ok (.iaload, 1) := by decide +kernel
theorem dX13_depositNow_20 : decode cX13_depositNow 20 = .ok (.ireturn, 1) := by decide +kernel
set_option maxHeartbeats 4000000 in
set_option maxRecDepth 100000 in
theorem B_X13_depositNow {G : zG} {X : zX} {kd : kD} {N0 : Nat} (C : zCt G X 0 0 0 RX13 cX13_depositNow 1) (hr : (zXh X).sig.returnType = (some .int)) : ∀ f : Nat,
    (∀ (S : aS) (v0 : Nat) (res : Option Value × aS), zT0 kd N0 S → v0 < N0 → kd v0 = .inl 11 → F_X13_depositNow f 0 [.ref v0] S = some res → zV G X (zQX G X (zPo G kd N0 res) 0 0) 1 [some (.ref (zB G + v0))] [] (cn G kd N0 S) 0 0 0) ∧
    (∀ (S : aS) (w0 : Int32) (res : Option Value × aS), zT0 kd N0 S → F_X13_depositNow f 1 [.int w0] S = some res → zV G X (zQX G X (zPo G kd N0 res) 0 0) 1 [none] [.int w0] (cn G kd N0 S) 20 0 0) := by
  intro f
  induction f with
  | zero => exact ⟨(fun _ _ _ _ _ _ h => by cases h), (fun _ _ _ _ h => by cases h)⟩
  | succ f ih =>
    obtain ⟨ih0, ih1⟩ := ih
    refine ⟨?_, ?_⟩
    · intro S v0 res hT hpv0 hkv0 hF
      replace hF : F_X13_depositNow_0 f (F_X13_depositNow f) v0 S = some res := hF
      unfold F_X13_depositNow_0 at hF
      refine z_aload_n C dX13_depositNow_0 rfl ?_
      refine f_geti C dX13_depositNow_1 zfRX13_126 hpv0 hkv0 rfl ?_
      refine z_if_lt C 14 dX13_depositNow_4 (by decide) (fun c3 => ?_) (fun c3 => ?_)
      · replace hF := ip hF c3
        refine z_aload_n C dX13_depositNow_14 rfl ?_
        refine f_getr C dX13_depositNow_15 zfRX13_95 hpv0 hkv0 rfl ?_
        obtain ⟨hp4, hk4⟩ := hT.1 v0 11 10 (.inr (0, 140)) hpv0 hkv0 rfl
        refine z_iconst (v := 4) C dX13_depositNow_18 (by decide) ?_
        obtain ⟨hi5, hF⟩ := bX_some hF
        obtain ⟨q5, eq5⟩ : ∃ q : Nat, q = Int32.toNatClampNeg 4 := ⟨_, rfl⟩
        rw [← eq5] at hF
        refine f_iald C dX13_depositNow_19 hp4 hk4 hi5 ?_
        rw [← eq5]
        refine z_mask [false] ?_ rfl
        exact ih1 S (gI S (gR S v0 10) q5) res hT  hF
      · replace hF := im hF c3
        refine z_aload_n C dX13_depositNow_7 rfl ?_
        refine f_geti C dX13_depositNow_8 zfRX13_126 hpv0 hkv0 rfl ?_
        refine z_goto C 20 dX13_depositNow_11 (by decide) ?_
        refine z_mask [false] ?_ rfl
        exact ih1 S (gI S v0 25) res hT  hF
    · intro S w0 res hT  hF
      replace hF : F_X13_depositNow_1 f (F_X13_depositNow f) w0 S = some res := hF
      unfold F_X13_depositNow_1 at hF
      cases hF
      exact z_iret C hr dX13_depositNow_20 ⟨rfl, rfl, hT⟩
theorem K_X13_depositNow {G : zG} {l : Launch} {kd : kD} {N0 f : Nat} {S : aS} {v0 : Nat} {res : Option Value × aS} (hT : zT0 kd N0 S) (hpv0 : v0 < N0) (hkv0 : kd v0 = .inl 11) (hF : F_X13_depositNow f 0 [.ref v0] S = some res) : zM G l 0 0 0 yX13_depositNow cX13_depositNow 1 (some .int) [.ref (zB G + v0)] (cn G kd N0 S) (zPo G kd N0 res) := zM.of (by decide) rfl (Nat.le_of_ble_eq_true rfl) (fun X _ C hr _ => (B_X13_depositNow C hr f).1 S v0 res hT hpv0 hkv0 hF)
def F_X13_empties_0 (f : Nat) (rc : Nat → List Value → aS → aR) (v0 : Nat) (v1 : Int32) (v2 : Int32) (S : aS) : aR :=
  bX ((v1 + (20 : Int32)) + v2) 828 fun q2 => bX ((v1 + (20 : Int32)) + v2) 828 fun q4 => fS (sI S (gR S v0 22) q4 0) fun S5 => bX (v1 + (3 : Int32)) 828 fun q7 => bX 3 140 fun q9 => bX (v1 + (3 : Int32)) 828 fun q10 => fS (sI S5 (gR S5 v0 22) q10 ((gI S5 (gR S5 v0 22) q7) + (gI S5 (gR S5 v0 10) q9))) fun S11 => some (some (.int (gI S (gR S v0 22) q2)), S11)
def F_X13_empties : Nat → Nat → List Value → aS → aR
  | 0, _, _, _ => none
  | f + 1, 0, vs, S => F_X13_empties_0 f (F_X13_empties f) (vR vs 0) (vI vs 1) (vI vs 2) S
  | _ + 1, _, _, _ => none
theorem dX13_empties_0 : decode cX13_empties 0 = .ok (.aload_n 0, 1) := by decide +kernel
theorem dX13_empties_1 : decode cX13_empties 1 = .ok (.getfield 119, 3) := by decide +kernel
theorem dX13_empties_4 : decode cX13_empties 4 = .ok (.iload_n 1, 1) := by decide +kernel
theorem dX13_empties_5 : decode cX13_empties 5 = .ok (.bipush 20, 2) := by decide +kernel
theorem dX13_empties_7 : decode cX13_empties 7 = .ok (.iadd, 1) := by decide +kernel
theorem dX13_empties_8 : decode cX13_empties 8 = .ok (.iload_n 2, 1) := by decide +kernel
theorem dX13_empties_9 : decode cX13_empties 9 = .ok (.iadd, 1) := by decide +kernel
theorem dX13_empties_10 : decode cX13_empties 10 = .ok (.iaload, 1) := by decide +kernel
theorem dX13_empties_11 : decode cX13_empties 11 = .ok (.istore_n 3, 1) := by decide +kernel
theorem dX13_empties_12 : decode cX13_empties 12 = .ok (.aload_n 0, 1) := by decide +kernel
theorem dX13_empties_13 : decode cX13_empties 13 = .ok (.getfield 119, 3) := by decide +kernel
theorem dX13_empties_16 : decode cX13_empties 16 = .ok (.iload_n 1, 1) := by decide +kernel
theorem dX13_empties_17 : decode cX13_empties 17 = .ok (.bipush 20, 2) := by decide +kernel
theorem dX13_empties_19 : decode cX13_empties 19 = .ok (.iadd, 1) := by decide +kernel
theorem dX13_empties_20 : decode cX13_empties 20 = .ok (.iload_n 2, 1) := by decide +kernel
theorem dX13_empties_21 : decode cX13_empties 21 = .ok (.iadd, 1) := by decide +kernel
theorem dX13_empties_22 : decode cX13_empties 22 = .ok (.iconst 0, 1) := by decide +kernel
theorem dX13_empties_23 : decode cX13_empties 23 = .ok (.iastore, 1) := by decide +kernel
theorem dX13_empties_24 : decode cX13_empties 24 = .ok (.aload_n 0, 1) := by decide +kernel
theorem dX13_empties_25 : decode cX13_empties 25 = .ok (.getfield 119, 3) := by decide +kernel
theorem dX13_empties_28 : decode cX13_empties 28 = .ok (.iload_n 1, 1) := by decide +kernel
theorem dX13_empties_29 : decode cX13_empties 29 = .ok (.iconst 3, 1) := by decide +kernel
theorem dX13_empties_30 : decode cX13_empties 30 = .ok (.iadd, 1) := by decide +kernel
theorem dX13_empties_31 : decode cX13_empties 31 = .ok (.dup2, 1) := by decide +kernel
theorem dX13_empties_32 : decode cX13_empties 32 = .ok (.iaload, 1) := by decide +kernel
theorem dX13_empties_33 : decode cX13_empties 33 = .ok (.aload_n 0, 1) := by decide +kernel
theorem dX13_empties_34 : decode cX13_empties 34 = .ok (.getfield 95, 3) := by decide +kernel
theorem dX13_empties_37 : decode cX13_empties 37 = .ok (.iconst 3, 1) := by decide +kernel
theorem dX13_empties_38 : decode cX13_empties 38 = .ok (.iaload, 1) := by decide +kernel
theorem dX13_empties_39 : decode cX13_empties 39 = .ok (.iadd, 1) := by decide +kernel
theorem dX13_empties_40 : decode cX13_empties 40 = .ok (.iastore, 1) := by decide +kernel
theorem dX13_empties_41 : decode cX13_empties 41 = .ok (.iload_n 3, 1) := by decide +kernel
theorem dX13_empties_42 : decode cX13_empties 42 = .ok (.ireturn, 1) := by decide +kernel
set_option maxHeartbeats 4000000 in
set_option maxRecDepth 100000 in
theorem B_X13_empties {G : zG} {X : zX} {kd : kD} {N0 : Nat} (C : zCt G X 0 0 0 RX13 cX13_empties 4) (hr : (zXh X).sig.returnType = (some .int)) : ∀ f : Nat,
    (∀ (S : aS) (v0 : Nat) (v1 : Int32) (v2 : Int32) (res : Option Value × aS), zT0 kd N0 S → v0 < N0 → kd v0 = .inl 11 → F_X13_empties f 0 [.ref v0, .int v1, .int v2] S = some res → zV G X (zQX G X (zPo G kd N0 res) 0 0) 4 [some (.ref (zB G + v0)), some (.int v1), some (.int v2), none] [] (cn G kd N0 S) 0 0 0) := by
  intro f
  induction f with
  | zero => exact (fun _ _ _ _ _ _ _ _ h => by cases h)
  | succ f ih =>
    have ih0 := ih
    intro S v0 v1 v2 res hT hpv0 hkv0 hF
    replace hF : F_X13_empties_0 f (F_X13_empties f) v0 v1 v2 S = some res := hF
    unfold F_X13_empties_0 at hF
    refine z_aload_n C dX13_empties_0 rfl ?_
    refine f_getr C dX13_empties_1 zfRX13_119 hpv0 hkv0 rfl ?_
    obtain ⟨hp1, hk1⟩ := hT.1 v0 11 22 (.inr (0, 828)) hpv0 hkv0 rfl
    refine z_iload_n C dX13_empties_4 rfl ?_
    refine z_bipush (v := 20) C dX13_empties_5 (by decide) ?_
    refine z_iadd C dX13_empties_7 ?_
    refine z_iload_n C dX13_empties_8 rfl ?_
    refine z_iadd C dX13_empties_9 ?_
    obtain ⟨hi2, hF⟩ := bX_some hF
    obtain ⟨q2, eq2⟩ : ∃ q : Nat, q = Int32.toNatClampNeg ((v1 + (20 : Int32)) + v2) := ⟨_, rfl⟩
    rw [← eq2] at hF
    refine f_iald C dX13_empties_10 hp1 hk1 hi2 ?_
    rw [← eq2]
    refine z_istore_n (lv2 := [some (.ref (zB G + v0)), some (.int v1), some (.int v2), some (.int (gI S (gR S v0 22) q2))]) C dX13_empties_11 (by decide) rfl ?_
    refine z_aload_n C dX13_empties_12 rfl ?_
    refine f_getr C dX13_empties_13 zfRX13_119 hpv0 hkv0 rfl ?_
    obtain ⟨hp3, hk3⟩ := hT.1 v0 11 22 (.inr (0, 828)) hpv0 hkv0 rfl
    refine z_iload_n C dX13_empties_16 rfl ?_
    refine z_bipush (v := 20) C dX13_empties_17 (by decide) ?_
    refine z_iadd C dX13_empties_19 ?_
    refine z_iload_n C dX13_empties_20 rfl ?_
    refine z_iadd C dX13_empties_21 ?_
    refine z_iconst (v := 0) C dX13_empties_22 (by decide) ?_
    obtain ⟨hi4, hF⟩ := bX_some hF
    obtain ⟨q4, eq4⟩ : ∃ q : Nat, q = Int32.toNatClampNeg ((v1 + (20 : Int32)) + v2) := ⟨_, rfl⟩
    rw [← eq4] at hF
    refine f_iast C dX13_empties_23 hp3 hk3 hi4 ?_
    rw [← eq4]
    have hT5 : zT0 kd N0 (sI S (gR S v0 22) q4 0) := zT0_sI hT
    replace hF := fS_e hF
    generalize sI S (gR S v0 22) q4 0 = S5 at hF hT5 ⊢
    refine z_aload_n C dX13_empties_24 rfl ?_
    refine f_getr C dX13_empties_25 zfRX13_119 hpv0 hkv0 rfl ?_
    obtain ⟨hp6, hk6⟩ := hT5.1 v0 11 22 (.inr (0, 828)) hpv0 hkv0 rfl
    refine z_iload_n C dX13_empties_28 rfl ?_
    refine z_iconst (v := 3) C dX13_empties_29 (by decide) ?_
    refine z_iadd C dX13_empties_30 ?_
    refine z_dup2 C dX13_empties_31 rfl rfl ?_
    obtain ⟨hi7, hF⟩ := bX_some hF
    obtain ⟨q7, eq7⟩ : ∃ q : Nat, q = Int32.toNatClampNeg (v1 + (3 : Int32)) := ⟨_, rfl⟩
    rw [← eq7] at hF
    refine f_iald C dX13_empties_32 hp6 hk6 hi7 ?_
    rw [← eq7]
    refine z_aload_n C dX13_empties_33 rfl ?_
    refine f_getr C dX13_empties_34 zfRX13_95 hpv0 hkv0 rfl ?_
    obtain ⟨hp8, hk8⟩ := hT5.1 v0 11 10 (.inr (0, 140)) hpv0 hkv0 rfl
    refine z_iconst (v := 3) C dX13_empties_37 (by decide) ?_
    obtain ⟨hi9, hF⟩ := bX_some hF
    obtain ⟨q9, eq9⟩ : ∃ q : Nat, q = Int32.toNatClampNeg 3 := ⟨_, rfl⟩
    rw [← eq9] at hF
    refine f_iald C dX13_empties_38 hp8 hk8 hi9 ?_
    rw [← eq9]
    refine z_iadd C dX13_empties_39 ?_
    obtain ⟨hi10, hF⟩ := bX_some hF
    obtain ⟨q10, eq10⟩ : ∃ q : Nat, q = Int32.toNatClampNeg (v1 + (3 : Int32)) := ⟨_, rfl⟩
    rw [← eq10] at hF
    refine f_iast C dX13_empties_40 hp6 hk6 hi10 ?_
    rw [← eq10]
    have hT11 : zT0 kd N0 (sI S5 (gR S5 v0 22) q10 ((gI S5 (gR S5 v0 22) q7) + (gI S5 (gR S5 v0 10) q9))) := zT0_sI hT5
    replace hF := fS_e hF
    generalize sI S5 (gR S5 v0 22) q10 ((gI S5 (gR S5 v0 22) q7) + (gI S5 (gR S5 v0 10) q9)) = S11 at hF hT11 ⊢
    refine z_iload_n C dX13_empties_41 rfl ?_
    cases hF
    exact z_iret C hr dX13_empties_42 ⟨rfl, rfl, hT11⟩
theorem K_X13_empties {G : zG} {l : Launch} {kd : kD} {N0 f : Nat} {S : aS} {v0 : Nat} {v1 : Int32} {v2 : Int32} {res : Option Value × aS} (hT : zT0 kd N0 S) (hpv0 : v0 < N0) (hkv0 : kd v0 = .inl 11) (hF : F_X13_empties f 0 [.ref v0, .int v1, .int v2] S = some res) : zM G l 0 0 0 yX13_empties cX13_empties 4 (some .int) [.ref (zB G + v0), .int v1, .int v2] (cn G kd N0 S) (zPo G kd N0 res) := zM.of (by decide) rfl (Nat.le_of_ble_eq_true rfl) (fun X _ C hr _ => (B_X13_empties C hr f) S v0 v1 v2 res hT hpv0 hkv0 hF)
def F_X13_windOf_0 (f : Nat) (rc : Nat → List Value → aS → aR) (v0 : Nat) (v1 : Int32) (S : aS) : aR :=
  bX 2 140 fun q3 => bN (gI S (gR S v0 10) q3) (bX ((42 : Int32) + (v1 - v1 / (gI S (gR S v0 10) q3) * (gI S (gR S v0 10) q3))) 140 fun q5 => some (some (.int (gI S (gR S v0 10) q5)), S))
def F_X13_windOf : Nat → Nat → List Value → aS → aR
  | 0, _, _, _ => none
  | f + 1, 0, vs, S => F_X13_windOf_0 f (F_X13_windOf f) (vR vs 0) (vI vs 1) S
  | _ + 1, _, _, _ => none
theorem dX13_windOf_0 : decode cX13_windOf 0 = .ok (.aload_n 0, 1) := by decide +kernel
theorem dX13_windOf_1 : decode cX13_windOf 1 = .ok (.getfield 95, 3) := by decide +kernel
theorem dX13_windOf_4 : decode cX13_windOf 4 = .ok (.bipush 42, 2) := by decide +kernel
theorem dX13_windOf_6 : decode cX13_windOf 6 = .ok (.iload_n 1, 1) := by decide +kernel
theorem dX13_windOf_7 : decode cX13_windOf 7 = .ok (.aload_n 0, 1) := by decide +kernel
theorem dX13_windOf_8 : decode cX13_windOf 8 = .ok (.getfield 95, 3) := by decide +kernel
theorem dX13_windOf_11 : decode cX13_windOf 11 = .ok (.iconst 2, 1) := by decide +kernel
theorem dX13_windOf_12 : decode cX13_windOf 12 = .ok (.iaload, 1) := by decide +kernel
theorem dX13_windOf_13 : decode cX13_windOf 13 = .ok (.irem, 1) := by decide +kernel
theorem dX13_windOf_14 : decode cX13_windOf 14 = .ok (.iadd, 1) := by decide +kernel
theorem dX13_windOf_15 : decode cX13_windOf 15 = .ok (.iaload, 1) := by decide +kernel
theorem dX13_windOf_16 : decode cX13_windOf 16 = .ok (.ireturn, 1) := by decide +kernel
set_option maxHeartbeats 4000000 in
set_option maxRecDepth 100000 in
theorem B_X13_windOf {G : zG} {X : zX} {kd : kD} {N0 : Nat} (C : zCt G X 0 0 0 RX13 cX13_windOf 2) (hr : (zXh X).sig.returnType = (some .int)) : ∀ f : Nat,
    (∀ (S : aS) (v0 : Nat) (v1 : Int32) (res : Option Value × aS), zT0 kd N0 S → v0 < N0 → kd v0 = .inl 11 → F_X13_windOf f 0 [.ref v0, .int v1] S = some res → zV G X (zQX G X (zPo G kd N0 res) 0 0) 2 [some (.ref (zB G + v0)), some (.int v1)] [] (cn G kd N0 S) 0 0 0) := by
  intro f
  induction f with
  | zero => exact (fun _ _ _ _ _ _ _ h => by cases h)
  | succ f ih =>
    have ih0 := ih
    intro S v0 v1 res hT hpv0 hkv0 hF
    replace hF : F_X13_windOf_0 f (F_X13_windOf f) v0 v1 S = some res := hF
    unfold F_X13_windOf_0 at hF
    refine z_aload_n C dX13_windOf_0 rfl ?_
    refine f_getr C dX13_windOf_1 zfRX13_95 hpv0 hkv0 rfl ?_
    obtain ⟨hp1, hk1⟩ := hT.1 v0 11 10 (.inr (0, 140)) hpv0 hkv0 rfl
    refine z_bipush (v := 42) C dX13_windOf_4 (by decide) ?_
    refine z_iload_n C dX13_windOf_6 rfl ?_
    refine z_aload_n C dX13_windOf_7 rfl ?_
    refine f_getr C dX13_windOf_8 zfRX13_95 hpv0 hkv0 rfl ?_
    obtain ⟨hp2, hk2⟩ := hT.1 v0 11 10 (.inr (0, 140)) hpv0 hkv0 rfl
    refine z_iconst (v := 2) C dX13_windOf_11 (by decide) ?_
    obtain ⟨hi3, hF⟩ := bX_some hF
    obtain ⟨q3, eq3⟩ : ∃ q : Nat, q = Int32.toNatClampNeg 2 := ⟨_, rfl⟩
    rw [← eq3] at hF
    refine f_iald C dX13_windOf_12 hp2 hk2 hi3 ?_
    rw [← eq3]
    obtain ⟨hz4, hF⟩ := bN_some hF
    refine z_irem C dX13_windOf_13 hz4 ?_
    refine z_iadd C dX13_windOf_14 ?_
    obtain ⟨hi5, hF⟩ := bX_some hF
    obtain ⟨q5, eq5⟩ : ∃ q : Nat, q = Int32.toNatClampNeg ((42 : Int32) + (v1 - v1 / (gI S (gR S v0 10) q3) * (gI S (gR S v0 10) q3))) := ⟨_, rfl⟩
    rw [← eq5] at hF
    refine f_iald C dX13_windOf_15 hp1 hk1 hi5 ?_
    rw [← eq5]
    cases hF
    exact z_iret C hr dX13_windOf_16 ⟨rfl, rfl, hT⟩
theorem K_X13_windOf {G : zG} {l : Launch} {kd : kD} {N0 f : Nat} {S : aS} {v0 : Nat} {v1 : Int32} {res : Option Value × aS} (hT : zT0 kd N0 S) (hpv0 : v0 < N0) (hkv0 : kd v0 = .inl 11) (hF : F_X13_windOf f 0 [.ref v0, .int v1] S = some res) : zM G l 0 0 0 yX13_windOf cX13_windOf 2 (some .int) [.ref (zB G + v0), .int v1] (cn G kd N0 S) (zPo G kd N0 res) := zM.of (by decide) rfl (Nat.le_of_ble_eq_true rfl) (fun X _ C hr _ => (B_X13_windOf C hr f) S v0 v1 res hT hpv0 hkv0 hF)
def F_X13_passes_0 (f : Nat) (rc : Nat → List Value → aS → aR) (v0 : Nat) (v1 : Int32) (S : aS) : aR :=
  bX (v1 + (0 : Int32)) 828 fun q2 => bI (F_X13_windOf f 0 [.ref v0, .int (gI S (gR S v0 22) q2)] S) fun x3 S3 => lI (if x3 = (1 : Int32) then (1 : Int32) else (-1 : Int32)) fun y6 => rc 1 [.ref v0, .int v1, .int x3, .int y6, .int 0] S3
def F_X13_passes_1 (f : Nat) (rc : Nat → List Value → aS → aR) (v0 : Nat) (v1 : Int32) (v2 : Int32) (v3 : Int32) (v4 : Int32) (S : aS) : aR :=
  bI (F_X13_yards f 0 [.ref v0] S) fun x7 S7 => if x7 ≤ v4 then rc 2 [.ref v0, .int v1, .int v2, .int v3, .int 0] S7 else if v2 ≤ (0 : Int32) then rc 3 [.ref v0, .int v1, .int v2, .int v3, .int v4, .int v4, .ref (gR S7 v0 29)] S7 else bI (F_X13_isYard f 0 [.ref v0, .int (v4 + v3)] S7) fun x15 S15 => if x15 = (0 : Int32) then rc 3 [.ref v0, .int v1, .int v2, .int v3, .int v4, .int v4, .ref (gR S7 v0 29)] S15 else bX ((v1 + (4 : Int32)) + v4) 828 fun q20 => rc 4 [.ref v0, .int v1, .int v2, .int v3, .int v4, .int ((gI S15 (gR S15 v0 22) q20) / (2 : Int32)), .int v4, .ref (gR S7 v0 29)] S15
def F_X13_passes_2 (f : Nat) (rc : Nat → List Value → aS → aR) (v0 : Nat) (v1 : Int32) (v2 : Int32) (v3 : Int32) (v4 : Int32) (S : aS) : aR :=
  bI (F_X13_yards f 0 [.ref v0] S) fun x21 S21 => if x21 ≤ v4 then rc 5 [.ref v0, .int v1, .int v2, .int v3, .int 0] S21 else bX ((v1 + (4 : Int32)) + v4) 828 fun q26 => bX v4 8 fun q28 => bX ((v1 + (4 : Int32)) + v4) 828 fun q29 => fS (sI S21 (gR S21 v0 22) q29 ((gI S21 (gR S21 v0 22) q26) - (gI S21 (gR S21 v0 29) q28))) fun S30 => rc 2 [.ref v0, .int v1, .int v2, .int v3, .int (v4 + 1)] S30
def F_X13_passes_3 (f : Nat) (rc : Nat → List Value → aS → aR) (v0 : Nat) (v1 : Int32) (v2 : Int32) (v3 : Int32) (v4 : Int32) (w0 : Int32) (w1 : Nat) (S : aS) : aR :=
  rc 4 [.ref v0, .int v1, .int v2, .int v3, .int v4, .int 0, .int w0, .ref w1] S
def F_X13_passes_4 (f : Nat) (rc : Nat → List Value → aS → aR) (v0 : Nat) (v1 : Int32) (v2 : Int32) (v3 : Int32) (v4 : Int32) (w0 : Int32) (w1 : Int32) (w2 : Nat) (S : aS) : aR :=
  bX w1 8 fun q31 => fS (sI S w2 q31 w0) fun S32 => rc 1 [.ref v0, .int v1, .int v2, .int v3, .int (v4 + 1)] S32
def F_X13_passes_5 (f : Nat) (rc : Nat → List Value → aS → aR) (v0 : Nat) (v1 : Int32) (v2 : Int32) (v3 : Int32) (v4 : Int32) (S : aS) : aR :=
  bI (F_X13_yards f 0 [.ref v0] S) fun x33 S33 => if x33 ≤ v4 then bX (v1 + (0 : Int32)) 828 fun q37 => bX (v1 + (0 : Int32)) 828 fun q38 => fS (sI S33 (gR S33 v0 22) q38 ((gI S33 (gR S33 v0 22) q37) + (1 : Int32))) fun S39 => some (some (.int v2), S39) else bI (F_X13_isYard f 0 [.ref v0, .int (v4 - v3)] S33) fun x40 S40 => if x40 = (0 : Int32) then rc 6 [.ref v0, .int v1, .int v2, .int v3, .int v4, .int 0] S40 else bX (v4 - v3) 8 fun q45 => rc 6 [.ref v0, .int v1, .int v2, .int v3, .int v4, .int (gI S40 (gR S40 v0 29) q45)] S40
def F_X13_passes_6 (f : Nat) (rc : Nat → List Value → aS → aR) (v0 : Nat) (v1 : Int32) (v2 : Int32) (v3 : Int32) (v4 : Int32) (w0 : Int32) (S : aS) : aR :=
  bX ((v1 + (4 : Int32)) + v4) 828 fun q48 => if ((gI S (gR S v0 22) q48) + w0) ≤ (999 : Int32) then bX ((v1 + (4 : Int32)) + v4) 828 fun q53 => rc 7 [.ref v0, .int v1, .int v2, .int v3, .int v4, .int ((gI S (gR S v0 22) q53) + w0), .int ((v1 + (4 : Int32)) + v4), .ref (gR S v0 22)] S else rc 7 [.ref v0, .int v1, .int v2, .int v3, .int v4, .int 999, .int ((v1 + (4 : Int32)) + v4), .ref (gR S v0 22)] S
def F_X13_passes_7 (f : Nat) (rc : Nat → List Value → aS → aR) (v0 : Nat) (v1 : Int32) (v2 : Int32) (v3 : Int32) (v4 : Int32) (w0 : Int32) (w1 : Int32) (w2 : Nat) (S : aS) : aR :=
  bX w1 828 fun q54 => fS (sI S w2 q54 w0) fun S55 => rc 5 [.ref v0, .int v1, .int v2, .int v3, .int (v4 + 1)] S55
def F_X13_passes : Nat → Nat → List Value → aS → aR
  | 0, _, _, _ => none
  | f + 1, 0, vs, S => F_X13_passes_0 f (F_X13_passes f) (vR vs 0) (vI vs 1) S
  | f + 1, 1, vs, S => F_X13_passes_1 f (F_X13_passes f) (vR vs 0) (vI vs 1) (vI vs 2) (vI vs 3) (vI vs 4) S
  | f + 1, 2, vs, S => F_X13_passes_2 f (F_X13_passes f) (vR vs 0) (vI vs 1) (vI vs 2) (vI vs 3) (vI vs 4) S
  | f + 1, 3, vs, S => F_X13_passes_3 f (F_X13_passes f) (vR vs 0) (vI vs 1) (vI vs 2) (vI vs 3) (vI vs 4) (vI vs 5) (vR vs 6) S
  | f + 1, 4, vs, S => F_X13_passes_4 f (F_X13_passes f) (vR vs 0) (vI vs 1) (vI vs 2) (vI vs 3) (vI vs 4) (vI vs 5) (vI vs 6) (vR vs 7) S
  | f + 1, 5, vs, S => F_X13_passes_5 f (F_X13_passes f) (vR vs 0) (vI vs 1) (vI vs 2) (vI vs 3) (vI vs 4) S
  | f + 1, 6, vs, S => F_X13_passes_6 f (F_X13_passes f) (vR vs 0) (vI vs 1) (vI vs 2) (vI vs 3) (vI vs 4) (vI vs 5) S
  | f + 1, 7, vs, S => F_X13_passes_7 f (F_X13_passes f) (vR vs 0) (vI vs 1) (vI vs 2) (vI vs 3) (vI vs 4) (vI vs 5) (vI vs 6) (vR vs 7) S
  | _ + 1, _, _, _ => none
theorem dX13_passes_0 : decode cX13_passes 0 = .ok (.aload_n 0, 1) := by decide +kernel
theorem dX13_passes_1 : decode cX13_passes 1 = .ok (.aload_n 0, 1) := by decide +kernel
theorem dX13_passes_2 : decode cX13_passes 2 = .ok (.getfield 119, 3) := by decide +kernel
theorem dX13_passes_5 : decode cX13_passes 5 = .ok (.iload_n 1, 1) := by decide +kernel
theorem dX13_passes_6 : decode cX13_passes 6 = .ok (.iconst 0, 1) := by decide +kernel
theorem dX13_passes_7 : decode cX13_passes 7 = .ok (.iadd, 1) := by decide +kernel
theorem dX13_passes_8 : decode cX13_passes 8 = .ok (.iaload, 1) := by decide +kernel
theorem dX13_passes_9 : decode cX13_passes 9 = .ok (.invokevirtual 333, 3) := by decide +kernel
theorem dX13_passes_12 : decode cX13_passes 12 = .ok (.istore_n 2, 1) := by decide +kernel
theorem dX13_passes_13 : decode cX13_passes 13 = .ok (.iload_n 2, 1) := by decide +kernel
theorem dX13_passes_14 : decode cX13_passes 14 = .ok (.iconst 1, 1) := by decide +kernel
theorem dX13_passes_15 : decode cX13_passes 15 = .ok (.if_icmp .ne 7, 3) := by decide +kernel
theorem dX13_passes_18 : decode cX13_passes 18 = .ok (.iconst 1, 1) := by decide +kernel
theorem dX13_passes_19 : decode cX13_passes 19 = .ok (.goto 4, 3) := by decide +kernel
theorem dX13_passes_22 : decode cX13_passes 22 = .ok (.iconst (-1), 1) := by decide +kernel
theorem dX13_passes_23 : decode cX13_passes 23 = .ok (.istore_n 3, 1) := by decide +kernel
theorem dX13_passes_24 : decode cX13_passes 24 = .ok (.iconst 0, 1) := by decide +kernel
theorem dX13_passes_25 : decode cX13_passes 25 = .ok (.istore 4, 2) := by decide +kernel
theorem dX13_passes_27 : decode cX13_passes 27 = .ok (.iload 4, 2) := by decide +kernel
theorem dX13_passes_29 : decode cX13_passes 29 = .ok (.aload_n 0, 1) := by decide +kernel
theorem dX13_passes_30 : decode cX13_passes 30 = .ok (.invokevirtual 279, 3) := by decide +kernel
theorem dX13_passes_33 : decode cX13_passes 33 = .ok (.if_icmp .ge 48, 3) := by decide +kernel
theorem dX13_passes_36 : decode cX13_passes 36 = .ok (.aload_n 0, 1) := by decide +kernel
theorem dX13_passes_37 : decode cX13_passes 37 = .ok (.getfield 129, 3) := by decide +kernel
theorem dX13_passes_40 : decode cX13_passes 40 = .ok (.iload 4, 2) := by decide +kernel
theorem dX13_passes_42 : decode cX13_passes 42 = .ok (.iload_n 2, 1) := by decide +kernel
theorem dX13_passes_43 : decode cX13_passes 43 = .ok (.ifCond .le 30, 3) := by decide +kernel
theorem dX13_passes_46 : decode cX13_passes 46 = .ok (.aload_n 0, 1) := by decide +kernel
theorem dX13_passes_47 : decode cX13_passes 47 = .ok (.iload 4, 2) := by decide +kernel
theorem dX13_passes_49 : decode cX13_passes 49 = .ok (.iload_n 3, 1) := by decide +kernel
theorem dX13_passes_50 : decode cX13_passes 50 = .ok (.iadd, 1) := by decide +kernel
theorem dX13_passes_51 : decode cX13_passes 51 = .ok (.invokevirtual 336, 3) := by decide +kernel
theorem dX13_passes_54 : decode cX13_passes 54 = .ok (.ifCond .eq 19, 3) := by decide +kernel
theorem dX13_passes_57 : decode cX13_passes 57 = .ok (.aload_n 0, 1) := by decide +kernel
theorem dX13_passes_58 : decode cX13_passes 58 = .ok (.getfield 119, 3) := by decide +kernel
theorem dX13_passes_61 : decode cX13_passes 61 = .ok (.iload_n 1, 1) := by decide +kernel
theorem dX13_passes_62 : decode cX13_passes 62 = .ok (.iconst 4, 1) := by decide +kernel
theorem dX13_passes_63 : decode cX13_passes 63 = .ok (.iadd, 1) := by decide +kernel
theorem dX13_passes_64 : decode cX13_passes 64 = .ok (.iload 4, 2) := by decide +kernel
theorem dX13_passes_66 : decode cX13_passes 66 = .ok (.iadd, 1) := by decide +kernel
theorem dX13_passes_67 : decode cX13_passes 67 = .ok (.iaload, 1) := by decide +kernel
theorem dX13_passes_68 : decode cX13_passes 68 = .ok (.iconst 2, 1) := by decide +kernel
theorem dX13_passes_69 : decode cX13_passes 69 = .ok (.idiv, 1) := by decide +kernel
theorem dX13_passes_70 : decode cX13_passes 70 = .ok (.goto 4, 3) := by decide +kernel
theorem dX13_passes_73 : decode cX13_passes 73 = .ok (.iconst 0, 1) := by decide +kernel
theorem dX13_passes_74 : decode cX13_passes 74 = .ok (.iastore, 1) := by decide +kernel
theorem dX13_passes_75 : decode cX13_passes 75 = .ok (.iinc 4 1, 3) := by decide +kernel
theorem dX13_passes_78 : decode cX13_passes 78 = .ok (.goto (-51), 3) := by decide +kernel
theorem dX13_passes_81 : decode cX13_passes 81 = .ok (.iconst 0, 1) := by decide +kernel
theorem dX13_passes_82 : decode cX13_passes 82 = .ok (.istore 4, 2) := by decide +kernel
theorem dX13_passes_84 : decode cX13_passes 84 = .ok (.iload 4, 2) := by decide +kernel
theorem dX13_passes_86 : decode cX13_passes 86 = .ok (.aload_n 0, 1) := by decide +kernel
theorem dX13_passes_87 : decode cX13_passes 87 = .ok (.invokevirtual 279, 3) := by decide +kernel
theorem dX13_passes_90 : decode cX13_passes 90 = .ok (.if_icmp .ge 30, 3) := by decide +kernel
theorem dX13_passes_93 : decode cX13_passes 93 = .ok (.aload_n 0, 1) := by decide +kernel
theorem dX13_passes_94 : decode cX13_passes 94 = .ok (.getfield 119, 3) := by decide +kernel
theorem dX13_passes_97 : decode cX13_passes 97 = .ok (.iload_n 1, 1) := by decide +kernel
theorem dX13_passes_98 : decode cX13_passes 98 = .ok (.iconst 4, 1) := by decide +kernel
theorem dX13_passes_99 : decode cX13_passes 99 = .ok (.iadd, 1) := by decide +kernel
theorem dX13_passes_100 : decode cX13_passes 100 = .ok (.iload 4, 2) := by decide +kernel
theorem dX13_passes_102 : decode cX13_passes 102 = .ok (.iadd, 1) := by decide +kernel
theorem dX13_passes_103 : decode cX13_passes 103 = .ok (.dup2, 1) := by decide +kernel
theorem dX13_passes_104 : decode cX13_passes 104 = .ok (.iaload, 1) := by decide +kernel
theorem dX13_passes_105 : decode cX13_passes 105 = .ok (.aload_n 0, 1) := by decide +kernel
theorem dX13_passes_106 : decode cX13_passes 106 = .ok (.getfield 129, 3) := by decide +kernel
theorem dX13_passes_109 : decode cX13_passes 109 = .ok (.iload 4, 2) := by decide +kernel
theorem dX13_passes_111 : decode cX13_passes 111 = .ok (.iaload, 1) := by decide +kernel
theorem dX13_passes_112 : decode cX13_passes 112 = .ok (.isub, 1) := by decide +kernel
theorem dX13_passes_113 : decode cX13_passes 113 = .ok (.iastore, 1) := by decide +kernel
theorem dX13_passes_114 : decode cX13_passes 114 = .ok (.iinc 4 1, 3) := by decide +kernel
theorem dX13_passes_117 : decode cX13_passes 117 = .ok (.goto (-33), 3) := by decide +kernel
theorem dX13_passes_120 : decode cX13_passes 120 = .ok (.iconst 0, 1) := by decide +kernel
theorem dX13_passes_121 : decode cX13_passes 121 = .ok (.istore 4, 2) := by decide +kernel
theorem dX13_passes_123 : decode cX13_passes 123 = .ok (.iload 4, 2) := by decide +kernel
theorem dX13_passes_125 : decode cX13_passes 125 = .ok (.aload_n 0, 1) := by decide +kernel
theorem dX13_passes_126 : decode cX13_passes 126 = .ok (.invokevirtual 279, 3) := by decide +kernel
theorem dX13_passes_129 : decode cX13_passes 129 = .ok (.if_icmp .ge 86, 3) := by decide +kernel
theorem dX13_passes_132 : decode cX13_passes 132 = .ok (.aload_n 0, 1) := by decide +kernel
theorem dX13_passes_133 : decode cX13_passes 133 = .ok (.iload 4, 2) := by decide +kernel
theorem dX13_passes_135 : decode cX13_passes 135 = .ok (.iload_n 3, 1) := by decide +kernel
theorem dX13_passes_136 : decode cX13_passes 136 = .ok (.isub, 1) := by decide +kernel
theorem dX13_passes_137 : decode cX13_passes 137 = .ok (.invokevirtual 336, 3) := by decide +kernel
theorem dX13_passes_140 : decode cX13_passes 140 = .ok (.ifCond .eq 15, 3) := by decide +kernel
theorem dX13_passes_143 : decode cX13_passes 143 = .ok (.aload_n 0, 1) := by decide +kernel
theorem dX13_passes_144 : decode cX13_passes 144 = .ok (.getfield 129, 3) := by decide +kernel
theorem dX13_passes_147 : decode cX13_passes 147 = .ok (.iload 4, 2) := by decide +kernel
theorem dX13_passes_149 : decode cX13_passes 149 = .ok (.iload_n 3, 1) := by decide +kernel
theorem dX13_passes_150 : decode cX13_passes 150 = .ok (.isub, 1) := by decide +kernel
theorem dX13_passes_151 : decode cX13_passes 151 = .ok (.iaload, 1) := by decide +kernel
theorem dX13_passes_152 : decode cX13_passes 152 = .ok (.goto 4, 3) := by decide +kernel
theorem dX13_passes_155 : decode cX13_passes 155 = .ok (.iconst 0, 1) := by decide +kernel
theorem dX13_passes_156 : decode cX13_passes 156 = .ok (.istore 5, 2) := by decide +kernel
theorem dX13_passes_158 : decode cX13_passes 158 = .ok (.aload_n 0, 1) := by decide +kernel
theorem dX13_passes_159 : decode cX13_passes 159 = .ok (.getfield 119, 3) := by decide +kernel
theorem dX13_passes_162 : decode cX13_passes 162 = .ok (.iload_n 1, 1) := by decide +kernel
theorem dX13_passes_163 : decode cX13_passes 163 = .ok (.iconst 4, 1) := by decide +kernel
theorem dX13_passes_164 : decode cX13_passes 164 = .ok (.iadd, 1) := by decide +kernel
theorem dX13_passes_165 : decode cX13_passes 165 = .ok (.iload 4, 2) := by decide +kernel
theorem dX13_passes_167 : decode cX13_passes 167 = .ok (.iadd, 1) := by decide +kernel
theorem dX13_passes_168 : decode cX13_passes 168 = .ok (.aload_n 0, 1) := by decide +kernel
theorem dX13_passes_169 : decode cX13_passes 169 = .ok (.getfield 119, 3) := by decide +kernel
theorem dX13_passes_172 : decode cX13_passes 172 = .ok (.iload_n 1, 1) := by decide +kernel
theorem dX13_passes_173 : decode cX13_passes 173 = .ok (.iconst 4, 1) := by decide +kernel
theorem dX13_passes_174 : decode cX13_passes 174 = .ok (.iadd, 1) := by decide +kernel
theorem dX13_passes_175 : decode cX13_passes 175 = .ok (.iload 4, 2) := by decide +kernel
theorem dX13_passes_177 : decode cX13_passes 177 = .ok (.iadd, 1) := by decide +kernel
theorem dX13_passes_178 : decode cX13_passes 178 = .ok (.iaload, 1) := by decide +kernel
theorem dX13_passes_179 : decode cX13_passes 179 = .ok (.iload 5, 2) := by decide +kernel
theorem dX13_passes_181 : decode cX13_passes 181 = .ok (.iadd, 1) := by decide +kernel
theorem dX13_passes_182 : decode cX13_passes 182 = .ok (.sipush 999, 3) := by decide +kernel
theorem dX13_passes_185 : decode cX13_passes 185 = .ok (.if_icmp .le 9, 3) := by decide +kernel
theorem dX13_passes_188 : decode cX13_passes 188 = .ok (.sipush 999, 3) := by decide +kernel
theorem dX13_passes_191 : decode cX13_passes 191 = .ok (.goto 17, 3) := by decide +kernel
theorem dX13_passes_194 : decode cX13_passes 194 = .ok (.aload_n 0, 1) := by decide +kernel
theorem dX13_passes_195 : decode cX13_passes 195 = .ok (.getfield 119, 3) := by decide +kernel
theorem dX13_passes_198 : decode cX13_passes 198 = .ok (.iload_n 1, 1) := by decide +kernel
theorem dX13_passes_199 : decode cX13_passes 199 = .ok (.iconst 4, 1) := by decide +kernel
theorem dX13_passes_200 : decode cX13_passes 200 = .ok (.iadd, 1) := by decide +kernel
theorem dX13_passes_201 : decode cX13_passes 201 = .ok (.iload 4, 2) := by decide +kernel
theorem dX13_passes_203 : decode cX13_passes 203 = .ok (.iadd, 1) := by decide +kernel
theorem dX13_passes_204 : decode cX13_passes 204 = .ok (.iaload, 1) := by decide +kernel
theorem dX13_passes_205 : decode cX13_passes 205 = .ok (.iload 5, 2) := by decide +kernel
theorem dX13_passes_207 : decode cX13_passes 207 = .ok (.iadd, 1) := by decide +kernel
theorem dX13_passes_208 : decode cX13_passes 208 = .ok (.iastore, 1) := by decide +kernel
theorem dX13_passes_209 : decode cX13_passes 209 = .ok (.iinc 4 1, 3) := by decide +kernel
theorem dX13_passes_212 : decode cX13_passes 212 = .ok (.goto (-89), 3) := by decide +kernel
theorem dX13_passes_215 : decode cX13_passes 215 = .ok (.aload_n 0, 1) := by decide +kernel
theorem dX13_passes_216 : decode cX13_passes 216 = .ok (.getfield 119, 3) := by decide +kernel
theorem dX13_passes_219 : decode cX13_passes 219 = .ok (.iload_n 1, 1) := by decide +kernel
theorem dX13_passes_220 : decode cX13_passes 220 = .ok (.iconst 0, 1) := by decide +kernel
theorem dX13_passes_221 : decode cX13_passes 221 = .ok (.iadd, 1) := by decide +kernel
theorem dX13_passes_222 : decode cX13_passes 222 = .ok (.dup2, 1) := by decide +kernel
theorem dX13_passes_223 : decode cX13_passes 223 = .ok (.iaload, 1) := by decide +kernel
theorem dX13_passes_224 : decode cX13_passes 224 = .ok (.iconst 1, 1) := by decide +kernel
theorem dX13_passes_225 : decode cX13_passes 225 = .ok (.iadd, 1) := by decide +kernel
theorem dX13_passes_226 : decode cX13_passes 226 = .ok (.iastore, 1) := by decide +kernel
theorem dX13_passes_227 : decode cX13_passes 227 = .ok (.iload_n 2, 1) := by decide +kernel
theorem dX13_passes_228 : decode cX13_passes 228 = .ok (.ireturn, 1) := by decide +kernel
set_option maxHeartbeats 4000000 in
set_option maxRecDepth 100000 in
theorem B_X13_passes {G : zG} {X : zX} {kd : kD} {N0 : Nat} (C : zCt G X 2 0 0 RX13 cX13_passes 6) (hr : (zXh X).sig.returnType = (some .int)) : ∀ f : Nat,
    (∀ (S : aS) (v0 : Nat) (v1 : Int32) (res : Option Value × aS), zT0 kd N0 S → v0 < N0 → kd v0 = .inl 11 → F_X13_passes f 0 [.ref v0, .int v1] S = some res → zV G X (zQX G X (zPo G kd N0 res) 0 0) 6 [some (.ref (zB G + v0)), some (.int v1), none, none, none, none] [] (cn G kd N0 S) 0 0 0) ∧
    (∀ (S : aS) (v0 : Nat) (v1 : Int32) (v2 : Int32) (v3 : Int32) (v4 : Int32) (res : Option Value × aS), zT0 kd N0 S → v0 < N0 → kd v0 = .inl 11 → F_X13_passes f 1 [.ref v0, .int v1, .int v2, .int v3, .int v4] S = some res → zV G X (zQX G X (zPo G kd N0 res) 0 0) 6 [some (.ref (zB G + v0)), some (.int v1), some (.int v2), some (.int v3), some (.int v4), none] [] (cn G kd N0 S) 27 0 0) ∧
    (∀ (S : aS) (v0 : Nat) (v1 : Int32) (v2 : Int32) (v3 : Int32) (v4 : Int32) (res : Option Value × aS), zT0 kd N0 S → v0 < N0 → kd v0 = .inl 11 → F_X13_passes f 2 [.ref v0, .int v1, .int v2, .int v3, .int v4] S = some res → zV G X (zQX G X (zPo G kd N0 res) 0 0) 6 [some (.ref (zB G + v0)), some (.int v1), some (.int v2), some (.int v3), some (.int v4), none] [] (cn G kd N0 S) 84 0 0) ∧
    (∀ (S : aS) (v0 : Nat) (v1 : Int32) (v2 : Int32) (v3 : Int32) (v4 : Int32) (w0 : Int32) (w1 : Nat) (res : Option Value × aS), zT0 kd N0 S → v0 < N0 → kd v0 = .inl 11 → w1 < N0 → kd w1 = .inr (0, 8) → F_X13_passes f 3 [.ref v0, .int v1, .int v2, .int v3, .int v4, .int w0, .ref w1] S = some res → zV G X (zQX G X (zPo G kd N0 res) 0 0) 6 [some (.ref (zB G + v0)), some (.int v1), some (.int v2), some (.int v3), some (.int v4), none] [.int w0, .ref (zB G + w1)] (cn G kd N0 S) 73 0 0) ∧
    (∀ (S : aS) (v0 : Nat) (v1 : Int32) (v2 : Int32) (v3 : Int32) (v4 : Int32) (w0 : Int32) (w1 : Int32) (w2 : Nat) (res : Option Value × aS), zT0 kd N0 S → v0 < N0 → kd v0 = .inl 11 → w2 < N0 → kd w2 = .inr (0, 8) → F_X13_passes f 4 [.ref v0, .int v1, .int v2, .int v3, .int v4, .int w0, .int w1, .ref w2] S = some res → zV G X (zQX G X (zPo G kd N0 res) 0 0) 6 [some (.ref (zB G + v0)), some (.int v1), some (.int v2), some (.int v3), some (.int v4), none] [.int w0, .int w1, .ref (zB G + w2)] (cn G kd N0 S) 74 0 0) ∧
    (∀ (S : aS) (v0 : Nat) (v1 : Int32) (v2 : Int32) (v3 : Int32) (v4 : Int32) (res : Option Value × aS), zT0 kd N0 S → v0 < N0 → kd v0 = .inl 11 → F_X13_passes f 5 [.ref v0, .int v1, .int v2, .int v3, .int v4] S = some res → zV G X (zQX G X (zPo G kd N0 res) 0 0) 6 [some (.ref (zB G + v0)), some (.int v1), some (.int v2), some (.int v3), some (.int v4), none] [] (cn G kd N0 S) 123 0 0) ∧
    (∀ (S : aS) (v0 : Nat) (v1 : Int32) (v2 : Int32) (v3 : Int32) (v4 : Int32) (w0 : Int32) (res : Option Value × aS), zT0 kd N0 S → v0 < N0 → kd v0 = .inl 11 → F_X13_passes f 6 [.ref v0, .int v1, .int v2, .int v3, .int v4, .int w0] S = some res → zV G X (zQX G X (zPo G kd N0 res) 0 0) 6 [some (.ref (zB G + v0)), some (.int v1), some (.int v2), some (.int v3), some (.int v4), none] [.int w0] (cn G kd N0 S) 156 0 0) ∧
    (∀ (S : aS) (v0 : Nat) (v1 : Int32) (v2 : Int32) (v3 : Int32) (v4 : Int32) (w0 : Int32) (w1 : Int32) (w2 : Nat) (res : Option Value × aS), zT0 kd N0 S → v0 < N0 → kd v0 = .inl 11 → w2 < N0 → kd w2 = .inr (0, 828) → F_X13_passes f 7 [.ref v0, .int v1, .int v2, .int v3, .int v4, .int w0, .int w1, .ref w2] S = some res → zV G X (zQX G X (zPo G kd N0 res) 0 0) 6 [some (.ref (zB G + v0)), some (.int v1), some (.int v2), some (.int v3), some (.int v4), none] [.int w0, .int w1, .ref (zB G + w2)] (cn G kd N0 S) 208 0 0) := by
  intro f
  induction f with
  | zero => exact ⟨(fun _ _ _ _ _ _ _ h => by cases h), (fun _ _ _ _ _ _ _ _ _ _ h => by cases h), (fun _ _ _ _ _ _ _ _ _ _ h => by cases h), (fun _ _ _ _ _ _ _ _ _ _ _ _ _ _ h => by cases h), (fun _ _ _ _ _ _ _ _ _ _ _ _ _ _ _ h => by cases h), (fun _ _ _ _ _ _ _ _ _ _ h => by cases h), (fun _ _ _ _ _ _ _ _ _ _ _ h => by cases h), (fun _ _ _ _ _ _ _ _ _ _ _ _ _ _ _ h => by cases h)⟩
  | succ f ih =>
    obtain ⟨ih0, ih1, ih2, ih3, ih4, ih5, ih6, ih7⟩ := ih
    refine ⟨?_, ?_, ?_, ?_, ?_, ?_, ?_, ?_⟩
    · intro S v0 v1 res hT hpv0 hkv0 hF
      replace hF : F_X13_passes_0 f (F_X13_passes f) v0 v1 S = some res := hF
      unfold F_X13_passes_0 at hF
      refine z_aload_n C dX13_passes_0 rfl ?_
      refine z_aload_n C dX13_passes_1 rfl ?_
      refine f_getr C dX13_passes_2 zfRX13_119 hpv0 hkv0 rfl ?_
      obtain ⟨hp1, hk1⟩ := hT.1 v0 11 22 (.inr (0, 828)) hpv0 hkv0 rfl
      refine z_iload_n C dX13_passes_5 rfl ?_
      refine z_iconst (v := 0) C dX13_passes_6 (by decide) ?_
      refine z_iadd C dX13_passes_7 ?_
      obtain ⟨hi2, hF⟩ := bX_some hF
      obtain ⟨q2, eq2⟩ : ∃ q : Nat, q = Int32.toNatClampNeg (v1 + (0 : Int32)) := ⟨_, rfl⟩
      rw [← eq2] at hF
      refine f_iald C dX13_passes_8 hp1 hk1 hi2 ?_
      rw [← eq2]
      obtain ⟨x3, S3, h3, hF⟩ := bI_some hF
      refine f_cV (st2 := [.int x3]) C dX13_passes_9 zyX13_windOf zvX13_windOf lkRX13_333 (K_X13_windOf (l := zXl X) hT hpv0 hkv0  h3) hpv0 hkv0 rfl (by decide) rfl rfl (Nat.le_of_ble_eq_true rfl) rfl (fun hT3 => ?_)
      refine z_istore_n (lv2 := [some (.ref (zB G + v0)), some (.int v1), some (.int x3), none, none, none]) C dX13_passes_12 (by decide) rfl ?_
      refine z_iload_n C dX13_passes_13 rfl ?_
      refine z_iconst (v := 1) C dX13_passes_14 (by decide) ?_
      have hJ5 : zV G X (zQX G X (zPo G kd N0 res) 0 0) 6 [some (.ref (zB G + v0)), some (.int v1), some (.int x3), none, none, none] [.int (if x3 = (1 : Int32) then (1 : Int32) else (-1 : Int32))] (cn G kd N0 S3) 23 0 0 := by
        replace hF := lI_e hF
        generalize (if x3 = (1 : Int32) then (1 : Int32) else (-1 : Int32)) = y6 at hF ⊢
        refine z_istore_n (lv2 := [some (.ref (zB G + v0)), some (.int v1), some (.int x3), some (.int y6), none, none]) C dX13_passes_23 (by decide) rfl ?_
        refine z_iconst (v := 0) C dX13_passes_24 (by decide) ?_
        refine z_istore (lv2 := [some (.ref (zB G + v0)), some (.int v1), some (.int x3), some (.int y6), some (.int 0), none]) C dX13_passes_25 (by decide) rfl ?_
        exact ih1 S3 v0 v1 x3 y6 0 res hT3 hpv0 hkv0     hF
      refine z_icmp_ne C 22 dX13_passes_15 (by decide) (fun c4 => ?_) (fun c4 => ?_)
      · refine z_iconst (v := (-1)) C dX13_passes_22 (by decide) ?_
        exact zV.at hJ5 (by first | rfl | contradiction | (simp only [if_neg c4]; done)) (by first | rfl | contradiction | (simp only [if_neg c4]; done)) rfl rfl
      · refine z_iconst (v := 1) C dX13_passes_18 (by decide) ?_
        refine z_goto C 23 dX13_passes_19 (by decide) ?_
        exact zV.at hJ5 (by first | rfl | contradiction | (simp only [if_pos c4]; done)) (by first | rfl | contradiction | (simp only [if_pos c4]; done)) rfl rfl
    · intro S v0 v1 v2 v3 v4 res hT hpv0 hkv0 hF
      replace hF : F_X13_passes_1 f (F_X13_passes f) v0 v1 v2 v3 v4 S = some res := hF
      unfold F_X13_passes_1 at hF
      refine z_iload C dX13_passes_27 rfl ?_
      refine z_aload_n C dX13_passes_29 rfl ?_
      obtain ⟨x7, S7, h7, hF⟩ := bI_some hF
      refine f_cV (st2 := [.int x7, .int v4]) C dX13_passes_30 zyX13_yards zvX13_yards lkRX13_279 (K_X13_yards (l := zXl X) hT hpv0 hkv0 h7) hpv0 hkv0 rfl (by decide) rfl rfl (Nat.le_of_ble_eq_true rfl) rfl (fun hT7 => ?_)
      refine z_icmp_ge C 81 dX13_passes_33 (by decide) (fun c11 => ?_) (fun c11 => ?_)
      · replace hF := ip hF c11
        refine z_iconst (v := 0) C dX13_passes_81 (by decide) ?_
        refine z_istore (lv2 := [some (.ref (zB G + v0)), some (.int v1), some (.int v2), some (.int v3), some (.int 0), none]) C dX13_passes_82 (by decide) rfl ?_
        exact ih2 S7 v0 v1 v2 v3 0 res hT7 hpv0 hkv0     hF
      · replace hF := im hF c11
        refine z_aload_n C dX13_passes_36 rfl ?_
        refine f_getr C dX13_passes_37 zfRX13_129 hpv0 hkv0 rfl ?_
        obtain ⟨hp12, hk12⟩ := hT7.1 v0 11 29 (.inr (0, 8)) hpv0 hkv0 rfl
        refine z_iload C dX13_passes_40 rfl ?_
        refine z_iload_n C dX13_passes_42 rfl ?_
        refine z_if_le C 73 dX13_passes_43 (by decide) (fun c14 => ?_) (fun c14 => ?_)
        · replace hF := ip hF c14
          exact ih3 S7 v0 v1 v2 v3 v4 v4 (gR S7 v0 29) res hT7 hpv0 hkv0      hp12 hk12 hF
        · replace hF := im hF c14
          refine z_aload_n C dX13_passes_46 rfl ?_
          refine z_iload C dX13_passes_47 rfl ?_
          refine z_iload_n C dX13_passes_49 rfl ?_
          refine z_iadd C dX13_passes_50 ?_
          obtain ⟨x15, S15, h15, hF⟩ := bI_some hF
          refine f_cV (st2 := [.int x15, .int v4, .ref (zB G + (gR S7 v0 29))]) C dX13_passes_51 zyX13_isYard zvX13_isYard lkRX13_336 (K_X13_isYard (l := zXl X) hT7 hpv0 hkv0  h15) hpv0 hkv0 rfl (by decide) rfl rfl (Nat.le_of_ble_eq_true rfl) rfl (fun hT15 => ?_)
          refine z_if_eq C 73 dX13_passes_54 (by decide) (fun c18 => ?_) (fun c18 => ?_)
          · replace hF := ip hF c18
            exact ih3 S15 v0 v1 v2 v3 v4 v4 (gR S7 v0 29) res hT15 hpv0 hkv0      hp12 hk12 hF
          · replace hF := im hF c18
            refine z_aload_n C dX13_passes_57 rfl ?_
            refine f_getr C dX13_passes_58 zfRX13_119 hpv0 hkv0 rfl ?_
            obtain ⟨hp19, hk19⟩ := hT15.1 v0 11 22 (.inr (0, 828)) hpv0 hkv0 rfl
            refine z_iload_n C dX13_passes_61 rfl ?_
            refine z_iconst (v := 4) C dX13_passes_62 (by decide) ?_
            refine z_iadd C dX13_passes_63 ?_
            refine z_iload C dX13_passes_64 rfl ?_
            refine z_iadd C dX13_passes_66 ?_
            obtain ⟨hi20, hF⟩ := bX_some hF
            obtain ⟨q20, eq20⟩ : ∃ q : Nat, q = Int32.toNatClampNeg ((v1 + (4 : Int32)) + v4) := ⟨_, rfl⟩
            rw [← eq20] at hF
            refine f_iald C dX13_passes_67 hp19 hk19 hi20 ?_
            rw [← eq20]
            refine z_iconst (v := 2) C dX13_passes_68 (by decide) ?_
            refine z_idiv C dX13_passes_69 (by decide) ?_
            refine z_goto C 74 dX13_passes_70 (by decide) ?_
            exact ih4 S15 v0 v1 v2 v3 v4 ((gI S15 (gR S15 v0 22) q20) / (2 : Int32)) v4 (gR S7 v0 29) res hT15 hpv0 hkv0       hp12 hk12 hF
    · intro S v0 v1 v2 v3 v4 res hT hpv0 hkv0 hF
      replace hF : F_X13_passes_2 f (F_X13_passes f) v0 v1 v2 v3 v4 S = some res := hF
      unfold F_X13_passes_2 at hF
      refine z_iload C dX13_passes_84 rfl ?_
      refine z_aload_n C dX13_passes_86 rfl ?_
      obtain ⟨x21, S21, h21, hF⟩ := bI_some hF
      refine f_cV (st2 := [.int x21, .int v4]) C dX13_passes_87 zyX13_yards zvX13_yards lkRX13_279 (K_X13_yards (l := zXl X) hT hpv0 hkv0 h21) hpv0 hkv0 rfl (by decide) rfl rfl (Nat.le_of_ble_eq_true rfl) rfl (fun hT21 => ?_)
      refine z_icmp_ge C 120 dX13_passes_90 (by decide) (fun c24 => ?_) (fun c24 => ?_)
      · replace hF := ip hF c24
        refine z_iconst (v := 0) C dX13_passes_120 (by decide) ?_
        refine z_istore (lv2 := [some (.ref (zB G + v0)), some (.int v1), some (.int v2), some (.int v3), some (.int 0), none]) C dX13_passes_121 (by decide) rfl ?_
        exact ih5 S21 v0 v1 v2 v3 0 res hT21 hpv0 hkv0     hF
      · replace hF := im hF c24
        refine z_aload_n C dX13_passes_93 rfl ?_
        refine f_getr C dX13_passes_94 zfRX13_119 hpv0 hkv0 rfl ?_
        obtain ⟨hp25, hk25⟩ := hT21.1 v0 11 22 (.inr (0, 828)) hpv0 hkv0 rfl
        refine z_iload_n C dX13_passes_97 rfl ?_
        refine z_iconst (v := 4) C dX13_passes_98 (by decide) ?_
        refine z_iadd C dX13_passes_99 ?_
        refine z_iload C dX13_passes_100 rfl ?_
        refine z_iadd C dX13_passes_102 ?_
        refine z_dup2 C dX13_passes_103 rfl rfl ?_
        obtain ⟨hi26, hF⟩ := bX_some hF
        obtain ⟨q26, eq26⟩ : ∃ q : Nat, q = Int32.toNatClampNeg ((v1 + (4 : Int32)) + v4) := ⟨_, rfl⟩
        rw [← eq26] at hF
        refine f_iald C dX13_passes_104 hp25 hk25 hi26 ?_
        rw [← eq26]
        refine z_aload_n C dX13_passes_105 rfl ?_
        refine f_getr C dX13_passes_106 zfRX13_129 hpv0 hkv0 rfl ?_
        obtain ⟨hp27, hk27⟩ := hT21.1 v0 11 29 (.inr (0, 8)) hpv0 hkv0 rfl
        refine z_iload C dX13_passes_109 rfl ?_
        obtain ⟨hi28, hF⟩ := bX_some hF
        obtain ⟨q28, eq28⟩ : ∃ q : Nat, q = Int32.toNatClampNeg v4 := ⟨_, rfl⟩
        rw [← eq28] at hF
        refine f_iald C dX13_passes_111 hp27 hk27 hi28 ?_
        rw [← eq28]
        refine z_isub C dX13_passes_112 ?_
        obtain ⟨hi29, hF⟩ := bX_some hF
        obtain ⟨q29, eq29⟩ : ∃ q : Nat, q = Int32.toNatClampNeg ((v1 + (4 : Int32)) + v4) := ⟨_, rfl⟩
        rw [← eq29] at hF
        refine f_iast C dX13_passes_113 hp25 hk25 hi29 ?_
        rw [← eq29]
        have hT30 : zT0 kd N0 (sI S21 (gR S21 v0 22) q29 ((gI S21 (gR S21 v0 22) q26) - (gI S21 (gR S21 v0 29) q28))) := zT0_sI hT21
        replace hF := fS_e hF
        generalize sI S21 (gR S21 v0 22) q29 ((gI S21 (gR S21 v0 22) q26) - (gI S21 (gR S21 v0 29) q28)) = S30 at hF hT30 ⊢
        refine z_iinc (v := v4 + 1) (lv2 := [some (.ref (zB G + v0)), some (.int v1), some (.int v2), some (.int v3), some (.int (v4 + 1)), none]) C dX13_passes_114 rfl (by rw [show Int32.ofInt 1 = (1 : Int32) from by decide]) rfl ?_
        refine z_goto C 84 dX13_passes_117 (by decide) ?_
        exact ih2 S30 v0 v1 v2 v3 (v4 + 1) res hT30 hpv0 hkv0     hF
    · intro S v0 v1 v2 v3 v4 w0 w1 res hT hpv0 hkv0 hpw1 hkw1 hF
      replace hF : F_X13_passes_3 f (F_X13_passes f) v0 v1 v2 v3 v4 w0 w1 S = some res := hF
      unfold F_X13_passes_3 at hF
      refine z_iconst (v := 0) C dX13_passes_73 (by decide) ?_
      exact ih4 S v0 v1 v2 v3 v4 0 w0 w1 res hT hpv0 hkv0       hpw1 hkw1 hF
    · intro S v0 v1 v2 v3 v4 w0 w1 w2 res hT hpv0 hkv0 hpw2 hkw2 hF
      replace hF : F_X13_passes_4 f (F_X13_passes f) v0 v1 v2 v3 v4 w0 w1 w2 S = some res := hF
      unfold F_X13_passes_4 at hF
      obtain ⟨hi31, hF⟩ := bX_some hF
      obtain ⟨q31, eq31⟩ : ∃ q : Nat, q = Int32.toNatClampNeg w1 := ⟨_, rfl⟩
      rw [← eq31] at hF
      refine f_iast C dX13_passes_74 hpw2 hkw2 hi31 ?_
      rw [← eq31]
      have hT32 : zT0 kd N0 (sI S w2 q31 w0) := zT0_sI hT
      replace hF := fS_e hF
      generalize sI S w2 q31 w0 = S32 at hF hT32 ⊢
      refine z_iinc (v := v4 + 1) (lv2 := [some (.ref (zB G + v0)), some (.int v1), some (.int v2), some (.int v3), some (.int (v4 + 1)), none]) C dX13_passes_75 rfl (by rw [show Int32.ofInt 1 = (1 : Int32) from by decide]) rfl ?_
      refine z_goto C 27 dX13_passes_78 (by decide) ?_
      exact ih1 S32 v0 v1 v2 v3 (v4 + 1) res hT32 hpv0 hkv0     hF
    · intro S v0 v1 v2 v3 v4 res hT hpv0 hkv0 hF
      replace hF : F_X13_passes_5 f (F_X13_passes f) v0 v1 v2 v3 v4 S = some res := hF
      unfold F_X13_passes_5 at hF
      refine z_iload C dX13_passes_123 rfl ?_
      refine z_aload_n C dX13_passes_125 rfl ?_
      obtain ⟨x33, S33, h33, hF⟩ := bI_some hF
      refine f_cV (st2 := [.int x33, .int v4]) C dX13_passes_126 zyX13_yards zvX13_yards lkRX13_279 (K_X13_yards (l := zXl X) hT hpv0 hkv0 h33) hpv0 hkv0 rfl (by decide) rfl rfl (Nat.le_of_ble_eq_true rfl) rfl (fun hT33 => ?_)
      refine z_icmp_ge C 215 dX13_passes_129 (by decide) (fun c35 => ?_) (fun c35 => ?_)
      · replace hF := ip hF c35
        refine z_aload_n C dX13_passes_215 rfl ?_
        refine f_getr C dX13_passes_216 zfRX13_119 hpv0 hkv0 rfl ?_
        obtain ⟨hp36, hk36⟩ := hT33.1 v0 11 22 (.inr (0, 828)) hpv0 hkv0 rfl
        refine z_iload_n C dX13_passes_219 rfl ?_
        refine z_iconst (v := 0) C dX13_passes_220 (by decide) ?_
        refine z_iadd C dX13_passes_221 ?_
        refine z_dup2 C dX13_passes_222 rfl rfl ?_
        obtain ⟨hi37, hF⟩ := bX_some hF
        obtain ⟨q37, eq37⟩ : ∃ q : Nat, q = Int32.toNatClampNeg (v1 + (0 : Int32)) := ⟨_, rfl⟩
        rw [← eq37] at hF
        refine f_iald C dX13_passes_223 hp36 hk36 hi37 ?_
        rw [← eq37]
        refine z_iconst (v := 1) C dX13_passes_224 (by decide) ?_
        refine z_iadd C dX13_passes_225 ?_
        obtain ⟨hi38, hF⟩ := bX_some hF
        obtain ⟨q38, eq38⟩ : ∃ q : Nat, q = Int32.toNatClampNeg (v1 + (0 : Int32)) := ⟨_, rfl⟩
        rw [← eq38] at hF
        refine f_iast C dX13_passes_226 hp36 hk36 hi38 ?_
        rw [← eq38]
        have hT39 : zT0 kd N0 (sI S33 (gR S33 v0 22) q38 ((gI S33 (gR S33 v0 22) q37) + (1 : Int32))) := zT0_sI hT33
        replace hF := fS_e hF
        generalize sI S33 (gR S33 v0 22) q38 ((gI S33 (gR S33 v0 22) q37) + (1 : Int32)) = S39 at hF hT39 ⊢
        refine z_iload_n C dX13_passes_227 rfl ?_
        cases hF
        exact z_iret C hr dX13_passes_228 ⟨rfl, rfl, hT39⟩
      · replace hF := im hF c35
        refine z_aload_n C dX13_passes_132 rfl ?_
        refine z_iload C dX13_passes_133 rfl ?_
        refine z_iload_n C dX13_passes_135 rfl ?_
        refine z_isub C dX13_passes_136 ?_
        obtain ⟨x40, S40, h40, hF⟩ := bI_some hF
        refine f_cV (st2 := [.int x40]) C dX13_passes_137 zyX13_isYard zvX13_isYard lkRX13_336 (K_X13_isYard (l := zXl X) hT33 hpv0 hkv0  h40) hpv0 hkv0 rfl (by decide) rfl rfl (Nat.le_of_ble_eq_true rfl) rfl (fun hT40 => ?_)
        refine z_if_eq C 155 dX13_passes_140 (by decide) (fun c43 => ?_) (fun c43 => ?_)
        · replace hF := ip hF c43
          refine z_iconst (v := 0) C dX13_passes_155 (by decide) ?_
          exact ih6 S40 v0 v1 v2 v3 v4 0 res hT40 hpv0 hkv0      hF
        · replace hF := im hF c43
          refine z_aload_n C dX13_passes_143 rfl ?_
          refine f_getr C dX13_passes_144 zfRX13_129 hpv0 hkv0 rfl ?_
          obtain ⟨hp44, hk44⟩ := hT40.1 v0 11 29 (.inr (0, 8)) hpv0 hkv0 rfl
          refine z_iload C dX13_passes_147 rfl ?_
          refine z_iload_n C dX13_passes_149 rfl ?_
          refine z_isub C dX13_passes_150 ?_
          obtain ⟨hi45, hF⟩ := bX_some hF
          obtain ⟨q45, eq45⟩ : ∃ q : Nat, q = Int32.toNatClampNeg (v4 - v3) := ⟨_, rfl⟩
          rw [← eq45] at hF
          refine f_iald C dX13_passes_151 hp44 hk44 hi45 ?_
          rw [← eq45]
          refine z_goto C 156 dX13_passes_152 (by decide) ?_
          exact ih6 S40 v0 v1 v2 v3 v4 (gI S40 (gR S40 v0 29) q45) res hT40 hpv0 hkv0      hF
    · intro S v0 v1 v2 v3 v4 w0 res hT hpv0 hkv0 hF
      replace hF : F_X13_passes_6 f (F_X13_passes f) v0 v1 v2 v3 v4 w0 S = some res := hF
      unfold F_X13_passes_6 at hF
      refine z_istore (lv2 := [some (.ref (zB G + v0)), some (.int v1), some (.int v2), some (.int v3), some (.int v4), some (.int w0)]) C dX13_passes_156 (by decide) rfl ?_
      refine z_aload_n C dX13_passes_158 rfl ?_
      refine f_getr C dX13_passes_159 zfRX13_119 hpv0 hkv0 rfl ?_
      obtain ⟨hp46, hk46⟩ := hT.1 v0 11 22 (.inr (0, 828)) hpv0 hkv0 rfl
      refine z_iload_n C dX13_passes_162 rfl ?_
      refine z_iconst (v := 4) C dX13_passes_163 (by decide) ?_
      refine z_iadd C dX13_passes_164 ?_
      refine z_iload C dX13_passes_165 rfl ?_
      refine z_iadd C dX13_passes_167 ?_
      refine z_aload_n C dX13_passes_168 rfl ?_
      refine f_getr C dX13_passes_169 zfRX13_119 hpv0 hkv0 rfl ?_
      obtain ⟨hp47, hk47⟩ := hT.1 v0 11 22 (.inr (0, 828)) hpv0 hkv0 rfl
      refine z_iload_n C dX13_passes_172 rfl ?_
      refine z_iconst (v := 4) C dX13_passes_173 (by decide) ?_
      refine z_iadd C dX13_passes_174 ?_
      refine z_iload C dX13_passes_175 rfl ?_
      refine z_iadd C dX13_passes_177 ?_
      obtain ⟨hi48, hF⟩ := bX_some hF
      obtain ⟨q48, eq48⟩ : ∃ q : Nat, q = Int32.toNatClampNeg ((v1 + (4 : Int32)) + v4) := ⟨_, rfl⟩
      rw [← eq48] at hF
      refine f_iald C dX13_passes_178 hp47 hk47 hi48 ?_
      rw [← eq48]
      refine z_iload C dX13_passes_179 rfl ?_
      refine z_iadd C dX13_passes_181 ?_
      refine z_sipush (v := 999) C dX13_passes_182 (by decide) ?_
      refine z_icmp_le C 194 dX13_passes_185 (by decide) (fun c51 => ?_) (fun c51 => ?_)
      · replace hF := ip hF c51
        refine z_aload_n C dX13_passes_194 rfl ?_
        refine f_getr C dX13_passes_195 zfRX13_119 hpv0 hkv0 rfl ?_
        obtain ⟨hp52, hk52⟩ := hT.1 v0 11 22 (.inr (0, 828)) hpv0 hkv0 rfl
        refine z_iload_n C dX13_passes_198 rfl ?_
        refine z_iconst (v := 4) C dX13_passes_199 (by decide) ?_
        refine z_iadd C dX13_passes_200 ?_
        refine z_iload C dX13_passes_201 rfl ?_
        refine z_iadd C dX13_passes_203 ?_
        obtain ⟨hi53, hF⟩ := bX_some hF
        obtain ⟨q53, eq53⟩ : ∃ q : Nat, q = Int32.toNatClampNeg ((v1 + (4 : Int32)) + v4) := ⟨_, rfl⟩
        rw [← eq53] at hF
        refine f_iald C dX13_passes_204 hp52 hk52 hi53 ?_
        rw [← eq53]
        refine z_iload C dX13_passes_205 rfl ?_
        refine z_iadd C dX13_passes_207 ?_
        refine z_mask [true, true, true, true, true, false] ?_ rfl
        exact ih7 S v0 v1 v2 v3 v4 ((gI S (gR S v0 22) q53) + w0) ((v1 + (4 : Int32)) + v4) (gR S v0 22) res hT hpv0 hkv0       hp46 hk46 hF
      · replace hF := im hF c51
        refine z_sipush (v := 999) C dX13_passes_188 (by decide) ?_
        refine z_goto C 208 dX13_passes_191 (by decide) ?_
        refine z_mask [true, true, true, true, true, false] ?_ rfl
        exact ih7 S v0 v1 v2 v3 v4 999 ((v1 + (4 : Int32)) + v4) (gR S v0 22) res hT hpv0 hkv0       hp46 hk46 hF
    · intro S v0 v1 v2 v3 v4 w0 w1 w2 res hT hpv0 hkv0 hpw2 hkw2 hF
      replace hF : F_X13_passes_7 f (F_X13_passes f) v0 v1 v2 v3 v4 w0 w1 w2 S = some res := hF
      unfold F_X13_passes_7 at hF
      obtain ⟨hi54, hF⟩ := bX_some hF
      obtain ⟨q54, eq54⟩ : ∃ q : Nat, q = Int32.toNatClampNeg w1 := ⟨_, rfl⟩
      rw [← eq54] at hF
      refine f_iast C dX13_passes_208 hpw2 hkw2 hi54 ?_
      rw [← eq54]
      have hT55 : zT0 kd N0 (sI S w2 q54 w0) := zT0_sI hT
      replace hF := fS_e hF
      generalize sI S w2 q54 w0 = S55 at hF hT55 ⊢
      refine z_iinc (v := v4 + 1) (lv2 := [some (.ref (zB G + v0)), some (.int v1), some (.int v2), some (.int v3), some (.int (v4 + 1)), none]) C dX13_passes_209 rfl (by rw [show Int32.ofInt 1 = (1 : Int32) from by decide]) rfl ?_
      refine z_goto C 123 dX13_passes_212 (by decide) ?_
      exact ih5 S55 v0 v1 v2 v3 (v4 + 1) res hT55 hpv0 hkv0     hF
theorem K_X13_passes {G : zG} {l : Launch} {kd : kD} {N0 f : Nat} {S : aS} {v0 : Nat} {v1 : Int32} {res : Option Value × aS} (hT : zT0 kd N0 S) (hpv0 : v0 < N0) (hkv0 : kd v0 = .inl 11) (hF : F_X13_passes f 0 [.ref v0, .int v1] S = some res) : zM G l 2 0 0 yX13_passes cX13_passes 6 (some .int) [.ref (zB G + v0), .int v1] (cn G kd N0 S) (zPo G kd N0 res) := zM.of (by decide) rfl (Nat.le_of_ble_eq_true rfl) (fun X _ C hr _ => (B_X13_passes C hr f).1 S v0 v1 res hT hpv0 hkv0 hF)
def F_X13_yard_0 (f : Nat) (rc : Nat → List Value → aS → aR) (v0 : Nat) (v1 : Int32) (v2 : Int32) (S : aS) : aR :=
  fS (sI S v0 0 0) fun S1 => bI (F_X13_isYard f 0 [.ref v0, .int v1] S1) fun x2 S2 => if x2 = (0 : Int32) then rc 1 [] S2 else bI (F_X13_within f 0 [.int v2, .int 0, .int 3] S2) fun x4 S4 => if x4 = (0 : Int32) then rc 1 [] S4 else if v2 = (0 : Int32) then bX ((4 : Int32) + v1) 828 fun q21 => rc 2 [.int (gI S4 (gR S4 v0 22) q21)] S4 else if v2 = (1 : Int32) then bX ((12 : Int32) + v1) 828 fun q19 => rc 2 [.int (gI S4 (gR S4 v0 22) q19)] S4 else if v2 = (2 : Int32) then bX ((20 : Int32) + v1) 828 fun q17 => rc 2 [.int (gI S4 (gR S4 v0 22) q17)] S4 else bI (F_X13_nearOf f 0 [.ref v0, .int 0, .int v1] S4) fun x15 S15 => rc 2 [.int x15] S15
def F_X13_yard_1 (f : Nat) (rc : Nat → List Value → aS → aR)  (S : aS) : aR :=
  some (some (.int ((-1))), S)
def F_X13_yard_2 (f : Nat) (rc : Nat → List Value → aS → aR) (w0 : Int32) (S : aS) : aR :=
  some (some (.int w0), S)
def F_X13_yard : Nat → Nat → List Value → aS → aR
  | 0, _, _, _ => none
  | f + 1, 0, vs, S => F_X13_yard_0 f (F_X13_yard f) (vR vs 0) (vI vs 1) (vI vs 2) S
  | f + 1, 1, vs, S => F_X13_yard_1 f (F_X13_yard f)  S
  | f + 1, 2, vs, S => F_X13_yard_2 f (F_X13_yard f) (vI vs 0) S
  | _ + 1, _, _, _ => none
theorem dX13_yard_0 : decode cX13_yard 0 = .ok (.aload_n 0, 1) := by decide +kernel
theorem dX13_yard_1 : decode cX13_yard 1 = .ok (.iconst 0, 1) := by decide +kernel
theorem dX13_yard_2 : decode cX13_yard 2 = .ok (.putfield 1, 3) := by decide +kernel
theorem dX13_yard_5 : decode cX13_yard 5 = .ok (.aload_n 0, 1) := by decide +kernel
theorem dX13_yard_6 : decode cX13_yard 6 = .ok (.iload_n 1, 1) := by decide +kernel
theorem dX13_yard_7 : decode cX13_yard 7 = .ok (.invokevirtual 336, 3) := by decide +kernel
theorem dX13_yard_10 : decode cX13_yard 10 = .ok (.ifCond .eq 12, 3) := by decide +kernel
theorem dX13_yard_13 : decode cX13_yard 13 = .ok (.iload_n 2, 1) := by decide +kernel
theorem dX13_yard_14 : decode cX13_yard 14 = .ok (.iconst 0, 1) := by decide +kernel
theorem dX13_yard_15 : decode cX13_yard 15 = .ok (.iconst 3, 1) := by decide +kernel
theorem dX13_yard_16 : decode cX13_yard 16 = .ok (.invokestatic 339, 3) := by decide +kernel
theorem dX13_yard_19 : decode cX13_yard 19 = .ok (.ifCond .ne 5, 3) := by decide +kernel
theorem dX13_yard_22 : decode cX13_yard 22 = .ok (.iconst (-1), 1) := by decide +kernel
theorem dX13_yard_23 : decode cX13_yard 23 = .ok (.ireturn, 1) := by decide +kernel
theorem dX13_yard_24 : decode cX13_yard 24 = .ok (.iload_n 2, 1) := by decide +kernel
theorem dX13_yard_25 : decode cX13_yard 25 = .ok (.ifCond .ne 14, 3) := by decide +kernel
theorem dX13_yard_28 : decode cX13_yard 28 = .ok (.aload_n 0, 1) := by decide +kernel
theorem dX13_yard_29 : decode cX13_yard 29 = .ok (.getfield 119, 3) := by decide +kernel
theorem dX13_yard_32 : decode cX13_yard 32 = .ok (.iconst 4, 1) := by decide +kernel
theorem dX13_yard_33 : decode cX13_yard 33 = .ok (.iload_n 1, 1) := by decide +kernel
theorem dX13_yard_34 : decode cX13_yard 34 = .ok (.iadd, 1) := by decide +kernel
theorem dX13_yard_35 : decode cX13_yard 35 = .ok (.iaload, 1) := by decide +kernel
theorem dX13_yard_36 : decode cX13_yard 36 = .ok (.goto 43, 3) := by decide +kernel
theorem dX13_yard_39 : decode cX13_yard 39 = .ok (.iload_n 2, 1) := by decide +kernel
theorem dX13_yard_40 : decode cX13_yard 40 = .ok (.iconst 1, 1) := by decide +kernel
theorem dX13_yard_41 : decode cX13_yard 41 = .ok (.if_icmp .ne 15, 3) := by decide +kernel
theorem dX13_yard_44 : decode cX13_yard 44 = .ok (.aload_n 0, 1) := by decide +kernel
theorem dX13_yard_45 : decode cX13_yard 45 = .ok (.getfield 119, 3) := by decide +kernel
theorem dX13_yard_48 : decode cX13_yard 48 = .ok (.bipush 12, 2) := by decide +kernel
theorem dX13_yard_50 : decode cX13_yard 50 = .ok (.iload_n 1, 1) := by decide +kernel
theorem dX13_yard_51 : decode cX13_yard 51 = .ok (.iadd, 1) := by decide +kernel
theorem dX13_yard_52 : decode cX13_yard 52 = .ok (.iaload, 1) := by decide +kernel
theorem dX13_yard_53 : decode cX13_yard 53 = .ok (.goto 26, 3) := by decide +kernel
theorem dX13_yard_56 : decode cX13_yard 56 = .ok (.iload_n 2, 1) := by decide +kernel
theorem dX13_yard_57 : decode cX13_yard 57 = .ok (.iconst 2, 1) := by decide +kernel
theorem dX13_yard_58 : decode cX13_yard 58 = .ok (.if_icmp .ne 15, 3) := by decide +kernel
theorem dX13_yard_61 : decode cX13_yard 61 = .ok (.aload_n 0, 1) := by decide +kernel
theorem dX13_yard_62 : decode cX13_yard 62 = .ok (.getfield 119, 3) := by decide +kernel
theorem dX13_yard_65 : decode cX13_yard 65 = .ok (.bipush 20, 2) := by decide +kernel
theorem dX13_yard_67 : decode cX13_yard 67 = .ok (.iload_n 1, 1) := by decide +kernel
theorem dX13_yard_68 : decode cX13_yard 68 = .ok (.iadd, 1) := by decide +kernel
theorem dX13_yard_69 : decode cX13_yard 69 = .ok (.iaload, 1) := by decide +kernel
theorem dX13_yard_70 : decode cX13_yard 70 = .ok (.goto 9, 3) := by decide +kernel
theorem dX13_yard_73 : decode cX13_yard 73 = .ok (.aload_n 0, 1) := by decide +kernel
theorem dX13_yard_74 : decode cX13_yard 74 = .ok (.iconst 0, 1) := by decide +kernel
theorem dX13_yard_75 : decode cX13_yard 75 = .ok (.iload_n 1, 1) := by decide +kernel
theorem dX13_yard_76 : decode cX13_yard 76 = .ok (.invokevirtual 302, 3) := by decide +kernel
theorem dX13_yard_79 : decode cX13_yard 79 = .ok (.ireturn, 1) := by decide +kernel
set_option maxHeartbeats 4000000 in
set_option maxRecDepth 100000 in
theorem B_X13_yard {G : zG} {X : zX} {kd : kD} {N0 : Nat} (C : zCt G X 2 0 0 RX13 cX13_yard 3) (hr : (zXh X).sig.returnType = (some .int)) : ∀ f : Nat,
    (∀ (S : aS) (v0 : Nat) (v1 : Int32) (v2 : Int32) (res : Option Value × aS), zT0 kd N0 S → v0 < N0 → kd v0 = .inl 11 → F_X13_yard f 0 [.ref v0, .int v1, .int v2] S = some res → zV G X (zQX G X (zPo G kd N0 res) 0 0) 3 [some (.ref (zB G + v0)), some (.int v1), some (.int v2)] [] (cn G kd N0 S) 0 0 0) ∧
    (∀ (S : aS)  (res : Option Value × aS), zT0 kd N0 S → F_X13_yard f 1 [] S = some res → zV G X (zQX G X (zPo G kd N0 res) 0 0) 3 [none, none, none] [] (cn G kd N0 S) 22 0 0) ∧
    (∀ (S : aS) (w0 : Int32) (res : Option Value × aS), zT0 kd N0 S → F_X13_yard f 2 [.int w0] S = some res → zV G X (zQX G X (zPo G kd N0 res) 0 0) 3 [none, none, none] [.int w0] (cn G kd N0 S) 79 0 0) := by
  intro f
  induction f with
  | zero => exact ⟨(fun _ _ _ _ _ _ _ _ h => by cases h), (fun _ _ _ h => by cases h), (fun _ _ _ _ h => by cases h)⟩
  | succ f ih =>
    obtain ⟨ih0, ih1, ih2⟩ := ih
    refine ⟨?_, ?_, ?_⟩
    · intro S v0 v1 v2 res hT hpv0 hkv0 hF
      replace hF : F_X13_yard_0 f (F_X13_yard f) v0 v1 v2 S = some res := hF
      unfold F_X13_yard_0 at hF
      refine z_aload_n C dX13_yard_0 rfl ?_
      refine z_iconst (v := 0) C dX13_yard_1 (by decide) ?_
      refine f_puti C dX13_yard_2 zfRX13_1 fw11_0 hpv0 hkv0 rfl rfl rfl ?_
      have hT1 : zT0 kd N0 (sI S v0 0 0) := zT0_sI hT
      replace hF := fS_e hF
      generalize sI S v0 0 0 = S1 at hF hT1 ⊢
      refine z_aload_n C dX13_yard_5 rfl ?_
      refine z_iload_n C dX13_yard_6 rfl ?_
      obtain ⟨x2, S2, h2, hF⟩ := bI_some hF
      refine f_cV (st2 := [.int x2]) C dX13_yard_7 zyX13_isYard zvX13_isYard lkRX13_336 (K_X13_isYard (l := zXl X) hT1 hpv0 hkv0  h2) hpv0 hkv0 rfl (by decide) rfl rfl (Nat.le_of_ble_eq_true rfl) rfl (fun hT2 => ?_)
      refine z_if_eq C 22 dX13_yard_10 (by decide) (fun c3 => ?_) (fun c3 => ?_)
      · replace hF := ip hF c3
        refine z_mask [false, false, false] ?_ rfl
        exact ih1 S2  res hT2  hF
      · replace hF := im hF c3
        refine z_iload_n C dX13_yard_13 rfl ?_
        refine z_iconst (v := 0) C dX13_yard_14 (by decide) ?_
        refine z_iconst (v := 3) C dX13_yard_15 (by decide) ?_
        obtain ⟨x4, S4, h4, hF⟩ := bI_some hF
        refine f_cS (st2 := [.int x4]) C dX13_yard_16 zyX13_within zsX13_within lkRX13_339 (K_X13_within (l := zXl X) hT2    h4) (by decide) rfl rfl (Nat.le_of_ble_eq_true rfl) rfl (fun hT4 => ?_)
        refine z_if_ne C 24 dX13_yard_19 (by decide) (fun c5 => ?_) (fun c5 => ?_)
        · replace hF := im hF c5
          refine z_iload_n C dX13_yard_24 rfl ?_
          refine z_if_ne C 39 dX13_yard_25 (by decide) (fun c9 => ?_) (fun c9 => ?_)
          · replace hF := im hF c9
            refine z_iload_n C dX13_yard_39 rfl ?_
            refine z_iconst (v := 1) C dX13_yard_40 (by decide) ?_
            refine z_icmp_ne C 56 dX13_yard_41 (by decide) (fun c12 => ?_) (fun c12 => ?_)
            · replace hF := im hF c12
              refine z_iload_n C dX13_yard_56 rfl ?_
              refine z_iconst (v := 2) C dX13_yard_57 (by decide) ?_
              refine z_icmp_ne C 73 dX13_yard_58 (by decide) (fun c14 => ?_) (fun c14 => ?_)
              · replace hF := im hF c14
                refine z_aload_n C dX13_yard_73 rfl ?_
                refine z_iconst (v := 0) C dX13_yard_74 (by decide) ?_
                refine z_iload_n C dX13_yard_75 rfl ?_
                obtain ⟨x15, S15, h15, hF⟩ := bI_some hF
                refine f_cV (st2 := [.int x15]) C dX13_yard_76 zyX13_nearOf zvX13_nearOf lkRX13_302 (K_X13_nearOf (l := zXl X) hT4 hpv0 hkv0   h15) hpv0 hkv0 rfl (by decide) rfl rfl (Nat.le_of_ble_eq_true rfl) rfl (fun hT15 => ?_)
                refine z_mask [false, false, false] ?_ rfl
                exact ih2 S15 x15 res hT15  hF
              · replace hF := ip hF c14
                refine z_aload_n C dX13_yard_61 rfl ?_
                refine f_getr C dX13_yard_62 zfRX13_119 hpv0 hkv0 rfl ?_
                obtain ⟨hp16, hk16⟩ := hT4.1 v0 11 22 (.inr (0, 828)) hpv0 hkv0 rfl
                refine z_bipush (v := 20) C dX13_yard_65 (by decide) ?_
                refine z_iload_n C dX13_yard_67 rfl ?_
                refine z_iadd C dX13_yard_68 ?_
                obtain ⟨hi17, hF⟩ := bX_some hF
                obtain ⟨q17, eq17⟩ : ∃ q : Nat, q = Int32.toNatClampNeg ((20 : Int32) + v1) := ⟨_, rfl⟩
                rw [← eq17] at hF
                refine f_iald C dX13_yard_69 hp16 hk16 hi17 ?_
                rw [← eq17]
                refine z_goto C 79 dX13_yard_70 (by decide) ?_
                refine z_mask [false, false, false] ?_ rfl
                exact ih2 S4 (gI S4 (gR S4 v0 22) q17) res hT4  hF
            · replace hF := ip hF c12
              refine z_aload_n C dX13_yard_44 rfl ?_
              refine f_getr C dX13_yard_45 zfRX13_119 hpv0 hkv0 rfl ?_
              obtain ⟨hp18, hk18⟩ := hT4.1 v0 11 22 (.inr (0, 828)) hpv0 hkv0 rfl
              refine z_bipush (v := 12) C dX13_yard_48 (by decide) ?_
              refine z_iload_n C dX13_yard_50 rfl ?_
              refine z_iadd C dX13_yard_51 ?_
              obtain ⟨hi19, hF⟩ := bX_some hF
              obtain ⟨q19, eq19⟩ : ∃ q : Nat, q = Int32.toNatClampNeg ((12 : Int32) + v1) := ⟨_, rfl⟩
              rw [← eq19] at hF
              refine f_iald C dX13_yard_52 hp18 hk18 hi19 ?_
              rw [← eq19]
              refine z_goto C 79 dX13_yard_53 (by decide) ?_
              refine z_mask [false, false, false] ?_ rfl
              exact ih2 S4 (gI S4 (gR S4 v0 22) q19) res hT4  hF
          · replace hF := ip hF c9
            refine z_aload_n C dX13_yard_28 rfl ?_
            refine f_getr C dX13_yard_29 zfRX13_119 hpv0 hkv0 rfl ?_
            obtain ⟨hp20, hk20⟩ := hT4.1 v0 11 22 (.inr (0, 828)) hpv0 hkv0 rfl
            refine z_iconst (v := 4) C dX13_yard_32 (by decide) ?_
            refine z_iload_n C dX13_yard_33 rfl ?_
            refine z_iadd C dX13_yard_34 ?_
            obtain ⟨hi21, hF⟩ := bX_some hF
            obtain ⟨q21, eq21⟩ : ∃ q : Nat, q = Int32.toNatClampNeg ((4 : Int32) + v1) := ⟨_, rfl⟩
            rw [← eq21] at hF
            refine f_iald C dX13_yard_35 hp20 hk20 hi21 ?_
            rw [← eq21]
            refine z_goto C 79 dX13_yard_36 (by decide) ?_
            refine z_mask [false, false, false] ?_ rfl
            exact ih2 S4 (gI S4 (gR S4 v0 22) q21) res hT4  hF
        · replace hF := ip hF c5
          refine z_mask [false, false, false] ?_ rfl
          exact ih1 S4  res hT4  hF
    · intro S  res hT  hF
      replace hF : F_X13_yard_1 f (F_X13_yard f)  S = some res := hF
      unfold F_X13_yard_1 at hF
      refine z_iconst (v := (-1)) C dX13_yard_22 (by decide) ?_
      cases hF
      exact z_iret C hr dX13_yard_23 ⟨rfl, rfl, hT⟩
    · intro S w0 res hT  hF
      replace hF : F_X13_yard_2 f (F_X13_yard f) w0 S = some res := hF
      unfold F_X13_yard_2 at hF
      cases hF
      exact z_iret C hr dX13_yard_79 ⟨rfl, rfl, hT⟩
theorem K_X13_yard {G : zG} {l : Launch} {kd : kD} {N0 f : Nat} {S : aS} {v0 : Nat} {v1 : Int32} {v2 : Int32} {res : Option Value × aS} (hT : zT0 kd N0 S) (hpv0 : v0 < N0) (hkv0 : kd v0 = .inl 11) (hF : F_X13_yard f 0 [.ref v0, .int v1, .int v2] S = some res) : zM G l 2 0 0 yX13_yard cX13_yard 3 (some .int) [.ref (zB G + v0), .int v1, .int v2] (cn G kd N0 S) (zPo G kd N0 res) := zM.of (by decide) rfl (Nat.le_of_ble_eq_true rfl) (fun X _ C hr _ => (B_X13_yard C hr f).1 S v0 v1 v2 res hT hpv0 hkv0 hF)
def F_X13_lies_0 (f : Nat) (rc : Nat → List Value → aS → aR) (v0 : Nat) (S : aS) : aR :=
  fS (sI S v0 0 0) fun S1 => bI (F_X13_lyingIn f 0 [.ref v0, .int 0] S1) fun x2 S2 => some (some (.int x2), S2)
def F_X13_lies : Nat → Nat → List Value → aS → aR
  | 0, _, _, _ => none
  | f + 1, 0, vs, S => F_X13_lies_0 f (F_X13_lies f) (vR vs 0) S
  | _ + 1, _, _, _ => none
theorem dX13_lies_0 : decode cX13_lies 0 = .ok (.aload_n 0, 1) := by decide +kernel
theorem dX13_lies_1 : decode cX13_lies 1 = .ok (.iconst 0, 1) := by decide +kernel
theorem dX13_lies_2 : decode cX13_lies 2 = .ok (.putfield 1, 3) := by decide +kernel
theorem dX13_lies_5 : decode cX13_lies 5 = .ok (.aload_n 0, 1) := by decide +kernel
theorem dX13_lies_6 : decode cX13_lies 6 = .ok (.iconst 0, 1) := by decide +kernel
theorem dX13_lies_7 : decode cX13_lies 7 = .ok (.invokevirtual 299, 3) := by decide +kernel
theorem dX13_lies_10 : decode cX13_lies 10 = .ok (.ireturn, 1) := by decide +kernel
set_option maxHeartbeats 4000000 in
set_option maxRecDepth 100000 in
theorem B_X13_lies {G : zG} {X : zX} {kd : kD} {N0 : Nat} (C : zCt G X 2 0 0 RX13 cX13_lies 1) (hr : (zXh X).sig.returnType = (some .int)) : ∀ f : Nat,
    (∀ (S : aS) (v0 : Nat) (res : Option Value × aS), zT0 kd N0 S → v0 < N0 → kd v0 = .inl 11 → F_X13_lies f 0 [.ref v0] S = some res → zV G X (zQX G X (zPo G kd N0 res) 0 0) 1 [some (.ref (zB G + v0))] [] (cn G kd N0 S) 0 0 0) := by
  intro f
  induction f with
  | zero => exact (fun _ _ _ _ _ _ h => by cases h)
  | succ f ih =>
    have ih0 := ih
    intro S v0 res hT hpv0 hkv0 hF
    replace hF : F_X13_lies_0 f (F_X13_lies f) v0 S = some res := hF
    unfold F_X13_lies_0 at hF
    refine z_aload_n C dX13_lies_0 rfl ?_
    refine z_iconst (v := 0) C dX13_lies_1 (by decide) ?_
    refine f_puti C dX13_lies_2 zfRX13_1 fw11_0 hpv0 hkv0 rfl rfl rfl ?_
    have hT1 : zT0 kd N0 (sI S v0 0 0) := zT0_sI hT
    replace hF := fS_e hF
    generalize sI S v0 0 0 = S1 at hF hT1 ⊢
    refine z_aload_n C dX13_lies_5 rfl ?_
    refine z_iconst (v := 0) C dX13_lies_6 (by decide) ?_
    obtain ⟨x2, S2, h2, hF⟩ := bI_some hF
    refine f_cV (st2 := [.int x2]) C dX13_lies_7 zyX13_lyingIn zvX13_lyingIn lkRX13_299 (K_X13_lyingIn (l := zXl X) hT1 hpv0 hkv0  h2) hpv0 hkv0 rfl (by decide) rfl rfl (Nat.le_of_ble_eq_true rfl) rfl (fun hT2 => ?_)
    cases hF
    exact z_iret C hr dX13_lies_10 ⟨rfl, rfl, hT2⟩
theorem K_X13_lies {G : zG} {l : Launch} {kd : kD} {N0 f : Nat} {S : aS} {v0 : Nat} {res : Option Value × aS} (hT : zT0 kd N0 S) (hpv0 : v0 < N0) (hkv0 : kd v0 = .inl 11) (hF : F_X13_lies f 0 [.ref v0] S = some res) : zM G l 2 0 0 yX13_lies cX13_lies 1 (some .int) [.ref (zB G + v0)] (cn G kd N0 S) (zPo G kd N0 res) := zM.of (by decide) rfl (Nat.le_of_ble_eq_true rfl) (fun X _ C hr _ => (B_X13_lies C hr f) S v0 res hT hpv0 hkv0 hF)
def F_X13_space_0 (f : Nat) (rc : Nat → List Value → aS → aR) (v0 : Nat) (S : aS) : aR :=
  fS (sI S v0 0 0) fun S1 => rc 1 [.ref v0, .int 0, .int 0] S1
def F_X13_space_1 (f : Nat) (rc : Nat → List Value → aS → aR) (v0 : Nat) (v1 : Int32) (v2 : Int32) (S : aS) : aR :=
  bI (F_X13_yards f 0 [.ref v0] S) fun x2 S2 => if x2 ≤ v2 then some (some (.int v1), S2) else bX ((12 : Int32) + v2) 828 fun q7 => bX ((20 : Int32) + v2) 828 fun q9 => lI (v1 + ((gI S2 (gR S2 v0 22) q7) - (gI S2 (gR S2 v0 22) q9))) fun y10 => rc 1 [.ref v0, .int y10, .int (v2 + 1)] S2
def F_X13_space : Nat → Nat → List Value → aS → aR
  | 0, _, _, _ => none
  | f + 1, 0, vs, S => F_X13_space_0 f (F_X13_space f) (vR vs 0) S
  | f + 1, 1, vs, S => F_X13_space_1 f (F_X13_space f) (vR vs 0) (vI vs 1) (vI vs 2) S
  | _ + 1, _, _, _ => none
theorem dX13_space_0 : decode cX13_space 0 = .ok (.aload_n 0, 1) := by decide +kernel
theorem dX13_space_1 : decode cX13_space 1 = .ok (.iconst 0, 1) := by decide +kernel
theorem dX13_space_2 : decode cX13_space 2 = .ok (.putfield 1, 3) := by decide +kernel
theorem dX13_space_5 : decode cX13_space 5 = .ok (.iconst 0, 1) := by decide +kernel
theorem dX13_space_6 : decode cX13_space 6 = .ok (.istore_n 1, 1) := by decide +kernel
theorem dX13_space_7 : decode cX13_space 7 = .ok (.iconst 0, 1) := by decide +kernel
theorem dX13_space_8 : decode cX13_space 8 = .ok (.istore_n 2, 1) := by decide +kernel
theorem dX13_space_9 : decode cX13_space 9 = .ok (.iload_n 2, 1) := by decide +kernel
theorem dX13_space_10 : decode cX13_space 10 = .ok (.aload_n 0, 1) := by decide +kernel
theorem dX13_space_11 : decode cX13_space 11 = .ok (.invokevirtual 279, 3) := by decide +kernel
theorem dX13_space_14 : decode cX13_space 14 = .ok (.if_icmp .ge 31, 3) := by decide +kernel
theorem dX13_space_17 : decode cX13_space 17 = .ok (.iload_n 1, 1) := by decide +kernel
theorem dX13_space_18 : decode cX13_space 18 = .ok (.aload_n 0, 1) := by decide +kernel
theorem dX13_space_19 : decode cX13_space 19 = .ok (.getfield 119, 3) := by decide +kernel
theorem dX13_space_22 : decode cX13_space 22 = .ok (.bipush 12, 2) := by decide +kernel
theorem dX13_space_24 : decode cX13_space 24 = .ok (.iload_n 2, 1) := by decide +kernel
theorem dX13_space_25 : decode cX13_space 25 = .ok (.iadd, 1) := by decide +kernel
theorem dX13_space_26 : decode cX13_space 26 = .ok (.iaload, 1) := by decide +kernel
theorem dX13_space_27 : decode cX13_space 27 = .ok (.aload_n 0, 1) := by decide +kernel
theorem dX13_space_28 : decode cX13_space 28 = .ok (.getfield 119, 3) := by decide +kernel
theorem dX13_space_31 : decode cX13_space 31 = .ok (.bipush 20, 2) := by decide +kernel
theorem dX13_space_33 : decode cX13_space 33 = .ok (.iload_n 2, 1) := by decide +kernel
theorem dX13_space_34 : decode cX13_space 34 = .ok (.iadd, 1) := by decide +kernel
theorem dX13_space_35 : decode cX13_space 35 = .ok (.iaload, 1) := by decide +kernel
theorem dX13_space_36 : decode cX13_space 36 = .ok (.isub, 1) := by decide +kernel
theorem dX13_space_37 : decode cX13_space 37 = .ok (.iadd, 1) := by decide +kernel
theorem dX13_space_38 : decode cX13_space 38 = .ok (.istore_n 1, 1) := by decide +kernel
theorem dX13_space_39 : decode cX13_space 39 = .ok (.iinc 2 1, 3) := by decide +kernel
theorem dX13_space_42 : decode cX13_space 42 = .ok (.goto (-33), 3) := by decide +kernel
theorem dX13_space_45 : decode cX13_space 45 = .ok (.iload_n 1, 1) := by decide +kernel
theorem dX13_space_46 : decode cX13_space 46 = .ok (.ireturn, 1) := by decide +kernel
set_option maxHeartbeats 4000000 in
set_option maxRecDepth 100000 in
theorem B_X13_space {G : zG} {X : zX} {kd : kD} {N0 : Nat} (C : zCt G X 1 0 0 RX13 cX13_space 3) (hr : (zXh X).sig.returnType = (some .int)) : ∀ f : Nat,
    (∀ (S : aS) (v0 : Nat) (res : Option Value × aS), zT0 kd N0 S → v0 < N0 → kd v0 = .inl 11 → F_X13_space f 0 [.ref v0] S = some res → zV G X (zQX G X (zPo G kd N0 res) 0 0) 3 [some (.ref (zB G + v0)), none, none] [] (cn G kd N0 S) 0 0 0) ∧
    (∀ (S : aS) (v0 : Nat) (v1 : Int32) (v2 : Int32) (res : Option Value × aS), zT0 kd N0 S → v0 < N0 → kd v0 = .inl 11 → F_X13_space f 1 [.ref v0, .int v1, .int v2] S = some res → zV G X (zQX G X (zPo G kd N0 res) 0 0) 3 [some (.ref (zB G + v0)), some (.int v1), some (.int v2)] [] (cn G kd N0 S) 9 0 0) := by
  intro f
  induction f with
  | zero => exact ⟨(fun _ _ _ _ _ _ h => by cases h), (fun _ _ _ _ _ _ _ _ h => by cases h)⟩
  | succ f ih =>
    obtain ⟨ih0, ih1⟩ := ih
    refine ⟨?_, ?_⟩
    · intro S v0 res hT hpv0 hkv0 hF
      replace hF : F_X13_space_0 f (F_X13_space f) v0 S = some res := hF
      unfold F_X13_space_0 at hF
      refine z_aload_n C dX13_space_0 rfl ?_
      refine z_iconst (v := 0) C dX13_space_1 (by decide) ?_
      refine f_puti C dX13_space_2 zfRX13_1 fw11_0 hpv0 hkv0 rfl rfl rfl ?_
      have hT1 : zT0 kd N0 (sI S v0 0 0) := zT0_sI hT
      replace hF := fS_e hF
      generalize sI S v0 0 0 = S1 at hF hT1 ⊢
      refine z_iconst (v := 0) C dX13_space_5 (by decide) ?_
      refine z_istore_n (lv2 := [some (.ref (zB G + v0)), some (.int 0), none]) C dX13_space_6 (by decide) rfl ?_
      refine z_iconst (v := 0) C dX13_space_7 (by decide) ?_
      refine z_istore_n (lv2 := [some (.ref (zB G + v0)), some (.int 0), some (.int 0)]) C dX13_space_8 (by decide) rfl ?_
      exact ih1 S1 v0 0 0 res hT1 hpv0 hkv0   hF
    · intro S v0 v1 v2 res hT hpv0 hkv0 hF
      replace hF : F_X13_space_1 f (F_X13_space f) v0 v1 v2 S = some res := hF
      unfold F_X13_space_1 at hF
      refine z_iload_n C dX13_space_9 rfl ?_
      refine z_aload_n C dX13_space_10 rfl ?_
      obtain ⟨x2, S2, h2, hF⟩ := bI_some hF
      refine f_cV (st2 := [.int x2, .int v2]) C dX13_space_11 zyX13_yards zvX13_yards lkRX13_279 (K_X13_yards (l := zXl X) hT hpv0 hkv0 h2) hpv0 hkv0 rfl (by decide) rfl rfl (Nat.le_of_ble_eq_true rfl) rfl (fun hT2 => ?_)
      refine z_icmp_ge C 45 dX13_space_14 (by decide) (fun c5 => ?_) (fun c5 => ?_)
      · replace hF := ip hF c5
        refine z_iload_n C dX13_space_45 rfl ?_
        cases hF
        exact z_iret C hr dX13_space_46 ⟨rfl, rfl, hT2⟩
      · replace hF := im hF c5
        refine z_iload_n C dX13_space_17 rfl ?_
        refine z_aload_n C dX13_space_18 rfl ?_
        refine f_getr C dX13_space_19 zfRX13_119 hpv0 hkv0 rfl ?_
        obtain ⟨hp6, hk6⟩ := hT2.1 v0 11 22 (.inr (0, 828)) hpv0 hkv0 rfl
        refine z_bipush (v := 12) C dX13_space_22 (by decide) ?_
        refine z_iload_n C dX13_space_24 rfl ?_
        refine z_iadd C dX13_space_25 ?_
        obtain ⟨hi7, hF⟩ := bX_some hF
        obtain ⟨q7, eq7⟩ : ∃ q : Nat, q = Int32.toNatClampNeg ((12 : Int32) + v2) := ⟨_, rfl⟩
        rw [← eq7] at hF
        refine f_iald C dX13_space_26 hp6 hk6 hi7 ?_
        rw [← eq7]
        refine z_aload_n C dX13_space_27 rfl ?_
        refine f_getr C dX13_space_28 zfRX13_119 hpv0 hkv0 rfl ?_
        obtain ⟨hp8, hk8⟩ := hT2.1 v0 11 22 (.inr (0, 828)) hpv0 hkv0 rfl
        refine z_bipush (v := 20) C dX13_space_31 (by decide) ?_
        refine z_iload_n C dX13_space_33 rfl ?_
        refine z_iadd C dX13_space_34 ?_
        obtain ⟨hi9, hF⟩ := bX_some hF
        obtain ⟨q9, eq9⟩ : ∃ q : Nat, q = Int32.toNatClampNeg ((20 : Int32) + v2) := ⟨_, rfl⟩
        rw [← eq9] at hF
        refine f_iald C dX13_space_35 hp8 hk8 hi9 ?_
        rw [← eq9]
        refine z_isub C dX13_space_36 ?_
        refine z_iadd C dX13_space_37 ?_
        replace hF := lI_e hF
        generalize (v1 + ((gI S2 (gR S2 v0 22) q7) - (gI S2 (gR S2 v0 22) q9))) = y10 at hF ⊢
        refine z_istore_n (lv2 := [some (.ref (zB G + v0)), some (.int y10), some (.int v2)]) C dX13_space_38 (by decide) rfl ?_
        refine z_iinc (v := v2 + 1) (lv2 := [some (.ref (zB G + v0)), some (.int y10), some (.int (v2 + 1))]) C dX13_space_39 rfl (by rw [show Int32.ofInt 1 = (1 : Int32) from by decide]) rfl ?_
        refine z_goto C 9 dX13_space_42 (by decide) ?_
        exact ih1 S2 v0 y10 (v2 + 1) res hT2 hpv0 hkv0   hF
theorem K_X13_space {G : zG} {l : Launch} {kd : kD} {N0 f : Nat} {S : aS} {v0 : Nat} {res : Option Value × aS} (hT : zT0 kd N0 S) (hpv0 : v0 < N0) (hkv0 : kd v0 = .inl 11) (hF : F_X13_space f 0 [.ref v0] S = some res) : zM G l 1 0 0 yX13_space cX13_space 3 (some .int) [.ref (zB G + v0)] (cn G kd N0 S) (zPo G kd N0 res) := zM.of (by decide) rfl (Nat.le_of_ble_eq_true rfl) (fun X _ C hr _ => (B_X13_space C hr f).1 S v0 res hT hpv0 hkv0 hF)
def F_X13_heaps_0 (f : Nat) (rc : Nat → List Value → aS → aR) (v0 : Nat) (v1 : Int32) (S : aS) : aR :=
  fS (sI S v0 0 0) fun S1 => rc 1 [.ref v0, .int v1, .int 0, .int 0] S1
def F_X13_heaps_1 (f : Nat) (rc : Nat → List Value → aS → aR) (v0 : Nat) (v1 : Int32) (v2 : Int32) (v3 : Int32) (S : aS) : aR :=
  bI (F_X13_yards f 0 [.ref v0] S) fun x2 S2 => if x2 ≤ v3 then some (some (.int v2), S2) else bX ((4 : Int32) + v3) 828 fun q7 => lI (v2 ||| (if (gI S2 (gR S2 v0 22) q7) ≤ v1 then (0 : Int32) else ((1 : Int32) <<< (v3 &&& 31)))) fun y10 => rc 1 [.ref v0, .int v1, .int y10, .int (v3 + 1)] S2
def F_X13_heaps : Nat → Nat → List Value → aS → aR
  | 0, _, _, _ => none
  | f + 1, 0, vs, S => F_X13_heaps_0 f (F_X13_heaps f) (vR vs 0) (vI vs 1) S
  | f + 1, 1, vs, S => F_X13_heaps_1 f (F_X13_heaps f) (vR vs 0) (vI vs 1) (vI vs 2) (vI vs 3) S
  | _ + 1, _, _, _ => none
theorem dX13_heaps_0 : decode cX13_heaps 0 = .ok (.aload_n 0, 1) := by decide +kernel
theorem dX13_heaps_1 : decode cX13_heaps 1 = .ok (.iconst 0, 1) := by decide +kernel
theorem dX13_heaps_2 : decode cX13_heaps 2 = .ok (.putfield 1, 3) := by decide +kernel
theorem dX13_heaps_5 : decode cX13_heaps 5 = .ok (.iconst 0, 1) := by decide +kernel
theorem dX13_heaps_6 : decode cX13_heaps 6 = .ok (.istore_n 2, 1) := by decide +kernel
theorem dX13_heaps_7 : decode cX13_heaps 7 = .ok (.iconst 0, 1) := by decide +kernel
theorem dX13_heaps_8 : decode cX13_heaps 8 = .ok (.istore_n 3, 1) := by decide +kernel
theorem dX13_heaps_9 : decode cX13_heaps 9 = .ok (.iload_n 3, 1) := by decide +kernel
theorem dX13_heaps_10 : decode cX13_heaps 10 = .ok (.aload_n 0, 1) := by decide +kernel
theorem dX13_heaps_11 : decode cX13_heaps 11 = .ok (.invokevirtual 279, 3) := by decide +kernel
theorem dX13_heaps_14 : decode cX13_heaps 14 = .ok (.if_icmp .ge 31, 3) := by decide +kernel
theorem dX13_heaps_17 : decode cX13_heaps 17 = .ok (.iload_n 2, 1) := by decide +kernel
theorem dX13_heaps_18 : decode cX13_heaps 18 = .ok (.aload_n 0, 1) := by decide +kernel
theorem dX13_heaps_19 : decode cX13_heaps 19 = .ok (.getfield 119, 3) := by decide +kernel
theorem dX13_heaps_22 : decode cX13_heaps 22 = .ok (.iconst 4, 1) := by decide +kernel
theorem dX13_heaps_23 : decode cX13_heaps 23 = .ok (.iload_n 3, 1) := by decide +kernel
theorem dX13_heaps_24 : decode cX13_heaps 24 = .ok (.iadd, 1) := by decide +kernel
theorem dX13_heaps_25 : decode cX13_heaps 25 = .ok (.iaload, 1) := by decide +kernel
theorem dX13_heaps_26 : decode cX13_heaps 26 = .ok (.iload_n 1, 1) := by decide +kernel
theorem dX13_heaps_27 : decode cX13_heaps 27 = .ok (.if_icmp .le 9, 3) := by decide +kernel
theorem dX13_heaps_30 : decode cX13_heaps 30 = .ok (.iconst 1, 1) := by decide +kernel
theorem dX13_heaps_31 : decode cX13_heaps 31 = .ok (.iload_n 3, 1) := by decide +kernel
theorem dX13_heaps_32 : decode cX13_heaps 32 = .ok (.ishl, 1) := by decide +kernel
theorem dX13_heaps_33 : decode cX13_heaps 33 = .ok (.goto 4, 3) := by decide +kernel
theorem dX13_heaps_36 : decode cX13_heaps 36 = .ok (.iconst 0, 1) := by decide +kernel
theorem dX13_heaps_37 : decode cX13_heaps 37 = .ok (.ior, 1) := by decide +kernel
theorem dX13_heaps_38 : decode cX13_heaps 38 = .ok (.istore_n 2, 1) := by decide +kernel
theorem dX13_heaps_39 : decode cX13_heaps 39 = .ok (.iinc 3 1, 3) := by decide +kernel
theorem dX13_heaps_42 : decode cX13_heaps 42 = .ok (.goto (-33), 3) := by decide +kernel
theorem dX13_heaps_45 : decode cX13_heaps 45 = .ok (.iload_n 2, 1) := by decide +kernel
theorem dX13_heaps_46 : decode cX13_heaps 46 = .ok (.ireturn, 1) := by decide +kernel
set_option maxHeartbeats 4000000 in
set_option maxRecDepth 100000 in
theorem B_X13_heaps {G : zG} {X : zX} {kd : kD} {N0 : Nat} (C : zCt G X 1 0 0 RX13 cX13_heaps 4) (hr : (zXh X).sig.returnType = (some .int)) : ∀ f : Nat,
    (∀ (S : aS) (v0 : Nat) (v1 : Int32) (res : Option Value × aS), zT0 kd N0 S → v0 < N0 → kd v0 = .inl 11 → F_X13_heaps f 0 [.ref v0, .int v1] S = some res → zV G X (zQX G X (zPo G kd N0 res) 0 0) 4 [some (.ref (zB G + v0)), some (.int v1), none, none] [] (cn G kd N0 S) 0 0 0) ∧
    (∀ (S : aS) (v0 : Nat) (v1 : Int32) (v2 : Int32) (v3 : Int32) (res : Option Value × aS), zT0 kd N0 S → v0 < N0 → kd v0 = .inl 11 → F_X13_heaps f 1 [.ref v0, .int v1, .int v2, .int v3] S = some res → zV G X (zQX G X (zPo G kd N0 res) 0 0) 4 [some (.ref (zB G + v0)), some (.int v1), some (.int v2), some (.int v3)] [] (cn G kd N0 S) 9 0 0) := by
  intro f
  induction f with
  | zero => exact ⟨(fun _ _ _ _ _ _ _ h => by cases h), (fun _ _ _ _ _ _ _ _ _ h => by cases h)⟩
  | succ f ih =>
    obtain ⟨ih0, ih1⟩ := ih
    refine ⟨?_, ?_⟩
    · intro S v0 v1 res hT hpv0 hkv0 hF
      replace hF : F_X13_heaps_0 f (F_X13_heaps f) v0 v1 S = some res := hF
      unfold F_X13_heaps_0 at hF
      refine z_aload_n C dX13_heaps_0 rfl ?_
      refine z_iconst (v := 0) C dX13_heaps_1 (by decide) ?_
      refine f_puti C dX13_heaps_2 zfRX13_1 fw11_0 hpv0 hkv0 rfl rfl rfl ?_
      have hT1 : zT0 kd N0 (sI S v0 0 0) := zT0_sI hT
      replace hF := fS_e hF
      generalize sI S v0 0 0 = S1 at hF hT1 ⊢
      refine z_iconst (v := 0) C dX13_heaps_5 (by decide) ?_
      refine z_istore_n (lv2 := [some (.ref (zB G + v0)), some (.int v1), some (.int 0), none]) C dX13_heaps_6 (by decide) rfl ?_
      refine z_iconst (v := 0) C dX13_heaps_7 (by decide) ?_
      refine z_istore_n (lv2 := [some (.ref (zB G + v0)), some (.int v1), some (.int 0), some (.int 0)]) C dX13_heaps_8 (by decide) rfl ?_
      exact ih1 S1 v0 v1 0 0 res hT1 hpv0 hkv0    hF
    · intro S v0 v1 v2 v3 res hT hpv0 hkv0 hF
      replace hF : F_X13_heaps_1 f (F_X13_heaps f) v0 v1 v2 v3 S = some res := hF
      unfold F_X13_heaps_1 at hF
      refine z_iload_n C dX13_heaps_9 rfl ?_
      refine z_aload_n C dX13_heaps_10 rfl ?_
      obtain ⟨x2, S2, h2, hF⟩ := bI_some hF
      refine f_cV (st2 := [.int x2, .int v3]) C dX13_heaps_11 zyX13_yards zvX13_yards lkRX13_279 (K_X13_yards (l := zXl X) hT hpv0 hkv0 h2) hpv0 hkv0 rfl (by decide) rfl rfl (Nat.le_of_ble_eq_true rfl) rfl (fun hT2 => ?_)
      refine z_icmp_ge C 45 dX13_heaps_14 (by decide) (fun c5 => ?_) (fun c5 => ?_)
      · replace hF := ip hF c5
        refine z_iload_n C dX13_heaps_45 rfl ?_
        cases hF
        exact z_iret C hr dX13_heaps_46 ⟨rfl, rfl, hT2⟩
      · replace hF := im hF c5
        refine z_iload_n C dX13_heaps_17 rfl ?_
        refine z_aload_n C dX13_heaps_18 rfl ?_
        refine f_getr C dX13_heaps_19 zfRX13_119 hpv0 hkv0 rfl ?_
        obtain ⟨hp6, hk6⟩ := hT2.1 v0 11 22 (.inr (0, 828)) hpv0 hkv0 rfl
        refine z_iconst (v := 4) C dX13_heaps_22 (by decide) ?_
        refine z_iload_n C dX13_heaps_23 rfl ?_
        refine z_iadd C dX13_heaps_24 ?_
        obtain ⟨hi7, hF⟩ := bX_some hF
        obtain ⟨q7, eq7⟩ : ∃ q : Nat, q = Int32.toNatClampNeg ((4 : Int32) + v3) := ⟨_, rfl⟩
        rw [← eq7] at hF
        refine f_iald C dX13_heaps_25 hp6 hk6 hi7 ?_
        rw [← eq7]
        refine z_iload_n C dX13_heaps_26 rfl ?_
        have hJ9 : zV G X (zQX G X (zPo G kd N0 res) 0 0) 4 [some (.ref (zB G + v0)), some (.int v1), some (.int v2), some (.int v3)] [.int (if (gI S2 (gR S2 v0 22) q7) ≤ v1 then (0 : Int32) else ((1 : Int32) <<< (v3 &&& 31))), .int v2] (cn G kd N0 S2) 37 0 0 := by
          refine z_ior C dX13_heaps_37 ?_
          replace hF := lI_e hF
          generalize (v2 ||| (if (gI S2 (gR S2 v0 22) q7) ≤ v1 then (0 : Int32) else ((1 : Int32) <<< (v3 &&& 31)))) = y10 at hF ⊢
          refine z_istore_n (lv2 := [some (.ref (zB G + v0)), some (.int v1), some (.int y10), some (.int v3)]) C dX13_heaps_38 (by decide) rfl ?_
          refine z_iinc (v := v3 + 1) (lv2 := [some (.ref (zB G + v0)), some (.int v1), some (.int y10), some (.int (v3 + 1))]) C dX13_heaps_39 rfl (by rw [show Int32.ofInt 1 = (1 : Int32) from by decide]) rfl ?_
          refine z_goto C 9 dX13_heaps_42 (by decide) ?_
          exact ih1 S2 v0 v1 y10 (v3 + 1) res hT2 hpv0 hkv0    hF
        refine z_icmp_le C 36 dX13_heaps_27 (by decide) (fun c8 => ?_) (fun c8 => ?_)
        · refine z_iconst (v := 0) C dX13_heaps_36 (by decide) ?_
          exact zV.at hJ9 (by first | rfl | contradiction | (simp only [if_pos c8]; done)) (by first | rfl | contradiction | (simp only [if_pos c8]; done)) rfl rfl
        · refine z_iconst (v := 1) C dX13_heaps_30 (by decide) ?_
          refine z_iload_n C dX13_heaps_31 rfl ?_
          refine z_ishl C dX13_heaps_32 ?_
          refine z_goto C 37 dX13_heaps_33 (by decide) ?_
          exact zV.at hJ9 (by first | rfl | contradiction | (simp only [if_neg c8]; done)) (by first | rfl | contradiction | (simp only [if_neg c8]; done)) rfl rfl
theorem K_X13_heaps {G : zG} {l : Launch} {kd : kD} {N0 f : Nat} {S : aS} {v0 : Nat} {v1 : Int32} {res : Option Value × aS} (hT : zT0 kd N0 S) (hpv0 : v0 < N0) (hkv0 : kd v0 = .inl 11) (hF : F_X13_heaps f 0 [.ref v0, .int v1] S = some res) : zM G l 1 0 0 yX13_heaps cX13_heaps 4 (some .int) [.ref (zB G + v0), .int v1] (cn G kd N0 S) (zPo G kd N0 res) := zM.of (by decide) rfl (Nat.le_of_ble_eq_true rfl) (fun X _ C hr _ => (B_X13_heaps C hr f).1 S v0 v1 res hT hpv0 hkv0 hF)
def F_X13_empty_0 (f : Nat) (rc : Nat → List Value → aS → aR) (v0 : Nat) (v1 : Int32) (S : aS) : aR :=
  fS (sI S v0 0 0) fun S1 => bI (F_X13_isYard f 0 [.ref v0, .int v1] S1) fun x2 S2 => if x2 = (0 : Int32) then rc 1 [] S2 else bI (F_X13_isBin f 0 [.ref v0, .int 0, .int v1] S2) fun x4 S4 => if x4 = (0 : Int32) then rc 1 [] S4 else bV (F_X13_keeps f 0 [.ref v0] S4) fun S6 => bI (F_X13_empties f 0 [.ref v0, .int 0, .int v1] S6) fun x7 S7 => some (some (.int x7), S7)
def F_X13_empty_1 (f : Nat) (rc : Nat → List Value → aS → aR)  (S : aS) : aR :=
  some (some (.int ((-1))), S)
def F_X13_empty : Nat → Nat → List Value → aS → aR
  | 0, _, _, _ => none
  | f + 1, 0, vs, S => F_X13_empty_0 f (F_X13_empty f) (vR vs 0) (vI vs 1) S
  | f + 1, 1, vs, S => F_X13_empty_1 f (F_X13_empty f)  S
  | _ + 1, _, _, _ => none
theorem dX13_empty_0 : decode cX13_empty 0 = .ok (.aload_n 0, 1) := by decide +kernel
theorem dX13_empty_1 : decode cX13_empty 1 = .ok (.iconst 0, 1) := by decide +kernel
theorem dX13_empty_2 : decode cX13_empty 2 = .ok (.putfield 1, 3) := by decide +kernel
theorem dX13_empty_5 : decode cX13_empty 5 = .ok (.aload_n 0, 1) := by decide +kernel
theorem dX13_empty_6 : decode cX13_empty 6 = .ok (.iload_n 1, 1) := by decide +kernel
theorem dX13_empty_7 : decode cX13_empty 7 = .ok (.invokevirtual 336, 3) := by decide +kernel
theorem dX13_empty_10 : decode cX13_empty 10 = .ok (.ifCond .eq 12, 3) := by decide +kernel
theorem dX13_empty_13 : decode cX13_empty 13 = .ok (.aload_n 0, 1) := by decide +kernel
theorem dX13_empty_14 : decode cX13_empty 14 = .ok (.iconst 0, 1) := by decide +kernel
theorem dX13_empty_15 : decode cX13_empty 15 = .ok (.iload_n 1, 1) := by decide +kernel
theorem dX13_empty_16 : decode cX13_empty 16 = .ok (.invokevirtual 349, 3) := by decide +kernel
theorem dX13_empty_19 : decode cX13_empty 19 = .ok (.ifCond .ne 5, 3) := by decide +kernel
theorem dX13_empty_22 : decode cX13_empty 22 = .ok (.iconst (-1), 1) := by decide +kernel
theorem dX13_empty_23 : decode cX13_empty 23 = .ok (.ireturn, 1) := by decide +kernel
theorem dX13_empty_24 : decode cX13_empty 24 = .ok (.aload_n 0, 1) := by decide +kernel
theorem dX13_empty_25 : decode cX13_empty 25 = .ok (.invokevirtual 346, 3) := by decide +kernel
theorem dX13_empty_28 : decode cX13_empty 28 = .ok (.aload_n 0, 1) := by decide +kernel
theorem dX13_empty_29 : decode cX13_empty 29 = .ok (.iconst 0, 1) := by decide +kernel
theorem dX13_empty_30 : decode cX13_empty 30 = .ok (.iload_n 1, 1) := by decide +kernel
theorem dX13_empty_31 : decode cX13_empty 31 = .ok (.invokevirtual 352, 3) := by decide +kernel
theorem dX13_empty_34 : decode cX13_empty 34 = .ok (.ireturn, 1) := by decide +kernel
set_option maxHeartbeats 4000000 in
set_option maxRecDepth 100000 in
theorem B_X13_empty {G : zG} {X : zX} {kd : kD} {N0 : Nat} (C : zCt G X 2 0 0 RX13 cX13_empty 2) (hr : (zXh X).sig.returnType = (some .int)) : ∀ f : Nat,
    (∀ (S : aS) (v0 : Nat) (v1 : Int32) (res : Option Value × aS), zT0 kd N0 S → v0 < N0 → kd v0 = .inl 11 → F_X13_empty f 0 [.ref v0, .int v1] S = some res → zV G X (zQX G X (zPo G kd N0 res) 0 0) 2 [some (.ref (zB G + v0)), some (.int v1)] [] (cn G kd N0 S) 0 0 0) ∧
    (∀ (S : aS)  (res : Option Value × aS), zT0 kd N0 S → F_X13_empty f 1 [] S = some res → zV G X (zQX G X (zPo G kd N0 res) 0 0) 2 [none, none] [] (cn G kd N0 S) 22 0 0) := by
  intro f
  induction f with
  | zero => exact ⟨(fun _ _ _ _ _ _ _ h => by cases h), (fun _ _ _ h => by cases h)⟩
  | succ f ih =>
    obtain ⟨ih0, ih1⟩ := ih
    refine ⟨?_, ?_⟩
    · intro S v0 v1 res hT hpv0 hkv0 hF
      replace hF : F_X13_empty_0 f (F_X13_empty f) v0 v1 S = some res := hF
      unfold F_X13_empty_0 at hF
      refine z_aload_n C dX13_empty_0 rfl ?_
      refine z_iconst (v := 0) C dX13_empty_1 (by decide) ?_
      refine f_puti C dX13_empty_2 zfRX13_1 fw11_0 hpv0 hkv0 rfl rfl rfl ?_
      have hT1 : zT0 kd N0 (sI S v0 0 0) := zT0_sI hT
      replace hF := fS_e hF
      generalize sI S v0 0 0 = S1 at hF hT1 ⊢
      refine z_aload_n C dX13_empty_5 rfl ?_
      refine z_iload_n C dX13_empty_6 rfl ?_
      obtain ⟨x2, S2, h2, hF⟩ := bI_some hF
      refine f_cV (st2 := [.int x2]) C dX13_empty_7 zyX13_isYard zvX13_isYard lkRX13_336 (K_X13_isYard (l := zXl X) hT1 hpv0 hkv0  h2) hpv0 hkv0 rfl (by decide) rfl rfl (Nat.le_of_ble_eq_true rfl) rfl (fun hT2 => ?_)
      refine z_if_eq C 22 dX13_empty_10 (by decide) (fun c3 => ?_) (fun c3 => ?_)
      · replace hF := ip hF c3
        refine z_mask [false, false] ?_ rfl
        exact ih1 S2  res hT2  hF
      · replace hF := im hF c3
        refine z_aload_n C dX13_empty_13 rfl ?_
        refine z_iconst (v := 0) C dX13_empty_14 (by decide) ?_
        refine z_iload_n C dX13_empty_15 rfl ?_
        obtain ⟨x4, S4, h4, hF⟩ := bI_some hF
        refine f_cV (st2 := [.int x4]) C dX13_empty_16 zyX13_isBin zvX13_isBin lkRX13_349 (K_X13_isBin (l := zXl X) hT2 hpv0 hkv0   h4) hpv0 hkv0 rfl (by decide) rfl rfl (Nat.le_of_ble_eq_true rfl) rfl (fun hT4 => ?_)
        refine z_if_ne C 24 dX13_empty_19 (by decide) (fun c5 => ?_) (fun c5 => ?_)
        · replace hF := im hF c5
          refine z_aload_n C dX13_empty_24 rfl ?_
          obtain ⟨S6, h6, hF⟩ := bV_some hF
          refine f_cV (st2 := []) C dX13_empty_25 zyX13_keeps zvX13_keeps lkRX13_346 (K_X13_keeps (l := zXl X) hT4 hpv0 hkv0 h6) hpv0 hkv0 rfl (by decide) rfl rfl (Nat.le_of_ble_eq_true rfl) rfl (fun hT6 => ?_)
          refine z_aload_n C dX13_empty_28 rfl ?_
          refine z_iconst (v := 0) C dX13_empty_29 (by decide) ?_
          refine z_iload_n C dX13_empty_30 rfl ?_
          obtain ⟨x7, S7, h7, hF⟩ := bI_some hF
          refine f_cV (st2 := [.int x7]) C dX13_empty_31 zyX13_empties zvX13_empties lkRX13_352 (K_X13_empties (l := zXl X) hT6 hpv0 hkv0   h7) hpv0 hkv0 rfl (by decide) rfl rfl (Nat.le_of_ble_eq_true rfl) rfl (fun hT7 => ?_)
          cases hF
          exact z_iret C hr dX13_empty_34 ⟨rfl, rfl, hT7⟩
        · replace hF := ip hF c5
          refine z_mask [false, false] ?_ rfl
          exact ih1 S4  res hT4  hF
    · intro S  res hT  hF
      replace hF : F_X13_empty_1 f (F_X13_empty f)  S = some res := hF
      unfold F_X13_empty_1 at hF
      refine z_iconst (v := (-1)) C dX13_empty_22 (by decide) ?_
      cases hF
      exact z_iret C hr dX13_empty_23 ⟨rfl, rfl, hT⟩
theorem K_X13_empty {G : zG} {l : Launch} {kd : kD} {N0 f : Nat} {S : aS} {v0 : Nat} {v1 : Int32} {res : Option Value × aS} (hT : zT0 kd N0 S) (hpv0 : v0 < N0) (hkv0 : kd v0 = .inl 11) (hF : F_X13_empty f 0 [.ref v0, .int v1] S = some res) : zM G l 2 0 0 yX13_empty cX13_empty 2 (some .int) [.ref (zB G + v0), .int v1] (cn G kd N0 S) (zPo G kd N0 res) := zM.of (by decide) rfl (Nat.le_of_ble_eq_true rfl) (fun X _ C hr _ => (B_X13_empty C hr f).1 S v0 v1 res hT hpv0 hkv0 hF)
def F_X13_put_0 (f : Nat) (rc : Nat → List Value → aS → aR) (v0 : Nat) (v1 : Int32) (v2 : Int32) (S : aS) : aR :=
  fS (sI S v0 0 0) fun S1 => bI (F_X13_isYard f 0 [.ref v0, .int v1] S1) fun x2 S2 => if x2 = (0 : Int32) then rc 1 [] S2 else bI (F_X13_within f 0 [.int v2, .int 1, .int 30] S2) fun x4 S4 => if x4 = (0 : Int32) then rc 1 [] S4 else bI (F_X13_isBin f 0 [.ref v0, .int 0, .int v1] S4) fun x6 S6 => if x6 = (0 : Int32) then bV (F_X13_keeps f 0 [.ref v0] S6) fun S8 => bX ((12 : Int32) + v1) 828 fun q10 => fS (sI S8 (gR S8 v0 22) q10 v2) fun S11 => bX ((20 : Int32) + v1) 828 fun q13 => fS (sI S11 (gR S11 v0 22) q13 0) fun S14 => bZ 1 (some (some (.int 1), S14)) else rc 1 [] S6
def F_X13_put_1 (f : Nat) (rc : Nat → List Value → aS → aR)  (S : aS) : aR :=
  bZ 0 (some (some (.int 0), S))
def F_X13_put : Nat → Nat → List Value → aS → aR
  | 0, _, _, _ => none
  | f + 1, 0, vs, S => F_X13_put_0 f (F_X13_put f) (vR vs 0) (vI vs 1) (vI vs 2) S
  | f + 1, 1, vs, S => F_X13_put_1 f (F_X13_put f)  S
  | _ + 1, _, _, _ => none
theorem dX13_put_0 : decode cX13_put 0 = .ok (.aload_n 0, 1) := by decide +kernel
theorem dX13_put_1 : decode cX13_put 1 = .ok (.iconst 0, 1) := by decide +kernel
theorem dX13_put_2 : decode cX13_put 2 = .ok (.putfield 1, 3) := by decide +kernel
theorem dX13_put_5 : decode cX13_put 5 = .ok (.aload_n 0, 1) := by decide +kernel
theorem dX13_put_6 : decode cX13_put 6 = .ok (.iload_n 1, 1) := by decide +kernel
theorem dX13_put_7 : decode cX13_put 7 = .ok (.invokevirtual 336, 3) := by decide +kernel
theorem dX13_put_10 : decode cX13_put 10 = .ok (.ifCond .eq 22, 3) := by decide +kernel
theorem dX13_put_13 : decode cX13_put 13 = .ok (.iload_n 2, 1) := by decide +kernel
theorem dX13_put_14 : decode cX13_put 14 = .ok (.iconst 1, 1) := by decide +kernel
theorem dX13_put_15 : decode cX13_put 15 = .ok (.bipush 30, 2) := by decide +kernel
theorem dX13_put_17 : decode cX13_put 17 = .ok (.invokestatic 339, 3) := by decide +kernel
theorem dX13_put_20 : decode cX13_put 20 = .ok (.ifCond .eq 12, 3) := by decide +kernel
theorem dX13_put_23 : decode cX13_put 23 = .ok (.aload_n 0, 1) := by decide +kernel
theorem dX13_put_24 : decode cX13_put 24 = .ok (.iconst 0, 1) := by decide +kernel
theorem dX13_put_25 : decode cX13_put 25 = .ok (.iload_n 1, 1) := by decide +kernel
theorem dX13_put_26 : decode cX13_put 26 = .ok (.invokevirtual 349, 3) := by decide +kernel
theorem dX13_put_29 : decode cX13_put 29 = .ok (.ifCond .eq 5, 3) := by decide +kernel
theorem dX13_put_32 : decode cX13_put 32 = .ok (.iconst 0, 1) := by decide +kernel
theorem dX13_put_33 : decode cX13_put 33 = .ok (.ireturn, 1) := by decide +kernel
theorem dX13_put_34 : decode cX13_put 34 = .ok (.aload_n 0, 1) := by decide +kernel
theorem dX13_put_35 : decode cX13_put 35 = .ok (.invokevirtual 346, 3) := by decide +kernel
theorem dX13_put_38 : decode cX13_put 38 = .ok (.aload_n 0, 1) := by decide +kernel
theorem dX13_put_39 : decode cX13_put 39 = .ok (.getfield 119, 3) := by decide +kernel
theorem dX13_put_42 : decode cX13_put 42 = .ok (.bipush 12, 2) := by decide +kernel
theorem dX13_put_44 : decode cX13_put 44 = .ok (.iload_n 1, 1) := by decide +kernel
theorem dX13_put_45 : decode cX13_put 45 = .ok (.iadd, 1) := by decide +kernel
theorem dX13_put_46 : decode cX13_put 46 = .ok (.iload_n 2, 1) := by decide +kernel
theorem dX13_put_47 : decode cX13_put 47 = .ok (.iastore, 1) := by decide +kernel
theorem dX13_put_48 : decode cX13_put 48 = .ok (.aload_n 0, 1) := by decide +kernel
theorem dX13_put_49 : decode cX13_put 49 = .ok (.getfield 119, 3) := by decide +kernel
theorem dX13_put_52 : decode cX13_put 52 = .ok (.bipush 20, 2) := by decide +kernel
theorem dX13_put_54 : decode cX13_put 54 = .ok (.iload_n 1, 1) := by decide +kernel
theorem dX13_put_55 : decode cX13_put 55 = .ok (.iadd, 1) := by decide +kernel
theorem dX13_put_56 : decode cX13_put 56 = .ok (.iconst 0, 1) := by decide +kernel
theorem dX13_put_57 : decode cX13_put 57 = .ok (.iastore, 1) := by decide +kernel
theorem dX13_put_58 : decode cX13_put 58 = .ok (.iconst 1, 1) := by decide +kernel
theorem dX13_put_59 : decode cX13_put 59 = .ok (.ireturn, 1) := by decide +kernel
set_option maxHeartbeats 4000000 in
set_option maxRecDepth 100000 in
theorem B_X13_put {G : zG} {X : zX} {kd : kD} {N0 : Nat} (C : zCt G X 2 0 0 RX13 cX13_put 3) (hr : (zXh X).sig.returnType = (some .boolean)) : ∀ f : Nat,
    (∀ (S : aS) (v0 : Nat) (v1 : Int32) (v2 : Int32) (res : Option Value × aS), zT0 kd N0 S → v0 < N0 → kd v0 = .inl 11 → F_X13_put f 0 [.ref v0, .int v1, .int v2] S = some res → zV G X (zQX G X (zPo G kd N0 res) 0 0) 3 [some (.ref (zB G + v0)), some (.int v1), some (.int v2)] [] (cn G kd N0 S) 0 0 0) ∧
    (∀ (S : aS)  (res : Option Value × aS), zT0 kd N0 S → F_X13_put f 1 [] S = some res → zV G X (zQX G X (zPo G kd N0 res) 0 0) 3 [none, none, none] [] (cn G kd N0 S) 32 0 0) := by
  intro f
  induction f with
  | zero => exact ⟨(fun _ _ _ _ _ _ _ _ h => by cases h), (fun _ _ _ h => by cases h)⟩
  | succ f ih =>
    obtain ⟨ih0, ih1⟩ := ih
    refine ⟨?_, ?_⟩
    · intro S v0 v1 v2 res hT hpv0 hkv0 hF
      replace hF : F_X13_put_0 f (F_X13_put f) v0 v1 v2 S = some res := hF
      unfold F_X13_put_0 at hF
      refine z_aload_n C dX13_put_0 rfl ?_
      refine z_iconst (v := 0) C dX13_put_1 (by decide) ?_
      refine f_puti C dX13_put_2 zfRX13_1 fw11_0 hpv0 hkv0 rfl rfl rfl ?_
      have hT1 : zT0 kd N0 (sI S v0 0 0) := zT0_sI hT
      replace hF := fS_e hF
      generalize sI S v0 0 0 = S1 at hF hT1 ⊢
      refine z_aload_n C dX13_put_5 rfl ?_
      refine z_iload_n C dX13_put_6 rfl ?_
      obtain ⟨x2, S2, h2, hF⟩ := bI_some hF
      refine f_cV (st2 := [.int x2]) C dX13_put_7 zyX13_isYard zvX13_isYard lkRX13_336 (K_X13_isYard (l := zXl X) hT1 hpv0 hkv0  h2) hpv0 hkv0 rfl (by decide) rfl rfl (Nat.le_of_ble_eq_true rfl) rfl (fun hT2 => ?_)
      refine z_if_eq C 32 dX13_put_10 (by decide) (fun c3 => ?_) (fun c3 => ?_)
      · replace hF := ip hF c3
        refine z_mask [false, false, false] ?_ rfl
        exact ih1 S2  res hT2  hF
      · replace hF := im hF c3
        refine z_iload_n C dX13_put_13 rfl ?_
        refine z_iconst (v := 1) C dX13_put_14 (by decide) ?_
        refine z_bipush (v := 30) C dX13_put_15 (by decide) ?_
        obtain ⟨x4, S4, h4, hF⟩ := bI_some hF
        refine f_cS (st2 := [.int x4]) C dX13_put_17 zyX13_within zsX13_within lkRX13_339 (K_X13_within (l := zXl X) hT2    h4) (by decide) rfl rfl (Nat.le_of_ble_eq_true rfl) rfl (fun hT4 => ?_)
        refine z_if_eq C 32 dX13_put_20 (by decide) (fun c5 => ?_) (fun c5 => ?_)
        · replace hF := ip hF c5
          refine z_mask [false, false, false] ?_ rfl
          exact ih1 S4  res hT4  hF
        · replace hF := im hF c5
          refine z_aload_n C dX13_put_23 rfl ?_
          refine z_iconst (v := 0) C dX13_put_24 (by decide) ?_
          refine z_iload_n C dX13_put_25 rfl ?_
          obtain ⟨x6, S6, h6, hF⟩ := bI_some hF
          refine f_cV (st2 := [.int x6]) C dX13_put_26 zyX13_isBin zvX13_isBin lkRX13_349 (K_X13_isBin (l := zXl X) hT4 hpv0 hkv0   h6) hpv0 hkv0 rfl (by decide) rfl rfl (Nat.le_of_ble_eq_true rfl) rfl (fun hT6 => ?_)
          refine z_if_eq C 34 dX13_put_29 (by decide) (fun c7 => ?_) (fun c7 => ?_)
          · replace hF := ip hF c7
            refine z_aload_n C dX13_put_34 rfl ?_
            obtain ⟨S8, h8, hF⟩ := bV_some hF
            refine f_cV (st2 := []) C dX13_put_35 zyX13_keeps zvX13_keeps lkRX13_346 (K_X13_keeps (l := zXl X) hT6 hpv0 hkv0 h8) hpv0 hkv0 rfl (by decide) rfl rfl (Nat.le_of_ble_eq_true rfl) rfl (fun hT8 => ?_)
            refine z_aload_n C dX13_put_38 rfl ?_
            refine f_getr C dX13_put_39 zfRX13_119 hpv0 hkv0 rfl ?_
            obtain ⟨hp9, hk9⟩ := hT8.1 v0 11 22 (.inr (0, 828)) hpv0 hkv0 rfl
            refine z_bipush (v := 12) C dX13_put_42 (by decide) ?_
            refine z_iload_n C dX13_put_44 rfl ?_
            refine z_iadd C dX13_put_45 ?_
            refine z_iload_n C dX13_put_46 rfl ?_
            obtain ⟨hi10, hF⟩ := bX_some hF
            obtain ⟨q10, eq10⟩ : ∃ q : Nat, q = Int32.toNatClampNeg ((12 : Int32) + v1) := ⟨_, rfl⟩
            rw [← eq10] at hF
            refine f_iast C dX13_put_47 hp9 hk9 hi10 ?_
            rw [← eq10]
            have hT11 : zT0 kd N0 (sI S8 (gR S8 v0 22) q10 v2) := zT0_sI hT8
            replace hF := fS_e hF
            generalize sI S8 (gR S8 v0 22) q10 v2 = S11 at hF hT11 ⊢
            refine z_aload_n C dX13_put_48 rfl ?_
            refine f_getr C dX13_put_49 zfRX13_119 hpv0 hkv0 rfl ?_
            obtain ⟨hp12, hk12⟩ := hT11.1 v0 11 22 (.inr (0, 828)) hpv0 hkv0 rfl
            refine z_bipush (v := 20) C dX13_put_52 (by decide) ?_
            refine z_iload_n C dX13_put_54 rfl ?_
            refine z_iadd C dX13_put_55 ?_
            refine z_iconst (v := 0) C dX13_put_56 (by decide) ?_
            obtain ⟨hi13, hF⟩ := bX_some hF
            obtain ⟨q13, eq13⟩ : ∃ q : Nat, q = Int32.toNatClampNeg ((20 : Int32) + v1) := ⟨_, rfl⟩
            rw [← eq13] at hF
            refine f_iast C dX13_put_57 hp12 hk12 hi13 ?_
            rw [← eq13]
            have hT14 : zT0 kd N0 (sI S11 (gR S11 v0 22) q13 0) := zT0_sI hT11
            replace hF := fS_e hF
            generalize sI S11 (gR S11 v0 22) q13 0 = S14 at hF hT14 ⊢
            refine z_iconst (v := 1) C dX13_put_58 (by decide) ?_
            obtain ⟨hz, hF⟩ := bZ_some hF
            cases hF
            exact z_zret C hr hz.1 dX13_put_59 ⟨rfl, rfl, hT14⟩
          · replace hF := im hF c7
            refine z_mask [false, false, false] ?_ rfl
            exact ih1 S6  res hT6  hF
    · intro S  res hT  hF
      replace hF : F_X13_put_1 f (F_X13_put f)  S = some res := hF
      unfold F_X13_put_1 at hF
      refine z_iconst (v := 0) C dX13_put_32 (by decide) ?_
      obtain ⟨hz, hF⟩ := bZ_some hF
      cases hF
      exact z_zret C hr hz.1 dX13_put_33 ⟨rfl, rfl, hT⟩
theorem K_X13_put {G : zG} {l : Launch} {kd : kD} {N0 f : Nat} {S : aS} {v0 : Nat} {v1 : Int32} {v2 : Int32} {res : Option Value × aS} (hT : zT0 kd N0 S) (hpv0 : v0 < N0) (hkv0 : kd v0 = .inl 11) (hF : F_X13_put f 0 [.ref v0, .int v1, .int v2] S = some res) : zM G l 2 0 0 yX13_put cX13_put 3 (some .boolean) [.ref (zB G + v0), .int v1, .int v2] (cn G kd N0 S) (zPo G kd N0 res) := zM.of (by decide) rfl (Nat.le_of_ble_eq_true rfl) (fun X _ C hr _ => (B_X13_put C hr f).1 S v0 v1 v2 res hT hpv0 hkv0 hF)
def F_X13_offs_0 (f : Nat) (rc : Nat → List Value → aS → aR) (v0 : Nat) (v1 : Int32) (v2 : Int32) (S : aS) : aR :=
  bX ((v1 + (20 : Int32)) + v2) 828 fun q2 => bX ((v1 + (20 : Int32)) + v2) 828 fun q4 => fS (sI S (gR S v0 22) q4 0) fun S5 => bX ((v1 + (12 : Int32)) + v2) 828 fun q7 => fS (sI S5 (gR S5 v0 22) q7 0) fun S8 => some (some (.int (gI S (gR S v0 22) q2)), S8)
def F_X13_offs : Nat → Nat → List Value → aS → aR
  | 0, _, _, _ => none
  | f + 1, 0, vs, S => F_X13_offs_0 f (F_X13_offs f) (vR vs 0) (vI vs 1) (vI vs 2) S
  | _ + 1, _, _, _ => none
theorem dX13_offs_0 : decode cX13_offs 0 = .ok (.aload_n 0, 1) := by decide +kernel
theorem dX13_offs_1 : decode cX13_offs 1 = .ok (.getfield 119, 3) := by decide +kernel
theorem dX13_offs_4 : decode cX13_offs 4 = .ok (.iload_n 1, 1) := by decide +kernel
theorem dX13_offs_5 : decode cX13_offs 5 = .ok (.bipush 20, 2) := by decide +kernel
theorem dX13_offs_7 : decode cX13_offs 7 = .ok (.iadd, 1) := by decide +kernel
theorem dX13_offs_8 : decode cX13_offs 8 = .ok (.iload_n 2, 1) := by decide +kernel
theorem dX13_offs_9 : decode cX13_offs 9 = .ok (.iadd, 1) := by decide +kernel
theorem dX13_offs_10 : decode cX13_offs 10 = .ok (.iaload, 1) := by decide +kernel
theorem dX13_offs_11 : decode cX13_offs 11 = .ok (.istore_n 3, 1) := by decide +kernel
theorem dX13_offs_12 : decode cX13_offs 12 = .ok (.aload_n 0, 1) := by decide +kernel
theorem dX13_offs_13 : decode cX13_offs 13 = .ok (.getfield 119, 3) := by decide +kernel
theorem dX13_offs_16 : decode cX13_offs 16 = .ok (.iload_n 1, 1) := by decide +kernel
theorem dX13_offs_17 : decode cX13_offs 17 = .ok (.bipush 20, 2) := by decide +kernel
theorem dX13_offs_19 : decode cX13_offs 19 = .ok (.iadd, 1) := by decide +kernel
theorem dX13_offs_20 : decode cX13_offs 20 = .ok (.iload_n 2, 1) := by decide +kernel
theorem dX13_offs_21 : decode cX13_offs 21 = .ok (.iadd, 1) := by decide +kernel
theorem dX13_offs_22 : decode cX13_offs 22 = .ok (.iconst 0, 1) := by decide +kernel
theorem dX13_offs_23 : decode cX13_offs 23 = .ok (.iastore, 1) := by decide +kernel
theorem dX13_offs_24 : decode cX13_offs 24 = .ok (.aload_n 0, 1) := by decide +kernel
theorem dX13_offs_25 : decode cX13_offs 25 = .ok (.getfield 119, 3) := by decide +kernel
theorem dX13_offs_28 : decode cX13_offs 28 = .ok (.iload_n 1, 1) := by decide +kernel
theorem dX13_offs_29 : decode cX13_offs 29 = .ok (.bipush 12, 2) := by decide +kernel
theorem dX13_offs_31 : decode cX13_offs 31 = .ok (.iadd, 1) := by decide +kernel
theorem dX13_offs_32 : decode cX13_offs 32 = .ok (.iload_n 2, 1) := by decide +kernel
theorem dX13_offs_33 : decode cX13_offs 33 = .ok (.iadd, 1) := by decide +kernel
theorem dX13_offs_34 : decode cX13_offs 34 = .ok (.iconst 0, 1) := by decide +kernel
theorem dX13_offs_35 : decode cX13_offs 35 = .ok (.iastore, 1) := by decide +kernel
theorem dX13_offs_36 : decode cX13_offs 36 = .ok (.iload_n 3, 1) := by decide +kernel
theorem dX13_offs_37 : decode cX13_offs 37 = .ok (.ireturn, 1) := by decide +kernel
set_option maxHeartbeats 4000000 in
set_option maxRecDepth 100000 in
theorem B_X13_offs {G : zG} {X : zX} {kd : kD} {N0 : Nat} (C : zCt G X 0 0 0 RX13 cX13_offs 4) (hr : (zXh X).sig.returnType = (some .int)) : ∀ f : Nat,
    (∀ (S : aS) (v0 : Nat) (v1 : Int32) (v2 : Int32) (res : Option Value × aS), zT0 kd N0 S → v0 < N0 → kd v0 = .inl 11 → F_X13_offs f 0 [.ref v0, .int v1, .int v2] S = some res → zV G X (zQX G X (zPo G kd N0 res) 0 0) 4 [some (.ref (zB G + v0)), some (.int v1), some (.int v2), none] [] (cn G kd N0 S) 0 0 0) := by
  intro f
  induction f with
  | zero => exact (fun _ _ _ _ _ _ _ _ h => by cases h)
  | succ f ih =>
    have ih0 := ih
    intro S v0 v1 v2 res hT hpv0 hkv0 hF
    replace hF : F_X13_offs_0 f (F_X13_offs f) v0 v1 v2 S = some res := hF
    unfold F_X13_offs_0 at hF
    refine z_aload_n C dX13_offs_0 rfl ?_
    refine f_getr C dX13_offs_1 zfRX13_119 hpv0 hkv0 rfl ?_
    obtain ⟨hp1, hk1⟩ := hT.1 v0 11 22 (.inr (0, 828)) hpv0 hkv0 rfl
    refine z_iload_n C dX13_offs_4 rfl ?_
    refine z_bipush (v := 20) C dX13_offs_5 (by decide) ?_
    refine z_iadd C dX13_offs_7 ?_
    refine z_iload_n C dX13_offs_8 rfl ?_
    refine z_iadd C dX13_offs_9 ?_
    obtain ⟨hi2, hF⟩ := bX_some hF
    obtain ⟨q2, eq2⟩ : ∃ q : Nat, q = Int32.toNatClampNeg ((v1 + (20 : Int32)) + v2) := ⟨_, rfl⟩
    rw [← eq2] at hF
    refine f_iald C dX13_offs_10 hp1 hk1 hi2 ?_
    rw [← eq2]
    refine z_istore_n (lv2 := [some (.ref (zB G + v0)), some (.int v1), some (.int v2), some (.int (gI S (gR S v0 22) q2))]) C dX13_offs_11 (by decide) rfl ?_
    refine z_aload_n C dX13_offs_12 rfl ?_
    refine f_getr C dX13_offs_13 zfRX13_119 hpv0 hkv0 rfl ?_
    obtain ⟨hp3, hk3⟩ := hT.1 v0 11 22 (.inr (0, 828)) hpv0 hkv0 rfl
    refine z_iload_n C dX13_offs_16 rfl ?_
    refine z_bipush (v := 20) C dX13_offs_17 (by decide) ?_
    refine z_iadd C dX13_offs_19 ?_
    refine z_iload_n C dX13_offs_20 rfl ?_
    refine z_iadd C dX13_offs_21 ?_
    refine z_iconst (v := 0) C dX13_offs_22 (by decide) ?_
    obtain ⟨hi4, hF⟩ := bX_some hF
    obtain ⟨q4, eq4⟩ : ∃ q : Nat, q = Int32.toNatClampNeg ((v1 + (20 : Int32)) + v2) := ⟨_, rfl⟩
    rw [← eq4] at hF
    refine f_iast C dX13_offs_23 hp3 hk3 hi4 ?_
    rw [← eq4]
    have hT5 : zT0 kd N0 (sI S (gR S v0 22) q4 0) := zT0_sI hT
    replace hF := fS_e hF
    generalize sI S (gR S v0 22) q4 0 = S5 at hF hT5 ⊢
    refine z_aload_n C dX13_offs_24 rfl ?_
    refine f_getr C dX13_offs_25 zfRX13_119 hpv0 hkv0 rfl ?_
    obtain ⟨hp6, hk6⟩ := hT5.1 v0 11 22 (.inr (0, 828)) hpv0 hkv0 rfl
    refine z_iload_n C dX13_offs_28 rfl ?_
    refine z_bipush (v := 12) C dX13_offs_29 (by decide) ?_
    refine z_iadd C dX13_offs_31 ?_
    refine z_iload_n C dX13_offs_32 rfl ?_
    refine z_iadd C dX13_offs_33 ?_
    refine z_iconst (v := 0) C dX13_offs_34 (by decide) ?_
    obtain ⟨hi7, hF⟩ := bX_some hF
    obtain ⟨q7, eq7⟩ : ∃ q : Nat, q = Int32.toNatClampNeg ((v1 + (12 : Int32)) + v2) := ⟨_, rfl⟩
    rw [← eq7] at hF
    refine f_iast C dX13_offs_35 hp6 hk6 hi7 ?_
    rw [← eq7]
    have hT8 : zT0 kd N0 (sI S5 (gR S5 v0 22) q7 0) := zT0_sI hT5
    replace hF := fS_e hF
    generalize sI S5 (gR S5 v0 22) q7 0 = S8 at hF hT8 ⊢
    refine z_iload_n C dX13_offs_36 rfl ?_
    cases hF
    exact z_iret C hr dX13_offs_37 ⟨rfl, rfl, hT8⟩
theorem K_X13_offs {G : zG} {l : Launch} {kd : kD} {N0 f : Nat} {S : aS} {v0 : Nat} {v1 : Int32} {v2 : Int32} {res : Option Value × aS} (hT : zT0 kd N0 S) (hpv0 : v0 < N0) (hkv0 : kd v0 = .inl 11) (hF : F_X13_offs f 0 [.ref v0, .int v1, .int v2] S = some res) : zM G l 0 0 0 yX13_offs cX13_offs 4 (some .int) [.ref (zB G + v0), .int v1, .int v2] (cn G kd N0 S) (zPo G kd N0 res) := zM.of (by decide) rfl (Nat.le_of_ble_eq_true rfl) (fun X _ C hr _ => (B_X13_offs C hr f) S v0 v1 v2 res hT hpv0 hkv0 hF)
def F_X13_off_0 (f : Nat) (rc : Nat → List Value → aS → aR) (v0 : Nat) (v1 : Int32) (S : aS) : aR :=
  fS (sI S v0 0 0) fun S1 => bI (F_X13_isYard f 0 [.ref v0, .int v1] S1) fun x2 S2 => if x2 = (0 : Int32) then rc 1 [] S2 else bI (F_X13_isBin f 0 [.ref v0, .int 0, .int v1] S2) fun x4 S4 => if x4 = (0 : Int32) then rc 1 [] S4 else bV (F_X13_keeps f 0 [.ref v0] S4) fun S6 => bI (F_X13_offs f 0 [.ref v0, .int 0, .int v1] S6) fun x7 S7 => some (some (.int x7), S7)
def F_X13_off_1 (f : Nat) (rc : Nat → List Value → aS → aR)  (S : aS) : aR :=
  some (some (.int ((-1))), S)
def F_X13_off : Nat → Nat → List Value → aS → aR
  | 0, _, _, _ => none
  | f + 1, 0, vs, S => F_X13_off_0 f (F_X13_off f) (vR vs 0) (vI vs 1) S
  | f + 1, 1, vs, S => F_X13_off_1 f (F_X13_off f)  S
  | _ + 1, _, _, _ => none
theorem dX13_off_0 : decode cX13_off 0 = .ok (.aload_n 0, 1) := by decide +kernel
theorem dX13_off_1 : decode cX13_off 1 = .ok (.iconst 0, 1) := by decide +kernel
theorem dX13_off_2 : decode cX13_off 2 = .ok (.putfield 1, 3) := by decide +kernel
theorem dX13_off_5 : decode cX13_off 5 = .ok (.aload_n 0, 1) := by decide +kernel
theorem dX13_off_6 : decode cX13_off 6 = .ok (.iload_n 1, 1) := by decide +kernel
theorem dX13_off_7 : decode cX13_off 7 = .ok (.invokevirtual 336, 3) := by decide +kernel
theorem dX13_off_10 : decode cX13_off 10 = .ok (.ifCond .eq 12, 3) := by decide +kernel
theorem dX13_off_13 : decode cX13_off 13 = .ok (.aload_n 0, 1) := by decide +kernel
theorem dX13_off_14 : decode cX13_off 14 = .ok (.iconst 0, 1) := by decide +kernel
theorem dX13_off_15 : decode cX13_off 15 = .ok (.iload_n 1, 1) := by decide +kernel
theorem dX13_off_16 : decode cX13_off 16 = .ok (.invokevirtual 349, 3) := by decide +kernel
theorem dX13_off_19 : decode cX13_off 19 = .ok (.ifCond .ne 5, 3) := by decide +kernel
theorem dX13_off_22 : decode cX13_off 22 = .ok (.iconst (-1), 1) := by decide +kernel
theorem dX13_off_23 : decode cX13_off 23 = .ok (.ireturn, 1) := by decide +kernel
theorem dX13_off_24 : decode cX13_off 24 = .ok (.aload_n 0, 1) := by decide +kernel
theorem dX13_off_25 : decode cX13_off 25 = .ok (.invokevirtual 346, 3) := by decide +kernel
theorem dX13_off_28 : decode cX13_off 28 = .ok (.aload_n 0, 1) := by decide +kernel
theorem dX13_off_29 : decode cX13_off 29 = .ok (.iconst 0, 1) := by decide +kernel
theorem dX13_off_30 : decode cX13_off 30 = .ok (.iload_n 1, 1) := by decide +kernel
theorem dX13_off_31 : decode cX13_off 31 = .ok (.invokevirtual 355, 3) := by decide +kernel
theorem dX13_off_34 : decode cX13_off 34 = .ok (.ireturn, 1) := by decide +kernel
set_option maxHeartbeats 4000000 in
set_option maxRecDepth 100000 in
theorem B_X13_off {G : zG} {X : zX} {kd : kD} {N0 : Nat} (C : zCt G X 2 0 0 RX13 cX13_off 2) (hr : (zXh X).sig.returnType = (some .int)) : ∀ f : Nat,
    (∀ (S : aS) (v0 : Nat) (v1 : Int32) (res : Option Value × aS), zT0 kd N0 S → v0 < N0 → kd v0 = .inl 11 → F_X13_off f 0 [.ref v0, .int v1] S = some res → zV G X (zQX G X (zPo G kd N0 res) 0 0) 2 [some (.ref (zB G + v0)), some (.int v1)] [] (cn G kd N0 S) 0 0 0) ∧
    (∀ (S : aS)  (res : Option Value × aS), zT0 kd N0 S → F_X13_off f 1 [] S = some res → zV G X (zQX G X (zPo G kd N0 res) 0 0) 2 [none, none] [] (cn G kd N0 S) 22 0 0) := by
  intro f
  induction f with
  | zero => exact ⟨(fun _ _ _ _ _ _ _ h => by cases h), (fun _ _ _ h => by cases h)⟩
  | succ f ih =>
    obtain ⟨ih0, ih1⟩ := ih
    refine ⟨?_, ?_⟩
    · intro S v0 v1 res hT hpv0 hkv0 hF
      replace hF : F_X13_off_0 f (F_X13_off f) v0 v1 S = some res := hF
      unfold F_X13_off_0 at hF
      refine z_aload_n C dX13_off_0 rfl ?_
      refine z_iconst (v := 0) C dX13_off_1 (by decide) ?_
      refine f_puti C dX13_off_2 zfRX13_1 fw11_0 hpv0 hkv0 rfl rfl rfl ?_
      have hT1 : zT0 kd N0 (sI S v0 0 0) := zT0_sI hT
      replace hF := fS_e hF
      generalize sI S v0 0 0 = S1 at hF hT1 ⊢
      refine z_aload_n C dX13_off_5 rfl ?_
      refine z_iload_n C dX13_off_6 rfl ?_
      obtain ⟨x2, S2, h2, hF⟩ := bI_some hF
      refine f_cV (st2 := [.int x2]) C dX13_off_7 zyX13_isYard zvX13_isYard lkRX13_336 (K_X13_isYard (l := zXl X) hT1 hpv0 hkv0  h2) hpv0 hkv0 rfl (by decide) rfl rfl (Nat.le_of_ble_eq_true rfl) rfl (fun hT2 => ?_)
      refine z_if_eq C 22 dX13_off_10 (by decide) (fun c3 => ?_) (fun c3 => ?_)
      · replace hF := ip hF c3
        refine z_mask [false, false] ?_ rfl
        exact ih1 S2  res hT2  hF
      · replace hF := im hF c3
        refine z_aload_n C dX13_off_13 rfl ?_
        refine z_iconst (v := 0) C dX13_off_14 (by decide) ?_
        refine z_iload_n C dX13_off_15 rfl ?_
        obtain ⟨x4, S4, h4, hF⟩ := bI_some hF
        refine f_cV (st2 := [.int x4]) C dX13_off_16 zyX13_isBin zvX13_isBin lkRX13_349 (K_X13_isBin (l := zXl X) hT2 hpv0 hkv0   h4) hpv0 hkv0 rfl (by decide) rfl rfl (Nat.le_of_ble_eq_true rfl) rfl (fun hT4 => ?_)
        refine z_if_ne C 24 dX13_off_19 (by decide) (fun c5 => ?_) (fun c5 => ?_)
        · replace hF := im hF c5
          refine z_aload_n C dX13_off_24 rfl ?_
          obtain ⟨S6, h6, hF⟩ := bV_some hF
          refine f_cV (st2 := []) C dX13_off_25 zyX13_keeps zvX13_keeps lkRX13_346 (K_X13_keeps (l := zXl X) hT4 hpv0 hkv0 h6) hpv0 hkv0 rfl (by decide) rfl rfl (Nat.le_of_ble_eq_true rfl) rfl (fun hT6 => ?_)
          refine z_aload_n C dX13_off_28 rfl ?_
          refine z_iconst (v := 0) C dX13_off_29 (by decide) ?_
          refine z_iload_n C dX13_off_30 rfl ?_
          obtain ⟨x7, S7, h7, hF⟩ := bI_some hF
          refine f_cV (st2 := [.int x7]) C dX13_off_31 zyX13_offs zvX13_offs lkRX13_355 (K_X13_offs (l := zXl X) hT6 hpv0 hkv0   h7) hpv0 hkv0 rfl (by decide) rfl rfl (Nat.le_of_ble_eq_true rfl) rfl (fun hT7 => ?_)
          cases hF
          exact z_iret C hr dX13_off_34 ⟨rfl, rfl, hT7⟩
        · replace hF := ip hF c5
          refine z_mask [false, false] ?_ rfl
          exact ih1 S4  res hT4  hF
    · intro S  res hT  hF
      replace hF : F_X13_off_1 f (F_X13_off f)  S = some res := hF
      unfold F_X13_off_1 at hF
      refine z_iconst (v := (-1)) C dX13_off_22 (by decide) ?_
      cases hF
      exact z_iret C hr dX13_off_23 ⟨rfl, rfl, hT⟩
theorem K_X13_off {G : zG} {l : Launch} {kd : kD} {N0 f : Nat} {S : aS} {v0 : Nat} {v1 : Int32} {res : Option Value × aS} (hT : zT0 kd N0 S) (hpv0 : v0 < N0) (hkv0 : kd v0 = .inl 11) (hF : F_X13_off f 0 [.ref v0, .int v1] S = some res) : zM G l 2 0 0 yX13_off cX13_off 2 (some .int) [.ref (zB G + v0), .int v1] (cn G kd N0 S) (zPo G kd N0 res) := zM.of (by decide) rfl (Nat.le_of_ble_eq_true rfl) (fun X _ C hr _ => (B_X13_off C hr f).1 S v0 v1 res hT hpv0 hkv0 hF)

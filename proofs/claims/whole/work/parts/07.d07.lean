def F_X13_hands_0 (f : Nat) (rc : Nat → List Value → aS → aR) (v0 : Nat) (v1 : Int32) (S : aS) : aR :=
  fS (sI S v0 0 0) fun S1 => bI (F_X13_isPerson f 0 [.ref v0, .int v1] S1) fun x2 S2 => if x2 = (0 : Int32) then some (some (.int ((-1))), S2) else bV (F_X13_copies f 0 [.ref v0, .int 0, .int 756, .int 28] S2) fun S4 => bI (F_X13_walks f 0 [.ref v0, .int 756, .int v1] S4) fun x5 S5 => some (some (.int (gI S5 v0 28)), S5)
def F_X13_hands : Nat → Nat → List Value → aS → aR
  | 0, _, _, _ => none
  | f + 1, 0, vs, S => F_X13_hands_0 f (F_X13_hands f) (vR vs 0) (vI vs 1) S
  | _ + 1, _, _, _ => none
theorem dX13_hands_0 : decode cX13_hands 0 = .ok (.aload_n 0, 1) := by decide +kernel
theorem dX13_hands_1 : decode cX13_hands 1 = .ok (.iconst 0, 1) := by decide +kernel
theorem dX13_hands_2 : decode cX13_hands 2 = .ok (.putfield 1, 3) := by decide +kernel
theorem dX13_hands_5 : decode cX13_hands 5 = .ok (.aload_n 0, 1) := by decide +kernel
theorem dX13_hands_6 : decode cX13_hands 6 = .ok (.iload_n 1, 1) := by decide +kernel
theorem dX13_hands_7 : decode cX13_hands 7 = .ok (.invokevirtual 343, 3) := by decide +kernel
theorem dX13_hands_10 : decode cX13_hands 10 = .ok (.ifCond .ne 5, 3) := by decide +kernel
theorem dX13_hands_13 : decode cX13_hands 13 = .ok (.iconst (-1), 1) := by decide +kernel
theorem dX13_hands_14 : decode cX13_hands 14 = .ok (.ireturn, 1) := by decide +kernel
theorem dX13_hands_15 : decode cX13_hands 15 = .ok (.aload_n 0, 1) := by decide +kernel
theorem dX13_hands_16 : decode cX13_hands 16 = .ok (.iconst 0, 1) := by decide +kernel
theorem dX13_hands_17 : decode cX13_hands 17 = .ok (.sipush 756, 3) := by decide +kernel
theorem dX13_hands_20 : decode cX13_hands 20 = .ok (.bipush 28, 2) := by decide +kernel
theorem dX13_hands_22 : decode cX13_hands 22 = .ok (.invokevirtual 288, 3) := by decide +kernel
theorem dX13_hands_25 : decode cX13_hands 25 = .ok (.aload_n 0, 1) := by decide +kernel
theorem dX13_hands_26 : decode cX13_hands 26 = .ok (.sipush 756, 3) := by decide +kernel
theorem dX13_hands_29 : decode cX13_hands 29 = .ok (.iload_n 1, 1) := by decide +kernel
theorem dX13_hands_30 : decode cX13_hands 30 = .ok (.invokevirtual 330, 3) := by decide +kernel
theorem dX13_hands_33 : decode cX13_hands 33 = .ok (.pop, 1) := by decide +kernel
theorem dX13_hands_34 : decode cX13_hands 34 = .ok (.aload_n 0, 1) := by decide +kernel
theorem dX13_hands_35 : decode cX13_hands 35 = .ok (.getfield 320, 3) := by decide +kernel
theorem dX13_hands_38 : decode cX13_hands 38 = .ok (.ireturn, 1) := by decide +kernel
set_option maxHeartbeats 4000000 in
set_option maxRecDepth 100000 in
theorem B_X13_hands {G : zG} {X : zX} {kd : kD} {N0 : Nat} (C : zCt G X 4 0 0 RX13 cX13_hands 2) (hr : (zXh X).sig.returnType = (some .int)) : ∀ f : Nat,
    (∀ (S : aS) (v0 : Nat) (v1 : Int32) (res : Option Value × aS), zT0 kd N0 S → v0 < N0 → kd v0 = .inl 11 → F_X13_hands f 0 [.ref v0, .int v1] S = some res → zV G X (zQX G X (zPo G kd N0 res) 0 0) 2 [some (.ref (zB G + v0)), some (.int v1)] [] (cn G kd N0 S) 0 0 0) := by
  intro f
  induction f with
  | zero => exact (fun _ _ _ _ _ _ _ h => by cases h)
  | succ f ih =>
    have ih0 := ih
    intro S v0 v1 res hT hpv0 hkv0 hF
    replace hF : F_X13_hands_0 f (F_X13_hands f) v0 v1 S = some res := hF
    unfold F_X13_hands_0 at hF
    refine z_aload_n C dX13_hands_0 rfl ?_
    refine z_iconst (v := 0) C dX13_hands_1 (by decide) ?_
    refine f_puti C dX13_hands_2 zfRX13_1 fw11_0 hpv0 hkv0 rfl rfl rfl ?_
    have hT1 : zT0 kd N0 (sI S v0 0 0) := zT0_sI hT
    replace hF := fS_e hF
    generalize sI S v0 0 0 = S1 at hF hT1 ⊢
    refine z_aload_n C dX13_hands_5 rfl ?_
    refine z_iload_n C dX13_hands_6 rfl ?_
    obtain ⟨x2, S2, h2, hF⟩ := bI_some hF
    refine f_cV (st2 := [.int x2]) C dX13_hands_7 zyX13_isPerson zvX13_isPerson lkRX13_343 (K_X13_isPerson (l := zXl X) hT1 hpv0 hkv0  h2) hpv0 hkv0 rfl (by decide) rfl rfl (Nat.le_of_ble_eq_true rfl) rfl (fun hT2 => ?_)
    refine z_if_ne C 15 dX13_hands_10 (by decide) (fun c3 => ?_) (fun c3 => ?_)
    · replace hF := im hF c3
      refine z_aload_n C dX13_hands_15 rfl ?_
      refine z_iconst (v := 0) C dX13_hands_16 (by decide) ?_
      refine z_sipush (v := 756) C dX13_hands_17 (by decide) ?_
      refine z_bipush (v := 28) C dX13_hands_20 (by decide) ?_
      obtain ⟨S4, h4, hF⟩ := bV_some hF
      refine f_cV (st2 := []) C dX13_hands_22 zyX13_copies zvX13_copies lkRX13_288 (K_X13_copies (l := zXl X) hT2 hpv0 hkv0    h4) hpv0 hkv0 rfl (by decide) rfl rfl (Nat.le_of_ble_eq_true rfl) rfl (fun hT4 => ?_)
      refine z_aload_n C dX13_hands_25 rfl ?_
      refine z_sipush (v := 756) C dX13_hands_26 (by decide) ?_
      refine z_iload_n C dX13_hands_29 rfl ?_
      obtain ⟨x5, S5, h5, hF⟩ := bI_some hF
      refine f_cV (st2 := [.int x5]) C dX13_hands_30 zyX13_walks zvX13_walks lkRX13_330 (K_X13_walks (l := zXl X) hT4 hpv0 hkv0   h5) hpv0 hkv0 rfl (by decide) rfl rfl (Nat.le_of_ble_eq_true rfl) rfl (fun hT5 => ?_)
      refine z_pop C dX13_hands_33 rfl ?_
      refine z_aload_n C dX13_hands_34 rfl ?_
      refine f_geti C dX13_hands_35 zfRX13_320 hpv0 hkv0 rfl ?_
      cases hF
      exact z_iret C hr dX13_hands_38 ⟨rfl, rfl, hT5⟩
    · replace hF := ip hF c3
      refine z_iconst (v := (-1)) C dX13_hands_13 (by decide) ?_
      cases hF
      exact z_iret C hr dX13_hands_14 ⟨rfl, rfl, hT2⟩
theorem K_X13_hands {G : zG} {l : Launch} {kd : kD} {N0 f : Nat} {S : aS} {v0 : Nat} {v1 : Int32} {res : Option Value × aS} (hT : zT0 kd N0 S) (hpv0 : v0 < N0) (hkv0 : kd v0 = .inl 11) (hF : F_X13_hands f 0 [.ref v0, .int v1] S = some res) : zM G l 4 0 0 yX13_hands cX13_hands 2 (some .int) [.ref (zB G + v0), .int v1] (cn G kd N0 S) (zPo G kd N0 res) := zM.of (by decide) rfl (Nat.le_of_ble_eq_true rfl) (fun X _ C hr _ => (B_X13_hands C hr f) S v0 v1 res hT hpv0 hkv0 hF)
def F_X13_grows_0 (f : Nat) (rc : Nat → List Value → aS → aR) (v0 : Nat) (v1 : Int32) (v2 : Int32) (S : aS) : aR :=
  fS (sI S v0 0 0) fun S1 => bI (F_X13_isYard f 0 [.ref v0, .int v1] S1) fun x2 S2 => if x2 = (0 : Int32) then rc 1 [] S2 else bI (F_X13_within f 0 [.int v2, .int 0, .int 99] S2) fun x4 S4 => if x4 = (0 : Int32) then rc 1 [] S4 else bV (F_X13_copies f 0 [.ref v0, .int 0, .int 756, .int 28] S4) fun S6 => bX ((760 : Int32) + v1) 828 fun q8 => fS (sI S6 (gR S6 v0 22) q8 v2) fun S9 => bV (F_X13_allWalk f 0 [.ref v0, .int 756, .int 0] S9) fun S10 => bX ((760 : Int32) + v1) 828 fun q12 => some (some (.int ((gI S10 (gR S10 v0 22) q12) - v2)), S10)
def F_X13_grows_1 (f : Nat) (rc : Nat → List Value → aS → aR)  (S : aS) : aR :=
  some (some (.int ((-1000))), S)
def F_X13_grows : Nat → Nat → List Value → aS → aR
  | 0, _, _, _ => none
  | f + 1, 0, vs, S => F_X13_grows_0 f (F_X13_grows f) (vR vs 0) (vI vs 1) (vI vs 2) S
  | f + 1, 1, vs, S => F_X13_grows_1 f (F_X13_grows f)  S
  | _ + 1, _, _, _ => none
theorem dX13_grows_0 : decode cX13_grows 0 = .ok (.aload_n 0, 1) := by decide +kernel
theorem dX13_grows_1 : decode cX13_grows 1 = .ok (.iconst 0, 1) := by decide +kernel
theorem dX13_grows_2 : decode cX13_grows 2 = .ok (.putfield 1, 3) := by decide +kernel
theorem dX13_grows_5 : decode cX13_grows 5 = .ok (.aload_n 0, 1) := by decide +kernel
theorem dX13_grows_6 : decode cX13_grows 6 = .ok (.iload_n 1, 1) := by decide +kernel
theorem dX13_grows_7 : decode cX13_grows 7 = .ok (.invokevirtual 336, 3) := by decide +kernel
theorem dX13_grows_10 : decode cX13_grows 10 = .ok (.ifCond .eq 13, 3) := by decide +kernel
theorem dX13_grows_13 : decode cX13_grows 13 = .ok (.iload_n 2, 1) := by decide +kernel
theorem dX13_grows_14 : decode cX13_grows 14 = .ok (.iconst 0, 1) := by decide +kernel
theorem dX13_grows_15 : decode cX13_grows 15 = .ok (.bipush 99, 2) := by decide +kernel
theorem dX13_grows_17 : decode cX13_grows 17 = .ok (.invokestatic 339, 3) := by decide +kernel
theorem dX13_grows_20 : decode cX13_grows 20 = .ok (.ifCond .ne 7, 3) := by decide +kernel
theorem dX13_grows_23 : decode cX13_grows 23 = .ok (.sipush (-1000), 3) := by decide +kernel
theorem dX13_grows_26 : decode cX13_grows 26 = .ok (.ireturn, 1) := by decide +kernel
theorem dX13_grows_27 : decode cX13_grows 27 = .ok (.aload_n 0, 1) := by decide +kernel
theorem dX13_grows_28 : decode cX13_grows 28 = .ok (.iconst 0, 1) := by decide +kernel
theorem dX13_grows_29 : decode cX13_grows 29 = .ok (.sipush 756, 3) := by decide +kernel
theorem dX13_grows_32 : decode cX13_grows 32 = .ok (.bipush 28, 2) := by decide +kernel
theorem dX13_grows_34 : decode cX13_grows 34 = .ok (.invokevirtual 288, 3) := by decide +kernel
theorem dX13_grows_37 : decode cX13_grows 37 = .ok (.aload_n 0, 1) := by decide +kernel
theorem dX13_grows_38 : decode cX13_grows 38 = .ok (.getfield 119, 3) := by decide +kernel
theorem dX13_grows_41 : decode cX13_grows 41 = .ok (.sipush 760, 3) := by decide +kernel
theorem dX13_grows_44 : decode cX13_grows 44 = .ok (.iload_n 1, 1) := by decide +kernel
theorem dX13_grows_45 : decode cX13_grows 45 = .ok (.iadd, 1) := by decide +kernel
theorem dX13_grows_46 : decode cX13_grows 46 = .ok (.iload_n 2, 1) := by decide +kernel
theorem dX13_grows_47 : decode cX13_grows 47 = .ok (.iastore, 1) := by decide +kernel
theorem dX13_grows_48 : decode cX13_grows 48 = .ok (.aload_n 0, 1) := by decide +kernel
theorem dX13_grows_49 : decode cX13_grows 49 = .ok (.sipush 756, 3) := by decide +kernel
theorem dX13_grows_52 : decode cX13_grows 52 = .ok (.iconst 0, 1) := by decide +kernel
theorem dX13_grows_53 : decode cX13_grows 53 = .ok (.invokevirtual 364, 3) := by decide +kernel
theorem dX13_grows_56 : decode cX13_grows 56 = .ok (.aload_n 0, 1) := by decide +kernel
theorem dX13_grows_57 : decode cX13_grows 57 = .ok (.getfield 119, 3) := by decide +kernel
theorem dX13_grows_60 : decode cX13_grows 60 = .ok (.sipush 760, 3) := by decide +kernel
theorem dX13_grows_63 : decode cX13_grows 63 = .ok (.iload_n 1, 1) := by decide +kernel
theorem dX13_grows_64 : decode cX13_grows 64 = .ok (.iadd, 1) := by decide +kernel
theorem dX13_grows_65 : decode cX13_grows 65 = .ok (.iaload, 1) := by decide +kernel
theorem dX13_grows_66 : decode cX13_grows 66 = .ok (.iload_n 2, 1) := by decide +kernel
theorem dX13_grows_67 : decode cX13_grows 67 = .ok (.isub, 1) := by decide +kernel
theorem dX13_grows_68 : decode cX13_grows 68 = .ok (.ireturn, 1) := by decide +kernel
set_option maxHeartbeats 4000000 in
set_option maxRecDepth 100000 in
theorem B_X13_grows {G : zG} {X : zX} {kd : kD} {N0 : Nat} (C : zCt G X 5 0 0 RX13 cX13_grows 3) (hr : (zXh X).sig.returnType = (some .int)) : ∀ f : Nat,
    (∀ (S : aS) (v0 : Nat) (v1 : Int32) (v2 : Int32) (res : Option Value × aS), zT0 kd N0 S → v0 < N0 → kd v0 = .inl 11 → F_X13_grows f 0 [.ref v0, .int v1, .int v2] S = some res → zV G X (zQX G X (zPo G kd N0 res) 0 0) 3 [some (.ref (zB G + v0)), some (.int v1), some (.int v2)] [] (cn G kd N0 S) 0 0 0) ∧
    (∀ (S : aS)  (res : Option Value × aS), zT0 kd N0 S → F_X13_grows f 1 [] S = some res → zV G X (zQX G X (zPo G kd N0 res) 0 0) 3 [none, none, none] [] (cn G kd N0 S) 23 0 0) := by
  intro f
  induction f with
  | zero => exact ⟨(fun _ _ _ _ _ _ _ _ h => by cases h), (fun _ _ _ h => by cases h)⟩
  | succ f ih =>
    obtain ⟨ih0, ih1⟩ := ih
    refine ⟨?_, ?_⟩
    · intro S v0 v1 v2 res hT hpv0 hkv0 hF
      replace hF : F_X13_grows_0 f (F_X13_grows f) v0 v1 v2 S = some res := hF
      unfold F_X13_grows_0 at hF
      refine z_aload_n C dX13_grows_0 rfl ?_
      refine z_iconst (v := 0) C dX13_grows_1 (by decide) ?_
      refine f_puti C dX13_grows_2 zfRX13_1 fw11_0 hpv0 hkv0 rfl rfl rfl ?_
      have hT1 : zT0 kd N0 (sI S v0 0 0) := zT0_sI hT
      replace hF := fS_e hF
      generalize sI S v0 0 0 = S1 at hF hT1 ⊢
      refine z_aload_n C dX13_grows_5 rfl ?_
      refine z_iload_n C dX13_grows_6 rfl ?_
      obtain ⟨x2, S2, h2, hF⟩ := bI_some hF
      refine f_cV (st2 := [.int x2]) C dX13_grows_7 zyX13_isYard zvX13_isYard lkRX13_336 (K_X13_isYard (l := zXl X) hT1 hpv0 hkv0  h2) hpv0 hkv0 rfl (by decide) rfl rfl (Nat.le_of_ble_eq_true rfl) rfl (fun hT2 => ?_)
      refine z_if_eq C 23 dX13_grows_10 (by decide) (fun c3 => ?_) (fun c3 => ?_)
      · replace hF := ip hF c3
        refine z_mask [false, false, false] ?_ rfl
        exact ih1 S2  res hT2  hF
      · replace hF := im hF c3
        refine z_iload_n C dX13_grows_13 rfl ?_
        refine z_iconst (v := 0) C dX13_grows_14 (by decide) ?_
        refine z_bipush (v := 99) C dX13_grows_15 (by decide) ?_
        obtain ⟨x4, S4, h4, hF⟩ := bI_some hF
        refine f_cS (st2 := [.int x4]) C dX13_grows_17 zyX13_within zsX13_within lkRX13_339 (K_X13_within (l := zXl X) hT2    h4) (by decide) rfl rfl (Nat.le_of_ble_eq_true rfl) rfl (fun hT4 => ?_)
        refine z_if_ne C 27 dX13_grows_20 (by decide) (fun c5 => ?_) (fun c5 => ?_)
        · replace hF := im hF c5
          refine z_aload_n C dX13_grows_27 rfl ?_
          refine z_iconst (v := 0) C dX13_grows_28 (by decide) ?_
          refine z_sipush (v := 756) C dX13_grows_29 (by decide) ?_
          refine z_bipush (v := 28) C dX13_grows_32 (by decide) ?_
          obtain ⟨S6, h6, hF⟩ := bV_some hF
          refine f_cV (st2 := []) C dX13_grows_34 zyX13_copies zvX13_copies lkRX13_288 (K_X13_copies (l := zXl X) hT4 hpv0 hkv0    h6) hpv0 hkv0 rfl (by decide) rfl rfl (Nat.le_of_ble_eq_true rfl) rfl (fun hT6 => ?_)
          refine z_aload_n C dX13_grows_37 rfl ?_
          refine f_getr C dX13_grows_38 zfRX13_119 hpv0 hkv0 rfl ?_
          obtain ⟨hp7, hk7⟩ := hT6.1 v0 11 22 (.inr (0, 828)) hpv0 hkv0 rfl
          refine z_sipush (v := 760) C dX13_grows_41 (by decide) ?_
          refine z_iload_n C dX13_grows_44 rfl ?_
          refine z_iadd C dX13_grows_45 ?_
          refine z_iload_n C dX13_grows_46 rfl ?_
          obtain ⟨hi8, hF⟩ := bX_some hF
          obtain ⟨q8, eq8⟩ : ∃ q : Nat, q = Int32.toNatClampNeg ((760 : Int32) + v1) := ⟨_, rfl⟩
          rw [← eq8] at hF
          refine f_iast C dX13_grows_47 hp7 hk7 hi8 ?_
          rw [← eq8]
          have hT9 : zT0 kd N0 (sI S6 (gR S6 v0 22) q8 v2) := zT0_sI hT6
          replace hF := fS_e hF
          generalize sI S6 (gR S6 v0 22) q8 v2 = S9 at hF hT9 ⊢
          refine z_aload_n C dX13_grows_48 rfl ?_
          refine z_sipush (v := 756) C dX13_grows_49 (by decide) ?_
          refine z_iconst (v := 0) C dX13_grows_52 (by decide) ?_
          obtain ⟨S10, h10, hF⟩ := bV_some hF
          refine f_cV (st2 := []) C dX13_grows_53 zyX13_allWalk zvX13_allWalk lkRX13_364 (K_X13_allWalk (l := zXl X) hT9 hpv0 hkv0   h10) hpv0 hkv0 rfl (by decide) rfl rfl (Nat.le_of_ble_eq_true rfl) rfl (fun hT10 => ?_)
          refine z_aload_n C dX13_grows_56 rfl ?_
          refine f_getr C dX13_grows_57 zfRX13_119 hpv0 hkv0 rfl ?_
          obtain ⟨hp11, hk11⟩ := hT10.1 v0 11 22 (.inr (0, 828)) hpv0 hkv0 rfl
          refine z_sipush (v := 760) C dX13_grows_60 (by decide) ?_
          refine z_iload_n C dX13_grows_63 rfl ?_
          refine z_iadd C dX13_grows_64 ?_
          obtain ⟨hi12, hF⟩ := bX_some hF
          obtain ⟨q12, eq12⟩ : ∃ q : Nat, q = Int32.toNatClampNeg ((760 : Int32) + v1) := ⟨_, rfl⟩
          rw [← eq12] at hF
          refine f_iald C dX13_grows_65 hp11 hk11 hi12 ?_
          rw [← eq12]
          refine z_iload_n C dX13_grows_66 rfl ?_
          refine z_isub C dX13_grows_67 ?_
          cases hF
          exact z_iret C hr dX13_grows_68 ⟨rfl, rfl, hT10⟩
        · replace hF := ip hF c5
          refine z_mask [false, false, false] ?_ rfl
          exact ih1 S4  res hT4  hF
    · intro S  res hT  hF
      replace hF : F_X13_grows_1 f (F_X13_grows f)  S = some res := hF
      unfold F_X13_grows_1 at hF
      refine z_sipush (v := (-1000)) C dX13_grows_23 (by decide) ?_
      cases hF
      exact z_iret C hr dX13_grows_26 ⟨rfl, rfl, hT⟩
theorem K_X13_grows {G : zG} {l : Launch} {kd : kD} {N0 f : Nat} {S : aS} {v0 : Nat} {v1 : Int32} {v2 : Int32} {res : Option Value × aS} (hT : zT0 kd N0 S) (hpv0 : v0 < N0) (hkv0 : kd v0 = .inl 11) (hF : F_X13_grows f 0 [.ref v0, .int v1, .int v2] S = some res) : zM G l 5 0 0 yX13_grows cX13_grows 3 (some .int) [.ref (zB G + v0), .int v1, .int v2] (cn G kd N0 S) (zPo G kd N0 res) := zM.of (by decide) rfl (Nat.le_of_ble_eq_true rfl) (fun X _ C hr _ => (B_X13_grows C hr f).1 S v0 v1 v2 res hT hpv0 hkv0 hF)
def F_X13_place_0 (f : Nat) (rc : Nat → List Value → aS → aR) (v0 : Nat) (v1 : Int32) (v2 : Int32) (v3 : Int32) (S : aS) : aR :=
  fS (sI S v0 0 0) fun S1 => bI (F_X13_within f 0 [.int v1, .int 0, .int 4] S1) fun x2 S2 => if x2 = (0 : Int32) then rc 1 [] S2 else bI (F_X13_within f 0 [.int v2, .int 1, .int 30] S2) fun x4 S4 => if x4 = (0 : Int32) then rc 1 [] S4 else bI (F_X13_within f 0 [.int v3, .int 0, .int 1] S4) fun x6 S6 => if x6 = (0 : Int32) then rc 1 [] S6 else rc 2 [.ref v0, .int v1, .int v2, .int v3, .int ((-1)), .int 0, .int 0] S6
def F_X13_place_1 (f : Nat) (rc : Nat → List Value → aS → aR)  (S : aS) : aR :=
  some (some (.int ((-1))), S)
def F_X13_place_2 (f : Nat) (rc : Nat → List Value → aS → aR) (v0 : Nat) (v1 : Int32) (v2 : Int32) (v3 : Int32) (v4 : Int32) (v5 : Int32) (v6 : Int32) (S : aS) : aR :=
  bI (F_X13_yards f 0 [.ref v0] S) fun x8 S8 => if ((1 : Int32) <<< (x8 &&& 31)) ≤ v6 then some (some (.int (if v3 = (0 : Int32) then v5 else v4)), S8) else bI (F_X13_bits f 0 [.int v6] S8) fun x13 S13 => rc 3 [.ref v0, .int v1, .int v2, .int v3, .int v4, .int v5, .int v6, .int (if v1 < x13 then (0 : Int32) else (1 : Int32)), .int 0] S13
def F_X13_place_3 (f : Nat) (rc : Nat → List Value → aS → aR) (v0 : Nat) (v1 : Int32) (v2 : Int32) (v3 : Int32) (v4 : Int32) (v5 : Int32) (v6 : Int32) (v7 : Int32) (v8 : Int32) (S : aS) : aR :=
  bI (F_X13_yards f 0 [.ref v0] S) fun x16 S16 => if x16 ≤ v8 then if v7 = (0 : Int32) then rc 4 [.ref v0, .int v1, .int v2, .int v3, .int v4, .int v5, .int v6] S16 else bV (F_X13_copies f 0 [.ref v0, .int 0, .int 756, .int 28] S16) fun S22 => rc 5 [.ref v0, .int v1, .int v2, .int v3, .int v4, .int v5, .int v6, .int 0] S22 else if v7 = (0 : Int32) then rc 6 [.ref v0, .int v1, .int v2, .int v3, .int v4, .int v5, .int v6, .int v8] S16 else if ((v6 >>> (v8 &&& 31)) &&& (1 : Int32)) = (0 : Int32) then rc 7 [.ref v0, .int v1, .int v2, .int v3, .int v4, .int v5, .int v6, .int v8] S16 else bI (F_X13_isBin f 0 [.ref v0, .int 0, .int v8] S16) fun x28 S28 => lI (if x28 = (0 : Int32) then (1 : Int32) else (0 : Int32)) fun y31 => rc 3 [.ref v0, .int v1, .int v2, .int v3, .int v4, .int v5, .int v6, .int y31, .int (v8 + 1)] S28
def F_X13_place_4 (f : Nat) (rc : Nat → List Value → aS → aR) (v0 : Nat) (v1 : Int32) (v2 : Int32) (v3 : Int32) (v4 : Int32) (v5 : Int32) (v6 : Int32) (S : aS) : aR :=
  rc 2 [.ref v0, .int v1, .int v2, .int v3, .int v4, .int v5, .int (v6 + 1)] S
def F_X13_place_5 (f : Nat) (rc : Nat → List Value → aS → aR) (v0 : Nat) (v1 : Int32) (v2 : Int32) (v3 : Int32) (v4 : Int32) (v5 : Int32) (v6 : Int32) (v7 : Int32) (S : aS) : aR :=
  bI (F_X13_yards f 0 [.ref v0] S) fun x32 S32 => if x32 ≤ v7 then bV (F_X13_allWalk f 0 [.ref v0, .int 756, .int 0] S32) fun S38 => bI (F_X13_lyingIn f 0 [.ref v0, .int 756] S38) fun x39 S39 => if v4 < (0 : Int32) then rc 8 [.ref v0, .int v1, .int v2, .int v3, .int v4, .int v5, .int v6, .int x39] S39 else if x39 < v5 then rc 8 [.ref v0, .int v1, .int v2, .int v3, .int v4, .int v5, .int v6, .int x39] S39 else if x39 = v5 then bI (F_X13_bits f 0 [.int v6] S39) fun x49 S49 => bI (F_X13_bits f 0 [.int v4] S49) fun x50 S50 => lI (if (if x50 ≤ x49 then (0 : Int32) else (1 : Int32)) = (0 : Int32) then v4 else v6) fun y55 => lI (if (if x50 ≤ x49 then (0 : Int32) else (1 : Int32)) = (0 : Int32) then v5 else x39) fun y58 => rc 4 [.ref v0, .int v1, .int v2, .int v3, .int y55, .int y58, .int v6] S50 else rc 9 [.ref v0, .int v1, .int v2, .int v3, .int v4, .int v5, .int v6, .int x39] S39 else if ((v6 >>> (v7 &&& 31)) &&& (1 : Int32)) = (1 : Int32) then rc 10 [.ref v0, .int v1, .int v2, .int v3, .int v4, .int v5, .int v6, .int v7, .int v2, .int ((768 : Int32) + v7), .ref (gR S32 v0 22)] S32 else bX ((768 : Int32) + v7) 828 fun q64 => rc 10 [.ref v0, .int v1, .int v2, .int v3, .int v4, .int v5, .int v6, .int v7, .int (gI S32 (gR S32 v0 22) q64), .int ((768 : Int32) + v7), .ref (gR S32 v0 22)] S32
def F_X13_place_6 (f : Nat) (rc : Nat → List Value → aS → aR) (v0 : Nat) (v1 : Int32) (v2 : Int32) (v3 : Int32) (v4 : Int32) (v5 : Int32) (v6 : Int32) (v7 : Int32) (S : aS) : aR :=
  rc 11 [.ref v0, .int v1, .int v2, .int v3, .int v4, .int v5, .int v6, .int v7, .int 0] S
def F_X13_place_7 (f : Nat) (rc : Nat → List Value → aS → aR) (v0 : Nat) (v1 : Int32) (v2 : Int32) (v3 : Int32) (v4 : Int32) (v5 : Int32) (v6 : Int32) (v7 : Int32) (S : aS) : aR :=
  rc 11 [.ref v0, .int v1, .int v2, .int v3, .int v4, .int v5, .int v6, .int v7, .int 1] S
def F_X13_place_8 (f : Nat) (rc : Nat → List Value → aS → aR) (v0 : Nat) (v1 : Int32) (v2 : Int32) (v3 : Int32) (v4 : Int32) (v5 : Int32) (v6 : Int32) (v7 : Int32) (S : aS) : aR :=
  rc 12 [.ref v0, .int v1, .int v2, .int v3, .int v4, .int v5, .int v6, .int v7, .int 1] S
def F_X13_place_9 (f : Nat) (rc : Nat → List Value → aS → aR) (v0 : Nat) (v1 : Int32) (v2 : Int32) (v3 : Int32) (v4 : Int32) (v5 : Int32) (v6 : Int32) (v7 : Int32) (S : aS) : aR :=
  rc 12 [.ref v0, .int v1, .int v2, .int v3, .int v4, .int v5, .int v6, .int v7, .int 0] S
def F_X13_place_10 (f : Nat) (rc : Nat → List Value → aS → aR) (v0 : Nat) (v1 : Int32) (v2 : Int32) (v3 : Int32) (v4 : Int32) (v5 : Int32) (v6 : Int32) (v7 : Int32) (w0 : Int32) (w1 : Int32) (w2 : Nat) (S : aS) : aR :=
  bX w1 828 fun q65 => fS (sI S w2 q65 w0) fun S66 => rc 5 [.ref v0, .int v1, .int v2, .int v3, .int v4, .int v5, .int v6, .int (v7 + 1)] S66
def F_X13_place_11 (f : Nat) (rc : Nat → List Value → aS → aR) (v0 : Nat) (v1 : Int32) (v2 : Int32) (v3 : Int32) (v4 : Int32) (v5 : Int32) (v6 : Int32) (v7 : Int32) (w0 : Int32) (S : aS) : aR :=
  rc 3 [.ref v0, .int v1, .int v2, .int v3, .int v4, .int v5, .int v6, .int w0, .int (v7 + 1)] S
def F_X13_place_12 (f : Nat) (rc : Nat → List Value → aS → aR) (v0 : Nat) (v1 : Int32) (v2 : Int32) (v3 : Int32) (v4 : Int32) (v5 : Int32) (v6 : Int32) (v7 : Int32) (w0 : Int32) (S : aS) : aR :=
  rc 4 [.ref v0, .int v1, .int v2, .int v3, .int (if w0 = (0 : Int32) then v4 else v6), .int (if w0 = (0 : Int32) then v5 else v7), .int v6] S
def F_X13_place : Nat → Nat → List Value → aS → aR
  | 0, _, _, _ => none
  | f + 1, 0, vs, S => F_X13_place_0 f (F_X13_place f) (vR vs 0) (vI vs 1) (vI vs 2) (vI vs 3) S
  | f + 1, 1, vs, S => F_X13_place_1 f (F_X13_place f)  S
  | f + 1, 2, vs, S => F_X13_place_2 f (F_X13_place f) (vR vs 0) (vI vs 1) (vI vs 2) (vI vs 3) (vI vs 4) (vI vs 5) (vI vs 6) S
  | f + 1, 3, vs, S => F_X13_place_3 f (F_X13_place f) (vR vs 0) (vI vs 1) (vI vs 2) (vI vs 3) (vI vs 4) (vI vs 5) (vI vs 6) (vI vs 7) (vI vs 8) S
  | f + 1, 4, vs, S => F_X13_place_4 f (F_X13_place f) (vR vs 0) (vI vs 1) (vI vs 2) (vI vs 3) (vI vs 4) (vI vs 5) (vI vs 6) S
  | f + 1, 5, vs, S => F_X13_place_5 f (F_X13_place f) (vR vs 0) (vI vs 1) (vI vs 2) (vI vs 3) (vI vs 4) (vI vs 5) (vI vs 6) (vI vs 7) S
  | f + 1, 6, vs, S => F_X13_place_6 f (F_X13_place f) (vR vs 0) (vI vs 1) (vI vs 2) (vI vs 3) (vI vs 4) (vI vs 5) (vI vs 6) (vI vs 7) S
  | f + 1, 7, vs, S => F_X13_place_7 f (F_X13_place f) (vR vs 0) (vI vs 1) (vI vs 2) (vI vs 3) (vI vs 4) (vI vs 5) (vI vs 6) (vI vs 7) S
  | f + 1, 8, vs, S => F_X13_place_8 f (F_X13_place f) (vR vs 0) (vI vs 1) (vI vs 2) (vI vs 3) (vI vs 4) (vI vs 5) (vI vs 6) (vI vs 7) S
  | f + 1, 9, vs, S => F_X13_place_9 f (F_X13_place f) (vR vs 0) (vI vs 1) (vI vs 2) (vI vs 3) (vI vs 4) (vI vs 5) (vI vs 6) (vI vs 7) S
  | f + 1, 10, vs, S => F_X13_place_10 f (F_X13_place f) (vR vs 0) (vI vs 1) (vI vs 2) (vI vs 3) (vI vs 4) (vI vs 5) (vI vs 6) (vI vs 7) (vI vs 8) (vI vs 9) (vR vs 10) S
  | f + 1, 11, vs, S => F_X13_place_11 f (F_X13_place f) (vR vs 0) (vI vs 1) (vI vs 2) (vI vs 3) (vI vs 4) (vI vs 5) (vI vs 6) (vI vs 7) (vI vs 8) S
  | f + 1, 12, vs, S => F_X13_place_12 f (F_X13_place f) (vR vs 0) (vI vs 1) (vI vs 2) (vI vs 3) (vI vs 4) (vI vs 5) (vI vs 6) (vI vs 7) (vI vs 8) S
  | _ + 1, _, _, _ => none
theorem dX13_place_0 : decode cX13_place 0 = .ok (.aload_n 0, 1) := by decide +kernel
theorem dX13_place_1 : decode cX13_place 1 = .ok (.iconst 0, 1) := by decide +kernel
theorem dX13_place_2 : decode cX13_place 2 = .ok (.putfield 1, 3) := by decide +kernel
theorem dX13_place_5 : decode cX13_place 5 = .ok (.iload_n 1, 1) := by decide +kernel
theorem dX13_place_6 : decode cX13_place 6 = .ok (.iconst 0, 1) := by decide +kernel
theorem dX13_place_7 : decode cX13_place 7 = .ok (.iconst 4, 1) := by decide +kernel
theorem dX13_place_8 : decode cX13_place 8 = .ok (.invokestatic 339, 3) := by decide +kernel
theorem dX13_place_11 : decode cX13_place 11 = .ok (.ifCond .eq 22, 3) := by decide +kernel
theorem dX13_place_14 : decode cX13_place 14 = .ok (.iload_n 2, 1) := by decide +kernel
theorem dX13_place_15 : decode cX13_place 15 = .ok (.iconst 1, 1) := by decide +kernel
theorem dX13_place_16 : decode cX13_place 16 = .ok (.bipush 30, 2) := by decide +kernel
theorem dX13_place_18 : decode cX13_place 18 = .ok (.invokestatic 339, 3) := by decide +kernel
theorem dX13_place_21 : decode cX13_place 21 = .ok (.ifCond .eq 12, 3) := by decide +kernel
theorem dX13_place_24 : decode cX13_place 24 = .ok (.iload_n 3, 1) := by decide +kernel
theorem dX13_place_25 : decode cX13_place 25 = .ok (.iconst 0, 1) := by decide +kernel
theorem dX13_place_26 : decode cX13_place 26 = .ok (.iconst 1, 1) := by decide +kernel
theorem dX13_place_27 : decode cX13_place 27 = .ok (.invokestatic 339, 3) := by decide +kernel
theorem dX13_place_30 : decode cX13_place 30 = .ok (.ifCond .ne 5, 3) := by decide +kernel
theorem dX13_place_33 : decode cX13_place 33 = .ok (.iconst (-1), 1) := by decide +kernel
theorem dX13_place_34 : decode cX13_place 34 = .ok (.ireturn, 1) := by decide +kernel
theorem dX13_place_35 : decode cX13_place 35 = .ok (.iconst (-1), 1) := by decide +kernel
theorem dX13_place_36 : decode cX13_place 36 = .ok (.istore 4, 2) := by decide +kernel
theorem dX13_place_38 : decode cX13_place 38 = .ok (.iconst 0, 1) := by decide +kernel
theorem dX13_place_39 : decode cX13_place 39 = .ok (.istore 5, 2) := by decide +kernel
theorem dX13_place_41 : decode cX13_place 41 = .ok (.iconst 0, 1) := by decide +kernel
theorem dX13_place_42 : decode cX13_place 42 = .ok (.istore 6, 2) := by decide +kernel
theorem dX13_place_44 : decode cX13_place 44 = .ok (.iload 6, 2) := by decide +kernel
theorem dX13_place_46 : decode cX13_place 46 = .ok (.iconst 1, 1) := by decide +kernel
theorem dX13_place_47 : decode cX13_place 47 = .ok (.aload_n 0, 1) := by decide +kernel
theorem dX13_place_48 : decode cX13_place 48 = .ok (.invokevirtual 279, 3) := by decide +kernel
theorem dX13_place_51 : decode cX13_place 51 = .ok (.ishl, 1) := by decide +kernel
theorem dX13_place_52 : decode cX13_place 52 = .ok (.if_icmp .ge 229, 3) := by decide +kernel
theorem dX13_place_55 : decode cX13_place 55 = .ok (.iload 6, 2) := by decide +kernel
theorem dX13_place_57 : decode cX13_place 57 = .ok (.invokestatic 367, 3) := by decide +kernel
theorem dX13_place_60 : decode cX13_place 60 = .ok (.iload_n 1, 1) := by decide +kernel
theorem dX13_place_61 : decode cX13_place 61 = .ok (.if_icmp .gt 7, 3) := by decide +kernel
theorem dX13_place_64 : decode cX13_place 64 = .ok (.iconst 1, 1) := by decide +kernel
theorem dX13_place_65 : decode cX13_place 65 = .ok (.goto 4, 3) := by decide +kernel
theorem dX13_place_68 : decode cX13_place 68 = .ok (.iconst 0, 1) := by decide +kernel
theorem dX13_place_69 : decode cX13_place 69 = .ok (.istore 7, 2) := by decide +kernel
theorem dX13_place_71 : decode cX13_place 71 = .ok (.iconst 0, 1) := by decide +kernel
theorem dX13_place_72 : decode cX13_place 72 = .ok (.istore 8, 2) := by decide +kernel
theorem dX13_place_74 : decode cX13_place 74 = .ok (.iload 8, 2) := by decide +kernel
theorem dX13_place_76 : decode cX13_place 76 = .ok (.aload_n 0, 1) := by decide +kernel
theorem dX13_place_77 : decode cX13_place 77 = .ok (.invokevirtual 279, 3) := by decide +kernel
theorem dX13_place_80 : decode cX13_place 80 = .ok (.if_icmp .ge 41, 3) := by decide +kernel
theorem dX13_place_83 : decode cX13_place 83 = .ok (.iload 7, 2) := by decide +kernel
theorem dX13_place_85 : decode cX13_place 85 = .ok (.ifCond .eq 27, 3) := by decide +kernel
theorem dX13_place_88 : decode cX13_place 88 = .ok (.iload 6, 2) := by decide +kernel
theorem dX13_place_90 : decode cX13_place 90 = .ok (.iload 8, 2) := by decide +kernel
theorem dX13_place_92 : decode cX13_place 92 = .ok (.ishr, 1) := by decide +kernel
theorem dX13_place_93 : decode cX13_place 93 = .ok (.iconst 1, 1) := by decide +kernel
theorem dX13_place_94 : decode cX13_place 94 = .ok (.iand, 1) := by decide +kernel
theorem dX13_place_95 : decode cX13_place 95 = .ok (.ifCond .eq 13, 3) := by decide +kernel
theorem dX13_place_98 : decode cX13_place 98 = .ok (.aload_n 0, 1) := by decide +kernel
theorem dX13_place_99 : decode cX13_place 99 = .ok (.iconst 0, 1) := by decide +kernel
theorem dX13_place_100 : decode cX13_place 100 = .ok (.iload 8, 2) := by decide +kernel
theorem dX13_place_102 : decode cX13_place 102 = .ok (.invokevirtual 349, 3) := by decide +kernel
theorem dX13_place_105 : decode cX13_place 105 = .ok (.ifCond .ne 7, 3) := by decide +kernel
theorem dX13_place_108 : decode cX13_place 108 = .ok (.iconst 1, 1) := by decide +kernel
theorem dX13_place_109 : decode cX13_place 109 = .ok (.goto 4, 3) := by decide +kernel
theorem dX13_place_112 : decode cX13_place 112 = .ok (.iconst 0, 1) := by decide +kernel
theorem dX13_place_113 : decode cX13_place 113 = .ok (.istore 7, 2) := by decide +kernel
theorem dX13_place_115 : decode cX13_place 115 = .ok (.iinc 8 1, 3) := by decide +kernel
theorem dX13_place_118 : decode cX13_place 118 = .ok (.goto (-44), 3) := by decide +kernel
theorem dX13_place_121 : decode cX13_place 121 = .ok (.iload 7, 2) := by decide +kernel
theorem dX13_place_123 : decode cX13_place 123 = .ok (.ifCond .eq 152, 3) := by decide +kernel
theorem dX13_place_126 : decode cX13_place 126 = .ok (.aload_n 0, 1) := by decide +kernel
theorem dX13_place_127 : decode cX13_place 127 = .ok (.iconst 0, 1) := by decide +kernel
theorem dX13_place_128 : decode cX13_place 128 = .ok (.sipush 756, 3) := by decide +kernel
theorem dX13_place_131 : decode cX13_place 131 = .ok (.bipush 28, 2) := by decide +kernel
theorem dX13_place_133 : decode cX13_place 133 = .ok (.invokevirtual 288, 3) := by decide +kernel
theorem dX13_place_136 : decode cX13_place 136 = .ok (.iconst 0, 1) := by decide +kernel
theorem dX13_place_137 : decode cX13_place 137 = .ok (.istore 8, 2) := by decide +kernel
theorem dX13_place_139 : decode cX13_place 139 = .ok (.iload 8, 2) := by decide +kernel
theorem dX13_place_141 : decode cX13_place 141 = .ok (.aload_n 0, 1) := by decide +kernel
theorem dX13_place_142 : decode cX13_place 142 = .ok (.invokevirtual 279, 3) := by decide +kernel
theorem dX13_place_145 : decode cX13_place 145 = .ok (.if_icmp .ge 46, 3) := by decide +kernel
theorem dX13_place_148 : decode cX13_place 148 = .ok (.aload_n 0, 1) := by decide +kernel
theorem dX13_place_149 : decode cX13_place 149 = .ok (.getfield 119, 3) := by decide +kernel
theorem dX13_place_152 : decode cX13_place 152 = .ok (.sipush 768, 3) := by decide +kernel
theorem dX13_place_155 : decode cX13_place 155 = .ok (.iload 8, 2) := by decide +kernel
theorem dX13_place_157 : decode cX13_place 157 = .ok (.iadd, 1) := by decide +kernel
theorem dX13_place_158 : decode cX13_place 158 = .ok (.iload 6, 2) := by decide +kernel
theorem dX13_place_160 : decode cX13_place 160 = .ok (.iload 8, 2) := by decide +kernel
theorem dX13_place_162 : decode cX13_place 162 = .ok (.ishr, 1) := by decide +kernel
theorem dX13_place_163 : decode cX13_place 163 = .ok (.iconst 1, 1) := by decide +kernel
theorem dX13_place_164 : decode cX13_place 164 = .ok (.iand, 1) := by decide +kernel
theorem dX13_place_165 : decode cX13_place 165 = .ok (.iconst 1, 1) := by decide +kernel
theorem dX13_place_166 : decode cX13_place 166 = .ok (.if_icmp .ne 7, 3) := by decide +kernel
theorem dX13_place_169 : decode cX13_place 169 = .ok (.iload_n 2, 1) := by decide +kernel
theorem dX13_place_170 : decode cX13_place 170 = .ok (.goto 14, 3) := by decide +kernel
theorem dX13_place_173 : decode cX13_place 173 = .ok (.aload_n 0, 1) := by decide +kernel
theorem dX13_place_174 : decode cX13_place 174 = .ok (.getfield 119, 3) := by decide +kernel
theorem dX13_place_177 : decode cX13_place 177 = .ok (.sipush 768, 3) := by decide +kernel
theorem dX13_place_180 : decode cX13_place 180 = .ok (.iload 8, 2) := by decide +kernel
theorem dX13_place_182 : decode cX13_place 182 = .ok (.iadd, 1) := by decide +kernel
theorem dX13_place_183 : decode cX13_place 183 = .ok (.iaload, 1) := by decide +kernel
theorem dX13_place_184 : decode cX13_place 184 = .ok (.iastore, 1) := by decide +kernel
theorem dX13_place_185 : decode cX13_place 185 = .ok (.iinc 8 1, 3) := by decide +kernel
theorem dX13_place_188 : decode cX13_place 188 = .ok (.goto (-49), 3) := by decide +kernel
theorem dX13_place_191 : decode cX13_place 191 = .ok (.aload_n 0, 1) := by decide +kernel
theorem dX13_place_192 : decode cX13_place 192 = .ok (.sipush 756, 3) := by decide +kernel
theorem dX13_place_195 : decode cX13_place 195 = .ok (.iconst 0, 1) := by decide +kernel
theorem dX13_place_196 : decode cX13_place 196 = .ok (.invokevirtual 364, 3) := by decide +kernel
theorem dX13_place_199 : decode cX13_place 199 = .ok (.aload_n 0, 1) := by decide +kernel
theorem dX13_place_200 : decode cX13_place 200 = .ok (.sipush 756, 3) := by decide +kernel
theorem dX13_place_203 : decode cX13_place 203 = .ok (.invokevirtual 299, 3) := by decide +kernel
theorem dX13_place_206 : decode cX13_place 206 = .ok (.istore 8, 2) := by decide +kernel
theorem dX13_place_208 : decode cX13_place 208 = .ok (.iload 4, 2) := by decide +kernel
theorem dX13_place_210 : decode cX13_place 210 = .ok (.ifCond .lt 30, 3) := by decide +kernel
theorem dX13_place_213 : decode cX13_place 213 = .ok (.iload 8, 2) := by decide +kernel
theorem dX13_place_215 : decode cX13_place 215 = .ok (.iload 5, 2) := by decide +kernel
theorem dX13_place_217 : decode cX13_place 217 = .ok (.if_icmp .lt 23, 3) := by decide +kernel
theorem dX13_place_220 : decode cX13_place 220 = .ok (.iload 8, 2) := by decide +kernel
theorem dX13_place_222 : decode cX13_place 222 = .ok (.iload 5, 2) := by decide +kernel
theorem dX13_place_224 : decode cX13_place 224 = .ok (.if_icmp .ne 20, 3) := by decide +kernel
theorem dX13_place_227 : decode cX13_place 227 = .ok (.iload 6, 2) := by decide +kernel
theorem dX13_place_229 : decode cX13_place 229 = .ok (.invokestatic 367, 3) := by decide +kernel
theorem dX13_place_232 : decode cX13_place 232 = .ok (.iload 4, 2) := by decide +kernel
theorem dX13_place_234 : decode cX13_place 234 = .ok (.invokestatic 367, 3) := by decide +kernel
theorem dX13_place_237 : decode cX13_place 237 = .ok (.if_icmp .ge 7, 3) := by decide +kernel
theorem dX13_place_240 : decode cX13_place 240 = .ok (.iconst 1, 1) := by decide +kernel
theorem dX13_place_241 : decode cX13_place 241 = .ok (.goto 4, 3) := by decide +kernel
theorem dX13_place_244 : decode cX13_place 244 = .ok (.iconst 0, 1) := by decide +kernel
theorem dX13_place_245 : decode cX13_place 245 = .ok (.istore 9, 2) := by decide +kernel
theorem dX13_place_247 : decode cX13_place 247 = .ok (.iload 9, 2) := by decide +kernel
theorem dX13_place_249 : decode cX13_place 249 = .ok (.ifCond .eq 8, 3) := by decide +kernel
theorem dX13_place_252 : decode cX13_place 252 = .ok (.iload 6, 2) := by decide +kernel
theorem dX13_place_254 : decode cX13_place 254 = .ok (.goto 5, 3) := by decide +kernel
theorem dX13_place_257 : decode cX13_place 257 = .ok (.iload 4, 2) := by decide +kernel
theorem dX13_place_259 : decode cX13_place 259 = .ok (.istore 4, 2) := by decide +kernel
theorem dX13_place_261 : decode cX13_place 261 = .ok (.iload 9, 2) := by decide +kernel
theorem dX13_place_263 : decode cX13_place 263 = .ok (.ifCond .eq 8, 3) := by decide +kernel
theorem dX13_place_266 : decode cX13_place 266 = .ok (.iload 8, 2) := by decide +kernel
theorem dX13_place_268 : decode cX13_place 268 = .ok (.goto 5, 3) := by decide +kernel
theorem dX13_place_271 : decode cX13_place 271 = .ok (.iload 5, 2) := by decide +kernel
theorem dX13_place_273 : decode cX13_place 273 = .ok (.istore 5, 2) := by decide +kernel
theorem dX13_place_275 : decode cX13_place 275 = .ok (.iinc 6 1, 3) := by decide +kernel
theorem dX13_place_278 : decode cX13_place 278 = .ok (.goto (-234), 3) := by decide +kernel
theorem dX13_place_281 : decode cX13_place 281 = .ok (.iload_n 3, 1) := by decide +kernel
theorem dX13_place_282 : decode cX13_place 282 = .ok (.ifCond .ne 8, 3) := by decide +kernel
theorem dX13_place_285 : decode cX13_place 285 = .ok (.iload 5, 2) := by decide +kernel
theorem dX13_place_287 : decode cX13_place 287 = .ok (.goto 5, 3) := by decide +kernel
theorem dX13_place_290 : decode cX13_place 290 = .ok (.iload 4, 2) := by decide +kernel
theorem dX13_place_292 : decode cX13_place 292 = .ok (.ireturn, 1) := by decide +kernel
set_option maxHeartbeats 4000000 in
set_option maxRecDepth 100000 in
theorem B_X13_place {G : zG} {X : zX} {kd : kD} {N0 : Nat} (C : zCt G X 5 0 0 RX13 cX13_place 10) (hr : (zXh X).sig.returnType = (some .int)) : ∀ f : Nat,
    (∀ (S : aS) (v0 : Nat) (v1 : Int32) (v2 : Int32) (v3 : Int32) (res : Option Value × aS), zT0 kd N0 S → v0 < N0 → kd v0 = .inl 11 → F_X13_place f 0 [.ref v0, .int v1, .int v2, .int v3] S = some res → zV G X (zQX G X (zPo G kd N0 res) 0 0) 10 [some (.ref (zB G + v0)), some (.int v1), some (.int v2), some (.int v3), none, none, none, none, none, none] [] (cn G kd N0 S) 0 0 0) ∧
    (∀ (S : aS)  (res : Option Value × aS), zT0 kd N0 S → F_X13_place f 1 [] S = some res → zV G X (zQX G X (zPo G kd N0 res) 0 0) 10 [none, none, none, none, none, none, none, none, none, none] [] (cn G kd N0 S) 33 0 0) ∧
    (∀ (S : aS) (v0 : Nat) (v1 : Int32) (v2 : Int32) (v3 : Int32) (v4 : Int32) (v5 : Int32) (v6 : Int32) (res : Option Value × aS), zT0 kd N0 S → v0 < N0 → kd v0 = .inl 11 → F_X13_place f 2 [.ref v0, .int v1, .int v2, .int v3, .int v4, .int v5, .int v6] S = some res → zV G X (zQX G X (zPo G kd N0 res) 0 0) 10 [some (.ref (zB G + v0)), some (.int v1), some (.int v2), some (.int v3), some (.int v4), some (.int v5), some (.int v6), none, none, none] [] (cn G kd N0 S) 44 0 0) ∧
    (∀ (S : aS) (v0 : Nat) (v1 : Int32) (v2 : Int32) (v3 : Int32) (v4 : Int32) (v5 : Int32) (v6 : Int32) (v7 : Int32) (v8 : Int32) (res : Option Value × aS), zT0 kd N0 S → v0 < N0 → kd v0 = .inl 11 → F_X13_place f 3 [.ref v0, .int v1, .int v2, .int v3, .int v4, .int v5, .int v6, .int v7, .int v8] S = some res → zV G X (zQX G X (zPo G kd N0 res) 0 0) 10 [some (.ref (zB G + v0)), some (.int v1), some (.int v2), some (.int v3), some (.int v4), some (.int v5), some (.int v6), some (.int v7), some (.int v8), none] [] (cn G kd N0 S) 74 0 0) ∧
    (∀ (S : aS) (v0 : Nat) (v1 : Int32) (v2 : Int32) (v3 : Int32) (v4 : Int32) (v5 : Int32) (v6 : Int32) (res : Option Value × aS), zT0 kd N0 S → v0 < N0 → kd v0 = .inl 11 → F_X13_place f 4 [.ref v0, .int v1, .int v2, .int v3, .int v4, .int v5, .int v6] S = some res → zV G X (zQX G X (zPo G kd N0 res) 0 0) 10 [some (.ref (zB G + v0)), some (.int v1), some (.int v2), some (.int v3), some (.int v4), some (.int v5), some (.int v6), none, none, none] [] (cn G kd N0 S) 275 0 0) ∧
    (∀ (S : aS) (v0 : Nat) (v1 : Int32) (v2 : Int32) (v3 : Int32) (v4 : Int32) (v5 : Int32) (v6 : Int32) (v7 : Int32) (res : Option Value × aS), zT0 kd N0 S → v0 < N0 → kd v0 = .inl 11 → F_X13_place f 5 [.ref v0, .int v1, .int v2, .int v3, .int v4, .int v5, .int v6, .int v7] S = some res → zV G X (zQX G X (zPo G kd N0 res) 0 0) 10 [some (.ref (zB G + v0)), some (.int v1), some (.int v2), some (.int v3), some (.int v4), some (.int v5), some (.int v6), none, some (.int v7), none] [] (cn G kd N0 S) 139 0 0) ∧
    (∀ (S : aS) (v0 : Nat) (v1 : Int32) (v2 : Int32) (v3 : Int32) (v4 : Int32) (v5 : Int32) (v6 : Int32) (v7 : Int32) (res : Option Value × aS), zT0 kd N0 S → v0 < N0 → kd v0 = .inl 11 → F_X13_place f 6 [.ref v0, .int v1, .int v2, .int v3, .int v4, .int v5, .int v6, .int v7] S = some res → zV G X (zQX G X (zPo G kd N0 res) 0 0) 10 [some (.ref (zB G + v0)), some (.int v1), some (.int v2), some (.int v3), some (.int v4), some (.int v5), some (.int v6), none, some (.int v7), none] [] (cn G kd N0 S) 112 0 0) ∧
    (∀ (S : aS) (v0 : Nat) (v1 : Int32) (v2 : Int32) (v3 : Int32) (v4 : Int32) (v5 : Int32) (v6 : Int32) (v7 : Int32) (res : Option Value × aS), zT0 kd N0 S → v0 < N0 → kd v0 = .inl 11 → F_X13_place f 7 [.ref v0, .int v1, .int v2, .int v3, .int v4, .int v5, .int v6, .int v7] S = some res → zV G X (zQX G X (zPo G kd N0 res) 0 0) 10 [some (.ref (zB G + v0)), some (.int v1), some (.int v2), some (.int v3), some (.int v4), some (.int v5), some (.int v6), none, some (.int v7), none] [] (cn G kd N0 S) 108 0 0) ∧
    (∀ (S : aS) (v0 : Nat) (v1 : Int32) (v2 : Int32) (v3 : Int32) (v4 : Int32) (v5 : Int32) (v6 : Int32) (v7 : Int32) (res : Option Value × aS), zT0 kd N0 S → v0 < N0 → kd v0 = .inl 11 → F_X13_place f 8 [.ref v0, .int v1, .int v2, .int v3, .int v4, .int v5, .int v6, .int v7] S = some res → zV G X (zQX G X (zPo G kd N0 res) 0 0) 10 [some (.ref (zB G + v0)), some (.int v1), some (.int v2), some (.int v3), some (.int v4), some (.int v5), some (.int v6), none, some (.int v7), none] [] (cn G kd N0 S) 240 0 0) ∧
    (∀ (S : aS) (v0 : Nat) (v1 : Int32) (v2 : Int32) (v3 : Int32) (v4 : Int32) (v5 : Int32) (v6 : Int32) (v7 : Int32) (res : Option Value × aS), zT0 kd N0 S → v0 < N0 → kd v0 = .inl 11 → F_X13_place f 9 [.ref v0, .int v1, .int v2, .int v3, .int v4, .int v5, .int v6, .int v7] S = some res → zV G X (zQX G X (zPo G kd N0 res) 0 0) 10 [some (.ref (zB G + v0)), some (.int v1), some (.int v2), some (.int v3), some (.int v4), some (.int v5), some (.int v6), none, some (.int v7), none] [] (cn G kd N0 S) 244 0 0) ∧
    (∀ (S : aS) (v0 : Nat) (v1 : Int32) (v2 : Int32) (v3 : Int32) (v4 : Int32) (v5 : Int32) (v6 : Int32) (v7 : Int32) (w0 : Int32) (w1 : Int32) (w2 : Nat) (res : Option Value × aS), zT0 kd N0 S → v0 < N0 → kd v0 = .inl 11 → w2 < N0 → kd w2 = .inr (0, 828) → F_X13_place f 10 [.ref v0, .int v1, .int v2, .int v3, .int v4, .int v5, .int v6, .int v7, .int w0, .int w1, .ref w2] S = some res → zV G X (zQX G X (zPo G kd N0 res) 0 0) 10 [some (.ref (zB G + v0)), some (.int v1), some (.int v2), some (.int v3), some (.int v4), some (.int v5), some (.int v6), none, some (.int v7), none] [.int w0, .int w1, .ref (zB G + w2)] (cn G kd N0 S) 184 0 0) ∧
    (∀ (S : aS) (v0 : Nat) (v1 : Int32) (v2 : Int32) (v3 : Int32) (v4 : Int32) (v5 : Int32) (v6 : Int32) (v7 : Int32) (w0 : Int32) (res : Option Value × aS), zT0 kd N0 S → v0 < N0 → kd v0 = .inl 11 → F_X13_place f 11 [.ref v0, .int v1, .int v2, .int v3, .int v4, .int v5, .int v6, .int v7, .int w0] S = some res → zV G X (zQX G X (zPo G kd N0 res) 0 0) 10 [some (.ref (zB G + v0)), some (.int v1), some (.int v2), some (.int v3), some (.int v4), some (.int v5), some (.int v6), none, some (.int v7), none] [.int w0] (cn G kd N0 S) 113 0 0) ∧
    (∀ (S : aS) (v0 : Nat) (v1 : Int32) (v2 : Int32) (v3 : Int32) (v4 : Int32) (v5 : Int32) (v6 : Int32) (v7 : Int32) (w0 : Int32) (res : Option Value × aS), zT0 kd N0 S → v0 < N0 → kd v0 = .inl 11 → F_X13_place f 12 [.ref v0, .int v1, .int v2, .int v3, .int v4, .int v5, .int v6, .int v7, .int w0] S = some res → zV G X (zQX G X (zPo G kd N0 res) 0 0) 10 [some (.ref (zB G + v0)), some (.int v1), some (.int v2), some (.int v3), some (.int v4), some (.int v5), some (.int v6), none, some (.int v7), none] [.int w0] (cn G kd N0 S) 245 0 0) := by
  intro f
  induction f with
  | zero => exact ⟨(fun _ _ _ _ _ _ _ _ _ h => by cases h), (fun _ _ _ h => by cases h), (fun _ _ _ _ _ _ _ _ _ _ _ _ h => by cases h), (fun _ _ _ _ _ _ _ _ _ _ _ _ _ _ h => by cases h), (fun _ _ _ _ _ _ _ _ _ _ _ _ h => by cases h), (fun _ _ _ _ _ _ _ _ _ _ _ _ _ h => by cases h), (fun _ _ _ _ _ _ _ _ _ _ _ _ _ h => by cases h), (fun _ _ _ _ _ _ _ _ _ _ _ _ _ h => by cases h), (fun _ _ _ _ _ _ _ _ _ _ _ _ _ h => by cases h), (fun _ _ _ _ _ _ _ _ _ _ _ _ _ h => by cases h), (fun _ _ _ _ _ _ _ _ _ _ _ _ _ _ _ _ _ _ h => by cases h), (fun _ _ _ _ _ _ _ _ _ _ _ _ _ _ h => by cases h), (fun _ _ _ _ _ _ _ _ _ _ _ _ _ _ h => by cases h)⟩
  | succ f ih =>
    obtain ⟨ih0, ih1, ih2, ih3, ih4, ih5, ih6, ih7, ih8, ih9, ih10, ih11, ih12⟩ := ih
    refine ⟨?_, ?_, ?_, ?_, ?_, ?_, ?_, ?_, ?_, ?_, ?_, ?_, ?_⟩
    · intro S v0 v1 v2 v3 res hT hpv0 hkv0 hF
      replace hF : F_X13_place_0 f (F_X13_place f) v0 v1 v2 v3 S = some res := hF
      unfold F_X13_place_0 at hF
      refine z_aload_n C dX13_place_0 rfl ?_
      refine z_iconst (v := 0) C dX13_place_1 (by decide) ?_
      refine f_puti C dX13_place_2 zfRX13_1 fw11_0 hpv0 hkv0 rfl rfl rfl ?_
      have hT1 : zT0 kd N0 (sI S v0 0 0) := zT0_sI hT
      replace hF := fS_e hF
      generalize sI S v0 0 0 = S1 at hF hT1 ⊢
      refine z_iload_n C dX13_place_5 rfl ?_
      refine z_iconst (v := 0) C dX13_place_6 (by decide) ?_
      refine z_iconst (v := 4) C dX13_place_7 (by decide) ?_
      obtain ⟨x2, S2, h2, hF⟩ := bI_some hF
      refine f_cS (st2 := [.int x2]) C dX13_place_8 zyX13_within zsX13_within lkRX13_339 (K_X13_within (l := zXl X) hT1    h2) (by decide) rfl rfl (Nat.le_of_ble_eq_true rfl) rfl (fun hT2 => ?_)
      refine z_if_eq C 33 dX13_place_11 (by decide) (fun c3 => ?_) (fun c3 => ?_)
      · replace hF := ip hF c3
        refine z_mask [false, false, false, false, true, true, true, true, true, true] ?_ rfl
        exact ih1 S2  res hT2  hF
      · replace hF := im hF c3
        refine z_iload_n C dX13_place_14 rfl ?_
        refine z_iconst (v := 1) C dX13_place_15 (by decide) ?_
        refine z_bipush (v := 30) C dX13_place_16 (by decide) ?_
        obtain ⟨x4, S4, h4, hF⟩ := bI_some hF
        refine f_cS (st2 := [.int x4]) C dX13_place_18 zyX13_within zsX13_within lkRX13_339 (K_X13_within (l := zXl X) hT2    h4) (by decide) rfl rfl (Nat.le_of_ble_eq_true rfl) rfl (fun hT4 => ?_)
        refine z_if_eq C 33 dX13_place_21 (by decide) (fun c5 => ?_) (fun c5 => ?_)
        · replace hF := ip hF c5
          refine z_mask [false, false, false, false, true, true, true, true, true, true] ?_ rfl
          exact ih1 S4  res hT4  hF
        · replace hF := im hF c5
          refine z_iload_n C dX13_place_24 rfl ?_
          refine z_iconst (v := 0) C dX13_place_25 (by decide) ?_
          refine z_iconst (v := 1) C dX13_place_26 (by decide) ?_
          obtain ⟨x6, S6, h6, hF⟩ := bI_some hF
          refine f_cS (st2 := [.int x6]) C dX13_place_27 zyX13_within zsX13_within lkRX13_339 (K_X13_within (l := zXl X) hT4    h6) (by decide) rfl rfl (Nat.le_of_ble_eq_true rfl) rfl (fun hT6 => ?_)
          refine z_if_ne C 35 dX13_place_30 (by decide) (fun c7 => ?_) (fun c7 => ?_)
          · replace hF := im hF c7
            refine z_iconst (v := (-1)) C dX13_place_35 (by decide) ?_
            refine z_istore (lv2 := [some (.ref (zB G + v0)), some (.int v1), some (.int v2), some (.int v3), some (.int ((-1))), none, none, none, none, none]) C dX13_place_36 (by decide) rfl ?_
            refine z_iconst (v := 0) C dX13_place_38 (by decide) ?_
            refine z_istore (lv2 := [some (.ref (zB G + v0)), some (.int v1), some (.int v2), some (.int v3), some (.int ((-1))), some (.int 0), none, none, none, none]) C dX13_place_39 (by decide) rfl ?_
            refine z_iconst (v := 0) C dX13_place_41 (by decide) ?_
            refine z_istore (lv2 := [some (.ref (zB G + v0)), some (.int v1), some (.int v2), some (.int v3), some (.int ((-1))), some (.int 0), some (.int 0), none, none, none]) C dX13_place_42 (by decide) rfl ?_
            exact ih2 S6 v0 v1 v2 v3 ((-1)) 0 0 res hT6 hpv0 hkv0       hF
          · replace hF := ip hF c7
            refine z_mask [false, false, false, false, true, true, true, true, true, true] ?_ rfl
            exact ih1 S6  res hT6  hF
    · intro S  res hT  hF
      replace hF : F_X13_place_1 f (F_X13_place f)  S = some res := hF
      unfold F_X13_place_1 at hF
      refine z_iconst (v := (-1)) C dX13_place_33 (by decide) ?_
      cases hF
      exact z_iret C hr dX13_place_34 ⟨rfl, rfl, hT⟩
    · intro S v0 v1 v2 v3 v4 v5 v6 res hT hpv0 hkv0 hF
      replace hF : F_X13_place_2 f (F_X13_place f) v0 v1 v2 v3 v4 v5 v6 S = some res := hF
      unfold F_X13_place_2 at hF
      refine z_iload C dX13_place_44 rfl ?_
      refine z_iconst (v := 1) C dX13_place_46 (by decide) ?_
      refine z_aload_n C dX13_place_47 rfl ?_
      obtain ⟨x8, S8, h8, hF⟩ := bI_some hF
      refine f_cV (st2 := [.int x8, .int 1, .int v6]) C dX13_place_48 zyX13_yards zvX13_yards lkRX13_279 (K_X13_yards (l := zXl X) hT hpv0 hkv0 h8) hpv0 hkv0 rfl (by decide) rfl rfl (Nat.le_of_ble_eq_true rfl) rfl (fun hT8 => ?_)
      refine z_ishl C dX13_place_51 ?_
      refine z_icmp_ge C 281 dX13_place_52 (by decide) (fun c10 => ?_) (fun c10 => ?_)
      · replace hF := ip hF c10
        refine z_iload_n C dX13_place_281 rfl ?_
        have hJ12 : zV G X (zQX G X (zPo G kd N0 res) 0 0) 10 [some (.ref (zB G + v0)), some (.int v1), some (.int v2), some (.int v3), some (.int v4), some (.int v5), some (.int v6), none, none, none] [.int (if v3 = (0 : Int32) then v5 else v4)] (cn G kd N0 S8) 292 0 0 := by
          cases hF
          exact z_iret C hr dX13_place_292 ⟨rfl, rfl, hT8⟩
        refine z_if_ne C 290 dX13_place_282 (by decide) (fun c11 => ?_) (fun c11 => ?_)
        · refine z_iload C dX13_place_290 rfl ?_
          exact zV.at hJ12 (by first | rfl | contradiction | (simp only [if_neg c11]; done)) (by first | rfl | contradiction | (simp only [if_neg c11]; done)) rfl rfl
        · refine z_iload C dX13_place_285 rfl ?_
          refine z_goto C 292 dX13_place_287 (by decide) ?_
          exact zV.at hJ12 (by first | rfl | contradiction | (simp only [if_pos c11]; done)) (by first | rfl | contradiction | (simp only [if_pos c11]; done)) rfl rfl
      · replace hF := im hF c10
        refine z_iload C dX13_place_55 rfl ?_
        obtain ⟨x13, S13, h13, hF⟩ := bI_some hF
        refine f_cS (st2 := [.int x13]) C dX13_place_57 zyX13_bits zsX13_bits lkRX13_367 (K_X13_bits (l := zXl X) hT8  h13) (by decide) rfl rfl (Nat.le_of_ble_eq_true rfl) rfl (fun hT13 => ?_)
        refine z_iload_n C dX13_place_60 rfl ?_
        have hJ15 : zV G X (zQX G X (zPo G kd N0 res) 0 0) 10 [some (.ref (zB G + v0)), some (.int v1), some (.int v2), some (.int v3), some (.int v4), some (.int v5), some (.int v6), none, none, none] [.int (if v1 < x13 then (0 : Int32) else (1 : Int32))] (cn G kd N0 S13) 69 0 0 := by
          refine z_istore (lv2 := [some (.ref (zB G + v0)), some (.int v1), some (.int v2), some (.int v3), some (.int v4), some (.int v5), some (.int v6), some (.int (if v1 < x13 then (0 : Int32) else (1 : Int32))), none, none]) C dX13_place_69 (by decide) rfl ?_
          refine z_iconst (v := 0) C dX13_place_71 (by decide) ?_
          refine z_istore (lv2 := [some (.ref (zB G + v0)), some (.int v1), some (.int v2), some (.int v3), some (.int v4), some (.int v5), some (.int v6), some (.int (if v1 < x13 then (0 : Int32) else (1 : Int32))), some (.int 0), none]) C dX13_place_72 (by decide) rfl ?_
          exact ih3 S13 v0 v1 v2 v3 v4 v5 v6 (if v1 < x13 then (0 : Int32) else (1 : Int32)) 0 res hT13 hpv0 hkv0         hF
        refine z_icmp_gt C 68 dX13_place_61 (by decide) (fun c14 => ?_) (fun c14 => ?_)
        · refine z_iconst (v := 0) C dX13_place_68 (by decide) ?_
          exact zV.at hJ15 (by first | rfl | contradiction | (simp only [if_pos c14]; done)) (by first | rfl | contradiction | (simp only [if_pos c14]; done)) rfl rfl
        · refine z_iconst (v := 1) C dX13_place_64 (by decide) ?_
          refine z_goto C 69 dX13_place_65 (by decide) ?_
          exact zV.at hJ15 (by first | rfl | contradiction | (simp only [if_neg c14]; done)) (by first | rfl | contradiction | (simp only [if_neg c14]; done)) rfl rfl
    · intro S v0 v1 v2 v3 v4 v5 v6 v7 v8 res hT hpv0 hkv0 hF
      replace hF : F_X13_place_3 f (F_X13_place f) v0 v1 v2 v3 v4 v5 v6 v7 v8 S = some res := hF
      unfold F_X13_place_3 at hF
      refine z_iload C dX13_place_74 rfl ?_
      refine z_aload_n C dX13_place_76 rfl ?_
      obtain ⟨x16, S16, h16, hF⟩ := bI_some hF
      refine f_cV (st2 := [.int x16, .int v8]) C dX13_place_77 zyX13_yards zvX13_yards lkRX13_279 (K_X13_yards (l := zXl X) hT hpv0 hkv0 h16) hpv0 hkv0 rfl (by decide) rfl rfl (Nat.le_of_ble_eq_true rfl) rfl (fun hT16 => ?_)
      refine z_icmp_ge C 121 dX13_place_80 (by decide) (fun c19 => ?_) (fun c19 => ?_)
      · replace hF := ip hF c19
        refine z_iload C dX13_place_121 rfl ?_
        refine z_if_eq C 275 dX13_place_123 (by decide) (fun c21 => ?_) (fun c21 => ?_)
        · replace hF := ip hF c21
          refine z_mask [true, true, true, true, true, true, true, false, false, true] ?_ rfl
          exact ih4 S16 v0 v1 v2 v3 v4 v5 v6 res hT16 hpv0 hkv0       hF
        · replace hF := im hF c21
          refine z_aload_n C dX13_place_126 rfl ?_
          refine z_iconst (v := 0) C dX13_place_127 (by decide) ?_
          refine z_sipush (v := 756) C dX13_place_128 (by decide) ?_
          refine z_bipush (v := 28) C dX13_place_131 (by decide) ?_
          obtain ⟨S22, h22, hF⟩ := bV_some hF
          refine f_cV (st2 := []) C dX13_place_133 zyX13_copies zvX13_copies lkRX13_288 (K_X13_copies (l := zXl X) hT16 hpv0 hkv0    h22) hpv0 hkv0 rfl (by decide) rfl rfl (Nat.le_of_ble_eq_true rfl) rfl (fun hT22 => ?_)
          refine z_iconst (v := 0) C dX13_place_136 (by decide) ?_
          refine z_istore (lv2 := [some (.ref (zB G + v0)), some (.int v1), some (.int v2), some (.int v3), some (.int v4), some (.int v5), some (.int v6), some (.int v7), some (.int 0), none]) C dX13_place_137 (by decide) rfl ?_
          refine z_mask [true, true, true, true, true, true, true, false, true, true] ?_ rfl
          exact ih5 S22 v0 v1 v2 v3 v4 v5 v6 0 res hT22 hpv0 hkv0        hF
      · replace hF := im hF c19
        refine z_iload C dX13_place_83 rfl ?_
        refine z_if_eq C 112 dX13_place_85 (by decide) (fun c25 => ?_) (fun c25 => ?_)
        · replace hF := ip hF c25
          refine z_mask [true, true, true, true, true, true, true, false, true, true] ?_ rfl
          exact ih6 S16 v0 v1 v2 v3 v4 v5 v6 v8 res hT16 hpv0 hkv0        hF
        · replace hF := im hF c25
          refine z_iload C dX13_place_88 rfl ?_
          refine z_iload C dX13_place_90 rfl ?_
          refine z_ishr C dX13_place_92 ?_
          refine z_iconst (v := 1) C dX13_place_93 (by decide) ?_
          refine z_iand C dX13_place_94 ?_
          refine z_if_eq C 108 dX13_place_95 (by decide) (fun c27 => ?_) (fun c27 => ?_)
          · replace hF := ip hF c27
            refine z_mask [true, true, true, true, true, true, true, false, true, true] ?_ rfl
            exact ih7 S16 v0 v1 v2 v3 v4 v5 v6 v8 res hT16 hpv0 hkv0        hF
          · replace hF := im hF c27
            refine z_aload_n C dX13_place_98 rfl ?_
            refine z_iconst (v := 0) C dX13_place_99 (by decide) ?_
            refine z_iload C dX13_place_100 rfl ?_
            obtain ⟨x28, S28, h28, hF⟩ := bI_some hF
            refine f_cV (st2 := [.int x28]) C dX13_place_102 zyX13_isBin zvX13_isBin lkRX13_349 (K_X13_isBin (l := zXl X) hT16 hpv0 hkv0   h28) hpv0 hkv0 rfl (by decide) rfl rfl (Nat.le_of_ble_eq_true rfl) rfl (fun hT28 => ?_)
            have hJ30 : zV G X (zQX G X (zPo G kd N0 res) 0 0) 10 [some (.ref (zB G + v0)), some (.int v1), some (.int v2), some (.int v3), some (.int v4), some (.int v5), some (.int v6), some (.int v7), some (.int v8), none] [.int (if x28 = (0 : Int32) then (1 : Int32) else (0 : Int32))] (cn G kd N0 S28) 113 0 0 := by
              replace hF := lI_e hF
              generalize (if x28 = (0 : Int32) then (1 : Int32) else (0 : Int32)) = y31 at hF ⊢
              refine z_istore (lv2 := [some (.ref (zB G + v0)), some (.int v1), some (.int v2), some (.int v3), some (.int v4), some (.int v5), some (.int v6), some (.int y31), some (.int v8), none]) C dX13_place_113 (by decide) rfl ?_
              refine z_iinc (v := v8 + 1) (lv2 := [some (.ref (zB G + v0)), some (.int v1), some (.int v2), some (.int v3), some (.int v4), some (.int v5), some (.int v6), some (.int y31), some (.int (v8 + 1)), none]) C dX13_place_115 rfl (by rw [show Int32.ofInt 1 = (1 : Int32) from by decide]) rfl ?_
              refine z_goto C 74 dX13_place_118 (by decide) ?_
              exact ih3 S28 v0 v1 v2 v3 v4 v5 v6 y31 (v8 + 1) res hT28 hpv0 hkv0         hF
            refine z_if_ne C 112 dX13_place_105 (by decide) (fun c29 => ?_) (fun c29 => ?_)
            · refine z_iconst (v := 0) C dX13_place_112 (by decide) ?_
              exact zV.at hJ30 (by first | rfl | contradiction | (simp only [if_neg c29]; done)) (by first | rfl | contradiction | (simp only [if_neg c29]; done)) rfl rfl
            · refine z_iconst (v := 1) C dX13_place_108 (by decide) ?_
              refine z_goto C 113 dX13_place_109 (by decide) ?_
              exact zV.at hJ30 (by first | rfl | contradiction | (simp only [if_pos c29]; done)) (by first | rfl | contradiction | (simp only [if_pos c29]; done)) rfl rfl
    · intro S v0 v1 v2 v3 v4 v5 v6 res hT hpv0 hkv0 hF
      replace hF : F_X13_place_4 f (F_X13_place f) v0 v1 v2 v3 v4 v5 v6 S = some res := hF
      unfold F_X13_place_4 at hF
      refine z_iinc (v := v6 + 1) (lv2 := [some (.ref (zB G + v0)), some (.int v1), some (.int v2), some (.int v3), some (.int v4), some (.int v5), some (.int (v6 + 1)), none, none, none]) C dX13_place_275 rfl (by rw [show Int32.ofInt 1 = (1 : Int32) from by decide]) rfl ?_
      refine z_goto C 44 dX13_place_278 (by decide) ?_
      exact ih2 S v0 v1 v2 v3 v4 v5 (v6 + 1) res hT hpv0 hkv0       hF
    · intro S v0 v1 v2 v3 v4 v5 v6 v7 res hT hpv0 hkv0 hF
      replace hF : F_X13_place_5 f (F_X13_place f) v0 v1 v2 v3 v4 v5 v6 v7 S = some res := hF
      unfold F_X13_place_5 at hF
      refine z_iload C dX13_place_139 rfl ?_
      refine z_aload_n C dX13_place_141 rfl ?_
      obtain ⟨x32, S32, h32, hF⟩ := bI_some hF
      refine f_cV (st2 := [.int x32, .int v7]) C dX13_place_142 zyX13_yards zvX13_yards lkRX13_279 (K_X13_yards (l := zXl X) hT hpv0 hkv0 h32) hpv0 hkv0 rfl (by decide) rfl rfl (Nat.le_of_ble_eq_true rfl) rfl (fun hT32 => ?_)
      refine z_icmp_ge C 191 dX13_place_145 (by decide) (fun c37 => ?_) (fun c37 => ?_)
      · replace hF := ip hF c37
        refine z_aload_n C dX13_place_191 rfl ?_
        refine z_sipush (v := 756) C dX13_place_192 (by decide) ?_
        refine z_iconst (v := 0) C dX13_place_195 (by decide) ?_
        obtain ⟨S38, h38, hF⟩ := bV_some hF
        refine f_cV (st2 := []) C dX13_place_196 zyX13_allWalk zvX13_allWalk lkRX13_364 (K_X13_allWalk (l := zXl X) hT32 hpv0 hkv0   h38) hpv0 hkv0 rfl (by decide) rfl rfl (Nat.le_of_ble_eq_true rfl) rfl (fun hT38 => ?_)
        refine z_aload_n C dX13_place_199 rfl ?_
        refine z_sipush (v := 756) C dX13_place_200 (by decide) ?_
        obtain ⟨x39, S39, h39, hF⟩ := bI_some hF
        refine f_cV (st2 := [.int x39]) C dX13_place_203 zyX13_lyingIn zvX13_lyingIn lkRX13_299 (K_X13_lyingIn (l := zXl X) hT38 hpv0 hkv0  h39) hpv0 hkv0 rfl (by decide) rfl rfl (Nat.le_of_ble_eq_true rfl) rfl (fun hT39 => ?_)
        refine z_istore (lv2 := [some (.ref (zB G + v0)), some (.int v1), some (.int v2), some (.int v3), some (.int v4), some (.int v5), some (.int v6), none, some (.int x39), none]) C dX13_place_206 (by decide) rfl ?_
        refine z_iload C dX13_place_208 rfl ?_
        refine z_if_lt C 240 dX13_place_210 (by decide) (fun c43 => ?_) (fun c43 => ?_)
        · replace hF := ip hF c43
          exact ih8 S39 v0 v1 v2 v3 v4 v5 v6 x39 res hT39 hpv0 hkv0        hF
        · replace hF := im hF c43
          refine z_iload C dX13_place_213 rfl ?_
          refine z_iload C dX13_place_215 rfl ?_
          refine z_icmp_lt C 240 dX13_place_217 (by decide) (fun c46 => ?_) (fun c46 => ?_)
          · replace hF := ip hF c46
            exact ih8 S39 v0 v1 v2 v3 v4 v5 v6 x39 res hT39 hpv0 hkv0        hF
          · replace hF := im hF c46
            refine z_iload C dX13_place_220 rfl ?_
            refine z_iload C dX13_place_222 rfl ?_
            refine z_icmp_ne C 244 dX13_place_224 (by decide) (fun c48 => ?_) (fun c48 => ?_)
            · replace hF := im hF c48
              exact ih9 S39 v0 v1 v2 v3 v4 v5 v6 x39 res hT39 hpv0 hkv0        hF
            · replace hF := ip hF c48
              refine z_iload C dX13_place_227 rfl ?_
              obtain ⟨x49, S49, h49, hF⟩ := bI_some hF
              refine f_cS (st2 := [.int x49]) C dX13_place_229 zyX13_bits zsX13_bits lkRX13_367 (K_X13_bits (l := zXl X) hT39  h49) (by decide) rfl rfl (Nat.le_of_ble_eq_true rfl) rfl (fun hT49 => ?_)
              refine z_iload C dX13_place_232 rfl ?_
              obtain ⟨x50, S50, h50, hF⟩ := bI_some hF
              refine f_cS (st2 := [.int x50, .int x49]) C dX13_place_234 zyX13_bits zsX13_bits lkRX13_367 (K_X13_bits (l := zXl X) hT49  h50) (by decide) rfl rfl (Nat.le_of_ble_eq_true rfl) rfl (fun hT50 => ?_)
              have hJ52 : zV G X (zQX G X (zPo G kd N0 res) 0 0) 10 [some (.ref (zB G + v0)), some (.int v1), some (.int v2), some (.int v3), some (.int v4), some (.int v5), some (.int v6), none, some (.int x39), none] [.int (if x50 ≤ x49 then (0 : Int32) else (1 : Int32))] (cn G kd N0 S50) 245 0 0 := by
                refine z_istore (lv2 := [some (.ref (zB G + v0)), some (.int v1), some (.int v2), some (.int v3), some (.int v4), some (.int v5), some (.int v6), none, some (.int x39), some (.int (if x50 ≤ x49 then (0 : Int32) else (1 : Int32)))]) C dX13_place_245 (by decide) rfl ?_
                refine z_iload C dX13_place_247 rfl ?_
                have hJ54 : zV G X (zQX G X (zPo G kd N0 res) 0 0) 10 [some (.ref (zB G + v0)), some (.int v1), some (.int v2), some (.int v3), some (.int v4), some (.int v5), some (.int v6), none, some (.int x39), some (.int (if x50 ≤ x49 then (0 : Int32) else (1 : Int32)))] [.int (if (if x50 ≤ x49 then (0 : Int32) else (1 : Int32)) = (0 : Int32) then v4 else v6)] (cn G kd N0 S50) 259 0 0 := by
                  replace hF := lI_e hF
                  generalize (if (if x50 ≤ x49 then (0 : Int32) else (1 : Int32)) = (0 : Int32) then v4 else v6) = y55 at hF ⊢
                  refine z_istore (lv2 := [some (.ref (zB G + v0)), some (.int v1), some (.int v2), some (.int v3), some (.int y55), some (.int v5), some (.int v6), none, some (.int x39), some (.int (if x50 ≤ x49 then (0 : Int32) else (1 : Int32)))]) C dX13_place_259 (by decide) rfl ?_
                  refine z_iload C dX13_place_261 rfl ?_
                  have hJ57 : zV G X (zQX G X (zPo G kd N0 res) 0 0) 10 [some (.ref (zB G + v0)), some (.int v1), some (.int v2), some (.int v3), some (.int y55), some (.int v5), some (.int v6), none, some (.int x39), some (.int (if x50 ≤ x49 then (0 : Int32) else (1 : Int32)))] [.int (if (if x50 ≤ x49 then (0 : Int32) else (1 : Int32)) = (0 : Int32) then v5 else x39)] (cn G kd N0 S50) 273 0 0 := by
                    replace hF := lI_e hF
                    generalize (if (if x50 ≤ x49 then (0 : Int32) else (1 : Int32)) = (0 : Int32) then v5 else x39) = y58 at hF ⊢
                    refine z_istore (lv2 := [some (.ref (zB G + v0)), some (.int v1), some (.int v2), some (.int v3), some (.int y55), some (.int y58), some (.int v6), none, some (.int x39), some (.int (if x50 ≤ x49 then (0 : Int32) else (1 : Int32)))]) C dX13_place_273 (by decide) rfl ?_
                    refine z_mask [true, true, true, true, true, true, true, true, false, false] ?_ rfl
                    exact ih4 S50 v0 v1 v2 v3 y55 y58 v6 res hT50 hpv0 hkv0       hF
                  refine z_if_eq C 271 dX13_place_263 (by decide) (fun c56 => ?_) (fun c56 => ?_)
                  · refine z_iload C dX13_place_271 rfl ?_
                    exact zV.at hJ57 (by first | rfl | contradiction | (simp only [if_pos c56]; done)) (by first | rfl | contradiction | (simp only [if_pos c56]; done)) rfl rfl
                  · refine z_iload C dX13_place_266 rfl ?_
                    refine z_goto C 273 dX13_place_268 (by decide) ?_
                    exact zV.at hJ57 (by first | rfl | contradiction | (simp only [if_neg c56]; done)) (by first | rfl | contradiction | (simp only [if_neg c56]; done)) rfl rfl
                refine z_if_eq C 257 dX13_place_249 (by decide) (fun c53 => ?_) (fun c53 => ?_)
                · refine z_iload C dX13_place_257 rfl ?_
                  exact zV.at hJ54 (by first | rfl | contradiction | (simp only [if_pos c53]; done)) (by first | rfl | contradiction | (simp only [if_pos c53]; done)) rfl rfl
                · refine z_iload C dX13_place_252 rfl ?_
                  refine z_goto C 259 dX13_place_254 (by decide) ?_
                  exact zV.at hJ54 (by first | rfl | contradiction | (simp only [if_neg c53]; done)) (by first | rfl | contradiction | (simp only [if_neg c53]; done)) rfl rfl
              refine z_icmp_ge C 244 dX13_place_237 (by decide) (fun c51 => ?_) (fun c51 => ?_)
              · refine z_iconst (v := 0) C dX13_place_244 (by decide) ?_
                exact zV.at hJ52 (by first | rfl | contradiction | (simp only [if_pos c51]; done)) (by first | rfl | contradiction | (simp only [if_pos c51]; done)) rfl rfl
              · refine z_iconst (v := 1) C dX13_place_240 (by decide) ?_
                refine z_goto C 245 dX13_place_241 (by decide) ?_
                exact zV.at hJ52 (by first | rfl | contradiction | (simp only [if_neg c51]; done)) (by first | rfl | contradiction | (simp only [if_neg c51]; done)) rfl rfl
      · replace hF := im hF c37
        refine z_aload_n C dX13_place_148 rfl ?_
        refine f_getr C dX13_place_149 zfRX13_119 hpv0 hkv0 rfl ?_
        obtain ⟨hp59, hk59⟩ := hT32.1 v0 11 22 (.inr (0, 828)) hpv0 hkv0 rfl
        refine z_sipush (v := 768) C dX13_place_152 (by decide) ?_
        refine z_iload C dX13_place_155 rfl ?_
        refine z_iadd C dX13_place_157 ?_
        refine z_iload C dX13_place_158 rfl ?_
        refine z_iload C dX13_place_160 rfl ?_
        refine z_ishr C dX13_place_162 ?_
        refine z_iconst (v := 1) C dX13_place_163 (by decide) ?_
        refine z_iand C dX13_place_164 ?_
        refine z_iconst (v := 1) C dX13_place_165 (by decide) ?_
        refine z_icmp_ne C 173 dX13_place_166 (by decide) (fun c62 => ?_) (fun c62 => ?_)
        · replace hF := im hF c62
          refine z_aload_n C dX13_place_173 rfl ?_
          refine f_getr C dX13_place_174 zfRX13_119 hpv0 hkv0 rfl ?_
          obtain ⟨hp63, hk63⟩ := hT32.1 v0 11 22 (.inr (0, 828)) hpv0 hkv0 rfl
          refine z_sipush (v := 768) C dX13_place_177 (by decide) ?_
          refine z_iload C dX13_place_180 rfl ?_
          refine z_iadd C dX13_place_182 ?_
          obtain ⟨hi64, hF⟩ := bX_some hF
          obtain ⟨q64, eq64⟩ : ∃ q : Nat, q = Int32.toNatClampNeg ((768 : Int32) + v7) := ⟨_, rfl⟩
          rw [← eq64] at hF
          refine f_iald C dX13_place_183 hp63 hk63 hi64 ?_
          rw [← eq64]
          exact ih10 S32 v0 v1 v2 v3 v4 v5 v6 v7 (gI S32 (gR S32 v0 22) q64) ((768 : Int32) + v7) (gR S32 v0 22) res hT32 hpv0 hkv0          hp59 hk59 hF
        · replace hF := ip hF c62
          refine z_iload_n C dX13_place_169 rfl ?_
          refine z_goto C 184 dX13_place_170 (by decide) ?_
          exact ih10 S32 v0 v1 v2 v3 v4 v5 v6 v7 v2 ((768 : Int32) + v7) (gR S32 v0 22) res hT32 hpv0 hkv0          hp59 hk59 hF
    · intro S v0 v1 v2 v3 v4 v5 v6 v7 res hT hpv0 hkv0 hF
      replace hF : F_X13_place_6 f (F_X13_place f) v0 v1 v2 v3 v4 v5 v6 v7 S = some res := hF
      unfold F_X13_place_6 at hF
      refine z_iconst (v := 0) C dX13_place_112 (by decide) ?_
      exact ih11 S v0 v1 v2 v3 v4 v5 v6 v7 0 res hT hpv0 hkv0         hF
    · intro S v0 v1 v2 v3 v4 v5 v6 v7 res hT hpv0 hkv0 hF
      replace hF : F_X13_place_7 f (F_X13_place f) v0 v1 v2 v3 v4 v5 v6 v7 S = some res := hF
      unfold F_X13_place_7 at hF
      refine z_iconst (v := 1) C dX13_place_108 (by decide) ?_
      refine z_goto C 113 dX13_place_109 (by decide) ?_
      exact ih11 S v0 v1 v2 v3 v4 v5 v6 v7 1 res hT hpv0 hkv0         hF
    · intro S v0 v1 v2 v3 v4 v5 v6 v7 res hT hpv0 hkv0 hF
      replace hF : F_X13_place_8 f (F_X13_place f) v0 v1 v2 v3 v4 v5 v6 v7 S = some res := hF
      unfold F_X13_place_8 at hF
      refine z_iconst (v := 1) C dX13_place_240 (by decide) ?_
      refine z_goto C 245 dX13_place_241 (by decide) ?_
      exact ih12 S v0 v1 v2 v3 v4 v5 v6 v7 1 res hT hpv0 hkv0         hF
    · intro S v0 v1 v2 v3 v4 v5 v6 v7 res hT hpv0 hkv0 hF
      replace hF : F_X13_place_9 f (F_X13_place f) v0 v1 v2 v3 v4 v5 v6 v7 S = some res := hF
      unfold F_X13_place_9 at hF
      refine z_iconst (v := 0) C dX13_place_244 (by decide) ?_
      exact ih12 S v0 v1 v2 v3 v4 v5 v6 v7 0 res hT hpv0 hkv0         hF
    · intro S v0 v1 v2 v3 v4 v5 v6 v7 w0 w1 w2 res hT hpv0 hkv0 hpw2 hkw2 hF
      replace hF : F_X13_place_10 f (F_X13_place f) v0 v1 v2 v3 v4 v5 v6 v7 w0 w1 w2 S = some res := hF
      unfold F_X13_place_10 at hF
      obtain ⟨hi65, hF⟩ := bX_some hF
      obtain ⟨q65, eq65⟩ : ∃ q : Nat, q = Int32.toNatClampNeg w1 := ⟨_, rfl⟩
      rw [← eq65] at hF
      refine f_iast C dX13_place_184 hpw2 hkw2 hi65 ?_
      rw [← eq65]
      have hT66 : zT0 kd N0 (sI S w2 q65 w0) := zT0_sI hT
      replace hF := fS_e hF
      generalize sI S w2 q65 w0 = S66 at hF hT66 ⊢
      refine z_iinc (v := v7 + 1) (lv2 := [some (.ref (zB G + v0)), some (.int v1), some (.int v2), some (.int v3), some (.int v4), some (.int v5), some (.int v6), none, some (.int (v7 + 1)), none]) C dX13_place_185 rfl (by rw [show Int32.ofInt 1 = (1 : Int32) from by decide]) rfl ?_
      refine z_goto C 139 dX13_place_188 (by decide) ?_
      exact ih5 S66 v0 v1 v2 v3 v4 v5 v6 (v7 + 1) res hT66 hpv0 hkv0        hF
    · intro S v0 v1 v2 v3 v4 v5 v6 v7 w0 res hT hpv0 hkv0 hF
      replace hF : F_X13_place_11 f (F_X13_place f) v0 v1 v2 v3 v4 v5 v6 v7 w0 S = some res := hF
      unfold F_X13_place_11 at hF
      refine z_istore (lv2 := [some (.ref (zB G + v0)), some (.int v1), some (.int v2), some (.int v3), some (.int v4), some (.int v5), some (.int v6), some (.int w0), some (.int v7), none]) C dX13_place_113 (by decide) rfl ?_
      refine z_iinc (v := v7 + 1) (lv2 := [some (.ref (zB G + v0)), some (.int v1), some (.int v2), some (.int v3), some (.int v4), some (.int v5), some (.int v6), some (.int w0), some (.int (v7 + 1)), none]) C dX13_place_115 rfl (by rw [show Int32.ofInt 1 = (1 : Int32) from by decide]) rfl ?_
      refine z_goto C 74 dX13_place_118 (by decide) ?_
      exact ih3 S v0 v1 v2 v3 v4 v5 v6 w0 (v7 + 1) res hT hpv0 hkv0         hF
    · intro S v0 v1 v2 v3 v4 v5 v6 v7 w0 res hT hpv0 hkv0 hF
      replace hF : F_X13_place_12 f (F_X13_place f) v0 v1 v2 v3 v4 v5 v6 v7 w0 S = some res := hF
      unfold F_X13_place_12 at hF
      refine z_istore (lv2 := [some (.ref (zB G + v0)), some (.int v1), some (.int v2), some (.int v3), some (.int v4), some (.int v5), some (.int v6), none, some (.int v7), some (.int w0)]) C dX13_place_245 (by decide) rfl ?_
      refine z_iload C dX13_place_247 rfl ?_
      have hJ68 : zV G X (zQX G X (zPo G kd N0 res) 0 0) 10 [some (.ref (zB G + v0)), some (.int v1), some (.int v2), some (.int v3), some (.int v4), some (.int v5), some (.int v6), none, some (.int v7), some (.int w0)] [.int (if w0 = (0 : Int32) then v4 else v6)] (cn G kd N0 S) 259 0 0 := by
        refine z_istore (lv2 := [some (.ref (zB G + v0)), some (.int v1), some (.int v2), some (.int v3), some (.int (if w0 = (0 : Int32) then v4 else v6)), some (.int v5), some (.int v6), none, some (.int v7), some (.int w0)]) C dX13_place_259 (by decide) rfl ?_
        refine z_iload C dX13_place_261 rfl ?_
        have hJ70 : zV G X (zQX G X (zPo G kd N0 res) 0 0) 10 [some (.ref (zB G + v0)), some (.int v1), some (.int v2), some (.int v3), some (.int (if w0 = (0 : Int32) then v4 else v6)), some (.int v5), some (.int v6), none, some (.int v7), some (.int w0)] [.int (if w0 = (0 : Int32) then v5 else v7)] (cn G kd N0 S) 273 0 0 := by
          refine z_istore (lv2 := [some (.ref (zB G + v0)), some (.int v1), some (.int v2), some (.int v3), some (.int (if w0 = (0 : Int32) then v4 else v6)), some (.int (if w0 = (0 : Int32) then v5 else v7)), some (.int v6), none, some (.int v7), some (.int w0)]) C dX13_place_273 (by decide) rfl ?_
          refine z_mask [true, true, true, true, true, true, true, true, false, false] ?_ rfl
          exact ih4 S v0 v1 v2 v3 (if w0 = (0 : Int32) then v4 else v6) (if w0 = (0 : Int32) then v5 else v7) v6 res hT hpv0 hkv0       hF
        refine z_if_eq C 271 dX13_place_263 (by decide) (fun c69 => ?_) (fun c69 => ?_)
        · refine z_iload C dX13_place_271 rfl ?_
          exact zV.at hJ70 (by first | rfl | contradiction | (simp only [if_pos c69]; done)) (by first | rfl | contradiction | (simp only [if_pos c69]; done)) rfl rfl
        · refine z_iload C dX13_place_266 rfl ?_
          refine z_goto C 273 dX13_place_268 (by decide) ?_
          exact zV.at hJ70 (by first | rfl | contradiction | (simp only [if_neg c69]; done)) (by first | rfl | contradiction | (simp only [if_neg c69]; done)) rfl rfl
      refine z_if_eq C 257 dX13_place_249 (by decide) (fun c67 => ?_) (fun c67 => ?_)
      · refine z_iload C dX13_place_257 rfl ?_
        exact zV.at hJ68 (by first | rfl | contradiction | (simp only [if_pos c67]; done)) (by first | rfl | contradiction | (simp only [if_pos c67]; done)) rfl rfl
      · refine z_iload C dX13_place_252 rfl ?_
        refine z_goto C 259 dX13_place_254 (by decide) ?_
        exact zV.at hJ68 (by first | rfl | contradiction | (simp only [if_neg c67]; done)) (by first | rfl | contradiction | (simp only [if_neg c67]; done)) rfl rfl
theorem K_X13_place {G : zG} {l : Launch} {kd : kD} {N0 f : Nat} {S : aS} {v0 : Nat} {v1 : Int32} {v2 : Int32} {v3 : Int32} {res : Option Value × aS} (hT : zT0 kd N0 S) (hpv0 : v0 < N0) (hkv0 : kd v0 = .inl 11) (hF : F_X13_place f 0 [.ref v0, .int v1, .int v2, .int v3] S = some res) : zM G l 5 0 0 yX13_place cX13_place 10 (some .int) [.ref (zB G + v0), .int v1, .int v2, .int v3] (cn G kd N0 S) (zPo G kd N0 res) := zM.of (by decide) rfl (Nat.le_of_ble_eq_true rfl) (fun X _ C hr _ => (B_X13_place C hr f).1 S v0 v1 v2 v3 res hT hpv0 hkv0 hF)
def F_X13_move_0 (f : Nat) (rc : Nat → List Value → aS → aR) (v0 : Nat) (S : aS) : aR :=
  fS (sI S v0 0 0) fun S1 => bV (F_X13_copies f 0 [.ref v0, .int 0, .int 756, .int 28] S1) fun S2 => bV (F_X13_allWalk f 0 [.ref v0, .int 756, .int 0] S2) fun S3 => bI (F_X13_lyingIn f 0 [.ref v0, .int 756] S3) fun x4 S4 => rc 1 [.ref v0, .int ((-1)), .int x4, .int 0] S4
def F_X13_move_1 (f : Nat) (rc : Nat → List Value → aS → aR) (v0 : Nat) (v1 : Int32) (v2 : Int32) (v3 : Int32) (S : aS) : aR :=
  bI (F_X13_yards f 0 [.ref v0] S) fun x5 S5 => if x5 ≤ v3 then some (some (.int v1), S5) else rc 2 [.ref v0, .int v1, .int v2, .int v3, .int 0] S5
def F_X13_move_2 (f : Nat) (rc : Nat → List Value → aS → aR) (v0 : Nat) (v1 : Int32) (v2 : Int32) (v3 : Int32) (v4 : Int32) (S : aS) : aR :=
  bI (F_X13_yards f 0 [.ref v0] S) fun x8 S8 => if x8 ≤ v4 then rc 1 [.ref v0, .int v1, .int v2, .int (v3 + 1)] S8 else bI (F_X13_isBin f 0 [.ref v0, .int 0, .int v3] S8) fun x11 S11 => if x11 = (0 : Int32) then rc 3 [.ref v0, .int v1, .int v2, .int v3, .int v4] S11 else bI (F_X13_isBin f 0 [.ref v0, .int 0, .int v4] S11) fun x14 S14 => if x14 = (0 : Int32) then bV (F_X13_copies f 0 [.ref v0, .int 0, .int 756, .int 28] S14) fun S17 => bI (F_X13_offs f 0 [.ref v0, .int 756, .int v3] S17) fun x18 S18 => bX ((12 : Int32) + v3) 828 fun q21 => bX ((768 : Int32) + v4) 828 fun q22 => fS (sI S18 (gR S18 v0 22) q22 (gI S18 (gR S18 v0 22) q21)) fun S23 => bV (F_X13_allWalk f 0 [.ref v0, .int 756, .int 0] S23) fun S24 => bI (F_X13_lyingIn f 0 [.ref v0, .int 756] S24) fun x25 S25 => rc 3 [.ref v0, .int (if v2 ≤ x25 then v1 else (((8 : Int32) * v3) + v4)), .int (if v2 ≤ x25 then v2 else x25), .int v3, .int v4] S25 else rc 3 [.ref v0, .int v1, .int v2, .int v3, .int v4] S14
def F_X13_move_3 (f : Nat) (rc : Nat → List Value → aS → aR) (v0 : Nat) (v1 : Int32) (v2 : Int32) (v3 : Int32) (v4 : Int32) (S : aS) : aR :=
  rc 2 [.ref v0, .int v1, .int v2, .int v3, .int (v4 + 1)] S
def F_X13_move : Nat → Nat → List Value → aS → aR
  | 0, _, _, _ => none
  | f + 1, 0, vs, S => F_X13_move_0 f (F_X13_move f) (vR vs 0) S
  | f + 1, 1, vs, S => F_X13_move_1 f (F_X13_move f) (vR vs 0) (vI vs 1) (vI vs 2) (vI vs 3) S
  | f + 1, 2, vs, S => F_X13_move_2 f (F_X13_move f) (vR vs 0) (vI vs 1) (vI vs 2) (vI vs 3) (vI vs 4) S
  | f + 1, 3, vs, S => F_X13_move_3 f (F_X13_move f) (vR vs 0) (vI vs 1) (vI vs 2) (vI vs 3) (vI vs 4) S
  | _ + 1, _, _, _ => none
theorem dX13_move_0 : decode cX13_move 0 = .ok (.aload_n 0, 1) := by decide +kernel
theorem dX13_move_1 : decode cX13_move 1 = .ok (.iconst 0, 1) := by decide +kernel
theorem dX13_move_2 : decode cX13_move 2 = .ok (.putfield 1, 3) := by decide +kernel
theorem dX13_move_5 : decode cX13_move 5 = .ok (.aload_n 0, 1) := by decide +kernel
theorem dX13_move_6 : decode cX13_move 6 = .ok (.iconst 0, 1) := by decide +kernel
theorem dX13_move_7 : decode cX13_move 7 = .ok (.sipush 756, 3) := by decide +kernel
theorem dX13_move_10 : decode cX13_move 10 = .ok (.bipush 28, 2) := by decide +kernel
theorem dX13_move_12 : decode cX13_move 12 = .ok (.invokevirtual 288, 3) := by decide +kernel
theorem dX13_move_15 : decode cX13_move 15 = .ok (.aload_n 0, 1) := by decide +kernel
theorem dX13_move_16 : decode cX13_move 16 = .ok (.sipush 756, 3) := by decide +kernel
theorem dX13_move_19 : decode cX13_move 19 = .ok (.iconst 0, 1) := by decide +kernel
theorem dX13_move_20 : decode cX13_move 20 = .ok (.invokevirtual 364, 3) := by decide +kernel
theorem dX13_move_23 : decode cX13_move 23 = .ok (.iconst (-1), 1) := by decide +kernel
theorem dX13_move_24 : decode cX13_move 24 = .ok (.istore_n 1, 1) := by decide +kernel
theorem dX13_move_25 : decode cX13_move 25 = .ok (.aload_n 0, 1) := by decide +kernel
theorem dX13_move_26 : decode cX13_move 26 = .ok (.sipush 756, 3) := by decide +kernel
theorem dX13_move_29 : decode cX13_move 29 = .ok (.invokevirtual 299, 3) := by decide +kernel
theorem dX13_move_32 : decode cX13_move 32 = .ok (.istore_n 2, 1) := by decide +kernel
theorem dX13_move_33 : decode cX13_move 33 = .ok (.iconst 0, 1) := by decide +kernel
theorem dX13_move_34 : decode cX13_move 34 = .ok (.istore_n 3, 1) := by decide +kernel
theorem dX13_move_35 : decode cX13_move 35 = .ok (.iload_n 3, 1) := by decide +kernel
theorem dX13_move_36 : decode cX13_move 36 = .ok (.aload_n 0, 1) := by decide +kernel
theorem dX13_move_37 : decode cX13_move 37 = .ok (.invokevirtual 279, 3) := by decide +kernel
theorem dX13_move_40 : decode cX13_move 40 = .ok (.if_icmp .ge 133, 3) := by decide +kernel
theorem dX13_move_43 : decode cX13_move 43 = .ok (.iconst 0, 1) := by decide +kernel
theorem dX13_move_44 : decode cX13_move 44 = .ok (.istore 4, 2) := by decide +kernel
theorem dX13_move_46 : decode cX13_move 46 = .ok (.iload 4, 2) := by decide +kernel
theorem dX13_move_48 : decode cX13_move 48 = .ok (.aload_n 0, 1) := by decide +kernel
theorem dX13_move_49 : decode cX13_move 49 = .ok (.invokevirtual 279, 3) := by decide +kernel
theorem dX13_move_52 : decode cX13_move 52 = .ok (.if_icmp .ge 115, 3) := by decide +kernel
theorem dX13_move_55 : decode cX13_move 55 = .ok (.aload_n 0, 1) := by decide +kernel
theorem dX13_move_56 : decode cX13_move 56 = .ok (.iconst 0, 1) := by decide +kernel
theorem dX13_move_57 : decode cX13_move 57 = .ok (.iload_n 3, 1) := by decide +kernel
theorem dX13_move_58 : decode cX13_move 58 = .ok (.invokevirtual 349, 3) := by decide +kernel
theorem dX13_move_61 : decode cX13_move 61 = .ok (.ifCond .eq 100, 3) := by decide +kernel
theorem dX13_move_64 : decode cX13_move 64 = .ok (.aload_n 0, 1) := by decide +kernel
theorem dX13_move_65 : decode cX13_move 65 = .ok (.iconst 0, 1) := by decide +kernel
theorem dX13_move_66 : decode cX13_move 66 = .ok (.iload 4, 2) := by decide +kernel
theorem dX13_move_68 : decode cX13_move 68 = .ok (.invokevirtual 349, 3) := by decide +kernel
theorem dX13_move_71 : decode cX13_move 71 = .ok (.ifCond .ne 90, 3) := by decide +kernel
theorem dX13_move_74 : decode cX13_move 74 = .ok (.aload_n 0, 1) := by decide +kernel
theorem dX13_move_75 : decode cX13_move 75 = .ok (.iconst 0, 1) := by decide +kernel
theorem dX13_move_76 : decode cX13_move 76 = .ok (.sipush 756, 3) := by decide +kernel
theorem dX13_move_79 : decode cX13_move 79 = .ok (.bipush 28, 2) := by decide +kernel
theorem dX13_move_81 : decode cX13_move 81 = .ok (.invokevirtual 288, 3) := by decide +kernel
theorem dX13_move_84 : decode cX13_move 84 = .ok (.aload_n 0, 1) := by decide +kernel
theorem dX13_move_85 : decode cX13_move 85 = .ok (.sipush 756, 3) := by decide +kernel
theorem dX13_move_88 : decode cX13_move 88 = .ok (.iload_n 3, 1) := by decide +kernel
theorem dX13_move_89 : decode cX13_move 89 = .ok (.invokevirtual 355, 3) := by decide +kernel
theorem dX13_move_92 : decode cX13_move 92 = .ok (.pop, 1) := by decide +kernel
theorem dX13_move_93 : decode cX13_move 93 = .ok (.aload_n 0, 1) := by decide +kernel
theorem dX13_move_94 : decode cX13_move 94 = .ok (.getfield 119, 3) := by decide +kernel
theorem dX13_move_97 : decode cX13_move 97 = .ok (.sipush 768, 3) := by decide +kernel
theorem dX13_move_100 : decode cX13_move 100 = .ok (.iload 4, 2) := by decide +kernel
theorem dX13_move_102 : decode cX13_move 102 = .ok (.iadd, 1) := by decide +kernel
theorem dX13_move_103 : decode cX13_move 103 = .ok (.aload_n 0, 1) := by decide +kernel
theorem dX13_move_104 : decode cX13_move 104 = .ok (.getfield 119, 3) := by decide +kernel
theorem dX13_move_107 : decode cX13_move 107 = .ok (.bipush 12, 2) := by decide +kernel
theorem dX13_move_109 : decode cX13_move 109 = .ok (.iload_n 3, 1) := by decide +kernel
theorem dX13_move_110 : decode cX13_move 110 = .ok (.iadd, 1) := by decide +kernel
theorem dX13_move_111 : decode cX13_move 111 = .ok (.iaload, 1) := by decide +kernel
theorem dX13_move_112 : decode cX13_move 112 = .ok (.iastore, 1) := by decide +kernel
theorem dX13_move_113 : decode cX13_move 113 = .ok (.aload_n 0, 1) := by decide +kernel
theorem dX13_move_114 : decode cX13_move 114 = .ok (.sipush 756, 3) := by decide +kernel
theorem dX13_move_117 : decode cX13_move 117 = .ok (.iconst 0, 1) := by decide +kernel
theorem dX13_move_118 : decode cX13_move 118 = .ok (.invokevirtual 364, 3) := by decide +kernel
theorem dX13_move_121 : decode cX13_move 121 = .ok (.aload_n 0, 1) := by decide +kernel
theorem dX13_move_122 : decode cX13_move 122 = .ok (.sipush 756, 3) := by decide +kernel
theorem dX13_move_125 : decode cX13_move 125 = .ok (.invokevirtual 299, 3) := by decide +kernel
theorem dX13_move_128 : decode cX13_move 128 = .ok (.istore 5, 2) := by decide +kernel
theorem dX13_move_130 : decode cX13_move 130 = .ok (.iload 5, 2) := by decide +kernel
theorem dX13_move_132 : decode cX13_move 132 = .ok (.iload_n 2, 1) := by decide +kernel
theorem dX13_move_133 : decode cX13_move 133 = .ok (.if_icmp .ge 13, 3) := by decide +kernel
theorem dX13_move_136 : decode cX13_move 136 = .ok (.bipush 8, 2) := by decide +kernel
theorem dX13_move_138 : decode cX13_move 138 = .ok (.iload_n 3, 1) := by decide +kernel
theorem dX13_move_139 : decode cX13_move 139 = .ok (.imul, 1) := by decide +kernel
theorem dX13_move_140 : decode cX13_move 140 = .ok (.iload 4, 2) := by decide +kernel
theorem dX13_move_142 : decode cX13_move 142 = .ok (.iadd, 1) := by decide +kernel
theorem dX13_move_143 : decode cX13_move 143 = .ok (.goto 4, 3) := by decide +kernel
theorem dX13_move_146 : decode cX13_move 146 = .ok (.iload_n 1, 1) := by decide +kernel
theorem dX13_move_147 : decode cX13_move 147 = .ok (.istore_n 1, 1) := by decide +kernel
theorem dX13_move_148 : decode cX13_move 148 = .ok (.iload 5, 2) := by decide +kernel
theorem dX13_move_150 : decode cX13_move 150 = .ok (.iload_n 2, 1) := by decide +kernel
theorem dX13_move_151 : decode cX13_move 151 = .ok (.if_icmp .ge 8, 3) := by decide +kernel
theorem dX13_move_154 : decode cX13_move 154 = .ok (.iload 5, 2) := by decide +kernel
theorem dX13_move_156 : decode cX13_move 156 = .ok (.goto 4, 3) := by decide +kernel
theorem dX13_move_159 : decode cX13_move 159 = .ok (.iload_n 2, 1) := by decide +kernel
theorem dX13_move_160 : decode cX13_move 160 = .ok (.istore_n 2, 1) := by decide +kernel
theorem dX13_move_161 : decode cX13_move 161 = .ok (.iinc 4 1, 3) := by decide +kernel
theorem dX13_move_164 : decode cX13_move 164 = .ok (.goto (-118), 3) := by decide +kernel
theorem dX13_move_167 : decode cX13_move 167 = .ok (.iinc 3 1, 3) := by decide +kernel
theorem dX13_move_170 : decode cX13_move 170 = .ok (.goto (-135), 3) := by decide +kernel
theorem dX13_move_173 : decode cX13_move 173 = .ok (.iload_n 1, 1) := by decide +kernel
theorem dX13_move_174 : decode cX13_move 174 = .ok (.ireturn, 1) := by decide +kernel
set_option maxHeartbeats 4000000 in
set_option maxRecDepth 100000 in
theorem B_X13_move {G : zG} {X : zX} {kd : kD} {N0 : Nat} (C : zCt G X 5 0 0 RX13 cX13_move 6) (hr : (zXh X).sig.returnType = (some .int)) : ∀ f : Nat,
    (∀ (S : aS) (v0 : Nat) (res : Option Value × aS), zT0 kd N0 S → v0 < N0 → kd v0 = .inl 11 → F_X13_move f 0 [.ref v0] S = some res → zV G X (zQX G X (zPo G kd N0 res) 0 0) 6 [some (.ref (zB G + v0)), none, none, none, none, none] [] (cn G kd N0 S) 0 0 0) ∧
    (∀ (S : aS) (v0 : Nat) (v1 : Int32) (v2 : Int32) (v3 : Int32) (res : Option Value × aS), zT0 kd N0 S → v0 < N0 → kd v0 = .inl 11 → F_X13_move f 1 [.ref v0, .int v1, .int v2, .int v3] S = some res → zV G X (zQX G X (zPo G kd N0 res) 0 0) 6 [some (.ref (zB G + v0)), some (.int v1), some (.int v2), some (.int v3), none, none] [] (cn G kd N0 S) 35 0 0) ∧
    (∀ (S : aS) (v0 : Nat) (v1 : Int32) (v2 : Int32) (v3 : Int32) (v4 : Int32) (res : Option Value × aS), zT0 kd N0 S → v0 < N0 → kd v0 = .inl 11 → F_X13_move f 2 [.ref v0, .int v1, .int v2, .int v3, .int v4] S = some res → zV G X (zQX G X (zPo G kd N0 res) 0 0) 6 [some (.ref (zB G + v0)), some (.int v1), some (.int v2), some (.int v3), some (.int v4), none] [] (cn G kd N0 S) 46 0 0) ∧
    (∀ (S : aS) (v0 : Nat) (v1 : Int32) (v2 : Int32) (v3 : Int32) (v4 : Int32) (res : Option Value × aS), zT0 kd N0 S → v0 < N0 → kd v0 = .inl 11 → F_X13_move f 3 [.ref v0, .int v1, .int v2, .int v3, .int v4] S = some res → zV G X (zQX G X (zPo G kd N0 res) 0 0) 6 [some (.ref (zB G + v0)), some (.int v1), some (.int v2), some (.int v3), some (.int v4), none] [] (cn G kd N0 S) 161 0 0) := by
  intro f
  induction f with
  | zero => exact ⟨(fun _ _ _ _ _ _ h => by cases h), (fun _ _ _ _ _ _ _ _ _ h => by cases h), (fun _ _ _ _ _ _ _ _ _ _ h => by cases h), (fun _ _ _ _ _ _ _ _ _ _ h => by cases h)⟩
  | succ f ih =>
    obtain ⟨ih0, ih1, ih2, ih3⟩ := ih
    refine ⟨?_, ?_, ?_, ?_⟩
    · intro S v0 res hT hpv0 hkv0 hF
      replace hF : F_X13_move_0 f (F_X13_move f) v0 S = some res := hF
      unfold F_X13_move_0 at hF
      refine z_aload_n C dX13_move_0 rfl ?_
      refine z_iconst (v := 0) C dX13_move_1 (by decide) ?_
      refine f_puti C dX13_move_2 zfRX13_1 fw11_0 hpv0 hkv0 rfl rfl rfl ?_
      have hT1 : zT0 kd N0 (sI S v0 0 0) := zT0_sI hT
      replace hF := fS_e hF
      generalize sI S v0 0 0 = S1 at hF hT1 ⊢
      refine z_aload_n C dX13_move_5 rfl ?_
      refine z_iconst (v := 0) C dX13_move_6 (by decide) ?_
      refine z_sipush (v := 756) C dX13_move_7 (by decide) ?_
      refine z_bipush (v := 28) C dX13_move_10 (by decide) ?_
      obtain ⟨S2, h2, hF⟩ := bV_some hF
      refine f_cV (st2 := []) C dX13_move_12 zyX13_copies zvX13_copies lkRX13_288 (K_X13_copies (l := zXl X) hT1 hpv0 hkv0    h2) hpv0 hkv0 rfl (by decide) rfl rfl (Nat.le_of_ble_eq_true rfl) rfl (fun hT2 => ?_)
      refine z_aload_n C dX13_move_15 rfl ?_
      refine z_sipush (v := 756) C dX13_move_16 (by decide) ?_
      refine z_iconst (v := 0) C dX13_move_19 (by decide) ?_
      obtain ⟨S3, h3, hF⟩ := bV_some hF
      refine f_cV (st2 := []) C dX13_move_20 zyX13_allWalk zvX13_allWalk lkRX13_364 (K_X13_allWalk (l := zXl X) hT2 hpv0 hkv0   h3) hpv0 hkv0 rfl (by decide) rfl rfl (Nat.le_of_ble_eq_true rfl) rfl (fun hT3 => ?_)
      refine z_iconst (v := (-1)) C dX13_move_23 (by decide) ?_
      refine z_istore_n (lv2 := [some (.ref (zB G + v0)), some (.int ((-1))), none, none, none, none]) C dX13_move_24 (by decide) rfl ?_
      refine z_aload_n C dX13_move_25 rfl ?_
      refine z_sipush (v := 756) C dX13_move_26 (by decide) ?_
      obtain ⟨x4, S4, h4, hF⟩ := bI_some hF
      refine f_cV (st2 := [.int x4]) C dX13_move_29 zyX13_lyingIn zvX13_lyingIn lkRX13_299 (K_X13_lyingIn (l := zXl X) hT3 hpv0 hkv0  h4) hpv0 hkv0 rfl (by decide) rfl rfl (Nat.le_of_ble_eq_true rfl) rfl (fun hT4 => ?_)
      refine z_istore_n (lv2 := [some (.ref (zB G + v0)), some (.int ((-1))), some (.int x4), none, none, none]) C dX13_move_32 (by decide) rfl ?_
      refine z_iconst (v := 0) C dX13_move_33 (by decide) ?_
      refine z_istore_n (lv2 := [some (.ref (zB G + v0)), some (.int ((-1))), some (.int x4), some (.int 0), none, none]) C dX13_move_34 (by decide) rfl ?_
      exact ih1 S4 v0 ((-1)) x4 0 res hT4 hpv0 hkv0    hF
    · intro S v0 v1 v2 v3 res hT hpv0 hkv0 hF
      replace hF : F_X13_move_1 f (F_X13_move f) v0 v1 v2 v3 S = some res := hF
      unfold F_X13_move_1 at hF
      refine z_iload_n C dX13_move_35 rfl ?_
      refine z_aload_n C dX13_move_36 rfl ?_
      obtain ⟨x5, S5, h5, hF⟩ := bI_some hF
      refine f_cV (st2 := [.int x5, .int v3]) C dX13_move_37 zyX13_yards zvX13_yards lkRX13_279 (K_X13_yards (l := zXl X) hT hpv0 hkv0 h5) hpv0 hkv0 rfl (by decide) rfl rfl (Nat.le_of_ble_eq_true rfl) rfl (fun hT5 => ?_)
      refine z_icmp_ge C 173 dX13_move_40 (by decide) (fun c7 => ?_) (fun c7 => ?_)
      · replace hF := ip hF c7
        refine z_iload_n C dX13_move_173 rfl ?_
        cases hF
        exact z_iret C hr dX13_move_174 ⟨rfl, rfl, hT5⟩
      · replace hF := im hF c7
        refine z_iconst (v := 0) C dX13_move_43 (by decide) ?_
        refine z_istore (lv2 := [some (.ref (zB G + v0)), some (.int v1), some (.int v2), some (.int v3), some (.int 0), none]) C dX13_move_44 (by decide) rfl ?_
        exact ih2 S5 v0 v1 v2 v3 0 res hT5 hpv0 hkv0     hF
    · intro S v0 v1 v2 v3 v4 res hT hpv0 hkv0 hF
      replace hF : F_X13_move_2 f (F_X13_move f) v0 v1 v2 v3 v4 S = some res := hF
      unfold F_X13_move_2 at hF
      refine z_iload C dX13_move_46 rfl ?_
      refine z_aload_n C dX13_move_48 rfl ?_
      obtain ⟨x8, S8, h8, hF⟩ := bI_some hF
      refine f_cV (st2 := [.int x8, .int v4]) C dX13_move_49 zyX13_yards zvX13_yards lkRX13_279 (K_X13_yards (l := zXl X) hT hpv0 hkv0 h8) hpv0 hkv0 rfl (by decide) rfl rfl (Nat.le_of_ble_eq_true rfl) rfl (fun hT8 => ?_)
      refine z_icmp_ge C 167 dX13_move_52 (by decide) (fun c10 => ?_) (fun c10 => ?_)
      · replace hF := ip hF c10
        refine z_iinc (v := v3 + 1) (lv2 := [some (.ref (zB G + v0)), some (.int v1), some (.int v2), some (.int (v3 + 1)), some (.int v4), none]) C dX13_move_167 rfl (by rw [show Int32.ofInt 1 = (1 : Int32) from by decide]) rfl ?_
        refine z_goto C 35 dX13_move_170 (by decide) ?_
        refine z_mask [true, true, true, true, false, true] ?_ rfl
        exact ih1 S8 v0 v1 v2 (v3 + 1) res hT8 hpv0 hkv0    hF
      · replace hF := im hF c10
        refine z_aload_n C dX13_move_55 rfl ?_
        refine z_iconst (v := 0) C dX13_move_56 (by decide) ?_
        refine z_iload_n C dX13_move_57 rfl ?_
        obtain ⟨x11, S11, h11, hF⟩ := bI_some hF
        refine f_cV (st2 := [.int x11]) C dX13_move_58 zyX13_isBin zvX13_isBin lkRX13_349 (K_X13_isBin (l := zXl X) hT8 hpv0 hkv0   h11) hpv0 hkv0 rfl (by decide) rfl rfl (Nat.le_of_ble_eq_true rfl) rfl (fun hT11 => ?_)
        refine z_if_eq C 161 dX13_move_61 (by decide) (fun c13 => ?_) (fun c13 => ?_)
        · replace hF := ip hF c13
          exact ih3 S11 v0 v1 v2 v3 v4 res hT11 hpv0 hkv0     hF
        · replace hF := im hF c13
          refine z_aload_n C dX13_move_64 rfl ?_
          refine z_iconst (v := 0) C dX13_move_65 (by decide) ?_
          refine z_iload C dX13_move_66 rfl ?_
          obtain ⟨x14, S14, h14, hF⟩ := bI_some hF
          refine f_cV (st2 := [.int x14]) C dX13_move_68 zyX13_isBin zvX13_isBin lkRX13_349 (K_X13_isBin (l := zXl X) hT11 hpv0 hkv0   h14) hpv0 hkv0 rfl (by decide) rfl rfl (Nat.le_of_ble_eq_true rfl) rfl (fun hT14 => ?_)
          refine z_if_ne C 161 dX13_move_71 (by decide) (fun c16 => ?_) (fun c16 => ?_)
          · replace hF := im hF c16
            exact ih3 S14 v0 v1 v2 v3 v4 res hT14 hpv0 hkv0     hF
          · replace hF := ip hF c16
            refine z_aload_n C dX13_move_74 rfl ?_
            refine z_iconst (v := 0) C dX13_move_75 (by decide) ?_
            refine z_sipush (v := 756) C dX13_move_76 (by decide) ?_
            refine z_bipush (v := 28) C dX13_move_79 (by decide) ?_
            obtain ⟨S17, h17, hF⟩ := bV_some hF
            refine f_cV (st2 := []) C dX13_move_81 zyX13_copies zvX13_copies lkRX13_288 (K_X13_copies (l := zXl X) hT14 hpv0 hkv0    h17) hpv0 hkv0 rfl (by decide) rfl rfl (Nat.le_of_ble_eq_true rfl) rfl (fun hT17 => ?_)
            refine z_aload_n C dX13_move_84 rfl ?_
            refine z_sipush (v := 756) C dX13_move_85 (by decide) ?_
            refine z_iload_n C dX13_move_88 rfl ?_
            obtain ⟨x18, S18, h18, hF⟩ := bI_some hF
            refine f_cV (st2 := [.int x18]) C dX13_move_89 zyX13_offs zvX13_offs lkRX13_355 (K_X13_offs (l := zXl X) hT17 hpv0 hkv0   h18) hpv0 hkv0 rfl (by decide) rfl rfl (Nat.le_of_ble_eq_true rfl) rfl (fun hT18 => ?_)
            refine z_pop C dX13_move_92 rfl ?_
            refine z_aload_n C dX13_move_93 rfl ?_
            refine f_getr C dX13_move_94 zfRX13_119 hpv0 hkv0 rfl ?_
            obtain ⟨hp19, hk19⟩ := hT18.1 v0 11 22 (.inr (0, 828)) hpv0 hkv0 rfl
            refine z_sipush (v := 768) C dX13_move_97 (by decide) ?_
            refine z_iload C dX13_move_100 rfl ?_
            refine z_iadd C dX13_move_102 ?_
            refine z_aload_n C dX13_move_103 rfl ?_
            refine f_getr C dX13_move_104 zfRX13_119 hpv0 hkv0 rfl ?_
            obtain ⟨hp20, hk20⟩ := hT18.1 v0 11 22 (.inr (0, 828)) hpv0 hkv0 rfl
            refine z_bipush (v := 12) C dX13_move_107 (by decide) ?_
            refine z_iload_n C dX13_move_109 rfl ?_
            refine z_iadd C dX13_move_110 ?_
            obtain ⟨hi21, hF⟩ := bX_some hF
            obtain ⟨q21, eq21⟩ : ∃ q : Nat, q = Int32.toNatClampNeg ((12 : Int32) + v3) := ⟨_, rfl⟩
            rw [← eq21] at hF
            refine f_iald C dX13_move_111 hp20 hk20 hi21 ?_
            rw [← eq21]
            obtain ⟨hi22, hF⟩ := bX_some hF
            obtain ⟨q22, eq22⟩ : ∃ q : Nat, q = Int32.toNatClampNeg ((768 : Int32) + v4) := ⟨_, rfl⟩
            rw [← eq22] at hF
            refine f_iast C dX13_move_112 hp19 hk19 hi22 ?_
            rw [← eq22]
            have hT23 : zT0 kd N0 (sI S18 (gR S18 v0 22) q22 (gI S18 (gR S18 v0 22) q21)) := zT0_sI hT18
            replace hF := fS_e hF
            generalize sI S18 (gR S18 v0 22) q22 (gI S18 (gR S18 v0 22) q21) = S23 at hF hT23 ⊢
            refine z_aload_n C dX13_move_113 rfl ?_
            refine z_sipush (v := 756) C dX13_move_114 (by decide) ?_
            refine z_iconst (v := 0) C dX13_move_117 (by decide) ?_
            obtain ⟨S24, h24, hF⟩ := bV_some hF
            refine f_cV (st2 := []) C dX13_move_118 zyX13_allWalk zvX13_allWalk lkRX13_364 (K_X13_allWalk (l := zXl X) hT23 hpv0 hkv0   h24) hpv0 hkv0 rfl (by decide) rfl rfl (Nat.le_of_ble_eq_true rfl) rfl (fun hT24 => ?_)
            refine z_aload_n C dX13_move_121 rfl ?_
            refine z_sipush (v := 756) C dX13_move_122 (by decide) ?_
            obtain ⟨x25, S25, h25, hF⟩ := bI_some hF
            refine f_cV (st2 := [.int x25]) C dX13_move_125 zyX13_lyingIn zvX13_lyingIn lkRX13_299 (K_X13_lyingIn (l := zXl X) hT24 hpv0 hkv0  h25) hpv0 hkv0 rfl (by decide) rfl rfl (Nat.le_of_ble_eq_true rfl) rfl (fun hT25 => ?_)
            refine z_istore (lv2 := [some (.ref (zB G + v0)), some (.int v1), some (.int v2), some (.int v3), some (.int v4), some (.int x25)]) C dX13_move_128 (by decide) rfl ?_
            refine z_iload C dX13_move_130 rfl ?_
            refine z_iload_n C dX13_move_132 rfl ?_
            have hJ27 : zV G X (zQX G X (zPo G kd N0 res) 0 0) 6 [some (.ref (zB G + v0)), some (.int v1), some (.int v2), some (.int v3), some (.int v4), some (.int x25)] [.int (if v2 ≤ x25 then v1 else (((8 : Int32) * v3) + v4))] (cn G kd N0 S25) 147 0 0 := by
              refine z_istore_n (lv2 := [some (.ref (zB G + v0)), some (.int (if v2 ≤ x25 then v1 else (((8 : Int32) * v3) + v4))), some (.int v2), some (.int v3), some (.int v4), some (.int x25)]) C dX13_move_147 (by decide) rfl ?_
              refine z_iload C dX13_move_148 rfl ?_
              refine z_iload_n C dX13_move_150 rfl ?_
              have hJ29 : zV G X (zQX G X (zPo G kd N0 res) 0 0) 6 [some (.ref (zB G + v0)), some (.int (if v2 ≤ x25 then v1 else (((8 : Int32) * v3) + v4))), some (.int v2), some (.int v3), some (.int v4), some (.int x25)] [.int (if v2 ≤ x25 then v2 else x25)] (cn G kd N0 S25) 160 0 0 := by
                refine z_istore_n (lv2 := [some (.ref (zB G + v0)), some (.int (if v2 ≤ x25 then v1 else (((8 : Int32) * v3) + v4))), some (.int (if v2 ≤ x25 then v2 else x25)), some (.int v3), some (.int v4), some (.int x25)]) C dX13_move_160 (by decide) rfl ?_
                refine z_mask [true, true, true, true, true, false] ?_ rfl
                exact ih3 S25 v0 (if v2 ≤ x25 then v1 else (((8 : Int32) * v3) + v4)) (if v2 ≤ x25 then v2 else x25) v3 v4 res hT25 hpv0 hkv0     hF
              refine z_icmp_ge C 159 dX13_move_151 (by decide) (fun c28 => ?_) (fun c28 => ?_)
              · refine z_iload_n C dX13_move_159 rfl ?_
                exact zV.at hJ29 (by first | rfl | contradiction | (simp only [if_pos c28]; done)) (by first | rfl | contradiction | (simp only [if_pos c28]; done)) rfl rfl
              · refine z_iload C dX13_move_154 rfl ?_
                refine z_goto C 160 dX13_move_156 (by decide) ?_
                exact zV.at hJ29 (by first | rfl | contradiction | (simp only [if_neg c28]; done)) (by first | rfl | contradiction | (simp only [if_neg c28]; done)) rfl rfl
            refine z_icmp_ge C 146 dX13_move_133 (by decide) (fun c26 => ?_) (fun c26 => ?_)
            · refine z_iload_n C dX13_move_146 rfl ?_
              exact zV.at hJ27 (by first | rfl | contradiction | (simp only [if_pos c26]; done)) (by first | rfl | contradiction | (simp only [if_pos c26]; done)) rfl rfl
            · refine z_bipush (v := 8) C dX13_move_136 (by decide) ?_
              refine z_iload_n C dX13_move_138 rfl ?_
              refine z_imul C dX13_move_139 ?_
              refine z_iload C dX13_move_140 rfl ?_
              refine z_iadd C dX13_move_142 ?_
              refine z_goto C 147 dX13_move_143 (by decide) ?_
              exact zV.at hJ27 (by first | rfl | contradiction | (simp only [if_neg c26]; done)) (by first | rfl | contradiction | (simp only [if_neg c26]; done)) rfl rfl
    · intro S v0 v1 v2 v3 v4 res hT hpv0 hkv0 hF
      replace hF : F_X13_move_3 f (F_X13_move f) v0 v1 v2 v3 v4 S = some res := hF
      unfold F_X13_move_3 at hF
      refine z_iinc (v := v4 + 1) (lv2 := [some (.ref (zB G + v0)), some (.int v1), some (.int v2), some (.int v3), some (.int (v4 + 1)), none]) C dX13_move_161 rfl (by rw [show Int32.ofInt 1 = (1 : Int32) from by decide]) rfl ?_
      refine z_goto C 46 dX13_move_164 (by decide) ?_
      exact ih2 S v0 v1 v2 v3 (v4 + 1) res hT hpv0 hkv0     hF
theorem K_X13_move {G : zG} {l : Launch} {kd : kD} {N0 f : Nat} {S : aS} {v0 : Nat} {res : Option Value × aS} (hT : zT0 kd N0 S) (hpv0 : v0 < N0) (hkv0 : kd v0 = .inl 11) (hF : F_X13_move f 0 [.ref v0] S = some res) : zM G l 5 0 0 yX13_move cX13_move 6 (some .int) [.ref (zB G + v0)] (cn G kd N0 S) (zPo G kd N0 res) := zM.of (by decide) rfl (Nat.le_of_ble_eq_true rfl) (fun X _ C hr _ => (B_X13_move C hr f).1 S v0 res hT hpv0 hkv0 hF)
def F_X13_full_0 (f : Nat) (rc : Nat → List Value → aS → aR) (v0 : Nat) (S : aS) : aR :=
  fS (sI S v0 0 0) fun S1 => bV (F_X13_copies f 0 [.ref v0, .int 0, .int 756, .int 28] S1) fun S2 => rc 1 [.ref v0, .int 1] S2
def F_X13_full_1 (f : Nat) (rc : Nat → List Value → aS → aR) (v0 : Nat) (v1 : Int32) (S : aS) : aR :=
  if (40 : Int32) < v1 then some (some (.int ((-1))), S) else bV (F_X13_allWalk f 0 [.ref v0, .int 756, .int 0] S) fun S4 => rc 2 [.ref v0, .int v1, .int 1, .int 0] S4
def F_X13_full_2 (f : Nat) (rc : Nat → List Value → aS → aR) (v0 : Nat) (v1 : Int32) (v2 : Int32) (v3 : Int32) (S : aS) : aR :=
  bI (F_X13_yards f 0 [.ref v0] S) fun x5 S5 => if x5 ≤ v3 then if v2 = (0 : Int32) then bI (F_X13_passes f 0 [.ref v0, .int 756] S5) fun x10 S10 => rc 1 [.ref v0, .int (v1 + 1)] S10 else some (some (.int v1), S5) else if v2 = (0 : Int32) then rc 3 [.ref v0, .int v1, .int v3] S5 else bI (F_X13_hasRoom f 0 [.ref v0, .int 756, .int v3] S5) fun x13 S13 => lI (if x13 = (0 : Int32) then (1 : Int32) else (0 : Int32)) fun y16 => rc 2 [.ref v0, .int v1, .int y16, .int (v3 + 1)] S13
def F_X13_full_3 (f : Nat) (rc : Nat → List Value → aS → aR) (v0 : Nat) (v1 : Int32) (v2 : Int32) (S : aS) : aR :=
  rc 4 [.ref v0, .int v1, .int v2, .int 0] S
def F_X13_full_4 (f : Nat) (rc : Nat → List Value → aS → aR) (v0 : Nat) (v1 : Int32) (v2 : Int32) (w0 : Int32) (S : aS) : aR :=
  rc 2 [.ref v0, .int v1, .int w0, .int (v2 + 1)] S
def F_X13_full : Nat → Nat → List Value → aS → aR
  | 0, _, _, _ => none
  | f + 1, 0, vs, S => F_X13_full_0 f (F_X13_full f) (vR vs 0) S
  | f + 1, 1, vs, S => F_X13_full_1 f (F_X13_full f) (vR vs 0) (vI vs 1) S
  | f + 1, 2, vs, S => F_X13_full_2 f (F_X13_full f) (vR vs 0) (vI vs 1) (vI vs 2) (vI vs 3) S
  | f + 1, 3, vs, S => F_X13_full_3 f (F_X13_full f) (vR vs 0) (vI vs 1) (vI vs 2) S
  | f + 1, 4, vs, S => F_X13_full_4 f (F_X13_full f) (vR vs 0) (vI vs 1) (vI vs 2) (vI vs 3) S
  | _ + 1, _, _, _ => none
theorem dX13_full_0 : decode cX13_full 0 = .ok (.aload_n 0, 1) := by decide +kernel
theorem dX13_full_1 : decode cX13_full 1 = .ok (.iconst 0, 1) := by decide +kernel
theorem dX13_full_2 : decode cX13_full 2 = .ok (.putfield 1, 3) := by decide +kernel
theorem dX13_full_5 : decode cX13_full 5 = .ok (.aload_n 0, 1) := by decide +kernel
theorem dX13_full_6 : decode cX13_full 6 = .ok (.iconst 0, 1) := by decide +kernel
theorem dX13_full_7 : decode cX13_full 7 = .ok (.sipush 756, 3) := by decide +kernel
theorem dX13_full_10 : decode cX13_full 10 = .ok (.bipush 28, 2) := by decide +kernel
theorem dX13_full_12 : decode cX13_full 12 = .ok (.invokevirtual 288, 3) := by decide +kernel
theorem dX13_full_15 : decode cX13_full 15 = .ok (.iconst 1, 1) := by decide +kernel
theorem dX13_full_16 : decode cX13_full 16 = .ok (.istore_n 1, 1) := by decide +kernel
theorem dX13_full_17 : decode cX13_full 17 = .ok (.iload_n 1, 1) := by decide +kernel
theorem dX13_full_18 : decode cX13_full 18 = .ok (.bipush 40, 2) := by decide +kernel
theorem dX13_full_20 : decode cX13_full 20 = .ok (.if_icmp .gt 70, 3) := by decide +kernel
theorem dX13_full_23 : decode cX13_full 23 = .ok (.aload_n 0, 1) := by decide +kernel
theorem dX13_full_24 : decode cX13_full 24 = .ok (.sipush 756, 3) := by decide +kernel
theorem dX13_full_27 : decode cX13_full 27 = .ok (.iconst 0, 1) := by decide +kernel
theorem dX13_full_28 : decode cX13_full 28 = .ok (.invokevirtual 364, 3) := by decide +kernel
theorem dX13_full_31 : decode cX13_full 31 = .ok (.iconst 1, 1) := by decide +kernel
theorem dX13_full_32 : decode cX13_full 32 = .ok (.istore_n 2, 1) := by decide +kernel
theorem dX13_full_33 : decode cX13_full 33 = .ok (.iconst 0, 1) := by decide +kernel
theorem dX13_full_34 : decode cX13_full 34 = .ok (.istore_n 3, 1) := by decide +kernel
theorem dX13_full_35 : decode cX13_full 35 = .ok (.iload_n 3, 1) := by decide +kernel
theorem dX13_full_36 : decode cX13_full 36 = .ok (.aload_n 0, 1) := by decide +kernel
theorem dX13_full_37 : decode cX13_full 37 = .ok (.invokevirtual 279, 3) := by decide +kernel
theorem dX13_full_40 : decode cX13_full 40 = .ok (.if_icmp .ge 30, 3) := by decide +kernel
theorem dX13_full_43 : decode cX13_full 43 = .ok (.iload_n 2, 1) := by decide +kernel
theorem dX13_full_44 : decode cX13_full 44 = .ok (.ifCond .eq 18, 3) := by decide +kernel
theorem dX13_full_47 : decode cX13_full 47 = .ok (.aload_n 0, 1) := by decide +kernel
theorem dX13_full_48 : decode cX13_full 48 = .ok (.sipush 756, 3) := by decide +kernel
theorem dX13_full_51 : decode cX13_full 51 = .ok (.iload_n 3, 1) := by decide +kernel
theorem dX13_full_52 : decode cX13_full 52 = .ok (.invokevirtual 295, 3) := by decide +kernel
theorem dX13_full_55 : decode cX13_full 55 = .ok (.ifCond .ne 7, 3) := by decide +kernel
theorem dX13_full_58 : decode cX13_full 58 = .ok (.iconst 1, 1) := by decide +kernel
theorem dX13_full_59 : decode cX13_full 59 = .ok (.goto 4, 3) := by decide +kernel
theorem dX13_full_62 : decode cX13_full 62 = .ok (.iconst 0, 1) := by decide +kernel
theorem dX13_full_63 : decode cX13_full 63 = .ok (.istore_n 2, 1) := by decide +kernel
theorem dX13_full_64 : decode cX13_full 64 = .ok (.iinc 3 1, 3) := by decide +kernel
theorem dX13_full_67 : decode cX13_full 67 = .ok (.goto (-32), 3) := by decide +kernel
theorem dX13_full_70 : decode cX13_full 70 = .ok (.iload_n 2, 1) := by decide +kernel
theorem dX13_full_71 : decode cX13_full 71 = .ok (.ifCond .eq 5, 3) := by decide +kernel
theorem dX13_full_74 : decode cX13_full 74 = .ok (.iload_n 1, 1) := by decide +kernel
theorem dX13_full_75 : decode cX13_full 75 = .ok (.ireturn, 1) := by decide +kernel
theorem dX13_full_76 : decode cX13_full 76 = .ok (.aload_n 0, 1) := by decide +kernel
theorem dX13_full_77 : decode cX13_full 77 = .ok (.sipush 756, 3) := by decide +kernel
theorem dX13_full_80 : decode cX13_full 80 = .ok (.invokevirtual 358, 3) := by decide +kernel
theorem dX13_full_83 : decode cX13_full 83 = .ok (.pop, 1) := by decide +kernel
theorem dX13_full_84 : decode cX13_full 84 = .ok (.iinc 1 1, 3) := by decide +kernel
theorem dX13_full_87 : decode cX13_full 87 = .ok (.goto (-70), 3) := by decide +kernel
theorem dX13_full_90 : decode cX13_full 90 = .ok (.iconst (-1), 1) := by decide +kernel
theorem dX13_full_91 : decode cX13_full 91 = .ok (.ireturn, 1) := by decide +kernel
set_option maxHeartbeats 4000000 in
set_option maxRecDepth 100000 in
theorem B_X13_full {G : zG} {X : zX} {kd : kD} {N0 : Nat} (C : zCt G X 5 0 0 RX13 cX13_full 4) (hr : (zXh X).sig.returnType = (some .int)) : ∀ f : Nat,
    (∀ (S : aS) (v0 : Nat) (res : Option Value × aS), zT0 kd N0 S → v0 < N0 → kd v0 = .inl 11 → F_X13_full f 0 [.ref v0] S = some res → zV G X (zQX G X (zPo G kd N0 res) 0 0) 4 [some (.ref (zB G + v0)), none, none, none] [] (cn G kd N0 S) 0 0 0) ∧
    (∀ (S : aS) (v0 : Nat) (v1 : Int32) (res : Option Value × aS), zT0 kd N0 S → v0 < N0 → kd v0 = .inl 11 → F_X13_full f 1 [.ref v0, .int v1] S = some res → zV G X (zQX G X (zPo G kd N0 res) 0 0) 4 [some (.ref (zB G + v0)), some (.int v1), none, none] [] (cn G kd N0 S) 17 0 0) ∧
    (∀ (S : aS) (v0 : Nat) (v1 : Int32) (v2 : Int32) (v3 : Int32) (res : Option Value × aS), zT0 kd N0 S → v0 < N0 → kd v0 = .inl 11 → F_X13_full f 2 [.ref v0, .int v1, .int v2, .int v3] S = some res → zV G X (zQX G X (zPo G kd N0 res) 0 0) 4 [some (.ref (zB G + v0)), some (.int v1), some (.int v2), some (.int v3)] [] (cn G kd N0 S) 35 0 0) ∧
    (∀ (S : aS) (v0 : Nat) (v1 : Int32) (v2 : Int32) (res : Option Value × aS), zT0 kd N0 S → v0 < N0 → kd v0 = .inl 11 → F_X13_full f 3 [.ref v0, .int v1, .int v2] S = some res → zV G X (zQX G X (zPo G kd N0 res) 0 0) 4 [some (.ref (zB G + v0)), some (.int v1), none, some (.int v2)] [] (cn G kd N0 S) 62 0 0) ∧
    (∀ (S : aS) (v0 : Nat) (v1 : Int32) (v2 : Int32) (w0 : Int32) (res : Option Value × aS), zT0 kd N0 S → v0 < N0 → kd v0 = .inl 11 → F_X13_full f 4 [.ref v0, .int v1, .int v2, .int w0] S = some res → zV G X (zQX G X (zPo G kd N0 res) 0 0) 4 [some (.ref (zB G + v0)), some (.int v1), none, some (.int v2)] [.int w0] (cn G kd N0 S) 63 0 0) := by
  intro f
  induction f with
  | zero => exact ⟨(fun _ _ _ _ _ _ h => by cases h), (fun _ _ _ _ _ _ _ h => by cases h), (fun _ _ _ _ _ _ _ _ _ h => by cases h), (fun _ _ _ _ _ _ _ _ h => by cases h), (fun _ _ _ _ _ _ _ _ _ h => by cases h)⟩
  | succ f ih =>
    obtain ⟨ih0, ih1, ih2, ih3, ih4⟩ := ih
    refine ⟨?_, ?_, ?_, ?_, ?_⟩
    · intro S v0 res hT hpv0 hkv0 hF
      replace hF : F_X13_full_0 f (F_X13_full f) v0 S = some res := hF
      unfold F_X13_full_0 at hF
      refine z_aload_n C dX13_full_0 rfl ?_
      refine z_iconst (v := 0) C dX13_full_1 (by decide) ?_
      refine f_puti C dX13_full_2 zfRX13_1 fw11_0 hpv0 hkv0 rfl rfl rfl ?_
      have hT1 : zT0 kd N0 (sI S v0 0 0) := zT0_sI hT
      replace hF := fS_e hF
      generalize sI S v0 0 0 = S1 at hF hT1 ⊢
      refine z_aload_n C dX13_full_5 rfl ?_
      refine z_iconst (v := 0) C dX13_full_6 (by decide) ?_
      refine z_sipush (v := 756) C dX13_full_7 (by decide) ?_
      refine z_bipush (v := 28) C dX13_full_10 (by decide) ?_
      obtain ⟨S2, h2, hF⟩ := bV_some hF
      refine f_cV (st2 := []) C dX13_full_12 zyX13_copies zvX13_copies lkRX13_288 (K_X13_copies (l := zXl X) hT1 hpv0 hkv0    h2) hpv0 hkv0 rfl (by decide) rfl rfl (Nat.le_of_ble_eq_true rfl) rfl (fun hT2 => ?_)
      refine z_iconst (v := 1) C dX13_full_15 (by decide) ?_
      refine z_istore_n (lv2 := [some (.ref (zB G + v0)), some (.int 1), none, none]) C dX13_full_16 (by decide) rfl ?_
      exact ih1 S2 v0 1 res hT2 hpv0 hkv0  hF
    · intro S v0 v1 res hT hpv0 hkv0 hF
      replace hF : F_X13_full_1 f (F_X13_full f) v0 v1 S = some res := hF
      unfold F_X13_full_1 at hF
      refine z_iload_n C dX13_full_17 rfl ?_
      refine z_bipush (v := 40) C dX13_full_18 (by decide) ?_
      refine z_icmp_gt C 90 dX13_full_20 (by decide) (fun c3 => ?_) (fun c3 => ?_)
      · replace hF := ip hF c3
        refine z_iconst (v := (-1)) C dX13_full_90 (by decide) ?_
        cases hF
        exact z_iret C hr dX13_full_91 ⟨rfl, rfl, hT⟩
      · replace hF := im hF c3
        refine z_aload_n C dX13_full_23 rfl ?_
        refine z_sipush (v := 756) C dX13_full_24 (by decide) ?_
        refine z_iconst (v := 0) C dX13_full_27 (by decide) ?_
        obtain ⟨S4, h4, hF⟩ := bV_some hF
        refine f_cV (st2 := []) C dX13_full_28 zyX13_allWalk zvX13_allWalk lkRX13_364 (K_X13_allWalk (l := zXl X) hT hpv0 hkv0   h4) hpv0 hkv0 rfl (by decide) rfl rfl (Nat.le_of_ble_eq_true rfl) rfl (fun hT4 => ?_)
        refine z_iconst (v := 1) C dX13_full_31 (by decide) ?_
        refine z_istore_n (lv2 := [some (.ref (zB G + v0)), some (.int v1), some (.int 1), none]) C dX13_full_32 (by decide) rfl ?_
        refine z_iconst (v := 0) C dX13_full_33 (by decide) ?_
        refine z_istore_n (lv2 := [some (.ref (zB G + v0)), some (.int v1), some (.int 1), some (.int 0)]) C dX13_full_34 (by decide) rfl ?_
        exact ih2 S4 v0 v1 1 0 res hT4 hpv0 hkv0    hF
    · intro S v0 v1 v2 v3 res hT hpv0 hkv0 hF
      replace hF : F_X13_full_2 f (F_X13_full f) v0 v1 v2 v3 S = some res := hF
      unfold F_X13_full_2 at hF
      refine z_iload_n C dX13_full_35 rfl ?_
      refine z_aload_n C dX13_full_36 rfl ?_
      obtain ⟨x5, S5, h5, hF⟩ := bI_some hF
      refine f_cV (st2 := [.int x5, .int v3]) C dX13_full_37 zyX13_yards zvX13_yards lkRX13_279 (K_X13_yards (l := zXl X) hT hpv0 hkv0 h5) hpv0 hkv0 rfl (by decide) rfl rfl (Nat.le_of_ble_eq_true rfl) rfl (fun hT5 => ?_)
      refine z_icmp_ge C 70 dX13_full_40 (by decide) (fun c8 => ?_) (fun c8 => ?_)
      · replace hF := ip hF c8
        refine z_iload_n C dX13_full_70 rfl ?_
        refine z_if_eq C 76 dX13_full_71 (by decide) (fun c9 => ?_) (fun c9 => ?_)
        · replace hF := ip hF c9
          refine z_aload_n C dX13_full_76 rfl ?_
          refine z_sipush (v := 756) C dX13_full_77 (by decide) ?_
          obtain ⟨x10, S10, h10, hF⟩ := bI_some hF
          refine f_cV (st2 := [.int x10]) C dX13_full_80 zyX13_passes zvX13_passes lkRX13_358 (K_X13_passes (l := zXl X) hT5 hpv0 hkv0  h10) hpv0 hkv0 rfl (by decide) rfl rfl (Nat.le_of_ble_eq_true rfl) rfl (fun hT10 => ?_)
          refine z_pop C dX13_full_83 rfl ?_
          refine z_iinc (v := v1 + 1) (lv2 := [some (.ref (zB G + v0)), some (.int (v1 + 1)), some (.int v2), some (.int v3)]) C dX13_full_84 rfl (by rw [show Int32.ofInt 1 = (1 : Int32) from by decide]) rfl ?_
          refine z_goto C 17 dX13_full_87 (by decide) ?_
          refine z_mask [true, true, false, false] ?_ rfl
          exact ih1 S10 v0 (v1 + 1) res hT10 hpv0 hkv0  hF
        · replace hF := im hF c9
          refine z_iload_n C dX13_full_74 rfl ?_
          cases hF
          exact z_iret C hr dX13_full_75 ⟨rfl, rfl, hT5⟩
      · replace hF := im hF c8
        refine z_iload_n C dX13_full_43 rfl ?_
        refine z_if_eq C 62 dX13_full_44 (by decide) (fun c12 => ?_) (fun c12 => ?_)
        · replace hF := ip hF c12
          refine z_mask [true, true, false, true] ?_ rfl
          exact ih3 S5 v0 v1 v3 res hT5 hpv0 hkv0   hF
        · replace hF := im hF c12
          refine z_aload_n C dX13_full_47 rfl ?_
          refine z_sipush (v := 756) C dX13_full_48 (by decide) ?_
          refine z_iload_n C dX13_full_51 rfl ?_
          obtain ⟨x13, S13, h13, hF⟩ := bI_some hF
          refine f_cV (st2 := [.int x13]) C dX13_full_52 zyX13_hasRoom zvX13_hasRoom lkRX13_295 (K_X13_hasRoom (l := zXl X) hT5 hpv0 hkv0   h13) hpv0 hkv0 rfl (by decide) rfl rfl (Nat.le_of_ble_eq_true rfl) rfl (fun hT13 => ?_)
          have hJ15 : zV G X (zQX G X (zPo G kd N0 res) 0 0) 4 [some (.ref (zB G + v0)), some (.int v1), some (.int v2), some (.int v3)] [.int (if x13 = (0 : Int32) then (1 : Int32) else (0 : Int32))] (cn G kd N0 S13) 63 0 0 := by
            replace hF := lI_e hF
            generalize (if x13 = (0 : Int32) then (1 : Int32) else (0 : Int32)) = y16 at hF ⊢
            refine z_istore_n (lv2 := [some (.ref (zB G + v0)), some (.int v1), some (.int y16), some (.int v3)]) C dX13_full_63 (by decide) rfl ?_
            refine z_iinc (v := v3 + 1) (lv2 := [some (.ref (zB G + v0)), some (.int v1), some (.int y16), some (.int (v3 + 1))]) C dX13_full_64 rfl (by rw [show Int32.ofInt 1 = (1 : Int32) from by decide]) rfl ?_
            refine z_goto C 35 dX13_full_67 (by decide) ?_
            exact ih2 S13 v0 v1 y16 (v3 + 1) res hT13 hpv0 hkv0    hF
          refine z_if_ne C 62 dX13_full_55 (by decide) (fun c14 => ?_) (fun c14 => ?_)
          · refine z_iconst (v := 0) C dX13_full_62 (by decide) ?_
            exact zV.at hJ15 (by first | rfl | contradiction | (simp only [if_neg c14]; done)) (by first | rfl | contradiction | (simp only [if_neg c14]; done)) rfl rfl
          · refine z_iconst (v := 1) C dX13_full_58 (by decide) ?_
            refine z_goto C 63 dX13_full_59 (by decide) ?_
            exact zV.at hJ15 (by first | rfl | contradiction | (simp only [if_pos c14]; done)) (by first | rfl | contradiction | (simp only [if_pos c14]; done)) rfl rfl
    · intro S v0 v1 v2 res hT hpv0 hkv0 hF
      replace hF : F_X13_full_3 f (F_X13_full f) v0 v1 v2 S = some res := hF
      unfold F_X13_full_3 at hF
      refine z_iconst (v := 0) C dX13_full_62 (by decide) ?_
      exact ih4 S v0 v1 v2 0 res hT hpv0 hkv0    hF
    · intro S v0 v1 v2 w0 res hT hpv0 hkv0 hF
      replace hF : F_X13_full_4 f (F_X13_full f) v0 v1 v2 w0 S = some res := hF
      unfold F_X13_full_4 at hF
      refine z_istore_n (lv2 := [some (.ref (zB G + v0)), some (.int v1), some (.int w0), some (.int v2)]) C dX13_full_63 (by decide) rfl ?_
      refine z_iinc (v := v2 + 1) (lv2 := [some (.ref (zB G + v0)), some (.int v1), some (.int w0), some (.int (v2 + 1))]) C dX13_full_64 rfl (by rw [show Int32.ofInt 1 = (1 : Int32) from by decide]) rfl ?_
      refine z_goto C 35 dX13_full_67 (by decide) ?_
      exact ih2 S v0 v1 w0 (v2 + 1) res hT hpv0 hkv0    hF
theorem K_X13_full {G : zG} {l : Launch} {kd : kD} {N0 f : Nat} {S : aS} {v0 : Nat} {res : Option Value × aS} (hT : zT0 kd N0 S) (hpv0 : v0 < N0) (hkv0 : kd v0 = .inl 11) (hF : F_X13_full f 0 [.ref v0] S = some res) : zM G l 5 0 0 yX13_full cX13_full 4 (some .int) [.ref (zB G + v0)] (cn G kd N0 S) (zPo G kd N0 res) := zM.of (by decide) rfl (Nat.le_of_ble_eq_true rfl) (fun X _ C hr _ => (B_X13_full C hr f).1 S v0 res hT hpv0 hkv0 hF)
def F_X13_lyingBehind_0 (f : Nat) (rc : Nat → List Value → aS → aR) (v0 : Nat) (v1 : Int32) (v2 : Int32) (S : aS) : aR :=
  bV (F_X13_copies f 0 [.ref v0, .int 0, .int 756, .int 28] S) fun S1 => rc 1 [.ref v0, .int v1, .int v2, .int 0] S1
def F_X13_lyingBehind_1 (f : Nat) (rc : Nat → List Value → aS → aR) (v0 : Nat) (v1 : Int32) (v2 : Int32) (v3 : Int32) (S : aS) : aR :=
  if v1 ≤ v3 then bI (F_X13_lyingIn f 0 [.ref v0, .int 756] S) fun x4 S4 => some (some (.int x4), S4) else rc 2 [.ref v0, .int v1, .int v2, .int v3, .int 0] S
def F_X13_lyingBehind_2 (f : Nat) (rc : Nat → List Value → aS → aR) (v0 : Nat) (v1 : Int32) (v2 : Int32) (v3 : Int32) (v4 : Int32) (S : aS) : aR :=
  bI (F_X13_yards f 0 [.ref v0] S) fun x5 S5 => if x5 ≤ v4 then rc 3 [.ref v0, .int v1, .int v2, .int v3] S5 else if ((v2 >>> (v3 &&& 31)) &&& (1 : Int32)) = (1 : Int32) then bX ((776 : Int32) + v4) 828 fun q14 => fS (sI S5 (gR S5 v0 22) q14 0) fun S15 => rc 2 [.ref v0, .int v1, .int v2, .int v3, .int (v4 + 1)] S15 else rc 3 [.ref v0, .int v1, .int v2, .int v3] S5
def F_X13_lyingBehind_3 (f : Nat) (rc : Nat → List Value → aS → aR) (v0 : Nat) (v1 : Int32) (v2 : Int32) (v3 : Int32) (S : aS) : aR :=
  bV (F_X13_allWalk f 0 [.ref v0, .int 756, .int 0] S) fun S16 => bI (F_X13_passes f 0 [.ref v0, .int 756] S16) fun x17 S17 => rc 1 [.ref v0, .int v1, .int v2, .int (v3 + 1)] S17
def F_X13_lyingBehind : Nat → Nat → List Value → aS → aR
  | 0, _, _, _ => none
  | f + 1, 0, vs, S => F_X13_lyingBehind_0 f (F_X13_lyingBehind f) (vR vs 0) (vI vs 1) (vI vs 2) S
  | f + 1, 1, vs, S => F_X13_lyingBehind_1 f (F_X13_lyingBehind f) (vR vs 0) (vI vs 1) (vI vs 2) (vI vs 3) S
  | f + 1, 2, vs, S => F_X13_lyingBehind_2 f (F_X13_lyingBehind f) (vR vs 0) (vI vs 1) (vI vs 2) (vI vs 3) (vI vs 4) S
  | f + 1, 3, vs, S => F_X13_lyingBehind_3 f (F_X13_lyingBehind f) (vR vs 0) (vI vs 1) (vI vs 2) (vI vs 3) S
  | _ + 1, _, _, _ => none
theorem dX13_lyingBehind_0 : decode cX13_lyingBehind 0 = .ok (.aload_n 0, 1) := by decide +kernel
theorem dX13_lyingBehind_1 : decode cX13_lyingBehind 1 = .ok (.iconst 0, 1) := by decide +kernel
theorem dX13_lyingBehind_2 : decode cX13_lyingBehind 2 = .ok (.sipush 756, 3) := by decide +kernel
theorem dX13_lyingBehind_5 : decode cX13_lyingBehind 5 = .ok (.bipush 28, 2) := by decide +kernel
theorem dX13_lyingBehind_7 : decode cX13_lyingBehind 7 = .ok (.invokevirtual 288, 3) := by decide +kernel
theorem dX13_lyingBehind_10 : decode cX13_lyingBehind 10 = .ok (.iconst 0, 1) := by decide +kernel
theorem dX13_lyingBehind_11 : decode cX13_lyingBehind 11 = .ok (.istore_n 3, 1) := by decide +kernel
theorem dX13_lyingBehind_12 : decode cX13_lyingBehind 12 = .ok (.iload_n 3, 1) := by decide +kernel
theorem dX13_lyingBehind_13 : decode cX13_lyingBehind 13 = .ok (.iload_n 1, 1) := by decide +kernel
theorem dX13_lyingBehind_14 : decode cX13_lyingBehind 14 = .ok (.if_icmp .ge 64, 3) := by decide +kernel
theorem dX13_lyingBehind_17 : decode cX13_lyingBehind 17 = .ok (.iconst 0, 1) := by decide +kernel
theorem dX13_lyingBehind_18 : decode cX13_lyingBehind 18 = .ok (.istore 4, 2) := by decide +kernel
theorem dX13_lyingBehind_20 : decode cX13_lyingBehind 20 = .ok (.iload 4, 2) := by decide +kernel
theorem dX13_lyingBehind_22 : decode cX13_lyingBehind 22 = .ok (.aload_n 0, 1) := by decide +kernel
theorem dX13_lyingBehind_23 : decode cX13_lyingBehind 23 = .ok (.invokevirtual 279, 3) := by decide +kernel
theorem dX13_lyingBehind_26 : decode cX13_lyingBehind 26 = .ok (.if_icmp .ge 30, 3) := by decide +kernel
theorem dX13_lyingBehind_29 : decode cX13_lyingBehind 29 = .ok (.iload_n 2, 1) := by decide +kernel
theorem dX13_lyingBehind_30 : decode cX13_lyingBehind 30 = .ok (.iload_n 3, 1) := by decide +kernel
theorem dX13_lyingBehind_31 : decode cX13_lyingBehind 31 = .ok (.ishr, 1) := by decide +kernel
theorem dX13_lyingBehind_32 : decode cX13_lyingBehind 32 = .ok (.iconst 1, 1) := by decide +kernel
theorem dX13_lyingBehind_33 : decode cX13_lyingBehind 33 = .ok (.iand, 1) := by decide +kernel
theorem dX13_lyingBehind_34 : decode cX13_lyingBehind 34 = .ok (.iconst 1, 1) := by decide +kernel
theorem dX13_lyingBehind_35 : decode cX13_lyingBehind 35 = .ok (.if_icmp .ne 21, 3) := by decide +kernel
theorem dX13_lyingBehind_38 : decode cX13_lyingBehind 38 = .ok (.aload_n 0, 1) := by decide +kernel
theorem dX13_lyingBehind_39 : decode cX13_lyingBehind 39 = .ok (.getfield 119, 3) := by decide +kernel
theorem dX13_lyingBehind_42 : decode cX13_lyingBehind 42 = .ok (.sipush 776, 3) := by decide +kernel
theorem dX13_lyingBehind_45 : decode cX13_lyingBehind 45 = .ok (.iload 4, 2) := by decide +kernel
theorem dX13_lyingBehind_47 : decode cX13_lyingBehind 47 = .ok (.iadd, 1) := by decide +kernel
theorem dX13_lyingBehind_48 : decode cX13_lyingBehind 48 = .ok (.iconst 0, 1) := by decide +kernel
theorem dX13_lyingBehind_49 : decode cX13_lyingBehind 49 = .ok (.iastore, 1) := by decide +kernel
theorem dX13_lyingBehind_50 : decode cX13_lyingBehind 50 = .ok (.iinc 4 1, 3) := by decide +kernel
theorem dX13_lyingBehind_53 : decode cX13_lyingBehind 53 = .ok (.goto (-33), 3) := by decide +kernel
theorem dX13_lyingBehind_56 : decode cX13_lyingBehind 56 = .ok (.aload_n 0, 1) := by decide +kernel
theorem dX13_lyingBehind_57 : decode cX13_lyingBehind 57 = .ok (.sipush 756, 3) := by decide +kernel
theorem dX13_lyingBehind_60 : decode cX13_lyingBehind 60 = .ok (.iconst 0, 1) := by decide +kernel
theorem dX13_lyingBehind_61 : decode cX13_lyingBehind 61 = .ok (.invokevirtual 364, 3) := by decide +kernel
theorem dX13_lyingBehind_64 : decode cX13_lyingBehind 64 = .ok (.aload_n 0, 1) := by decide +kernel
theorem dX13_lyingBehind_65 : decode cX13_lyingBehind 65 = .ok (.sipush 756, 3) := by decide +kernel
theorem dX13_lyingBehind_68 : decode cX13_lyingBehind 68 = .ok (.invokevirtual 358, 3) := by decide +kernel
theorem dX13_lyingBehind_71 : decode cX13_lyingBehind 71 = .ok (.pop, 1) := by decide +kernel
theorem dX13_lyingBehind_72 : decode cX13_lyingBehind 72 = .ok (.iinc 3 1, 3) := by decide +kernel
theorem dX13_lyingBehind_75 : decode cX13_lyingBehind 75 = .ok (.goto (-63), 3) := by decide +kernel
theorem dX13_lyingBehind_78 : decode cX13_lyingBehind 78 = .ok (.aload_n 0, 1) := by decide +kernel
theorem dX13_lyingBehind_79 : decode cX13_lyingBehind 79 = .ok (.sipush 756, 3) := by decide +kernel
theorem dX13_lyingBehind_82 : decode cX13_lyingBehind 82 = .ok (.invokevirtual 299, 3) := by decide +kernel
theorem dX13_lyingBehind_85 : decode cX13_lyingBehind 85 = .ok (.ireturn, 1) := by decide +kernel
set_option maxHeartbeats 4000000 in
set_option maxRecDepth 100000 in
theorem B_X13_lyingBehind {G : zG} {X : zX} {kd : kD} {N0 : Nat} (C : zCt G X 5 0 0 RX13 cX13_lyingBehind 5) (hr : (zXh X).sig.returnType = (some .int)) : ∀ f : Nat,
    (∀ (S : aS) (v0 : Nat) (v1 : Int32) (v2 : Int32) (res : Option Value × aS), zT0 kd N0 S → v0 < N0 → kd v0 = .inl 11 → F_X13_lyingBehind f 0 [.ref v0, .int v1, .int v2] S = some res → zV G X (zQX G X (zPo G kd N0 res) 0 0) 5 [some (.ref (zB G + v0)), some (.int v1), some (.int v2), none, none] [] (cn G kd N0 S) 0 0 0) ∧
    (∀ (S : aS) (v0 : Nat) (v1 : Int32) (v2 : Int32) (v3 : Int32) (res : Option Value × aS), zT0 kd N0 S → v0 < N0 → kd v0 = .inl 11 → F_X13_lyingBehind f 1 [.ref v0, .int v1, .int v2, .int v3] S = some res → zV G X (zQX G X (zPo G kd N0 res) 0 0) 5 [some (.ref (zB G + v0)), some (.int v1), some (.int v2), some (.int v3), none] [] (cn G kd N0 S) 12 0 0) ∧
    (∀ (S : aS) (v0 : Nat) (v1 : Int32) (v2 : Int32) (v3 : Int32) (v4 : Int32) (res : Option Value × aS), zT0 kd N0 S → v0 < N0 → kd v0 = .inl 11 → F_X13_lyingBehind f 2 [.ref v0, .int v1, .int v2, .int v3, .int v4] S = some res → zV G X (zQX G X (zPo G kd N0 res) 0 0) 5 [some (.ref (zB G + v0)), some (.int v1), some (.int v2), some (.int v3), some (.int v4)] [] (cn G kd N0 S) 20 0 0) ∧
    (∀ (S : aS) (v0 : Nat) (v1 : Int32) (v2 : Int32) (v3 : Int32) (res : Option Value × aS), zT0 kd N0 S → v0 < N0 → kd v0 = .inl 11 → F_X13_lyingBehind f 3 [.ref v0, .int v1, .int v2, .int v3] S = some res → zV G X (zQX G X (zPo G kd N0 res) 0 0) 5 [some (.ref (zB G + v0)), some (.int v1), some (.int v2), some (.int v3), none] [] (cn G kd N0 S) 56 0 0) := by
  intro f
  induction f with
  | zero => exact ⟨(fun _ _ _ _ _ _ _ _ h => by cases h), (fun _ _ _ _ _ _ _ _ _ h => by cases h), (fun _ _ _ _ _ _ _ _ _ _ h => by cases h), (fun _ _ _ _ _ _ _ _ _ h => by cases h)⟩
  | succ f ih =>
    obtain ⟨ih0, ih1, ih2, ih3⟩ := ih
    refine ⟨?_, ?_, ?_, ?_⟩
    · intro S v0 v1 v2 res hT hpv0 hkv0 hF
      replace hF : F_X13_lyingBehind_0 f (F_X13_lyingBehind f) v0 v1 v2 S = some res := hF
      unfold F_X13_lyingBehind_0 at hF
      refine z_aload_n C dX13_lyingBehind_0 rfl ?_
      refine z_iconst (v := 0) C dX13_lyingBehind_1 (by decide) ?_
      refine z_sipush (v := 756) C dX13_lyingBehind_2 (by decide) ?_
      refine z_bipush (v := 28) C dX13_lyingBehind_5 (by decide) ?_
      obtain ⟨S1, h1, hF⟩ := bV_some hF
      refine f_cV (st2 := []) C dX13_lyingBehind_7 zyX13_copies zvX13_copies lkRX13_288 (K_X13_copies (l := zXl X) hT hpv0 hkv0    h1) hpv0 hkv0 rfl (by decide) rfl rfl (Nat.le_of_ble_eq_true rfl) rfl (fun hT1 => ?_)
      refine z_iconst (v := 0) C dX13_lyingBehind_10 (by decide) ?_
      refine z_istore_n (lv2 := [some (.ref (zB G + v0)), some (.int v1), some (.int v2), some (.int 0), none]) C dX13_lyingBehind_11 (by decide) rfl ?_
      exact ih1 S1 v0 v1 v2 0 res hT1 hpv0 hkv0    hF
    · intro S v0 v1 v2 v3 res hT hpv0 hkv0 hF
      replace hF : F_X13_lyingBehind_1 f (F_X13_lyingBehind f) v0 v1 v2 v3 S = some res := hF
      unfold F_X13_lyingBehind_1 at hF
      refine z_iload_n C dX13_lyingBehind_12 rfl ?_
      refine z_iload_n C dX13_lyingBehind_13 rfl ?_
      refine z_icmp_ge C 78 dX13_lyingBehind_14 (by decide) (fun c3 => ?_) (fun c3 => ?_)
      · replace hF := ip hF c3
        refine z_aload_n C dX13_lyingBehind_78 rfl ?_
        refine z_sipush (v := 756) C dX13_lyingBehind_79 (by decide) ?_
        obtain ⟨x4, S4, h4, hF⟩ := bI_some hF
        refine f_cV (st2 := [.int x4]) C dX13_lyingBehind_82 zyX13_lyingIn zvX13_lyingIn lkRX13_299 (K_X13_lyingIn (l := zXl X) hT hpv0 hkv0  h4) hpv0 hkv0 rfl (by decide) rfl rfl (Nat.le_of_ble_eq_true rfl) rfl (fun hT4 => ?_)
        cases hF
        exact z_iret C hr dX13_lyingBehind_85 ⟨rfl, rfl, hT4⟩
      · replace hF := im hF c3
        refine z_iconst (v := 0) C dX13_lyingBehind_17 (by decide) ?_
        refine z_istore (lv2 := [some (.ref (zB G + v0)), some (.int v1), some (.int v2), some (.int v3), some (.int 0)]) C dX13_lyingBehind_18 (by decide) rfl ?_
        exact ih2 S v0 v1 v2 v3 0 res hT hpv0 hkv0     hF
    · intro S v0 v1 v2 v3 v4 res hT hpv0 hkv0 hF
      replace hF : F_X13_lyingBehind_2 f (F_X13_lyingBehind f) v0 v1 v2 v3 v4 S = some res := hF
      unfold F_X13_lyingBehind_2 at hF
      refine z_iload C dX13_lyingBehind_20 rfl ?_
      refine z_aload_n C dX13_lyingBehind_22 rfl ?_
      obtain ⟨x5, S5, h5, hF⟩ := bI_some hF
      refine f_cV (st2 := [.int x5, .int v4]) C dX13_lyingBehind_23 zyX13_yards zvX13_yards lkRX13_279 (K_X13_yards (l := zXl X) hT hpv0 hkv0 h5) hpv0 hkv0 rfl (by decide) rfl rfl (Nat.le_of_ble_eq_true rfl) rfl (fun hT5 => ?_)
      refine z_icmp_ge C 56 dX13_lyingBehind_26 (by decide) (fun c9 => ?_) (fun c9 => ?_)
      · replace hF := ip hF c9
        refine z_mask [true, true, true, true, false] ?_ rfl
        exact ih3 S5 v0 v1 v2 v3 res hT5 hpv0 hkv0    hF
      · replace hF := im hF c9
        refine z_iload_n C dX13_lyingBehind_29 rfl ?_
        refine z_iload_n C dX13_lyingBehind_30 rfl ?_
        refine z_ishr C dX13_lyingBehind_31 ?_
        refine z_iconst (v := 1) C dX13_lyingBehind_32 (by decide) ?_
        refine z_iand C dX13_lyingBehind_33 ?_
        refine z_iconst (v := 1) C dX13_lyingBehind_34 (by decide) ?_
        refine z_icmp_ne C 56 dX13_lyingBehind_35 (by decide) (fun c12 => ?_) (fun c12 => ?_)
        · replace hF := im hF c12
          refine z_mask [true, true, true, true, false] ?_ rfl
          exact ih3 S5 v0 v1 v2 v3 res hT5 hpv0 hkv0    hF
        · replace hF := ip hF c12
          refine z_aload_n C dX13_lyingBehind_38 rfl ?_
          refine f_getr C dX13_lyingBehind_39 zfRX13_119 hpv0 hkv0 rfl ?_
          obtain ⟨hp13, hk13⟩ := hT5.1 v0 11 22 (.inr (0, 828)) hpv0 hkv0 rfl
          refine z_sipush (v := 776) C dX13_lyingBehind_42 (by decide) ?_
          refine z_iload C dX13_lyingBehind_45 rfl ?_
          refine z_iadd C dX13_lyingBehind_47 ?_
          refine z_iconst (v := 0) C dX13_lyingBehind_48 (by decide) ?_
          obtain ⟨hi14, hF⟩ := bX_some hF
          obtain ⟨q14, eq14⟩ : ∃ q : Nat, q = Int32.toNatClampNeg ((776 : Int32) + v4) := ⟨_, rfl⟩
          rw [← eq14] at hF
          refine f_iast C dX13_lyingBehind_49 hp13 hk13 hi14 ?_
          rw [← eq14]
          have hT15 : zT0 kd N0 (sI S5 (gR S5 v0 22) q14 0) := zT0_sI hT5
          replace hF := fS_e hF
          generalize sI S5 (gR S5 v0 22) q14 0 = S15 at hF hT15 ⊢
          refine z_iinc (v := v4 + 1) (lv2 := [some (.ref (zB G + v0)), some (.int v1), some (.int v2), some (.int v3), some (.int (v4 + 1))]) C dX13_lyingBehind_50 rfl (by rw [show Int32.ofInt 1 = (1 : Int32) from by decide]) rfl ?_
          refine z_goto C 20 dX13_lyingBehind_53 (by decide) ?_
          exact ih2 S15 v0 v1 v2 v3 (v4 + 1) res hT15 hpv0 hkv0     hF
    · intro S v0 v1 v2 v3 res hT hpv0 hkv0 hF
      replace hF : F_X13_lyingBehind_3 f (F_X13_lyingBehind f) v0 v1 v2 v3 S = some res := hF
      unfold F_X13_lyingBehind_3 at hF
      refine z_aload_n C dX13_lyingBehind_56 rfl ?_
      refine z_sipush (v := 756) C dX13_lyingBehind_57 (by decide) ?_
      refine z_iconst (v := 0) C dX13_lyingBehind_60 (by decide) ?_
      obtain ⟨S16, h16, hF⟩ := bV_some hF
      refine f_cV (st2 := []) C dX13_lyingBehind_61 zyX13_allWalk zvX13_allWalk lkRX13_364 (K_X13_allWalk (l := zXl X) hT hpv0 hkv0   h16) hpv0 hkv0 rfl (by decide) rfl rfl (Nat.le_of_ble_eq_true rfl) rfl (fun hT16 => ?_)
      refine z_aload_n C dX13_lyingBehind_64 rfl ?_
      refine z_sipush (v := 756) C dX13_lyingBehind_65 (by decide) ?_
      obtain ⟨x17, S17, h17, hF⟩ := bI_some hF
      refine f_cV (st2 := [.int x17]) C dX13_lyingBehind_68 zyX13_passes zvX13_passes lkRX13_358 (K_X13_passes (l := zXl X) hT16 hpv0 hkv0  h17) hpv0 hkv0 rfl (by decide) rfl rfl (Nat.le_of_ble_eq_true rfl) rfl (fun hT17 => ?_)
      refine z_pop C dX13_lyingBehind_71 rfl ?_
      refine z_iinc (v := v3 + 1) (lv2 := [some (.ref (zB G + v0)), some (.int v1), some (.int v2), some (.int (v3 + 1)), none]) C dX13_lyingBehind_72 rfl (by rw [show Int32.ofInt 1 = (1 : Int32) from by decide]) rfl ?_
      refine z_goto C 12 dX13_lyingBehind_75 (by decide) ?_
      exact ih1 S17 v0 v1 v2 (v3 + 1) res hT17 hpv0 hkv0    hF
theorem K_X13_lyingBehind {G : zG} {l : Launch} {kd : kD} {N0 f : Nat} {S : aS} {v0 : Nat} {v1 : Int32} {v2 : Int32} {res : Option Value × aS} (hT : zT0 kd N0 S) (hpv0 : v0 < N0) (hkv0 : kd v0 = .inl 11) (hF : F_X13_lyingBehind f 0 [.ref v0, .int v1, .int v2] S = some res) : zM G l 5 0 0 yX13_lyingBehind cX13_lyingBehind 5 (some .int) [.ref (zB G + v0), .int v1, .int v2] (cn G kd N0 S) (zPo G kd N0 res) := zM.of (by decide) rfl (Nat.le_of_ble_eq_true rfl) (fun X _ C hr _ => (B_X13_lyingBehind C hr f).1 S v0 v1 v2 res hT hpv0 hkv0 hF)
def F_X13_rounds_0 (f : Nat) (rc : Nat → List Value → aS → aR) (v0 : Nat) (v1 : Int32) (v2 : Int32) (v3 : Int32) (S : aS) : aR :=
  fS (sI S v0 0 0) fun S1 => bI (F_X13_within f 0 [.int v1, .int 1, .int 6] S1) fun x2 S2 => if x2 = (0 : Int32) then rc 1 [] S2 else bI (F_X13_within f 0 [.int v2, .int 0, .int 6] S2) fun x4 S4 => if x4 = (0 : Int32) then rc 1 [] S4 else bI (F_X13_within f 0 [.int v3, .int 0, .int 1] S4) fun x6 S6 => if x6 = (0 : Int32) then rc 1 [] S6 else rc 2 [.ref v0, .int v1, .int v2, .int v3, .int ((-1)), .int 0, .int 0] S6
def F_X13_rounds_1 (f : Nat) (rc : Nat → List Value → aS → aR)  (S : aS) : aR :=
  some (some (.int ((-1))), S)
def F_X13_rounds_2 (f : Nat) (rc : Nat → List Value → aS → aR) (v0 : Nat) (v1 : Int32) (v2 : Int32) (v3 : Int32) (v4 : Int32) (v5 : Int32) (v6 : Int32) (S : aS) : aR :=
  if ((1 : Int32) <<< (v1 &&& 31)) ≤ v6 then some (some (.int (if v3 = (0 : Int32) then v5 else v4)), S) else bI (F_X13_bits f 0 [.int v6] S) fun x12 S12 => if v2 < x12 then rc 3 [.ref v0, .int v1, .int v2, .int v3, .int v4, .int v5, .int v6] S12 else bI (F_X13_lyingBehind f 0 [.ref v0, .int v1, .int v6] S12) fun x15 S15 => if v4 < (0 : Int32) then rc 4 [.ref v0, .int v1, .int v2, .int v3, .int v4, .int v5, .int v6, .int x15] S15 else if x15 < v5 then rc 4 [.ref v0, .int v1, .int v2, .int v3, .int v4, .int v5, .int v6, .int x15] S15 else if x15 = v5 then bI (F_X13_bits f 0 [.int v6] S15) fun x25 S25 => bI (F_X13_bits f 0 [.int v4] S25) fun x26 S26 => lI (if (if x26 ≤ x25 then (0 : Int32) else (1 : Int32)) = (0 : Int32) then v4 else v6) fun y31 => lI (if (if x26 ≤ x25 then (0 : Int32) else (1 : Int32)) = (0 : Int32) then v5 else x15) fun y34 => rc 3 [.ref v0, .int v1, .int v2, .int v3, .int y31, .int y34, .int v6] S26 else rc 5 [.ref v0, .int v1, .int v2, .int v3, .int v4, .int v5, .int v6, .int x15] S15
def F_X13_rounds_3 (f : Nat) (rc : Nat → List Value → aS → aR) (v0 : Nat) (v1 : Int32) (v2 : Int32) (v3 : Int32) (v4 : Int32) (v5 : Int32) (v6 : Int32) (S : aS) : aR :=
  rc 2 [.ref v0, .int v1, .int v2, .int v3, .int v4, .int v5, .int (v6 + 1)] S
def F_X13_rounds_4 (f : Nat) (rc : Nat → List Value → aS → aR) (v0 : Nat) (v1 : Int32) (v2 : Int32) (v3 : Int32) (v4 : Int32) (v5 : Int32) (v6 : Int32) (v7 : Int32) (S : aS) : aR :=
  rc 6 [.ref v0, .int v1, .int v2, .int v3, .int v4, .int v5, .int v6, .int v7, .int 1] S
def F_X13_rounds_5 (f : Nat) (rc : Nat → List Value → aS → aR) (v0 : Nat) (v1 : Int32) (v2 : Int32) (v3 : Int32) (v4 : Int32) (v5 : Int32) (v6 : Int32) (v7 : Int32) (S : aS) : aR :=
  rc 6 [.ref v0, .int v1, .int v2, .int v3, .int v4, .int v5, .int v6, .int v7, .int 0] S
def F_X13_rounds_6 (f : Nat) (rc : Nat → List Value → aS → aR) (v0 : Nat) (v1 : Int32) (v2 : Int32) (v3 : Int32) (v4 : Int32) (v5 : Int32) (v6 : Int32) (v7 : Int32) (w0 : Int32) (S : aS) : aR :=
  rc 3 [.ref v0, .int v1, .int v2, .int v3, .int (if w0 = (0 : Int32) then v4 else v6), .int (if w0 = (0 : Int32) then v5 else v7), .int v6] S
def F_X13_rounds : Nat → Nat → List Value → aS → aR
  | 0, _, _, _ => none
  | f + 1, 0, vs, S => F_X13_rounds_0 f (F_X13_rounds f) (vR vs 0) (vI vs 1) (vI vs 2) (vI vs 3) S
  | f + 1, 1, vs, S => F_X13_rounds_1 f (F_X13_rounds f)  S
  | f + 1, 2, vs, S => F_X13_rounds_2 f (F_X13_rounds f) (vR vs 0) (vI vs 1) (vI vs 2) (vI vs 3) (vI vs 4) (vI vs 5) (vI vs 6) S
  | f + 1, 3, vs, S => F_X13_rounds_3 f (F_X13_rounds f) (vR vs 0) (vI vs 1) (vI vs 2) (vI vs 3) (vI vs 4) (vI vs 5) (vI vs 6) S
  | f + 1, 4, vs, S => F_X13_rounds_4 f (F_X13_rounds f) (vR vs 0) (vI vs 1) (vI vs 2) (vI vs 3) (vI vs 4) (vI vs 5) (vI vs 6) (vI vs 7) S
  | f + 1, 5, vs, S => F_X13_rounds_5 f (F_X13_rounds f) (vR vs 0) (vI vs 1) (vI vs 2) (vI vs 3) (vI vs 4) (vI vs 5) (vI vs 6) (vI vs 7) S
  | f + 1, 6, vs, S => F_X13_rounds_6 f (F_X13_rounds f) (vR vs 0) (vI vs 1) (vI vs 2) (vI vs 3) (vI vs 4) (vI vs 5) (vI vs 6) (vI vs 7) (vI vs 8) S
  | _ + 1, _, _, _ => none
theorem dX13_rounds_0 : decode cX13_rounds 0 = .ok (.aload_n 0, 1) := by decide +kernel
theorem dX13_rounds_1 : decode cX13_rounds 1 = .ok (.iconst 0, 1) := by decide +kernel
theorem dX13_rounds_2 : decode cX13_rounds 2 = .ok (.putfield 1, 3) := by decide +kernel
theorem dX13_rounds_5 : decode cX13_rounds 5 = .ok (.iload_n 1, 1) := by decide +kernel
theorem dX13_rounds_6 : decode cX13_rounds 6 = .ok (.iconst 1, 1) := by decide +kernel
theorem dX13_rounds_7 : decode cX13_rounds 7 = .ok (.bipush 6, 2) := by decide +kernel
theorem dX13_rounds_9 : decode cX13_rounds 9 = .ok (.invokestatic 339, 3) := by decide +kernel
theorem dX13_rounds_12 : decode cX13_rounds 12 = .ok (.ifCond .eq 22, 3) := by decide +kernel
theorem dX13_rounds_15 : decode cX13_rounds 15 = .ok (.iload_n 2, 1) := by decide +kernel
theorem dX13_rounds_16 : decode cX13_rounds 16 = .ok (.iconst 0, 1) := by decide +kernel
theorem dX13_rounds_17 : decode cX13_rounds 17 = .ok (.bipush 6, 2) := by decide +kernel
theorem dX13_rounds_19 : decode cX13_rounds 19 = .ok (.invokestatic 339, 3) := by decide +kernel
theorem dX13_rounds_22 : decode cX13_rounds 22 = .ok (.ifCond .eq 12, 3) := by decide +kernel
theorem dX13_rounds_25 : decode cX13_rounds 25 = .ok (.iload_n 3, 1) := by decide +kernel
theorem dX13_rounds_26 : decode cX13_rounds 26 = .ok (.iconst 0, 1) := by decide +kernel
theorem dX13_rounds_27 : decode cX13_rounds 27 = .ok (.iconst 1, 1) := by decide +kernel
theorem dX13_rounds_28 : decode cX13_rounds 28 = .ok (.invokestatic 339, 3) := by decide +kernel
theorem dX13_rounds_31 : decode cX13_rounds 31 = .ok (.ifCond .ne 5, 3) := by decide +kernel
theorem dX13_rounds_34 : decode cX13_rounds 34 = .ok (.iconst (-1), 1) := by decide +kernel
theorem dX13_rounds_35 : decode cX13_rounds 35 = .ok (.ireturn, 1) := by decide +kernel
theorem dX13_rounds_36 : decode cX13_rounds 36 = .ok (.iconst (-1), 1) := by decide +kernel
theorem dX13_rounds_37 : decode cX13_rounds 37 = .ok (.istore 4, 2) := by decide +kernel
theorem dX13_rounds_39 : decode cX13_rounds 39 = .ok (.iconst 0, 1) := by decide +kernel
theorem dX13_rounds_40 : decode cX13_rounds 40 = .ok (.istore 5, 2) := by decide +kernel
theorem dX13_rounds_42 : decode cX13_rounds 42 = .ok (.iconst 0, 1) := by decide +kernel
theorem dX13_rounds_43 : decode cX13_rounds 43 = .ok (.istore 6, 2) := by decide +kernel
theorem dX13_rounds_45 : decode cX13_rounds 45 = .ok (.iload 6, 2) := by decide +kernel
theorem dX13_rounds_47 : decode cX13_rounds 47 = .ok (.iconst 1, 1) := by decide +kernel
theorem dX13_rounds_48 : decode cX13_rounds 48 = .ok (.iload_n 1, 1) := by decide +kernel
theorem dX13_rounds_49 : decode cX13_rounds 49 = .ok (.ishl, 1) := by decide +kernel
theorem dX13_rounds_50 : decode cX13_rounds 50 = .ok (.if_icmp .ge 94, 3) := by decide +kernel
theorem dX13_rounds_53 : decode cX13_rounds 53 = .ok (.iload 6, 2) := by decide +kernel
theorem dX13_rounds_55 : decode cX13_rounds 55 = .ok (.invokestatic 367, 3) := by decide +kernel
theorem dX13_rounds_58 : decode cX13_rounds 58 = .ok (.iload_n 2, 1) := by decide +kernel
theorem dX13_rounds_59 : decode cX13_rounds 59 = .ok (.if_icmp .gt 79, 3) := by decide +kernel
theorem dX13_rounds_62 : decode cX13_rounds 62 = .ok (.aload_n 0, 1) := by decide +kernel
theorem dX13_rounds_63 : decode cX13_rounds 63 = .ok (.iload_n 1, 1) := by decide +kernel
theorem dX13_rounds_64 : decode cX13_rounds 64 = .ok (.iload 6, 2) := by decide +kernel
theorem dX13_rounds_66 : decode cX13_rounds 66 = .ok (.invokevirtual 382, 3) := by decide +kernel
theorem dX13_rounds_69 : decode cX13_rounds 69 = .ok (.istore 7, 2) := by decide +kernel
theorem dX13_rounds_71 : decode cX13_rounds 71 = .ok (.iload 4, 2) := by decide +kernel
theorem dX13_rounds_73 : decode cX13_rounds 73 = .ok (.ifCond .lt 30, 3) := by decide +kernel
theorem dX13_rounds_76 : decode cX13_rounds 76 = .ok (.iload 7, 2) := by decide +kernel
theorem dX13_rounds_78 : decode cX13_rounds 78 = .ok (.iload 5, 2) := by decide +kernel
theorem dX13_rounds_80 : decode cX13_rounds 80 = .ok (.if_icmp .lt 23, 3) := by decide +kernel
theorem dX13_rounds_83 : decode cX13_rounds 83 = .ok (.iload 7, 2) := by decide +kernel
theorem dX13_rounds_85 : decode cX13_rounds 85 = .ok (.iload 5, 2) := by decide +kernel
theorem dX13_rounds_87 : decode cX13_rounds 87 = .ok (.if_icmp .ne 20, 3) := by decide +kernel
theorem dX13_rounds_90 : decode cX13_rounds 90 = .ok (.iload 6, 2) := by decide +kernel
theorem dX13_rounds_92 : decode cX13_rounds 92 = .ok (.invokestatic 367, 3) := by decide +kernel
theorem dX13_rounds_95 : decode cX13_rounds 95 = .ok (.iload 4, 2) := by decide +kernel
theorem dX13_rounds_97 : decode cX13_rounds 97 = .ok (.invokestatic 367, 3) := by decide +kernel
theorem dX13_rounds_100 : decode cX13_rounds 100 = .ok (.if_icmp .ge 7, 3) := by decide +kernel
theorem dX13_rounds_103 : decode cX13_rounds 103 = .ok (.iconst 1, 1) := by decide +kernel
theorem dX13_rounds_104 : decode cX13_rounds 104 = .ok (.goto 4, 3) := by decide +kernel
theorem dX13_rounds_107 : decode cX13_rounds 107 = .ok (.iconst 0, 1) := by decide +kernel
theorem dX13_rounds_108 : decode cX13_rounds 108 = .ok (.istore 8, 2) := by decide +kernel
theorem dX13_rounds_110 : decode cX13_rounds 110 = .ok (.iload 8, 2) := by decide +kernel
theorem dX13_rounds_112 : decode cX13_rounds 112 = .ok (.ifCond .eq 8, 3) := by decide +kernel
theorem dX13_rounds_115 : decode cX13_rounds 115 = .ok (.iload 6, 2) := by decide +kernel
theorem dX13_rounds_117 : decode cX13_rounds 117 = .ok (.goto 5, 3) := by decide +kernel
theorem dX13_rounds_120 : decode cX13_rounds 120 = .ok (.iload 4, 2) := by decide +kernel
theorem dX13_rounds_122 : decode cX13_rounds 122 = .ok (.istore 4, 2) := by decide +kernel
theorem dX13_rounds_124 : decode cX13_rounds 124 = .ok (.iload 8, 2) := by decide +kernel
theorem dX13_rounds_126 : decode cX13_rounds 126 = .ok (.ifCond .eq 8, 3) := by decide +kernel
theorem dX13_rounds_129 : decode cX13_rounds 129 = .ok (.iload 7, 2) := by decide +kernel
theorem dX13_rounds_131 : decode cX13_rounds 131 = .ok (.goto 5, 3) := by decide +kernel
theorem dX13_rounds_134 : decode cX13_rounds 134 = .ok (.iload 5, 2) := by decide +kernel
theorem dX13_rounds_136 : decode cX13_rounds 136 = .ok (.istore 5, 2) := by decide +kernel
theorem dX13_rounds_138 : decode cX13_rounds 138 = .ok (.iinc 6 1, 3) := by decide +kernel
theorem dX13_rounds_141 : decode cX13_rounds 141 = .ok (.goto (-96), 3) := by decide +kernel
theorem dX13_rounds_144 : decode cX13_rounds 144 = .ok (.iload_n 3, 1) := by decide +kernel
theorem dX13_rounds_145 : decode cX13_rounds 145 = .ok (.ifCond .ne 8, 3) := by decide +kernel
theorem dX13_rounds_148 : decode cX13_rounds 148 = .ok (.iload 5, 2) := by decide +kernel
theorem dX13_rounds_150 : decode cX13_rounds 150 = .ok (.goto 5, 3) := by decide +kernel
theorem dX13_rounds_153 : decode cX13_rounds 153 = .ok (.iload 4, 2) := by decide +kernel
theorem dX13_rounds_155 : decode cX13_rounds 155 = .ok (.ireturn, 1) := by decide +kernel
set_option maxHeartbeats 4000000 in
set_option maxRecDepth 100000 in
theorem B_X13_rounds {G : zG} {X : zX} {kd : kD} {N0 : Nat} (C : zCt G X 6 0 0 RX13 cX13_rounds 9) (hr : (zXh X).sig.returnType = (some .int)) : ∀ f : Nat,
    (∀ (S : aS) (v0 : Nat) (v1 : Int32) (v2 : Int32) (v3 : Int32) (res : Option Value × aS), zT0 kd N0 S → v0 < N0 → kd v0 = .inl 11 → F_X13_rounds f 0 [.ref v0, .int v1, .int v2, .int v3] S = some res → zV G X (zQX G X (zPo G kd N0 res) 0 0) 9 [some (.ref (zB G + v0)), some (.int v1), some (.int v2), some (.int v3), none, none, none, none, none] [] (cn G kd N0 S) 0 0 0) ∧
    (∀ (S : aS)  (res : Option Value × aS), zT0 kd N0 S → F_X13_rounds f 1 [] S = some res → zV G X (zQX G X (zPo G kd N0 res) 0 0) 9 [none, none, none, none, none, none, none, none, none] [] (cn G kd N0 S) 34 0 0) ∧
    (∀ (S : aS) (v0 : Nat) (v1 : Int32) (v2 : Int32) (v3 : Int32) (v4 : Int32) (v5 : Int32) (v6 : Int32) (res : Option Value × aS), zT0 kd N0 S → v0 < N0 → kd v0 = .inl 11 → F_X13_rounds f 2 [.ref v0, .int v1, .int v2, .int v3, .int v4, .int v5, .int v6] S = some res → zV G X (zQX G X (zPo G kd N0 res) 0 0) 9 [some (.ref (zB G + v0)), some (.int v1), some (.int v2), some (.int v3), some (.int v4), some (.int v5), some (.int v6), none, none] [] (cn G kd N0 S) 45 0 0) ∧
    (∀ (S : aS) (v0 : Nat) (v1 : Int32) (v2 : Int32) (v3 : Int32) (v4 : Int32) (v5 : Int32) (v6 : Int32) (res : Option Value × aS), zT0 kd N0 S → v0 < N0 → kd v0 = .inl 11 → F_X13_rounds f 3 [.ref v0, .int v1, .int v2, .int v3, .int v4, .int v5, .int v6] S = some res → zV G X (zQX G X (zPo G kd N0 res) 0 0) 9 [some (.ref (zB G + v0)), some (.int v1), some (.int v2), some (.int v3), some (.int v4), some (.int v5), some (.int v6), none, none] [] (cn G kd N0 S) 138 0 0) ∧
    (∀ (S : aS) (v0 : Nat) (v1 : Int32) (v2 : Int32) (v3 : Int32) (v4 : Int32) (v5 : Int32) (v6 : Int32) (v7 : Int32) (res : Option Value × aS), zT0 kd N0 S → v0 < N0 → kd v0 = .inl 11 → F_X13_rounds f 4 [.ref v0, .int v1, .int v2, .int v3, .int v4, .int v5, .int v6, .int v7] S = some res → zV G X (zQX G X (zPo G kd N0 res) 0 0) 9 [some (.ref (zB G + v0)), some (.int v1), some (.int v2), some (.int v3), some (.int v4), some (.int v5), some (.int v6), some (.int v7), none] [] (cn G kd N0 S) 103 0 0) ∧
    (∀ (S : aS) (v0 : Nat) (v1 : Int32) (v2 : Int32) (v3 : Int32) (v4 : Int32) (v5 : Int32) (v6 : Int32) (v7 : Int32) (res : Option Value × aS), zT0 kd N0 S → v0 < N0 → kd v0 = .inl 11 → F_X13_rounds f 5 [.ref v0, .int v1, .int v2, .int v3, .int v4, .int v5, .int v6, .int v7] S = some res → zV G X (zQX G X (zPo G kd N0 res) 0 0) 9 [some (.ref (zB G + v0)), some (.int v1), some (.int v2), some (.int v3), some (.int v4), some (.int v5), some (.int v6), some (.int v7), none] [] (cn G kd N0 S) 107 0 0) ∧
    (∀ (S : aS) (v0 : Nat) (v1 : Int32) (v2 : Int32) (v3 : Int32) (v4 : Int32) (v5 : Int32) (v6 : Int32) (v7 : Int32) (w0 : Int32) (res : Option Value × aS), zT0 kd N0 S → v0 < N0 → kd v0 = .inl 11 → F_X13_rounds f 6 [.ref v0, .int v1, .int v2, .int v3, .int v4, .int v5, .int v6, .int v7, .int w0] S = some res → zV G X (zQX G X (zPo G kd N0 res) 0 0) 9 [some (.ref (zB G + v0)), some (.int v1), some (.int v2), some (.int v3), some (.int v4), some (.int v5), some (.int v6), some (.int v7), none] [.int w0] (cn G kd N0 S) 108 0 0) := by
  intro f
  induction f with
  | zero => exact ⟨(fun _ _ _ _ _ _ _ _ _ h => by cases h), (fun _ _ _ h => by cases h), (fun _ _ _ _ _ _ _ _ _ _ _ _ h => by cases h), (fun _ _ _ _ _ _ _ _ _ _ _ _ h => by cases h), (fun _ _ _ _ _ _ _ _ _ _ _ _ _ h => by cases h), (fun _ _ _ _ _ _ _ _ _ _ _ _ _ h => by cases h), (fun _ _ _ _ _ _ _ _ _ _ _ _ _ _ h => by cases h)⟩
  | succ f ih =>
    obtain ⟨ih0, ih1, ih2, ih3, ih4, ih5, ih6⟩ := ih
    refine ⟨?_, ?_, ?_, ?_, ?_, ?_, ?_⟩
    · intro S v0 v1 v2 v3 res hT hpv0 hkv0 hF
      replace hF : F_X13_rounds_0 f (F_X13_rounds f) v0 v1 v2 v3 S = some res := hF
      unfold F_X13_rounds_0 at hF
      refine z_aload_n C dX13_rounds_0 rfl ?_
      refine z_iconst (v := 0) C dX13_rounds_1 (by decide) ?_
      refine f_puti C dX13_rounds_2 zfRX13_1 fw11_0 hpv0 hkv0 rfl rfl rfl ?_
      have hT1 : zT0 kd N0 (sI S v0 0 0) := zT0_sI hT
      replace hF := fS_e hF
      generalize sI S v0 0 0 = S1 at hF hT1 ⊢
      refine z_iload_n C dX13_rounds_5 rfl ?_
      refine z_iconst (v := 1) C dX13_rounds_6 (by decide) ?_
      refine z_bipush (v := 6) C dX13_rounds_7 (by decide) ?_
      obtain ⟨x2, S2, h2, hF⟩ := bI_some hF
      refine f_cS (st2 := [.int x2]) C dX13_rounds_9 zyX13_within zsX13_within lkRX13_339 (K_X13_within (l := zXl X) hT1    h2) (by decide) rfl rfl (Nat.le_of_ble_eq_true rfl) rfl (fun hT2 => ?_)
      refine z_if_eq C 34 dX13_rounds_12 (by decide) (fun c3 => ?_) (fun c3 => ?_)
      · replace hF := ip hF c3
        refine z_mask [false, false, false, false, true, true, true, true, true] ?_ rfl
        exact ih1 S2  res hT2  hF
      · replace hF := im hF c3
        refine z_iload_n C dX13_rounds_15 rfl ?_
        refine z_iconst (v := 0) C dX13_rounds_16 (by decide) ?_
        refine z_bipush (v := 6) C dX13_rounds_17 (by decide) ?_
        obtain ⟨x4, S4, h4, hF⟩ := bI_some hF
        refine f_cS (st2 := [.int x4]) C dX13_rounds_19 zyX13_within zsX13_within lkRX13_339 (K_X13_within (l := zXl X) hT2    h4) (by decide) rfl rfl (Nat.le_of_ble_eq_true rfl) rfl (fun hT4 => ?_)
        refine z_if_eq C 34 dX13_rounds_22 (by decide) (fun c5 => ?_) (fun c5 => ?_)
        · replace hF := ip hF c5
          refine z_mask [false, false, false, false, true, true, true, true, true] ?_ rfl
          exact ih1 S4  res hT4  hF
        · replace hF := im hF c5
          refine z_iload_n C dX13_rounds_25 rfl ?_
          refine z_iconst (v := 0) C dX13_rounds_26 (by decide) ?_
          refine z_iconst (v := 1) C dX13_rounds_27 (by decide) ?_
          obtain ⟨x6, S6, h6, hF⟩ := bI_some hF
          refine f_cS (st2 := [.int x6]) C dX13_rounds_28 zyX13_within zsX13_within lkRX13_339 (K_X13_within (l := zXl X) hT4    h6) (by decide) rfl rfl (Nat.le_of_ble_eq_true rfl) rfl (fun hT6 => ?_)
          refine z_if_ne C 36 dX13_rounds_31 (by decide) (fun c7 => ?_) (fun c7 => ?_)
          · replace hF := im hF c7
            refine z_iconst (v := (-1)) C dX13_rounds_36 (by decide) ?_
            refine z_istore (lv2 := [some (.ref (zB G + v0)), some (.int v1), some (.int v2), some (.int v3), some (.int ((-1))), none, none, none, none]) C dX13_rounds_37 (by decide) rfl ?_
            refine z_iconst (v := 0) C dX13_rounds_39 (by decide) ?_
            refine z_istore (lv2 := [some (.ref (zB G + v0)), some (.int v1), some (.int v2), some (.int v3), some (.int ((-1))), some (.int 0), none, none, none]) C dX13_rounds_40 (by decide) rfl ?_
            refine z_iconst (v := 0) C dX13_rounds_42 (by decide) ?_
            refine z_istore (lv2 := [some (.ref (zB G + v0)), some (.int v1), some (.int v2), some (.int v3), some (.int ((-1))), some (.int 0), some (.int 0), none, none]) C dX13_rounds_43 (by decide) rfl ?_
            exact ih2 S6 v0 v1 v2 v3 ((-1)) 0 0 res hT6 hpv0 hkv0       hF
          · replace hF := ip hF c7
            refine z_mask [false, false, false, false, true, true, true, true, true] ?_ rfl
            exact ih1 S6  res hT6  hF
    · intro S  res hT  hF
      replace hF : F_X13_rounds_1 f (F_X13_rounds f)  S = some res := hF
      unfold F_X13_rounds_1 at hF
      refine z_iconst (v := (-1)) C dX13_rounds_34 (by decide) ?_
      cases hF
      exact z_iret C hr dX13_rounds_35 ⟨rfl, rfl, hT⟩
    · intro S v0 v1 v2 v3 v4 v5 v6 res hT hpv0 hkv0 hF
      replace hF : F_X13_rounds_2 f (F_X13_rounds f) v0 v1 v2 v3 v4 v5 v6 S = some res := hF
      unfold F_X13_rounds_2 at hF
      refine z_iload C dX13_rounds_45 rfl ?_
      refine z_iconst (v := 1) C dX13_rounds_47 (by decide) ?_
      refine z_iload_n C dX13_rounds_48 rfl ?_
      refine z_ishl C dX13_rounds_49 ?_
      refine z_icmp_ge C 144 dX13_rounds_50 (by decide) (fun c9 => ?_) (fun c9 => ?_)
      · replace hF := ip hF c9
        refine z_iload_n C dX13_rounds_144 rfl ?_
        have hJ11 : zV G X (zQX G X (zPo G kd N0 res) 0 0) 9 [some (.ref (zB G + v0)), some (.int v1), some (.int v2), some (.int v3), some (.int v4), some (.int v5), some (.int v6), none, none] [.int (if v3 = (0 : Int32) then v5 else v4)] (cn G kd N0 S) 155 0 0 := by
          cases hF
          exact z_iret C hr dX13_rounds_155 ⟨rfl, rfl, hT⟩
        refine z_if_ne C 153 dX13_rounds_145 (by decide) (fun c10 => ?_) (fun c10 => ?_)
        · refine z_iload C dX13_rounds_153 rfl ?_
          exact zV.at hJ11 (by first | rfl | contradiction | (simp only [if_neg c10]; done)) (by first | rfl | contradiction | (simp only [if_neg c10]; done)) rfl rfl
        · refine z_iload C dX13_rounds_148 rfl ?_
          refine z_goto C 155 dX13_rounds_150 (by decide) ?_
          exact zV.at hJ11 (by first | rfl | contradiction | (simp only [if_pos c10]; done)) (by first | rfl | contradiction | (simp only [if_pos c10]; done)) rfl rfl
      · replace hF := im hF c9
        refine z_iload C dX13_rounds_53 rfl ?_
        obtain ⟨x12, S12, h12, hF⟩ := bI_some hF
        refine f_cS (st2 := [.int x12]) C dX13_rounds_55 zyX13_bits zsX13_bits lkRX13_367 (K_X13_bits (l := zXl X) hT  h12) (by decide) rfl rfl (Nat.le_of_ble_eq_true rfl) rfl (fun hT12 => ?_)
        refine z_iload_n C dX13_rounds_58 rfl ?_
        refine z_icmp_gt C 138 dX13_rounds_59 (by decide) (fun c14 => ?_) (fun c14 => ?_)
        · replace hF := ip hF c14
          exact ih3 S12 v0 v1 v2 v3 v4 v5 v6 res hT12 hpv0 hkv0       hF
        · replace hF := im hF c14
          refine z_aload_n C dX13_rounds_62 rfl ?_
          refine z_iload_n C dX13_rounds_63 rfl ?_
          refine z_iload C dX13_rounds_64 rfl ?_
          obtain ⟨x15, S15, h15, hF⟩ := bI_some hF
          refine f_cV (st2 := [.int x15]) C dX13_rounds_66 zyX13_lyingBehind zvX13_lyingBehind lkRX13_382 (K_X13_lyingBehind (l := zXl X) hT12 hpv0 hkv0   h15) hpv0 hkv0 rfl (by decide) rfl rfl (Nat.le_of_ble_eq_true rfl) rfl (fun hT15 => ?_)
          refine z_istore (lv2 := [some (.ref (zB G + v0)), some (.int v1), some (.int v2), some (.int v3), some (.int v4), some (.int v5), some (.int v6), some (.int x15), none]) C dX13_rounds_69 (by decide) rfl ?_
          refine z_iload C dX13_rounds_71 rfl ?_
          refine z_if_lt C 103 dX13_rounds_73 (by decide) (fun c19 => ?_) (fun c19 => ?_)
          · replace hF := ip hF c19
            exact ih4 S15 v0 v1 v2 v3 v4 v5 v6 x15 res hT15 hpv0 hkv0        hF
          · replace hF := im hF c19
            refine z_iload C dX13_rounds_76 rfl ?_
            refine z_iload C dX13_rounds_78 rfl ?_
            refine z_icmp_lt C 103 dX13_rounds_80 (by decide) (fun c22 => ?_) (fun c22 => ?_)
            · replace hF := ip hF c22
              exact ih4 S15 v0 v1 v2 v3 v4 v5 v6 x15 res hT15 hpv0 hkv0        hF
            · replace hF := im hF c22
              refine z_iload C dX13_rounds_83 rfl ?_
              refine z_iload C dX13_rounds_85 rfl ?_
              refine z_icmp_ne C 107 dX13_rounds_87 (by decide) (fun c24 => ?_) (fun c24 => ?_)
              · replace hF := im hF c24
                exact ih5 S15 v0 v1 v2 v3 v4 v5 v6 x15 res hT15 hpv0 hkv0        hF
              · replace hF := ip hF c24
                refine z_iload C dX13_rounds_90 rfl ?_
                obtain ⟨x25, S25, h25, hF⟩ := bI_some hF
                refine f_cS (st2 := [.int x25]) C dX13_rounds_92 zyX13_bits zsX13_bits lkRX13_367 (K_X13_bits (l := zXl X) hT15  h25) (by decide) rfl rfl (Nat.le_of_ble_eq_true rfl) rfl (fun hT25 => ?_)
                refine z_iload C dX13_rounds_95 rfl ?_
                obtain ⟨x26, S26, h26, hF⟩ := bI_some hF
                refine f_cS (st2 := [.int x26, .int x25]) C dX13_rounds_97 zyX13_bits zsX13_bits lkRX13_367 (K_X13_bits (l := zXl X) hT25  h26) (by decide) rfl rfl (Nat.le_of_ble_eq_true rfl) rfl (fun hT26 => ?_)
                have hJ28 : zV G X (zQX G X (zPo G kd N0 res) 0 0) 9 [some (.ref (zB G + v0)), some (.int v1), some (.int v2), some (.int v3), some (.int v4), some (.int v5), some (.int v6), some (.int x15), none] [.int (if x26 ≤ x25 then (0 : Int32) else (1 : Int32))] (cn G kd N0 S26) 108 0 0 := by
                  refine z_istore (lv2 := [some (.ref (zB G + v0)), some (.int v1), some (.int v2), some (.int v3), some (.int v4), some (.int v5), some (.int v6), some (.int x15), some (.int (if x26 ≤ x25 then (0 : Int32) else (1 : Int32)))]) C dX13_rounds_108 (by decide) rfl ?_
                  refine z_iload C dX13_rounds_110 rfl ?_
                  have hJ30 : zV G X (zQX G X (zPo G kd N0 res) 0 0) 9 [some (.ref (zB G + v0)), some (.int v1), some (.int v2), some (.int v3), some (.int v4), some (.int v5), some (.int v6), some (.int x15), some (.int (if x26 ≤ x25 then (0 : Int32) else (1 : Int32)))] [.int (if (if x26 ≤ x25 then (0 : Int32) else (1 : Int32)) = (0 : Int32) then v4 else v6)] (cn G kd N0 S26) 122 0 0 := by
                    replace hF := lI_e hF
                    generalize (if (if x26 ≤ x25 then (0 : Int32) else (1 : Int32)) = (0 : Int32) then v4 else v6) = y31 at hF ⊢
                    refine z_istore (lv2 := [some (.ref (zB G + v0)), some (.int v1), some (.int v2), some (.int v3), some (.int y31), some (.int v5), some (.int v6), some (.int x15), some (.int (if x26 ≤ x25 then (0 : Int32) else (1 : Int32)))]) C dX13_rounds_122 (by decide) rfl ?_
                    refine z_iload C dX13_rounds_124 rfl ?_
                    have hJ33 : zV G X (zQX G X (zPo G kd N0 res) 0 0) 9 [some (.ref (zB G + v0)), some (.int v1), some (.int v2), some (.int v3), some (.int y31), some (.int v5), some (.int v6), some (.int x15), some (.int (if x26 ≤ x25 then (0 : Int32) else (1 : Int32)))] [.int (if (if x26 ≤ x25 then (0 : Int32) else (1 : Int32)) = (0 : Int32) then v5 else x15)] (cn G kd N0 S26) 136 0 0 := by
                      replace hF := lI_e hF
                      generalize (if (if x26 ≤ x25 then (0 : Int32) else (1 : Int32)) = (0 : Int32) then v5 else x15) = y34 at hF ⊢
                      refine z_istore (lv2 := [some (.ref (zB G + v0)), some (.int v1), some (.int v2), some (.int v3), some (.int y31), some (.int y34), some (.int v6), some (.int x15), some (.int (if x26 ≤ x25 then (0 : Int32) else (1 : Int32)))]) C dX13_rounds_136 (by decide) rfl ?_
                      refine z_mask [true, true, true, true, true, true, true, false, false] ?_ rfl
                      exact ih3 S26 v0 v1 v2 v3 y31 y34 v6 res hT26 hpv0 hkv0       hF
                    refine z_if_eq C 134 dX13_rounds_126 (by decide) (fun c32 => ?_) (fun c32 => ?_)
                    · refine z_iload C dX13_rounds_134 rfl ?_
                      exact zV.at hJ33 (by first | rfl | contradiction | (simp only [if_pos c32]; done)) (by first | rfl | contradiction | (simp only [if_pos c32]; done)) rfl rfl
                    · refine z_iload C dX13_rounds_129 rfl ?_
                      refine z_goto C 136 dX13_rounds_131 (by decide) ?_
                      exact zV.at hJ33 (by first | rfl | contradiction | (simp only [if_neg c32]; done)) (by first | rfl | contradiction | (simp only [if_neg c32]; done)) rfl rfl
                  refine z_if_eq C 120 dX13_rounds_112 (by decide) (fun c29 => ?_) (fun c29 => ?_)
                  · refine z_iload C dX13_rounds_120 rfl ?_
                    exact zV.at hJ30 (by first | rfl | contradiction | (simp only [if_pos c29]; done)) (by first | rfl | contradiction | (simp only [if_pos c29]; done)) rfl rfl
                  · refine z_iload C dX13_rounds_115 rfl ?_
                    refine z_goto C 122 dX13_rounds_117 (by decide) ?_
                    exact zV.at hJ30 (by first | rfl | contradiction | (simp only [if_neg c29]; done)) (by first | rfl | contradiction | (simp only [if_neg c29]; done)) rfl rfl
                refine z_icmp_ge C 107 dX13_rounds_100 (by decide) (fun c27 => ?_) (fun c27 => ?_)
                · refine z_iconst (v := 0) C dX13_rounds_107 (by decide) ?_
                  exact zV.at hJ28 (by first | rfl | contradiction | (simp only [if_pos c27]; done)) (by first | rfl | contradiction | (simp only [if_pos c27]; done)) rfl rfl
                · refine z_iconst (v := 1) C dX13_rounds_103 (by decide) ?_
                  refine z_goto C 108 dX13_rounds_104 (by decide) ?_
                  exact zV.at hJ28 (by first | rfl | contradiction | (simp only [if_neg c27]; done)) (by first | rfl | contradiction | (simp only [if_neg c27]; done)) rfl rfl
    · intro S v0 v1 v2 v3 v4 v5 v6 res hT hpv0 hkv0 hF
      replace hF : F_X13_rounds_3 f (F_X13_rounds f) v0 v1 v2 v3 v4 v5 v6 S = some res := hF
      unfold F_X13_rounds_3 at hF
      refine z_iinc (v := v6 + 1) (lv2 := [some (.ref (zB G + v0)), some (.int v1), some (.int v2), some (.int v3), some (.int v4), some (.int v5), some (.int (v6 + 1)), none, none]) C dX13_rounds_138 rfl (by rw [show Int32.ofInt 1 = (1 : Int32) from by decide]) rfl ?_
      refine z_goto C 45 dX13_rounds_141 (by decide) ?_
      exact ih2 S v0 v1 v2 v3 v4 v5 (v6 + 1) res hT hpv0 hkv0       hF
    · intro S v0 v1 v2 v3 v4 v5 v6 v7 res hT hpv0 hkv0 hF
      replace hF : F_X13_rounds_4 f (F_X13_rounds f) v0 v1 v2 v3 v4 v5 v6 v7 S = some res := hF
      unfold F_X13_rounds_4 at hF
      refine z_iconst (v := 1) C dX13_rounds_103 (by decide) ?_
      refine z_goto C 108 dX13_rounds_104 (by decide) ?_
      exact ih6 S v0 v1 v2 v3 v4 v5 v6 v7 1 res hT hpv0 hkv0         hF
    · intro S v0 v1 v2 v3 v4 v5 v6 v7 res hT hpv0 hkv0 hF
      replace hF : F_X13_rounds_5 f (F_X13_rounds f) v0 v1 v2 v3 v4 v5 v6 v7 S = some res := hF
      unfold F_X13_rounds_5 at hF
      refine z_iconst (v := 0) C dX13_rounds_107 (by decide) ?_
      exact ih6 S v0 v1 v2 v3 v4 v5 v6 v7 0 res hT hpv0 hkv0         hF
    · intro S v0 v1 v2 v3 v4 v5 v6 v7 w0 res hT hpv0 hkv0 hF
      replace hF : F_X13_rounds_6 f (F_X13_rounds f) v0 v1 v2 v3 v4 v5 v6 v7 w0 S = some res := hF
      unfold F_X13_rounds_6 at hF
      refine z_istore (lv2 := [some (.ref (zB G + v0)), some (.int v1), some (.int v2), some (.int v3), some (.int v4), some (.int v5), some (.int v6), some (.int v7), some (.int w0)]) C dX13_rounds_108 (by decide) rfl ?_
      refine z_iload C dX13_rounds_110 rfl ?_
      have hJ36 : zV G X (zQX G X (zPo G kd N0 res) 0 0) 9 [some (.ref (zB G + v0)), some (.int v1), some (.int v2), some (.int v3), some (.int v4), some (.int v5), some (.int v6), some (.int v7), some (.int w0)] [.int (if w0 = (0 : Int32) then v4 else v6)] (cn G kd N0 S) 122 0 0 := by
        refine z_istore (lv2 := [some (.ref (zB G + v0)), some (.int v1), some (.int v2), some (.int v3), some (.int (if w0 = (0 : Int32) then v4 else v6)), some (.int v5), some (.int v6), some (.int v7), some (.int w0)]) C dX13_rounds_122 (by decide) rfl ?_
        refine z_iload C dX13_rounds_124 rfl ?_
        have hJ38 : zV G X (zQX G X (zPo G kd N0 res) 0 0) 9 [some (.ref (zB G + v0)), some (.int v1), some (.int v2), some (.int v3), some (.int (if w0 = (0 : Int32) then v4 else v6)), some (.int v5), some (.int v6), some (.int v7), some (.int w0)] [.int (if w0 = (0 : Int32) then v5 else v7)] (cn G kd N0 S) 136 0 0 := by
          refine z_istore (lv2 := [some (.ref (zB G + v0)), some (.int v1), some (.int v2), some (.int v3), some (.int (if w0 = (0 : Int32) then v4 else v6)), some (.int (if w0 = (0 : Int32) then v5 else v7)), some (.int v6), some (.int v7), some (.int w0)]) C dX13_rounds_136 (by decide) rfl ?_
          refine z_mask [true, true, true, true, true, true, true, false, false] ?_ rfl
          exact ih3 S v0 v1 v2 v3 (if w0 = (0 : Int32) then v4 else v6) (if w0 = (0 : Int32) then v5 else v7) v6 res hT hpv0 hkv0       hF
        refine z_if_eq C 134 dX13_rounds_126 (by decide) (fun c37 => ?_) (fun c37 => ?_)
        · refine z_iload C dX13_rounds_134 rfl ?_
          exact zV.at hJ38 (by first | rfl | contradiction | (simp only [if_pos c37]; done)) (by first | rfl | contradiction | (simp only [if_pos c37]; done)) rfl rfl
        · refine z_iload C dX13_rounds_129 rfl ?_
          refine z_goto C 136 dX13_rounds_131 (by decide) ?_
          exact zV.at hJ38 (by first | rfl | contradiction | (simp only [if_neg c37]; done)) (by first | rfl | contradiction | (simp only [if_neg c37]; done)) rfl rfl
      refine z_if_eq C 120 dX13_rounds_112 (by decide) (fun c35 => ?_) (fun c35 => ?_)
      · refine z_iload C dX13_rounds_120 rfl ?_
        exact zV.at hJ36 (by first | rfl | contradiction | (simp only [if_pos c35]; done)) (by first | rfl | contradiction | (simp only [if_pos c35]; done)) rfl rfl
      · refine z_iload C dX13_rounds_115 rfl ?_
        refine z_goto C 122 dX13_rounds_117 (by decide) ?_
        exact zV.at hJ36 (by first | rfl | contradiction | (simp only [if_neg c35]; done)) (by first | rfl | contradiction | (simp only [if_neg c35]; done)) rfl rfl
theorem K_X13_rounds {G : zG} {l : Launch} {kd : kD} {N0 f : Nat} {S : aS} {v0 : Nat} {v1 : Int32} {v2 : Int32} {v3 : Int32} {res : Option Value × aS} (hT : zT0 kd N0 S) (hpv0 : v0 < N0) (hkv0 : kd v0 = .inl 11) (hF : F_X13_rounds f 0 [.ref v0, .int v1, .int v2, .int v3] S = some res) : zM G l 6 0 0 yX13_rounds cX13_rounds 9 (some .int) [.ref (zB G + v0), .int v1, .int v2, .int v3] (cn G kd N0 S) (zPo G kd N0 res) := zM.of (by decide) rfl (Nat.le_of_ble_eq_true rfl) (fun X _ C hr _ => (B_X13_rounds C hr f).1 S v0 v1 v2 v3 res hT hpv0 hkv0 hF)
def F_X13_from_0 (f : Nat) (rc : Nat → List Value → aS → aR) (v0 : Nat) (v1 : Int32) (v2 : Int32) (S : aS) : aR :=
  fS (sI S v0 0 0) fun S1 => bI (F_X13_isPerson f 0 [.ref v0, .int v1] S1) fun x2 S2 => if x2 = (0 : Int32) then rc 1 [] S2 else bI (F_X13_isYard f 0 [.ref v0, .int v2] S2) fun x4 S4 => if x4 = (0 : Int32) then rc 1 [] S4 else bI (F_X13_takesOf f 0 [.ref v0, .int 0, .int v1] S4) fun x6 S6 => rc 2 [.ref v0, .int v1, .int v2, .int x6, .int 0] S6
def F_X13_from_1 (f : Nat) (rc : Nat → List Value → aS → aR)  (S : aS) : aR :=
  some (some (.int ((-1))), S)
def F_X13_from_2 (f : Nat) (rc : Nat → List Value → aS → aR) (v0 : Nat) (v1 : Int32) (v2 : Int32) (v3 : Int32) (v4 : Int32) (S : aS) : aR :=
  if (100 : Int32) ≤ v4 then some (some (.int ((-1))), S) else bI (F_X13_dropsOf f 0 [.ref v0, .int 0, .int v1, .int v2, .int v4, .int v3] S) fun x8 S8 => if x8 ≤ (0 : Int32) then rc 2 [.ref v0, .int v1, .int v2, .int v3, .int (v4 + 1)] S8 else some (some (.int v4), S8)
def F_X13_from : Nat → Nat → List Value → aS → aR
  | 0, _, _, _ => none
  | f + 1, 0, vs, S => F_X13_from_0 f (F_X13_from f) (vR vs 0) (vI vs 1) (vI vs 2) S
  | f + 1, 1, vs, S => F_X13_from_1 f (F_X13_from f)  S
  | f + 1, 2, vs, S => F_X13_from_2 f (F_X13_from f) (vR vs 0) (vI vs 1) (vI vs 2) (vI vs 3) (vI vs 4) S
  | _ + 1, _, _, _ => none
theorem dX13_from_0 : decode cX13_from 0 = .ok (.aload_n 0, 1) := by decide +kernel
theorem dX13_from_1 : decode cX13_from 1 = .ok (.iconst 0, 1) := by decide +kernel
theorem dX13_from_2 : decode cX13_from 2 = .ok (.putfield 1, 3) := by decide +kernel
theorem dX13_from_5 : decode cX13_from 5 = .ok (.aload_n 0, 1) := by decide +kernel
theorem dX13_from_6 : decode cX13_from 6 = .ok (.iload_n 1, 1) := by decide +kernel
theorem dX13_from_7 : decode cX13_from 7 = .ok (.invokevirtual 343, 3) := by decide +kernel
theorem dX13_from_10 : decode cX13_from 10 = .ok (.ifCond .eq 11, 3) := by decide +kernel
theorem dX13_from_13 : decode cX13_from 13 = .ok (.aload_n 0, 1) := by decide +kernel
theorem dX13_from_14 : decode cX13_from 14 = .ok (.iload_n 2, 1) := by decide +kernel
theorem dX13_from_15 : decode cX13_from 15 = .ok (.invokevirtual 336, 3) := by decide +kernel
theorem dX13_from_18 : decode cX13_from 18 = .ok (.ifCond .ne 5, 3) := by decide +kernel
theorem dX13_from_21 : decode cX13_from 21 = .ok (.iconst (-1), 1) := by decide +kernel
theorem dX13_from_22 : decode cX13_from 22 = .ok (.ireturn, 1) := by decide +kernel
theorem dX13_from_23 : decode cX13_from 23 = .ok (.aload_n 0, 1) := by decide +kernel
theorem dX13_from_24 : decode cX13_from 24 = .ok (.iconst 0, 1) := by decide +kernel
theorem dX13_from_25 : decode cX13_from 25 = .ok (.iload_n 1, 1) := by decide +kernel
theorem dX13_from_26 : decode cX13_from 26 = .ok (.invokevirtual 311, 3) := by decide +kernel
theorem dX13_from_29 : decode cX13_from 29 = .ok (.istore_n 3, 1) := by decide +kernel
theorem dX13_from_30 : decode cX13_from 30 = .ok (.iconst 0, 1) := by decide +kernel
theorem dX13_from_31 : decode cX13_from 31 = .ok (.istore 4, 2) := by decide +kernel
theorem dX13_from_33 : decode cX13_from 33 = .ok (.iload 4, 2) := by decide +kernel
theorem dX13_from_35 : decode cX13_from 35 = .ok (.bipush 100, 2) := by decide +kernel
theorem dX13_from_37 : decode cX13_from 37 = .ok (.if_icmp .ge 25, 3) := by decide +kernel
theorem dX13_from_40 : decode cX13_from 40 = .ok (.aload_n 0, 1) := by decide +kernel
theorem dX13_from_41 : decode cX13_from 41 = .ok (.iconst 0, 1) := by decide +kernel
theorem dX13_from_42 : decode cX13_from 42 = .ok (.iload_n 1, 1) := by decide +kernel
theorem dX13_from_43 : decode cX13_from 43 = .ok (.iload_n 2, 1) := by decide +kernel
theorem dX13_from_44 : decode cX13_from 44 = .ok (.iload 4, 2) := by decide +kernel
theorem dX13_from_46 : decode cX13_from 46 = .ok (.iload_n 3, 1) := by decide +kernel
theorem dX13_from_47 : decode cX13_from 47 = .ok (.invokevirtual 326, 3) := by decide +kernel
theorem dX13_from_50 : decode cX13_from 50 = .ok (.ifCond .le 6, 3) := by decide +kernel
theorem dX13_from_53 : decode cX13_from 53 = .ok (.iload 4, 2) := by decide +kernel
theorem dX13_from_55 : decode cX13_from 55 = .ok (.ireturn, 1) := by decide +kernel
theorem dX13_from_56 : decode cX13_from 56 = .ok (.iinc 4 1, 3) := by decide +kernel
theorem dX13_from_59 : decode cX13_from 59 = .ok (.goto (-26), 3) := by decide +kernel
theorem dX13_from_62 : decode cX13_from 62 = .ok (.iconst (-1), 1) := by decide +kernel
theorem dX13_from_63 : decode cX13_from 63 = .ok (.ireturn, 1) := by decide +kernel
set_option maxHeartbeats 4000000 in
set_option maxRecDepth 100000 in
theorem B_X13_from {G : zG} {X : zX} {kd : kD} {N0 : Nat} (C : zCt G X 3 0 0 RX13 cX13_from 5) (hr : (zXh X).sig.returnType = (some .int)) : ∀ f : Nat,
    (∀ (S : aS) (v0 : Nat) (v1 : Int32) (v2 : Int32) (res : Option Value × aS), zT0 kd N0 S → v0 < N0 → kd v0 = .inl 11 → F_X13_from f 0 [.ref v0, .int v1, .int v2] S = some res → zV G X (zQX G X (zPo G kd N0 res) 0 0) 5 [some (.ref (zB G + v0)), some (.int v1), some (.int v2), none, none] [] (cn G kd N0 S) 0 0 0) ∧
    (∀ (S : aS)  (res : Option Value × aS), zT0 kd N0 S → F_X13_from f 1 [] S = some res → zV G X (zQX G X (zPo G kd N0 res) 0 0) 5 [none, none, none, none, none] [] (cn G kd N0 S) 21 0 0) ∧
    (∀ (S : aS) (v0 : Nat) (v1 : Int32) (v2 : Int32) (v3 : Int32) (v4 : Int32) (res : Option Value × aS), zT0 kd N0 S → v0 < N0 → kd v0 = .inl 11 → F_X13_from f 2 [.ref v0, .int v1, .int v2, .int v3, .int v4] S = some res → zV G X (zQX G X (zPo G kd N0 res) 0 0) 5 [some (.ref (zB G + v0)), some (.int v1), some (.int v2), some (.int v3), some (.int v4)] [] (cn G kd N0 S) 33 0 0) := by
  intro f
  induction f with
  | zero => exact ⟨(fun _ _ _ _ _ _ _ _ h => by cases h), (fun _ _ _ h => by cases h), (fun _ _ _ _ _ _ _ _ _ _ h => by cases h)⟩
  | succ f ih =>
    obtain ⟨ih0, ih1, ih2⟩ := ih
    refine ⟨?_, ?_, ?_⟩
    · intro S v0 v1 v2 res hT hpv0 hkv0 hF
      replace hF : F_X13_from_0 f (F_X13_from f) v0 v1 v2 S = some res := hF
      unfold F_X13_from_0 at hF
      refine z_aload_n C dX13_from_0 rfl ?_
      refine z_iconst (v := 0) C dX13_from_1 (by decide) ?_
      refine f_puti C dX13_from_2 zfRX13_1 fw11_0 hpv0 hkv0 rfl rfl rfl ?_
      have hT1 : zT0 kd N0 (sI S v0 0 0) := zT0_sI hT
      replace hF := fS_e hF
      generalize sI S v0 0 0 = S1 at hF hT1 ⊢
      refine z_aload_n C dX13_from_5 rfl ?_
      refine z_iload_n C dX13_from_6 rfl ?_
      obtain ⟨x2, S2, h2, hF⟩ := bI_some hF
      refine f_cV (st2 := [.int x2]) C dX13_from_7 zyX13_isPerson zvX13_isPerson lkRX13_343 (K_X13_isPerson (l := zXl X) hT1 hpv0 hkv0  h2) hpv0 hkv0 rfl (by decide) rfl rfl (Nat.le_of_ble_eq_true rfl) rfl (fun hT2 => ?_)
      refine z_if_eq C 21 dX13_from_10 (by decide) (fun c3 => ?_) (fun c3 => ?_)
      · replace hF := ip hF c3
        refine z_mask [false, false, false, true, true] ?_ rfl
        exact ih1 S2  res hT2  hF
      · replace hF := im hF c3
        refine z_aload_n C dX13_from_13 rfl ?_
        refine z_iload_n C dX13_from_14 rfl ?_
        obtain ⟨x4, S4, h4, hF⟩ := bI_some hF
        refine f_cV (st2 := [.int x4]) C dX13_from_15 zyX13_isYard zvX13_isYard lkRX13_336 (K_X13_isYard (l := zXl X) hT2 hpv0 hkv0  h4) hpv0 hkv0 rfl (by decide) rfl rfl (Nat.le_of_ble_eq_true rfl) rfl (fun hT4 => ?_)
        refine z_if_ne C 23 dX13_from_18 (by decide) (fun c5 => ?_) (fun c5 => ?_)
        · replace hF := im hF c5
          refine z_aload_n C dX13_from_23 rfl ?_
          refine z_iconst (v := 0) C dX13_from_24 (by decide) ?_
          refine z_iload_n C dX13_from_25 rfl ?_
          obtain ⟨x6, S6, h6, hF⟩ := bI_some hF
          refine f_cV (st2 := [.int x6]) C dX13_from_26 zyX13_takesOf zvX13_takesOf lkRX13_311 (K_X13_takesOf (l := zXl X) hT4 hpv0 hkv0   h6) hpv0 hkv0 rfl (by decide) rfl rfl (Nat.le_of_ble_eq_true rfl) rfl (fun hT6 => ?_)
          refine z_istore_n (lv2 := [some (.ref (zB G + v0)), some (.int v1), some (.int v2), some (.int x6), none]) C dX13_from_29 (by decide) rfl ?_
          refine z_iconst (v := 0) C dX13_from_30 (by decide) ?_
          refine z_istore (lv2 := [some (.ref (zB G + v0)), some (.int v1), some (.int v2), some (.int x6), some (.int 0)]) C dX13_from_31 (by decide) rfl ?_
          exact ih2 S6 v0 v1 v2 x6 0 res hT6 hpv0 hkv0     hF
        · replace hF := ip hF c5
          refine z_mask [false, false, false, true, true] ?_ rfl
          exact ih1 S4  res hT4  hF
    · intro S  res hT  hF
      replace hF : F_X13_from_1 f (F_X13_from f)  S = some res := hF
      unfold F_X13_from_1 at hF
      refine z_iconst (v := (-1)) C dX13_from_21 (by decide) ?_
      cases hF
      exact z_iret C hr dX13_from_22 ⟨rfl, rfl, hT⟩
    · intro S v0 v1 v2 v3 v4 res hT hpv0 hkv0 hF
      replace hF : F_X13_from_2 f (F_X13_from f) v0 v1 v2 v3 v4 S = some res := hF
      unfold F_X13_from_2 at hF
      refine z_iload C dX13_from_33 rfl ?_
      refine z_bipush (v := 100) C dX13_from_35 (by decide) ?_
      refine z_icmp_ge C 62 dX13_from_37 (by decide) (fun c7 => ?_) (fun c7 => ?_)
      · replace hF := ip hF c7
        refine z_iconst (v := (-1)) C dX13_from_62 (by decide) ?_
        cases hF
        exact z_iret C hr dX13_from_63 ⟨rfl, rfl, hT⟩
      · replace hF := im hF c7
        refine z_aload_n C dX13_from_40 rfl ?_
        refine z_iconst (v := 0) C dX13_from_41 (by decide) ?_
        refine z_iload_n C dX13_from_42 rfl ?_
        refine z_iload_n C dX13_from_43 rfl ?_
        refine z_iload C dX13_from_44 rfl ?_
        refine z_iload_n C dX13_from_46 rfl ?_
        obtain ⟨x8, S8, h8, hF⟩ := bI_some hF
        refine f_cV (st2 := [.int x8]) C dX13_from_47 zyX13_dropsOf zvX13_dropsOf lkRX13_326 (K_X13_dropsOf (l := zXl X) hT hpv0 hkv0      h8) hpv0 hkv0 rfl (by decide) rfl rfl (Nat.le_of_ble_eq_true rfl) rfl (fun hT8 => ?_)
        refine z_if_le C 56 dX13_from_50 (by decide) (fun c9 => ?_) (fun c9 => ?_)
        · replace hF := ip hF c9
          refine z_iinc (v := v4 + 1) (lv2 := [some (.ref (zB G + v0)), some (.int v1), some (.int v2), some (.int v3), some (.int (v4 + 1))]) C dX13_from_56 rfl (by rw [show Int32.ofInt 1 = (1 : Int32) from by decide]) rfl ?_
          refine z_goto C 33 dX13_from_59 (by decide) ?_
          exact ih2 S8 v0 v1 v2 v3 (v4 + 1) res hT8 hpv0 hkv0     hF
        · replace hF := im hF c9
          refine z_iload C dX13_from_53 rfl ?_
          cases hF
          exact z_iret C hr dX13_from_55 ⟨rfl, rfl, hT8⟩
theorem K_X13_from {G : zG} {l : Launch} {kd : kD} {N0 f : Nat} {S : aS} {v0 : Nat} {v1 : Int32} {v2 : Int32} {res : Option Value × aS} (hT : zT0 kd N0 S) (hpv0 : v0 < N0) (hkv0 : kd v0 = .inl 11) (hF : F_X13_from f 0 [.ref v0, .int v1, .int v2] S = some res) : zM G l 3 0 0 yX13_from cX13_from 5 (some .int) [.ref (zB G + v0), .int v1, .int v2] (cn G kd N0 S) (zPo G kd N0 res) := zM.of (by decide) rfl (Nat.le_of_ble_eq_true rfl) (fun X _ C hr _ => (B_X13_from C hr f).1 S v0 v1 v2 res hT hpv0 hkv0 hF)
def F_X13_bare_0 (f : Nat) (rc : Nat → List Value → aS → aR) (v0 : Nat) (v1 : Int32) (S : aS) : aR :=
  fS (sI S v0 0 0) fun S1 => bI (F_X13_isYard f 0 [.ref v0, .int v1] S1) fun x2 S2 => if x2 = (0 : Int32) then rc 1 [] S2 else bX ((4 : Int32) + v1) 828 fun q5 => if (gI S2 (gR S2 v0 22) q5) ≤ (0 : Int32) then bV (F_X13_copies f 0 [.ref v0, .int 0, .int 756, .int 28] S2) fun S7 => rc 2 [.ref v0, .int v1, .int 1] S7 else rc 1 [] S2
def F_X13_bare_1 (f : Nat) (rc : Nat → List Value → aS → aR)  (S : aS) : aR :=
  some (some (.int ((-1))), S)
def F_X13_bare_2 (f : Nat) (rc : Nat → List Value → aS → aR) (v0 : Nat) (v1 : Int32) (v2 : Int32) (S : aS) : aR :=
  if (40 : Int32) < v2 then some (some (.int ((-1))), S) else bV (F_X13_allWalk f 0 [.ref v0, .int 756, .int 0] S) fun S9 => bI (F_X13_passes f 0 [.ref v0, .int 756] S9) fun x10 S10 => bX ((760 : Int32) + v1) 828 fun q12 => if (gI S10 (gR S10 v0 22) q12) ≤ (0 : Int32) then rc 2 [.ref v0, .int v1, .int (v2 + 1)] S10 else some (some (.int v2), S10)
def F_X13_bare : Nat → Nat → List Value → aS → aR
  | 0, _, _, _ => none
  | f + 1, 0, vs, S => F_X13_bare_0 f (F_X13_bare f) (vR vs 0) (vI vs 1) S
  | f + 1, 1, vs, S => F_X13_bare_1 f (F_X13_bare f)  S
  | f + 1, 2, vs, S => F_X13_bare_2 f (F_X13_bare f) (vR vs 0) (vI vs 1) (vI vs 2) S
  | _ + 1, _, _, _ => none
theorem dX13_bare_0 : decode cX13_bare 0 = .ok (.aload_n 0, 1) := by decide +kernel
theorem dX13_bare_1 : decode cX13_bare 1 = .ok (.iconst 0, 1) := by decide +kernel
theorem dX13_bare_2 : decode cX13_bare 2 = .ok (.putfield 1, 3) := by decide +kernel
theorem dX13_bare_5 : decode cX13_bare 5 = .ok (.aload_n 0, 1) := by decide +kernel
theorem dX13_bare_6 : decode cX13_bare 6 = .ok (.iload_n 1, 1) := by decide +kernel
theorem dX13_bare_7 : decode cX13_bare 7 = .ok (.invokevirtual 336, 3) := by decide +kernel
theorem dX13_bare_10 : decode cX13_bare 10 = .ok (.ifCond .eq 14, 3) := by decide +kernel
theorem dX13_bare_13 : decode cX13_bare 13 = .ok (.aload_n 0, 1) := by decide +kernel
theorem dX13_bare_14 : decode cX13_bare 14 = .ok (.getfield 119, 3) := by decide +kernel
theorem dX13_bare_17 : decode cX13_bare 17 = .ok (.iconst 4, 1) := by decide +kernel
theorem dX13_bare_18 : decode cX13_bare 18 = .ok (.iload_n 1, 1) := by decide +kernel
theorem dX13_bare_19 : decode cX13_bare 19 = .ok (.iadd, 1) := by decide +kernel
theorem dX13_bare_20 : decode cX13_bare 20 = .ok (.iaload, 1) := by decide +kernel
theorem dX13_bare_21 : decode cX13_bare 21 = .ok (.ifCond .le 5, 3) := by decide +kernel
theorem dX13_bare_24 : decode cX13_bare 24 = .ok (.iconst (-1), 1) := by decide +kernel
theorem dX13_bare_25 : decode cX13_bare 25 = .ok (.ireturn, 1) := by decide +kernel
theorem dX13_bare_26 : decode cX13_bare 26 = .ok (.aload_n 0, 1) := by decide +kernel
theorem dX13_bare_27 : decode cX13_bare 27 = .ok (.iconst 0, 1) := by decide +kernel
theorem dX13_bare_28 : decode cX13_bare 28 = .ok (.sipush 756, 3) := by decide +kernel
theorem dX13_bare_31 : decode cX13_bare 31 = .ok (.bipush 28, 2) := by decide +kernel
theorem dX13_bare_33 : decode cX13_bare 33 = .ok (.invokevirtual 288, 3) := by decide +kernel
theorem dX13_bare_36 : decode cX13_bare 36 = .ok (.iconst 1, 1) := by decide +kernel
theorem dX13_bare_37 : decode cX13_bare 37 = .ok (.istore_n 2, 1) := by decide +kernel
theorem dX13_bare_38 : decode cX13_bare 38 = .ok (.iload_n 2, 1) := by decide +kernel
theorem dX13_bare_39 : decode cX13_bare 39 = .ok (.bipush 40, 2) := by decide +kernel
theorem dX13_bare_41 : decode cX13_bare 41 = .ok (.if_icmp .gt 40, 3) := by decide +kernel
theorem dX13_bare_44 : decode cX13_bare 44 = .ok (.aload_n 0, 1) := by decide +kernel
theorem dX13_bare_45 : decode cX13_bare 45 = .ok (.sipush 756, 3) := by decide +kernel
theorem dX13_bare_48 : decode cX13_bare 48 = .ok (.iconst 0, 1) := by decide +kernel
theorem dX13_bare_49 : decode cX13_bare 49 = .ok (.invokevirtual 364, 3) := by decide +kernel
theorem dX13_bare_52 : decode cX13_bare 52 = .ok (.aload_n 0, 1) := by decide +kernel
theorem dX13_bare_53 : decode cX13_bare 53 = .ok (.sipush 756, 3) := by decide +kernel
theorem dX13_bare_56 : decode cX13_bare 56 = .ok (.invokevirtual 358, 3) := by decide +kernel
theorem dX13_bare_59 : decode cX13_bare 59 = .ok (.pop, 1) := by decide +kernel
theorem dX13_bare_60 : decode cX13_bare 60 = .ok (.aload_n 0, 1) := by decide +kernel
theorem dX13_bare_61 : decode cX13_bare 61 = .ok (.getfield 119, 3) := by decide +kernel
theorem dX13_bare_64 : decode cX13_bare 64 = .ok (.sipush 760, 3) := by decide +kernel
theorem dX13_bare_67 : decode cX13_bare 67 = .ok (.iload_n 1, 1) := by decide +kernel
theorem dX13_bare_68 : decode cX13_bare 68 = .ok (.iadd, 1) := by decide +kernel
theorem dX13_bare_69 : decode cX13_bare 69 = .ok (.iaload, 1) := by decide +kernel
theorem dX13_bare_70 : decode cX13_bare 70 = .ok (.ifCond .le 5, 3) := by decide +kernel
theorem dX13_bare_73 : decode cX13_bare 73 = .ok (.iload_n 2, 1) := by decide +kernel
theorem dX13_bare_74 : decode cX13_bare 74 = .ok (.ireturn, 1) := by decide +kernel
theorem dX13_bare_75 : decode cX13_bare 75 = .ok (.iinc 2 1, 3) := by decide +kernel
theorem dX13_bare_78 : decode cX13_bare 78 = .ok (.goto (-40), 3) := by decide +kernel
theorem dX13_bare_81 : decode cX13_bare 81 = .ok (.iconst (-1), 1) := by decide +kernel
theorem dX13_bare_82 : decode cX13_bare 82 = .ok (.ireturn, 1) := by decide +kernel
set_option maxHeartbeats 4000000 in
set_option maxRecDepth 100000 in
theorem B_X13_bare {G : zG} {X : zX} {kd : kD} {N0 : Nat} (C : zCt G X 5 0 0 RX13 cX13_bare 3) (hr : (zXh X).sig.returnType = (some .int)) : ∀ f : Nat,
    (∀ (S : aS) (v0 : Nat) (v1 : Int32) (res : Option Value × aS), zT0 kd N0 S → v0 < N0 → kd v0 = .inl 11 → F_X13_bare f 0 [.ref v0, .int v1] S = some res → zV G X (zQX G X (zPo G kd N0 res) 0 0) 3 [some (.ref (zB G + v0)), some (.int v1), none] [] (cn G kd N0 S) 0 0 0) ∧
    (∀ (S : aS)  (res : Option Value × aS), zT0 kd N0 S → F_X13_bare f 1 [] S = some res → zV G X (zQX G X (zPo G kd N0 res) 0 0) 3 [none, none, none] [] (cn G kd N0 S) 24 0 0) ∧
    (∀ (S : aS) (v0 : Nat) (v1 : Int32) (v2 : Int32) (res : Option Value × aS), zT0 kd N0 S → v0 < N0 → kd v0 = .inl 11 → F_X13_bare f 2 [.ref v0, .int v1, .int v2] S = some res → zV G X (zQX G X (zPo G kd N0 res) 0 0) 3 [some (.ref (zB G + v0)), some (.int v1), some (.int v2)] [] (cn G kd N0 S) 38 0 0) := by
  intro f
  induction f with
  | zero => exact ⟨(fun _ _ _ _ _ _ _ h => by cases h), (fun _ _ _ h => by cases h), (fun _ _ _ _ _ _ _ _ h => by cases h)⟩
  | succ f ih =>
    obtain ⟨ih0, ih1, ih2⟩ := ih
    refine ⟨?_, ?_, ?_⟩
    · intro S v0 v1 res hT hpv0 hkv0 hF
      replace hF : F_X13_bare_0 f (F_X13_bare f) v0 v1 S = some res := hF
      unfold F_X13_bare_0 at hF
      refine z_aload_n C dX13_bare_0 rfl ?_
      refine z_iconst (v := 0) C dX13_bare_1 (by decide) ?_
      refine f_puti C dX13_bare_2 zfRX13_1 fw11_0 hpv0 hkv0 rfl rfl rfl ?_
      have hT1 : zT0 kd N0 (sI S v0 0 0) := zT0_sI hT
      replace hF := fS_e hF
      generalize sI S v0 0 0 = S1 at hF hT1 ⊢
      refine z_aload_n C dX13_bare_5 rfl ?_
      refine z_iload_n C dX13_bare_6 rfl ?_
      obtain ⟨x2, S2, h2, hF⟩ := bI_some hF
      refine f_cV (st2 := [.int x2]) C dX13_bare_7 zyX13_isYard zvX13_isYard lkRX13_336 (K_X13_isYard (l := zXl X) hT1 hpv0 hkv0  h2) hpv0 hkv0 rfl (by decide) rfl rfl (Nat.le_of_ble_eq_true rfl) rfl (fun hT2 => ?_)
      refine z_if_eq C 24 dX13_bare_10 (by decide) (fun c3 => ?_) (fun c3 => ?_)
      · replace hF := ip hF c3
        refine z_mask [false, false, true] ?_ rfl
        exact ih1 S2  res hT2  hF
      · replace hF := im hF c3
        refine z_aload_n C dX13_bare_13 rfl ?_
        refine f_getr C dX13_bare_14 zfRX13_119 hpv0 hkv0 rfl ?_
        obtain ⟨hp4, hk4⟩ := hT2.1 v0 11 22 (.inr (0, 828)) hpv0 hkv0 rfl
        refine z_iconst (v := 4) C dX13_bare_17 (by decide) ?_
        refine z_iload_n C dX13_bare_18 rfl ?_
        refine z_iadd C dX13_bare_19 ?_
        obtain ⟨hi5, hF⟩ := bX_some hF
        obtain ⟨q5, eq5⟩ : ∃ q : Nat, q = Int32.toNatClampNeg ((4 : Int32) + v1) := ⟨_, rfl⟩
        rw [← eq5] at hF
        refine f_iald C dX13_bare_20 hp4 hk4 hi5 ?_
        rw [← eq5]
        refine z_if_le C 26 dX13_bare_21 (by decide) (fun c6 => ?_) (fun c6 => ?_)
        · replace hF := ip hF c6
          refine z_aload_n C dX13_bare_26 rfl ?_
          refine z_iconst (v := 0) C dX13_bare_27 (by decide) ?_
          refine z_sipush (v := 756) C dX13_bare_28 (by decide) ?_
          refine z_bipush (v := 28) C dX13_bare_31 (by decide) ?_
          obtain ⟨S7, h7, hF⟩ := bV_some hF
          refine f_cV (st2 := []) C dX13_bare_33 zyX13_copies zvX13_copies lkRX13_288 (K_X13_copies (l := zXl X) hT2 hpv0 hkv0    h7) hpv0 hkv0 rfl (by decide) rfl rfl (Nat.le_of_ble_eq_true rfl) rfl (fun hT7 => ?_)
          refine z_iconst (v := 1) C dX13_bare_36 (by decide) ?_
          refine z_istore_n (lv2 := [some (.ref (zB G + v0)), some (.int v1), some (.int 1)]) C dX13_bare_37 (by decide) rfl ?_
          exact ih2 S7 v0 v1 1 res hT7 hpv0 hkv0   hF
        · replace hF := im hF c6
          refine z_mask [false, false, true] ?_ rfl
          exact ih1 S2  res hT2  hF
    · intro S  res hT  hF
      replace hF : F_X13_bare_1 f (F_X13_bare f)  S = some res := hF
      unfold F_X13_bare_1 at hF
      refine z_iconst (v := (-1)) C dX13_bare_24 (by decide) ?_
      cases hF
      exact z_iret C hr dX13_bare_25 ⟨rfl, rfl, hT⟩
    · intro S v0 v1 v2 res hT hpv0 hkv0 hF
      replace hF : F_X13_bare_2 f (F_X13_bare f) v0 v1 v2 S = some res := hF
      unfold F_X13_bare_2 at hF
      refine z_iload_n C dX13_bare_38 rfl ?_
      refine z_bipush (v := 40) C dX13_bare_39 (by decide) ?_
      refine z_icmp_gt C 81 dX13_bare_41 (by decide) (fun c8 => ?_) (fun c8 => ?_)
      · replace hF := ip hF c8
        refine z_iconst (v := (-1)) C dX13_bare_81 (by decide) ?_
        cases hF
        exact z_iret C hr dX13_bare_82 ⟨rfl, rfl, hT⟩
      · replace hF := im hF c8
        refine z_aload_n C dX13_bare_44 rfl ?_
        refine z_sipush (v := 756) C dX13_bare_45 (by decide) ?_
        refine z_iconst (v := 0) C dX13_bare_48 (by decide) ?_
        obtain ⟨S9, h9, hF⟩ := bV_some hF
        refine f_cV (st2 := []) C dX13_bare_49 zyX13_allWalk zvX13_allWalk lkRX13_364 (K_X13_allWalk (l := zXl X) hT hpv0 hkv0   h9) hpv0 hkv0 rfl (by decide) rfl rfl (Nat.le_of_ble_eq_true rfl) rfl (fun hT9 => ?_)
        refine z_aload_n C dX13_bare_52 rfl ?_
        refine z_sipush (v := 756) C dX13_bare_53 (by decide) ?_
        obtain ⟨x10, S10, h10, hF⟩ := bI_some hF
        refine f_cV (st2 := [.int x10]) C dX13_bare_56 zyX13_passes zvX13_passes lkRX13_358 (K_X13_passes (l := zXl X) hT9 hpv0 hkv0  h10) hpv0 hkv0 rfl (by decide) rfl rfl (Nat.le_of_ble_eq_true rfl) rfl (fun hT10 => ?_)
        refine z_pop C dX13_bare_59 rfl ?_
        refine z_aload_n C dX13_bare_60 rfl ?_
        refine f_getr C dX13_bare_61 zfRX13_119 hpv0 hkv0 rfl ?_
        obtain ⟨hp11, hk11⟩ := hT10.1 v0 11 22 (.inr (0, 828)) hpv0 hkv0 rfl
        refine z_sipush (v := 760) C dX13_bare_64 (by decide) ?_
        refine z_iload_n C dX13_bare_67 rfl ?_
        refine z_iadd C dX13_bare_68 ?_
        obtain ⟨hi12, hF⟩ := bX_some hF
        obtain ⟨q12, eq12⟩ : ∃ q : Nat, q = Int32.toNatClampNeg ((760 : Int32) + v1) := ⟨_, rfl⟩
        rw [← eq12] at hF
        refine f_iald C dX13_bare_69 hp11 hk11 hi12 ?_
        rw [← eq12]
        refine z_if_le C 75 dX13_bare_70 (by decide) (fun c13 => ?_) (fun c13 => ?_)
        · replace hF := ip hF c13
          refine z_iinc (v := v2 + 1) (lv2 := [some (.ref (zB G + v0)), some (.int v1), some (.int (v2 + 1))]) C dX13_bare_75 rfl (by rw [show Int32.ofInt 1 = (1 : Int32) from by decide]) rfl ?_
          refine z_goto C 38 dX13_bare_78 (by decide) ?_
          exact ih2 S10 v0 v1 (v2 + 1) res hT10 hpv0 hkv0   hF
        · replace hF := im hF c13
          refine z_iload_n C dX13_bare_73 rfl ?_
          cases hF
          exact z_iret C hr dX13_bare_74 ⟨rfl, rfl, hT10⟩
theorem K_X13_bare {G : zG} {l : Launch} {kd : kD} {N0 f : Nat} {S : aS} {v0 : Nat} {v1 : Int32} {res : Option Value × aS} (hT : zT0 kd N0 S) (hpv0 : v0 < N0) (hkv0 : kd v0 = .inl 11) (hF : F_X13_bare f 0 [.ref v0, .int v1] S = some res) : zM G l 5 0 0 yX13_bare cX13_bare 3 (some .int) [.ref (zB G + v0), .int v1] (cn G kd N0 S) (zPo G kd N0 res) := zM.of (by decide) rfl (Nat.le_of_ble_eq_true rfl) (fun X _ C hr _ => (B_X13_bare C hr f).1 S v0 v1 res hT hpv0 hkv0 hF)
def F_X13_deposit_0 (f : Nat) (rc : Nat → List Value → aS → aR) (v0 : Nat) (v1 : Int32) (S : aS) : aR :=
  fS (sI S v0 0 0) fun S1 => bI (F_X13_within f 0 [.int v1, .int 0, .int 999] S1) fun x2 S2 => if x2 = (0 : Int32) then some (some (.int ((-1))), S2) else rc 1 [.ref v0, .int v1, .int ((-1)), .int 9] S2
def F_X13_deposit_1 (f : Nat) (rc : Nat → List Value → aS → aR) (v0 : Nat) (v1 : Int32) (v2 : Int32) (v3 : Int32) (S : aS) : aR :=
  if v3 < (0 : Int32) then fS (sI S v0 25 ((-1))) fun S6 => some (some (.int v2), S6) else fS (sI S v0 25 v3) fun S7 => bV (F_X13_copies f 0 [.ref v0, .int 0, .int 756, .int 28] S7) fun S8 => bV (F_X13_allWalk f 0 [.ref v0, .int 756, .int 0] S8) fun S9 => bI (F_X13_lyingIn f 0 [.ref v0, .int 756] S9) fun x10 S10 => rc 1 [.ref v0, .int v1, .int (if v1 < x10 then v2 else v3), .int (v3 + (-1))] S10
def F_X13_deposit : Nat → Nat → List Value → aS → aR
  | 0, _, _, _ => none
  | f + 1, 0, vs, S => F_X13_deposit_0 f (F_X13_deposit f) (vR vs 0) (vI vs 1) S
  | f + 1, 1, vs, S => F_X13_deposit_1 f (F_X13_deposit f) (vR vs 0) (vI vs 1) (vI vs 2) (vI vs 3) S
  | _ + 1, _, _, _ => none
theorem dX13_deposit_0 : decode cX13_deposit 0 = .ok (.aload_n 0, 1) := by decide +kernel
theorem dX13_deposit_1 : decode cX13_deposit 1 = .ok (.iconst 0, 1) := by decide +kernel
theorem dX13_deposit_2 : decode cX13_deposit 2 = .ok (.putfield 1, 3) := by decide +kernel
theorem dX13_deposit_5 : decode cX13_deposit 5 = .ok (.iload_n 1, 1) := by decide +kernel
theorem dX13_deposit_6 : decode cX13_deposit 6 = .ok (.iconst 0, 1) := by decide +kernel
theorem dX13_deposit_7 : decode cX13_deposit 7 = .ok (.sipush 999, 3) := by decide +kernel
theorem dX13_deposit_10 : decode cX13_deposit 10 = .ok (.invokestatic 339, 3) := by decide +kernel
theorem dX13_deposit_13 : decode cX13_deposit 13 = .ok (.ifCond .ne 5, 3) := by decide +kernel
theorem dX13_deposit_16 : decode cX13_deposit 16 = .ok (.iconst (-1), 1) := by decide +kernel
theorem dX13_deposit_17 : decode cX13_deposit 17 = .ok (.ireturn, 1) := by decide +kernel
theorem dX13_deposit_18 : decode cX13_deposit 18 = .ok (.iconst (-1), 1) := by decide +kernel
theorem dX13_deposit_19 : decode cX13_deposit 19 = .ok (.istore_n 2, 1) := by decide +kernel
theorem dX13_deposit_20 : decode cX13_deposit 20 = .ok (.bipush 9, 2) := by decide +kernel
theorem dX13_deposit_22 : decode cX13_deposit 22 = .ok (.istore_n 3, 1) := by decide +kernel
theorem dX13_deposit_23 : decode cX13_deposit 23 = .ok (.iload_n 3, 1) := by decide +kernel
theorem dX13_deposit_24 : decode cX13_deposit 24 = .ok (.ifCond .lt 49, 3) := by decide +kernel
theorem dX13_deposit_27 : decode cX13_deposit 27 = .ok (.aload_n 0, 1) := by decide +kernel
theorem dX13_deposit_28 : decode cX13_deposit 28 = .ok (.iload_n 3, 1) := by decide +kernel
theorem dX13_deposit_29 : decode cX13_deposit 29 = .ok (.putfield 126, 3) := by decide +kernel
theorem dX13_deposit_32 : decode cX13_deposit 32 = .ok (.aload_n 0, 1) := by decide +kernel
theorem dX13_deposit_33 : decode cX13_deposit 33 = .ok (.iconst 0, 1) := by decide +kernel
theorem dX13_deposit_34 : decode cX13_deposit 34 = .ok (.sipush 756, 3) := by decide +kernel
theorem dX13_deposit_37 : decode cX13_deposit 37 = .ok (.bipush 28, 2) := by decide +kernel
theorem dX13_deposit_39 : decode cX13_deposit 39 = .ok (.invokevirtual 288, 3) := by decide +kernel
theorem dX13_deposit_42 : decode cX13_deposit 42 = .ok (.aload_n 0, 1) := by decide +kernel
theorem dX13_deposit_43 : decode cX13_deposit 43 = .ok (.sipush 756, 3) := by decide +kernel
theorem dX13_deposit_46 : decode cX13_deposit 46 = .ok (.iconst 0, 1) := by decide +kernel
theorem dX13_deposit_47 : decode cX13_deposit 47 = .ok (.invokevirtual 364, 3) := by decide +kernel
theorem dX13_deposit_50 : decode cX13_deposit 50 = .ok (.aload_n 0, 1) := by decide +kernel
theorem dX13_deposit_51 : decode cX13_deposit 51 = .ok (.sipush 756, 3) := by decide +kernel
theorem dX13_deposit_54 : decode cX13_deposit 54 = .ok (.invokevirtual 299, 3) := by decide +kernel
theorem dX13_deposit_57 : decode cX13_deposit 57 = .ok (.iload_n 1, 1) := by decide +kernel
theorem dX13_deposit_58 : decode cX13_deposit 58 = .ok (.if_icmp .gt 7, 3) := by decide +kernel
theorem dX13_deposit_61 : decode cX13_deposit 61 = .ok (.iload_n 3, 1) := by decide +kernel
theorem dX13_deposit_62 : decode cX13_deposit 62 = .ok (.goto 4, 3) := by decide +kernel
theorem dX13_deposit_65 : decode cX13_deposit 65 = .ok (.iload_n 2, 1) := by decide +kernel
theorem dX13_deposit_66 : decode cX13_deposit 66 = .ok (.istore_n 2, 1) := by decide +kernel
theorem dX13_deposit_67 : decode cX13_deposit 67 = .ok (.iinc 3 (-1), 3) := by decide +kernel
theorem dX13_deposit_70 : decode cX13_deposit 70 = .ok (.goto (-47), 3) := by decide +kernel
theorem dX13_deposit_73 : decode cX13_deposit 73 = .ok (.aload_n 0, 1) := by decide +kernel
theorem dX13_deposit_74 : decode cX13_deposit 74 = .ok (.iconst (-1), 1) := by decide +kernel
theorem dX13_deposit_75 : decode cX13_deposit 75 = .ok (.putfield 126, 3) := by decide +kernel
theorem dX13_deposit_78 : decode cX13_deposit 78 = .ok (.iload_n 2, 1) := by decide +kernel
theorem dX13_deposit_79 : decode cX13_deposit 79 = .ok (.ireturn, 1) := by decide +kernel
set_option maxHeartbeats 4000000 in
set_option maxRecDepth 100000 in
theorem B_X13_deposit {G : zG} {X : zX} {kd : kD} {N0 : Nat} (C : zCt G X 5 0 0 RX13 cX13_deposit 4) (hr : (zXh X).sig.returnType = (some .int)) : ∀ f : Nat,
    (∀ (S : aS) (v0 : Nat) (v1 : Int32) (res : Option Value × aS), zT0 kd N0 S → v0 < N0 → kd v0 = .inl 11 → F_X13_deposit f 0 [.ref v0, .int v1] S = some res → zV G X (zQX G X (zPo G kd N0 res) 0 0) 4 [some (.ref (zB G + v0)), some (.int v1), none, none] [] (cn G kd N0 S) 0 0 0) ∧
    (∀ (S : aS) (v0 : Nat) (v1 : Int32) (v2 : Int32) (v3 : Int32) (res : Option Value × aS), zT0 kd N0 S → v0 < N0 → kd v0 = .inl 11 → F_X13_deposit f 1 [.ref v0, .int v1, .int v2, .int v3] S = some res → zV G X (zQX G X (zPo G kd N0 res) 0 0) 4 [some (.ref (zB G + v0)), some (.int v1), some (.int v2), some (.int v3)] [] (cn G kd N0 S) 23 0 0) := by
  intro f
  induction f with
  | zero => exact ⟨(fun _ _ _ _ _ _ _ h => by cases h), (fun _ _ _ _ _ _ _ _ _ h => by cases h)⟩
  | succ f ih =>
    obtain ⟨ih0, ih1⟩ := ih
    refine ⟨?_, ?_⟩
    · intro S v0 v1 res hT hpv0 hkv0 hF
      replace hF : F_X13_deposit_0 f (F_X13_deposit f) v0 v1 S = some res := hF
      unfold F_X13_deposit_0 at hF
      refine z_aload_n C dX13_deposit_0 rfl ?_
      refine z_iconst (v := 0) C dX13_deposit_1 (by decide) ?_
      refine f_puti C dX13_deposit_2 zfRX13_1 fw11_0 hpv0 hkv0 rfl rfl rfl ?_
      have hT1 : zT0 kd N0 (sI S v0 0 0) := zT0_sI hT
      replace hF := fS_e hF
      generalize sI S v0 0 0 = S1 at hF hT1 ⊢
      refine z_iload_n C dX13_deposit_5 rfl ?_
      refine z_iconst (v := 0) C dX13_deposit_6 (by decide) ?_
      refine z_sipush (v := 999) C dX13_deposit_7 (by decide) ?_
      obtain ⟨x2, S2, h2, hF⟩ := bI_some hF
      refine f_cS (st2 := [.int x2]) C dX13_deposit_10 zyX13_within zsX13_within lkRX13_339 (K_X13_within (l := zXl X) hT1    h2) (by decide) rfl rfl (Nat.le_of_ble_eq_true rfl) rfl (fun hT2 => ?_)
      refine z_if_ne C 18 dX13_deposit_13 (by decide) (fun c3 => ?_) (fun c3 => ?_)
      · replace hF := im hF c3
        refine z_iconst (v := (-1)) C dX13_deposit_18 (by decide) ?_
        refine z_istore_n (lv2 := [some (.ref (zB G + v0)), some (.int v1), some (.int ((-1))), none]) C dX13_deposit_19 (by decide) rfl ?_
        refine z_bipush (v := 9) C dX13_deposit_20 (by decide) ?_
        refine z_istore_n (lv2 := [some (.ref (zB G + v0)), some (.int v1), some (.int ((-1))), some (.int 9)]) C dX13_deposit_22 (by decide) rfl ?_
        exact ih1 S2 v0 v1 ((-1)) 9 res hT2 hpv0 hkv0    hF
      · replace hF := ip hF c3
        refine z_iconst (v := (-1)) C dX13_deposit_16 (by decide) ?_
        cases hF
        exact z_iret C hr dX13_deposit_17 ⟨rfl, rfl, hT2⟩
    · intro S v0 v1 v2 v3 res hT hpv0 hkv0 hF
      replace hF : F_X13_deposit_1 f (F_X13_deposit f) v0 v1 v2 v3 S = some res := hF
      unfold F_X13_deposit_1 at hF
      refine z_iload_n C dX13_deposit_23 rfl ?_
      refine z_if_lt C 73 dX13_deposit_24 (by decide) (fun c5 => ?_) (fun c5 => ?_)
      · replace hF := ip hF c5
        refine z_aload_n C dX13_deposit_73 rfl ?_
        refine z_iconst (v := (-1)) C dX13_deposit_74 (by decide) ?_
        refine f_puti C dX13_deposit_75 zfRX13_126 fw11_25 hpv0 hkv0 rfl rfl rfl ?_
        have hT6 : zT0 kd N0 (sI S v0 25 ((-1))) := zT0_sI hT
        replace hF := fS_e hF
        generalize sI S v0 25 ((-1)) = S6 at hF hT6 ⊢
        refine z_iload_n C dX13_deposit_78 rfl ?_
        cases hF
        exact z_iret C hr dX13_deposit_79 ⟨rfl, rfl, hT6⟩
      · replace hF := im hF c5
        refine z_aload_n C dX13_deposit_27 rfl ?_
        refine z_iload_n C dX13_deposit_28 rfl ?_
        refine f_puti C dX13_deposit_29 zfRX13_126 fw11_25 hpv0 hkv0 rfl rfl rfl ?_
        have hT7 : zT0 kd N0 (sI S v0 25 v3) := zT0_sI hT
        replace hF := fS_e hF
        generalize sI S v0 25 v3 = S7 at hF hT7 ⊢
        refine z_aload_n C dX13_deposit_32 rfl ?_
        refine z_iconst (v := 0) C dX13_deposit_33 (by decide) ?_
        refine z_sipush (v := 756) C dX13_deposit_34 (by decide) ?_
        refine z_bipush (v := 28) C dX13_deposit_37 (by decide) ?_
        obtain ⟨S8, h8, hF⟩ := bV_some hF
        refine f_cV (st2 := []) C dX13_deposit_39 zyX13_copies zvX13_copies lkRX13_288 (K_X13_copies (l := zXl X) hT7 hpv0 hkv0    h8) hpv0 hkv0 rfl (by decide) rfl rfl (Nat.le_of_ble_eq_true rfl) rfl (fun hT8 => ?_)
        refine z_aload_n C dX13_deposit_42 rfl ?_
        refine z_sipush (v := 756) C dX13_deposit_43 (by decide) ?_
        refine z_iconst (v := 0) C dX13_deposit_46 (by decide) ?_
        obtain ⟨S9, h9, hF⟩ := bV_some hF
        refine f_cV (st2 := []) C dX13_deposit_47 zyX13_allWalk zvX13_allWalk lkRX13_364 (K_X13_allWalk (l := zXl X) hT8 hpv0 hkv0   h9) hpv0 hkv0 rfl (by decide) rfl rfl (Nat.le_of_ble_eq_true rfl) rfl (fun hT9 => ?_)
        refine z_aload_n C dX13_deposit_50 rfl ?_
        refine z_sipush (v := 756) C dX13_deposit_51 (by decide) ?_
        obtain ⟨x10, S10, h10, hF⟩ := bI_some hF
        refine f_cV (st2 := [.int x10]) C dX13_deposit_54 zyX13_lyingIn zvX13_lyingIn lkRX13_299 (K_X13_lyingIn (l := zXl X) hT9 hpv0 hkv0  h10) hpv0 hkv0 rfl (by decide) rfl rfl (Nat.le_of_ble_eq_true rfl) rfl (fun hT10 => ?_)
        refine z_iload_n C dX13_deposit_57 rfl ?_
        have hJ12 : zV G X (zQX G X (zPo G kd N0 res) 0 0) 4 [some (.ref (zB G + v0)), some (.int v1), some (.int v2), some (.int v3)] [.int (if v1 < x10 then v2 else v3)] (cn G kd N0 S10) 66 0 0 := by
          refine z_istore_n (lv2 := [some (.ref (zB G + v0)), some (.int v1), some (.int (if v1 < x10 then v2 else v3)), some (.int v3)]) C dX13_deposit_66 (by decide) rfl ?_
          refine z_iinc (v := v3 + (-1)) (lv2 := [some (.ref (zB G + v0)), some (.int v1), some (.int (if v1 < x10 then v2 else v3)), some (.int (v3 + (-1)))]) C dX13_deposit_67 rfl (by rw [show Int32.ofInt (-1) = ((-1) : Int32) from by decide]) rfl ?_
          refine z_goto C 23 dX13_deposit_70 (by decide) ?_
          exact ih1 S10 v0 v1 (if v1 < x10 then v2 else v3) (v3 + (-1)) res hT10 hpv0 hkv0    hF
        refine z_icmp_gt C 65 dX13_deposit_58 (by decide) (fun c11 => ?_) (fun c11 => ?_)
        · refine z_iload_n C dX13_deposit_65 rfl ?_
          exact zV.at hJ12 (by first | rfl | contradiction | (simp only [if_pos c11]; done)) (by first | rfl | contradiction | (simp only [if_pos c11]; done)) rfl rfl
        · refine z_iload_n C dX13_deposit_61 rfl ?_
          refine z_goto C 66 dX13_deposit_62 (by decide) ?_
          exact zV.at hJ12 (by first | rfl | contradiction | (simp only [if_neg c11]; done)) (by first | rfl | contradiction | (simp only [if_neg c11]; done)) rfl rfl
theorem K_X13_deposit {G : zG} {l : Launch} {kd : kD} {N0 f : Nat} {S : aS} {v0 : Nat} {v1 : Int32} {res : Option Value × aS} (hT : zT0 kd N0 S) (hpv0 : v0 < N0) (hkv0 : kd v0 = .inl 11) (hF : F_X13_deposit f 0 [.ref v0, .int v1] S = some res) : zM G l 5 0 0 yX13_deposit cX13_deposit 4 (some .int) [.ref (zB G + v0), .int v1] (cn G kd N0 S) (zPo G kd N0 res) := zM.of (by decide) rfl (Nat.le_of_ble_eq_true rfl) (fun X _ C hr _ => (B_X13_deposit C hr f).1 S v0 v1 res hT hpv0 hkv0 hF)
def F_X13_whoNow_0 (f : Nat) (rc : Nat → List Value → aS → aR) (v0 : Nat) (S : aS) : aR :=
  rc 1 [.ref v0, .int 0, .int 0] S
def F_X13_whoNow_1 (f : Nat) (rc : Nat → List Value → aS → aR) (v0 : Nat) (v1 : Int32) (v2 : Int32) (S : aS) : aR :=
  bI (F_X13_people f 0 [.ref v0] S) fun x1 S1 => if x1 ≤ v2 then some (some (.int v1), S1) else bV (F_X13_copies f 0 [.ref v0, .int 0, .int 756, .int 28] S1) fun S4 => bI (F_X13_walks f 0 [.ref v0, .int 756, .int v2] S4) fun x5 S5 => rc 2 [.ref v0, .int v1, .int v2, .int 1, .int 0] S5
def F_X13_whoNow_2 (f : Nat) (rc : Nat → List Value → aS → aR) (v0 : Nat) (v1 : Int32) (v2 : Int32) (v3 : Int32) (v4 : Int32) (S : aS) : aR :=
  bI (F_X13_yards f 0 [.ref v0] S) fun x6 S6 => if x6 ≤ v4 then lI (v1 ||| (if v3 = (0 : Int32) then (0 : Int32) else ((1 : Int32) <<< (v2 &&& 31)))) fun y13 => rc 1 [.ref v0, .int y13, .int (v2 + 1)] S6 else bX ((760 : Int32) + v4) 828 fun q16 => bX ((4 : Int32) + v4) 828 fun q18 => bX (((8 : Int32) * v2) + v4) 48 fun q19 => fS (sI S6 (gR S6 v0 34) q19 ((gI S6 (gR S6 v0 22) q16) - (gI S6 (gR S6 v0 22) q18))) fun S20 => if v3 = (0 : Int32) then rc 3 [.ref v0, .int v1, .int v2, .int v4] S20 else bX ((28 : Int32) + v4) 828 fun q25 => if (gI S20 (gR S20 v0 22) q25) = (-1000 : Int32) then rc 4 [.ref v0, .int v1, .int v2, .int v4] S20 else bX ((28 : Int32) + v4) 828 fun q30 => bX (((8 : Int32) * v2) + v4) 48 fun q32 => lI (if (gI S20 (gR S20 v0 22) q30) = (gI S20 (gR S20 v0 34) q32) then (1 : Int32) else (0 : Int32)) fun y35 => rc 2 [.ref v0, .int v1, .int v2, .int y35, .int (v4 + 1)] S20
def F_X13_whoNow_3 (f : Nat) (rc : Nat → List Value → aS → aR) (v0 : Nat) (v1 : Int32) (v2 : Int32) (v3 : Int32) (S : aS) : aR :=
  rc 5 [.ref v0, .int v1, .int v2, .int v3, .int 0] S
def F_X13_whoNow_4 (f : Nat) (rc : Nat → List Value → aS → aR) (v0 : Nat) (v1 : Int32) (v2 : Int32) (v3 : Int32) (S : aS) : aR :=
  rc 5 [.ref v0, .int v1, .int v2, .int v3, .int 1] S
def F_X13_whoNow_5 (f : Nat) (rc : Nat → List Value → aS → aR) (v0 : Nat) (v1 : Int32) (v2 : Int32) (v3 : Int32) (w0 : Int32) (S : aS) : aR :=
  rc 2 [.ref v0, .int v1, .int v2, .int w0, .int (v3 + 1)] S
def F_X13_whoNow : Nat → Nat → List Value → aS → aR
  | 0, _, _, _ => none
  | f + 1, 0, vs, S => F_X13_whoNow_0 f (F_X13_whoNow f) (vR vs 0) S
  | f + 1, 1, vs, S => F_X13_whoNow_1 f (F_X13_whoNow f) (vR vs 0) (vI vs 1) (vI vs 2) S
  | f + 1, 2, vs, S => F_X13_whoNow_2 f (F_X13_whoNow f) (vR vs 0) (vI vs 1) (vI vs 2) (vI vs 3) (vI vs 4) S
  | f + 1, 3, vs, S => F_X13_whoNow_3 f (F_X13_whoNow f) (vR vs 0) (vI vs 1) (vI vs 2) (vI vs 3) S
  | f + 1, 4, vs, S => F_X13_whoNow_4 f (F_X13_whoNow f) (vR vs 0) (vI vs 1) (vI vs 2) (vI vs 3) S
  | f + 1, 5, vs, S => F_X13_whoNow_5 f (F_X13_whoNow f) (vR vs 0) (vI vs 1) (vI vs 2) (vI vs 3) (vI vs 4) S
  | _ + 1, _, _, _ => none
theorem dX13_whoNow_0 : decode cX13_whoNow 0 = .ok (.iconst 0, 1) := by decide +kernel
theorem dX13_whoNow_1 : decode cX13_whoNow 1 = .ok (.istore_n 1, 1) := by decide +kernel
theorem dX13_whoNow_2 : decode cX13_whoNow 2 = .ok (.iconst 0, 1) := by decide +kernel
theorem dX13_whoNow_3 : decode cX13_whoNow 3 = .ok (.istore_n 2, 1) := by decide +kernel
theorem dX13_whoNow_4 : decode cX13_whoNow 4 = .ok (.iload_n 2, 1) := by decide +kernel
theorem dX13_whoNow_5 : decode cX13_whoNow 5 = .ok (.aload_n 0, 1) := by decide +kernel
theorem dX13_whoNow_6 : decode cX13_whoNow 6 = .ok (.invokevirtual 292, 3) := by decide +kernel
theorem dX13_whoNow_9 : decode cX13_whoNow 9 = .ok (.if_icmp .ge 146, 3) := by decide +kernel
theorem dX13_whoNow_12 : decode cX13_whoNow 12 = .ok (.aload_n 0, 1) := by decide +kernel
theorem dX13_whoNow_13 : decode cX13_whoNow 13 = .ok (.iconst 0, 1) := by decide +kernel
theorem dX13_whoNow_14 : decode cX13_whoNow 14 = .ok (.sipush 756, 3) := by decide +kernel
theorem dX13_whoNow_17 : decode cX13_whoNow 17 = .ok (.bipush 28, 2) := by decide +kernel
theorem dX13_whoNow_19 : decode cX13_whoNow 19 = .ok (.invokevirtual 288, 3) := by decide +kernel
theorem dX13_whoNow_22 : decode cX13_whoNow 22 = .ok (.aload_n 0, 1) := by decide +kernel
theorem dX13_whoNow_23 : decode cX13_whoNow 23 = .ok (.sipush 756, 3) := by decide +kernel
theorem dX13_whoNow_26 : decode cX13_whoNow 26 = .ok (.iload_n 2, 1) := by decide +kernel
theorem dX13_whoNow_27 : decode cX13_whoNow 27 = .ok (.invokevirtual 330, 3) := by decide +kernel
theorem dX13_whoNow_30 : decode cX13_whoNow 30 = .ok (.pop, 1) := by decide +kernel
theorem dX13_whoNow_31 : decode cX13_whoNow 31 = .ok (.iconst 1, 1) := by decide +kernel
theorem dX13_whoNow_32 : decode cX13_whoNow 32 = .ok (.istore_n 3, 1) := by decide +kernel
theorem dX13_whoNow_33 : decode cX13_whoNow 33 = .ok (.iconst 0, 1) := by decide +kernel
theorem dX13_whoNow_34 : decode cX13_whoNow 34 = .ok (.istore 4, 2) := by decide +kernel
theorem dX13_whoNow_36 : decode cX13_whoNow 36 = .ok (.iload 4, 2) := by decide +kernel
theorem dX13_whoNow_38 : decode cX13_whoNow 38 = .ok (.aload_n 0, 1) := by decide +kernel
theorem dX13_whoNow_39 : decode cX13_whoNow 39 = .ok (.invokevirtual 279, 3) := by decide +kernel
theorem dX13_whoNow_42 : decode cX13_whoNow 42 = .ok (.if_icmp .ge 93, 3) := by decide +kernel
theorem dX13_whoNow_45 : decode cX13_whoNow 45 = .ok (.aload_n 0, 1) := by decide +kernel
theorem dX13_whoNow_46 : decode cX13_whoNow 46 = .ok (.getfield 141, 3) := by decide +kernel
theorem dX13_whoNow_49 : decode cX13_whoNow 49 = .ok (.bipush 8, 2) := by decide +kernel
theorem dX13_whoNow_51 : decode cX13_whoNow 51 = .ok (.iload_n 2, 1) := by decide +kernel
theorem dX13_whoNow_52 : decode cX13_whoNow 52 = .ok (.imul, 1) := by decide +kernel
theorem dX13_whoNow_53 : decode cX13_whoNow 53 = .ok (.iload 4, 2) := by decide +kernel
theorem dX13_whoNow_55 : decode cX13_whoNow 55 = .ok (.iadd, 1) := by decide +kernel
theorem dX13_whoNow_56 : decode cX13_whoNow 56 = .ok (.aload_n 0, 1) := by decide +kernel
theorem dX13_whoNow_57 : decode cX13_whoNow 57 = .ok (.getfield 119, 3) := by decide +kernel
theorem dX13_whoNow_60 : decode cX13_whoNow 60 = .ok (.sipush 760, 3) := by decide +kernel
theorem dX13_whoNow_63 : decode cX13_whoNow 63 = .ok (.iload 4, 2) := by decide +kernel
theorem dX13_whoNow_65 : decode cX13_whoNow 65 = .ok (.iadd, 1) := by decide +kernel
theorem dX13_whoNow_66 : decode cX13_whoNow 66 = .ok (.iaload, 1) := by decide +kernel
theorem dX13_whoNow_67 : decode cX13_whoNow 67 = .ok (.aload_n 0, 1) := by decide +kernel
theorem dX13_whoNow_68 : decode cX13_whoNow 68 = .ok (.getfield 119, 3) := by decide +kernel
theorem dX13_whoNow_71 : decode cX13_whoNow 71 = .ok (.iconst 4, 1) := by decide +kernel
theorem dX13_whoNow_72 : decode cX13_whoNow 72 = .ok (.iload 4, 2) := by decide +kernel
theorem dX13_whoNow_74 : decode cX13_whoNow 74 = .ok (.iadd, 1) := by decide +kernel
theorem dX13_whoNow_75 : decode cX13_whoNow 75 = .ok (.iaload, 1) := by decide +kernel
theorem dX13_whoNow_76 : decode cX13_whoNow 76 = .ok (.isub, 1) := by decide +kernel
theorem dX13_whoNow_77 : decode cX13_whoNow 77 = .ok (.iastore, 1) := by decide +kernel
theorem dX13_whoNow_78 : decode cX13_whoNow 78 = .ok (.iload_n 3, 1) := by decide +kernel
theorem dX13_whoNow_79 : decode cX13_whoNow 79 = .ok (.ifCond .eq 48, 3) := by decide +kernel
theorem dX13_whoNow_82 : decode cX13_whoNow 82 = .ok (.aload_n 0, 1) := by decide +kernel
theorem dX13_whoNow_83 : decode cX13_whoNow 83 = .ok (.getfield 119, 3) := by decide +kernel
theorem dX13_whoNow_86 : decode cX13_whoNow 86 = .ok (.bipush 28, 2) := by decide +kernel
theorem dX13_whoNow_88 : decode cX13_whoNow 88 = .ok (.iload 4, 2) := by decide +kernel
theorem dX13_whoNow_90 : decode cX13_whoNow 90 = .ok (.iadd, 1) := by decide +kernel
theorem dX13_whoNow_91 : decode cX13_whoNow 91 = .ok (.iaload, 1) := by decide +kernel
theorem dX13_whoNow_92 : decode cX13_whoNow 92 = .ok (.sipush (-1000), 3) := by decide +kernel
theorem dX13_whoNow_95 : decode cX13_whoNow 95 = .ok (.if_icmp .eq 28, 3) := by decide +kernel
theorem dX13_whoNow_98 : decode cX13_whoNow 98 = .ok (.aload_n 0, 1) := by decide +kernel
theorem dX13_whoNow_99 : decode cX13_whoNow 99 = .ok (.getfield 119, 3) := by decide +kernel
theorem dX13_whoNow_102 : decode cX13_whoNow 102 = .ok (.bipush 28, 2) := by decide +kernel
theorem dX13_whoNow_104 : decode cX13_whoNow 104 = .ok (.iload 4, 2) := by decide +kernel
theorem dX13_whoNow_106 : decode cX13_whoNow 106 = .ok (.iadd, 1) := by decide +kernel
theorem dX13_whoNow_107 : decode cX13_whoNow 107 = .ok (.iaload, 1) := by decide +kernel
theorem dX13_whoNow_108 : decode cX13_whoNow 108 = .ok (.aload_n 0, 1) := by decide +kernel
theorem dX13_whoNow_109 : decode cX13_whoNow 109 = .ok (.getfield 141, 3) := by decide +kernel
theorem dX13_whoNow_112 : decode cX13_whoNow 112 = .ok (.bipush 8, 2) := by decide +kernel
theorem dX13_whoNow_114 : decode cX13_whoNow 114 = .ok (.iload_n 2, 1) := by decide +kernel
theorem dX13_whoNow_115 : decode cX13_whoNow 115 = .ok (.imul, 1) := by decide +kernel
theorem dX13_whoNow_116 : decode cX13_whoNow 116 = .ok (.iload 4, 2) := by decide +kernel
theorem dX13_whoNow_118 : decode cX13_whoNow 118 = .ok (.iadd, 1) := by decide +kernel
theorem dX13_whoNow_119 : decode cX13_whoNow 119 = .ok (.iaload, 1) := by decide +kernel
theorem dX13_whoNow_120 : decode cX13_whoNow 120 = .ok (.if_icmp .ne 7, 3) := by decide +kernel
theorem dX13_whoNow_123 : decode cX13_whoNow 123 = .ok (.iconst 1, 1) := by decide +kernel
theorem dX13_whoNow_124 : decode cX13_whoNow 124 = .ok (.goto 4, 3) := by decide +kernel
theorem dX13_whoNow_127 : decode cX13_whoNow 127 = .ok (.iconst 0, 1) := by decide +kernel
theorem dX13_whoNow_128 : decode cX13_whoNow 128 = .ok (.istore_n 3, 1) := by decide +kernel
theorem dX13_whoNow_129 : decode cX13_whoNow 129 = .ok (.iinc 4 1, 3) := by decide +kernel
theorem dX13_whoNow_132 : decode cX13_whoNow 132 = .ok (.goto (-96), 3) := by decide +kernel
theorem dX13_whoNow_135 : decode cX13_whoNow 135 = .ok (.iload_n 1, 1) := by decide +kernel
theorem dX13_whoNow_136 : decode cX13_whoNow 136 = .ok (.iload_n 3, 1) := by decide +kernel
theorem dX13_whoNow_137 : decode cX13_whoNow 137 = .ok (.ifCond .eq 9, 3) := by decide +kernel
theorem dX13_whoNow_140 : decode cX13_whoNow 140 = .ok (.iconst 1, 1) := by decide +kernel
theorem dX13_whoNow_141 : decode cX13_whoNow 141 = .ok (.iload_n 2, 1) := by decide +kernel
theorem dX13_whoNow_142 : decode cX13_whoNow 142 = .ok (.ishl, 1) := by decide +kernel
theorem dX13_whoNow_143 : decode cX13_whoNow 143 = .ok (.goto 4, 3) := by decide +kernel
theorem dX13_whoNow_146 : decode cX13_whoNow 146 = .ok (.iconst 0, 1) := by decide +kernel
theorem dX13_whoNow_147 : decode cX13_whoNow 147 = .ok (.ior, 1) := by decide +kernel
theorem dX13_whoNow_148 : decode cX13_whoNow 148 = .ok (.istore_n 1, 1) := by decide +kernel
theorem dX13_whoNow_149 : decode cX13_whoNow 149 = .ok (.iinc 2 1, 3) := by decide +kernel
theorem dX13_whoNow_152 : decode cX13_whoNow 152 = .ok (.goto (-148), 3) := by decide +kernel
theorem dX13_whoNow_155 : decode cX13_whoNow 155 = .ok (.iload_n 1, 1) := by decide +kernel
theorem dX13_whoNow_156 : decode cX13_whoNow 156 = .ok (.ireturn, 1) := by decide +kernel
set_option maxHeartbeats 4000000 in
set_option maxRecDepth 100000 in
theorem B_X13_whoNow {G : zG} {X : zX} {kd : kD} {N0 : Nat} (C : zCt G X 4 0 0 RX13 cX13_whoNow 5) (hr : (zXh X).sig.returnType = (some .int)) : ∀ f : Nat,
    (∀ (S : aS) (v0 : Nat) (res : Option Value × aS), zT0 kd N0 S → v0 < N0 → kd v0 = .inl 11 → F_X13_whoNow f 0 [.ref v0] S = some res → zV G X (zQX G X (zPo G kd N0 res) 0 0) 5 [some (.ref (zB G + v0)), none, none, none, none] [] (cn G kd N0 S) 0 0 0) ∧
    (∀ (S : aS) (v0 : Nat) (v1 : Int32) (v2 : Int32) (res : Option Value × aS), zT0 kd N0 S → v0 < N0 → kd v0 = .inl 11 → F_X13_whoNow f 1 [.ref v0, .int v1, .int v2] S = some res → zV G X (zQX G X (zPo G kd N0 res) 0 0) 5 [some (.ref (zB G + v0)), some (.int v1), some (.int v2), none, none] [] (cn G kd N0 S) 4 0 0) ∧
    (∀ (S : aS) (v0 : Nat) (v1 : Int32) (v2 : Int32) (v3 : Int32) (v4 : Int32) (res : Option Value × aS), zT0 kd N0 S → v0 < N0 → kd v0 = .inl 11 → F_X13_whoNow f 2 [.ref v0, .int v1, .int v2, .int v3, .int v4] S = some res → zV G X (zQX G X (zPo G kd N0 res) 0 0) 5 [some (.ref (zB G + v0)), some (.int v1), some (.int v2), some (.int v3), some (.int v4)] [] (cn G kd N0 S) 36 0 0) ∧
    (∀ (S : aS) (v0 : Nat) (v1 : Int32) (v2 : Int32) (v3 : Int32) (res : Option Value × aS), zT0 kd N0 S → v0 < N0 → kd v0 = .inl 11 → F_X13_whoNow f 3 [.ref v0, .int v1, .int v2, .int v3] S = some res → zV G X (zQX G X (zPo G kd N0 res) 0 0) 5 [some (.ref (zB G + v0)), some (.int v1), some (.int v2), none, some (.int v3)] [] (cn G kd N0 S) 127 0 0) ∧
    (∀ (S : aS) (v0 : Nat) (v1 : Int32) (v2 : Int32) (v3 : Int32) (res : Option Value × aS), zT0 kd N0 S → v0 < N0 → kd v0 = .inl 11 → F_X13_whoNow f 4 [.ref v0, .int v1, .int v2, .int v3] S = some res → zV G X (zQX G X (zPo G kd N0 res) 0 0) 5 [some (.ref (zB G + v0)), some (.int v1), some (.int v2), none, some (.int v3)] [] (cn G kd N0 S) 123 0 0) ∧
    (∀ (S : aS) (v0 : Nat) (v1 : Int32) (v2 : Int32) (v3 : Int32) (w0 : Int32) (res : Option Value × aS), zT0 kd N0 S → v0 < N0 → kd v0 = .inl 11 → F_X13_whoNow f 5 [.ref v0, .int v1, .int v2, .int v3, .int w0] S = some res → zV G X (zQX G X (zPo G kd N0 res) 0 0) 5 [some (.ref (zB G + v0)), some (.int v1), some (.int v2), none, some (.int v3)] [.int w0] (cn G kd N0 S) 128 0 0) := by
  intro f
  induction f with
  | zero => exact ⟨(fun _ _ _ _ _ _ h => by cases h), (fun _ _ _ _ _ _ _ _ h => by cases h), (fun _ _ _ _ _ _ _ _ _ _ h => by cases h), (fun _ _ _ _ _ _ _ _ _ h => by cases h), (fun _ _ _ _ _ _ _ _ _ h => by cases h), (fun _ _ _ _ _ _ _ _ _ _ h => by cases h)⟩
  | succ f ih =>
    obtain ⟨ih0, ih1, ih2, ih3, ih4, ih5⟩ := ih
    refine ⟨?_, ?_, ?_, ?_, ?_, ?_⟩
    · intro S v0 res hT hpv0 hkv0 hF
      replace hF : F_X13_whoNow_0 f (F_X13_whoNow f) v0 S = some res := hF
      unfold F_X13_whoNow_0 at hF
      refine z_iconst (v := 0) C dX13_whoNow_0 (by decide) ?_
      refine z_istore_n (lv2 := [some (.ref (zB G + v0)), some (.int 0), none, none, none]) C dX13_whoNow_1 (by decide) rfl ?_
      refine z_iconst (v := 0) C dX13_whoNow_2 (by decide) ?_
      refine z_istore_n (lv2 := [some (.ref (zB G + v0)), some (.int 0), some (.int 0), none, none]) C dX13_whoNow_3 (by decide) rfl ?_
      exact ih1 S v0 0 0 res hT hpv0 hkv0   hF
    · intro S v0 v1 v2 res hT hpv0 hkv0 hF
      replace hF : F_X13_whoNow_1 f (F_X13_whoNow f) v0 v1 v2 S = some res := hF
      unfold F_X13_whoNow_1 at hF
      refine z_iload_n C dX13_whoNow_4 rfl ?_
      refine z_aload_n C dX13_whoNow_5 rfl ?_
      obtain ⟨x1, S1, h1, hF⟩ := bI_some hF
      refine f_cV (st2 := [.int x1, .int v2]) C dX13_whoNow_6 zyX13_people zvX13_people lkRX13_292 (K_X13_people (l := zXl X) hT hpv0 hkv0 h1) hpv0 hkv0 rfl (by decide) rfl rfl (Nat.le_of_ble_eq_true rfl) rfl (fun hT1 => ?_)
      refine z_icmp_ge C 155 dX13_whoNow_9 (by decide) (fun c3 => ?_) (fun c3 => ?_)
      · replace hF := ip hF c3
        refine z_iload_n C dX13_whoNow_155 rfl ?_
        cases hF
        exact z_iret C hr dX13_whoNow_156 ⟨rfl, rfl, hT1⟩
      · replace hF := im hF c3
        refine z_aload_n C dX13_whoNow_12 rfl ?_
        refine z_iconst (v := 0) C dX13_whoNow_13 (by decide) ?_
        refine z_sipush (v := 756) C dX13_whoNow_14 (by decide) ?_
        refine z_bipush (v := 28) C dX13_whoNow_17 (by decide) ?_
        obtain ⟨S4, h4, hF⟩ := bV_some hF
        refine f_cV (st2 := []) C dX13_whoNow_19 zyX13_copies zvX13_copies lkRX13_288 (K_X13_copies (l := zXl X) hT1 hpv0 hkv0    h4) hpv0 hkv0 rfl (by decide) rfl rfl (Nat.le_of_ble_eq_true rfl) rfl (fun hT4 => ?_)
        refine z_aload_n C dX13_whoNow_22 rfl ?_
        refine z_sipush (v := 756) C dX13_whoNow_23 (by decide) ?_
        refine z_iload_n C dX13_whoNow_26 rfl ?_
        obtain ⟨x5, S5, h5, hF⟩ := bI_some hF
        refine f_cV (st2 := [.int x5]) C dX13_whoNow_27 zyX13_walks zvX13_walks lkRX13_330 (K_X13_walks (l := zXl X) hT4 hpv0 hkv0   h5) hpv0 hkv0 rfl (by decide) rfl rfl (Nat.le_of_ble_eq_true rfl) rfl (fun hT5 => ?_)
        refine z_pop C dX13_whoNow_30 rfl ?_
        refine z_iconst (v := 1) C dX13_whoNow_31 (by decide) ?_
        refine z_istore_n (lv2 := [some (.ref (zB G + v0)), some (.int v1), some (.int v2), some (.int 1), none]) C dX13_whoNow_32 (by decide) rfl ?_
        refine z_iconst (v := 0) C dX13_whoNow_33 (by decide) ?_
        refine z_istore (lv2 := [some (.ref (zB G + v0)), some (.int v1), some (.int v2), some (.int 1), some (.int 0)]) C dX13_whoNow_34 (by decide) rfl ?_
        exact ih2 S5 v0 v1 v2 1 0 res hT5 hpv0 hkv0     hF
    · intro S v0 v1 v2 v3 v4 res hT hpv0 hkv0 hF
      replace hF : F_X13_whoNow_2 f (F_X13_whoNow f) v0 v1 v2 v3 v4 S = some res := hF
      unfold F_X13_whoNow_2 at hF
      refine z_iload C dX13_whoNow_36 rfl ?_
      refine z_aload_n C dX13_whoNow_38 rfl ?_
      obtain ⟨x6, S6, h6, hF⟩ := bI_some hF
      refine f_cV (st2 := [.int x6, .int v4]) C dX13_whoNow_39 zyX13_yards zvX13_yards lkRX13_279 (K_X13_yards (l := zXl X) hT hpv0 hkv0 h6) hpv0 hkv0 rfl (by decide) rfl rfl (Nat.le_of_ble_eq_true rfl) rfl (fun hT6 => ?_)
      refine z_icmp_ge C 135 dX13_whoNow_42 (by decide) (fun c10 => ?_) (fun c10 => ?_)
      · replace hF := ip hF c10
        refine z_iload_n C dX13_whoNow_135 rfl ?_
        refine z_iload_n C dX13_whoNow_136 rfl ?_
        have hJ12 : zV G X (zQX G X (zPo G kd N0 res) 0 0) 5 [some (.ref (zB G + v0)), some (.int v1), some (.int v2), some (.int v3), some (.int v4)] [.int (if v3 = (0 : Int32) then (0 : Int32) else ((1 : Int32) <<< (v2 &&& 31))), .int v1] (cn G kd N0 S6) 147 0 0 := by
          refine z_ior C dX13_whoNow_147 ?_
          replace hF := lI_e hF
          generalize (v1 ||| (if v3 = (0 : Int32) then (0 : Int32) else ((1 : Int32) <<< (v2 &&& 31)))) = y13 at hF ⊢
          refine z_istore_n (lv2 := [some (.ref (zB G + v0)), some (.int y13), some (.int v2), some (.int v3), some (.int v4)]) C dX13_whoNow_148 (by decide) rfl ?_
          refine z_iinc (v := v2 + 1) (lv2 := [some (.ref (zB G + v0)), some (.int y13), some (.int (v2 + 1)), some (.int v3), some (.int v4)]) C dX13_whoNow_149 rfl (by rw [show Int32.ofInt 1 = (1 : Int32) from by decide]) rfl ?_
          refine z_goto C 4 dX13_whoNow_152 (by decide) ?_
          refine z_mask [true, true, true, false, false] ?_ rfl
          exact ih1 S6 v0 y13 (v2 + 1) res hT6 hpv0 hkv0   hF
        refine z_if_eq C 146 dX13_whoNow_137 (by decide) (fun c11 => ?_) (fun c11 => ?_)
        · refine z_iconst (v := 0) C dX13_whoNow_146 (by decide) ?_
          exact zV.at hJ12 (by first | rfl | contradiction | (simp only [if_pos c11]; done)) (by first | rfl | contradiction | (simp only [if_pos c11]; done)) rfl rfl
        · refine z_iconst (v := 1) C dX13_whoNow_140 (by decide) ?_
          refine z_iload_n C dX13_whoNow_141 rfl ?_
          refine z_ishl C dX13_whoNow_142 ?_
          refine z_goto C 147 dX13_whoNow_143 (by decide) ?_
          exact zV.at hJ12 (by first | rfl | contradiction | (simp only [if_neg c11]; done)) (by first | rfl | contradiction | (simp only [if_neg c11]; done)) rfl rfl
      · replace hF := im hF c10
        refine z_aload_n C dX13_whoNow_45 rfl ?_
        refine f_getr C dX13_whoNow_46 zfRX13_141 hpv0 hkv0 rfl ?_
        obtain ⟨hp14, hk14⟩ := hT6.1 v0 11 34 (.inr (0, 48)) hpv0 hkv0 rfl
        refine z_bipush (v := 8) C dX13_whoNow_49 (by decide) ?_
        refine z_iload_n C dX13_whoNow_51 rfl ?_
        refine z_imul C dX13_whoNow_52 ?_
        refine z_iload C dX13_whoNow_53 rfl ?_
        refine z_iadd C dX13_whoNow_55 ?_
        refine z_aload_n C dX13_whoNow_56 rfl ?_
        refine f_getr C dX13_whoNow_57 zfRX13_119 hpv0 hkv0 rfl ?_
        obtain ⟨hp15, hk15⟩ := hT6.1 v0 11 22 (.inr (0, 828)) hpv0 hkv0 rfl
        refine z_sipush (v := 760) C dX13_whoNow_60 (by decide) ?_
        refine z_iload C dX13_whoNow_63 rfl ?_
        refine z_iadd C dX13_whoNow_65 ?_
        obtain ⟨hi16, hF⟩ := bX_some hF
        obtain ⟨q16, eq16⟩ : ∃ q : Nat, q = Int32.toNatClampNeg ((760 : Int32) + v4) := ⟨_, rfl⟩
        rw [← eq16] at hF
        refine f_iald C dX13_whoNow_66 hp15 hk15 hi16 ?_
        rw [← eq16]
        refine z_aload_n C dX13_whoNow_67 rfl ?_
        refine f_getr C dX13_whoNow_68 zfRX13_119 hpv0 hkv0 rfl ?_
        obtain ⟨hp17, hk17⟩ := hT6.1 v0 11 22 (.inr (0, 828)) hpv0 hkv0 rfl
        refine z_iconst (v := 4) C dX13_whoNow_71 (by decide) ?_
        refine z_iload C dX13_whoNow_72 rfl ?_
        refine z_iadd C dX13_whoNow_74 ?_
        obtain ⟨hi18, hF⟩ := bX_some hF
        obtain ⟨q18, eq18⟩ : ∃ q : Nat, q = Int32.toNatClampNeg ((4 : Int32) + v4) := ⟨_, rfl⟩
        rw [← eq18] at hF
        refine f_iald C dX13_whoNow_75 hp17 hk17 hi18 ?_
        rw [← eq18]
        refine z_isub C dX13_whoNow_76 ?_
        obtain ⟨hi19, hF⟩ := bX_some hF
        obtain ⟨q19, eq19⟩ : ∃ q : Nat, q = Int32.toNatClampNeg (((8 : Int32) * v2) + v4) := ⟨_, rfl⟩
        rw [← eq19] at hF
        refine f_iast C dX13_whoNow_77 hp14 hk14 hi19 ?_
        rw [← eq19]
        have hT20 : zT0 kd N0 (sI S6 (gR S6 v0 34) q19 ((gI S6 (gR S6 v0 22) q16) - (gI S6 (gR S6 v0 22) q18))) := zT0_sI hT6
        replace hF := fS_e hF
        generalize sI S6 (gR S6 v0 34) q19 ((gI S6 (gR S6 v0 22) q16) - (gI S6 (gR S6 v0 22) q18)) = S20 at hF hT20 ⊢
        refine z_iload_n C dX13_whoNow_78 rfl ?_
        refine z_if_eq C 127 dX13_whoNow_79 (by decide) (fun c23 => ?_) (fun c23 => ?_)
        · replace hF := ip hF c23
          refine z_mask [true, true, true, false, true] ?_ rfl
          exact ih3 S20 v0 v1 v2 v4 res hT20 hpv0 hkv0    hF
        · replace hF := im hF c23
          refine z_aload_n C dX13_whoNow_82 rfl ?_
          refine f_getr C dX13_whoNow_83 zfRX13_119 hpv0 hkv0 rfl ?_
          obtain ⟨hp24, hk24⟩ := hT20.1 v0 11 22 (.inr (0, 828)) hpv0 hkv0 rfl
          refine z_bipush (v := 28) C dX13_whoNow_86 (by decide) ?_
          refine z_iload C dX13_whoNow_88 rfl ?_
          refine z_iadd C dX13_whoNow_90 ?_
          obtain ⟨hi25, hF⟩ := bX_some hF
          obtain ⟨q25, eq25⟩ : ∃ q : Nat, q = Int32.toNatClampNeg ((28 : Int32) + v4) := ⟨_, rfl⟩
          rw [← eq25] at hF
          refine f_iald C dX13_whoNow_91 hp24 hk24 hi25 ?_
          rw [← eq25]
          refine z_sipush (v := (-1000)) C dX13_whoNow_92 (by decide) ?_
          refine z_icmp_eq C 123 dX13_whoNow_95 (by decide) (fun c28 => ?_) (fun c28 => ?_)
          · replace hF := ip hF c28
            refine z_mask [true, true, true, false, true] ?_ rfl
            exact ih4 S20 v0 v1 v2 v4 res hT20 hpv0 hkv0    hF
          · replace hF := im hF c28
            refine z_aload_n C dX13_whoNow_98 rfl ?_
            refine f_getr C dX13_whoNow_99 zfRX13_119 hpv0 hkv0 rfl ?_
            obtain ⟨hp29, hk29⟩ := hT20.1 v0 11 22 (.inr (0, 828)) hpv0 hkv0 rfl
            refine z_bipush (v := 28) C dX13_whoNow_102 (by decide) ?_
            refine z_iload C dX13_whoNow_104 rfl ?_
            refine z_iadd C dX13_whoNow_106 ?_
            obtain ⟨hi30, hF⟩ := bX_some hF
            obtain ⟨q30, eq30⟩ : ∃ q : Nat, q = Int32.toNatClampNeg ((28 : Int32) + v4) := ⟨_, rfl⟩
            rw [← eq30] at hF
            refine f_iald C dX13_whoNow_107 hp29 hk29 hi30 ?_
            rw [← eq30]
            refine z_aload_n C dX13_whoNow_108 rfl ?_
            refine f_getr C dX13_whoNow_109 zfRX13_141 hpv0 hkv0 rfl ?_
            obtain ⟨hp31, hk31⟩ := hT20.1 v0 11 34 (.inr (0, 48)) hpv0 hkv0 rfl
            refine z_bipush (v := 8) C dX13_whoNow_112 (by decide) ?_
            refine z_iload_n C dX13_whoNow_114 rfl ?_
            refine z_imul C dX13_whoNow_115 ?_
            refine z_iload C dX13_whoNow_116 rfl ?_
            refine z_iadd C dX13_whoNow_118 ?_
            obtain ⟨hi32, hF⟩ := bX_some hF
            obtain ⟨q32, eq32⟩ : ∃ q : Nat, q = Int32.toNatClampNeg (((8 : Int32) * v2) + v4) := ⟨_, rfl⟩
            rw [← eq32] at hF
            refine f_iald C dX13_whoNow_119 hp31 hk31 hi32 ?_
            rw [← eq32]
            have hJ34 : zV G X (zQX G X (zPo G kd N0 res) 0 0) 5 [some (.ref (zB G + v0)), some (.int v1), some (.int v2), some (.int v3), some (.int v4)] [.int (if (gI S20 (gR S20 v0 22) q30) = (gI S20 (gR S20 v0 34) q32) then (1 : Int32) else (0 : Int32))] (cn G kd N0 S20) 128 0 0 := by
              replace hF := lI_e hF
              generalize (if (gI S20 (gR S20 v0 22) q30) = (gI S20 (gR S20 v0 34) q32) then (1 : Int32) else (0 : Int32)) = y35 at hF ⊢
              refine z_istore_n (lv2 := [some (.ref (zB G + v0)), some (.int v1), some (.int v2), some (.int y35), some (.int v4)]) C dX13_whoNow_128 (by decide) rfl ?_
              refine z_iinc (v := v4 + 1) (lv2 := [some (.ref (zB G + v0)), some (.int v1), some (.int v2), some (.int y35), some (.int (v4 + 1))]) C dX13_whoNow_129 rfl (by rw [show Int32.ofInt 1 = (1 : Int32) from by decide]) rfl ?_
              refine z_goto C 36 dX13_whoNow_132 (by decide) ?_
              exact ih2 S20 v0 v1 v2 y35 (v4 + 1) res hT20 hpv0 hkv0     hF
            refine z_icmp_ne C 127 dX13_whoNow_120 (by decide) (fun c33 => ?_) (fun c33 => ?_)
            · refine z_iconst (v := 0) C dX13_whoNow_127 (by decide) ?_
              exact zV.at hJ34 (by first | rfl | contradiction | (simp only [if_neg c33]; done)) (by first | rfl | contradiction | (simp only [if_neg c33]; done)) rfl rfl
            · refine z_iconst (v := 1) C dX13_whoNow_123 (by decide) ?_
              refine z_goto C 128 dX13_whoNow_124 (by decide) ?_
              exact zV.at hJ34 (by first | rfl | contradiction | (simp only [if_pos c33]; done)) (by first | rfl | contradiction | (simp only [if_pos c33]; done)) rfl rfl
    · intro S v0 v1 v2 v3 res hT hpv0 hkv0 hF
      replace hF : F_X13_whoNow_3 f (F_X13_whoNow f) v0 v1 v2 v3 S = some res := hF
      unfold F_X13_whoNow_3 at hF
      refine z_iconst (v := 0) C dX13_whoNow_127 (by decide) ?_
      exact ih5 S v0 v1 v2 v3 0 res hT hpv0 hkv0     hF
    · intro S v0 v1 v2 v3 res hT hpv0 hkv0 hF
      replace hF : F_X13_whoNow_4 f (F_X13_whoNow f) v0 v1 v2 v3 S = some res := hF
      unfold F_X13_whoNow_4 at hF
      refine z_iconst (v := 1) C dX13_whoNow_123 (by decide) ?_
      refine z_goto C 128 dX13_whoNow_124 (by decide) ?_
      exact ih5 S v0 v1 v2 v3 1 res hT hpv0 hkv0     hF
    · intro S v0 v1 v2 v3 w0 res hT hpv0 hkv0 hF
      replace hF : F_X13_whoNow_5 f (F_X13_whoNow f) v0 v1 v2 v3 w0 S = some res := hF
      unfold F_X13_whoNow_5 at hF
      refine z_istore_n (lv2 := [some (.ref (zB G + v0)), some (.int v1), some (.int v2), some (.int w0), some (.int v3)]) C dX13_whoNow_128 (by decide) rfl ?_
      refine z_iinc (v := v3 + 1) (lv2 := [some (.ref (zB G + v0)), some (.int v1), some (.int v2), some (.int w0), some (.int (v3 + 1))]) C dX13_whoNow_129 rfl (by rw [show Int32.ofInt 1 = (1 : Int32) from by decide]) rfl ?_
      refine z_goto C 36 dX13_whoNow_132 (by decide) ?_
      exact ih2 S v0 v1 v2 w0 (v3 + 1) res hT hpv0 hkv0     hF
theorem K_X13_whoNow {G : zG} {l : Launch} {kd : kD} {N0 f : Nat} {S : aS} {v0 : Nat} {res : Option Value × aS} (hT : zT0 kd N0 S) (hpv0 : v0 < N0) (hkv0 : kd v0 = .inl 11) (hF : F_X13_whoNow f 0 [.ref v0] S = some res) : zM G l 4 0 0 yX13_whoNow cX13_whoNow 5 (some .int) [.ref (zB G + v0)] (cn G kd N0 S) (zPo G kd N0 res) := zM.of (by decide) rfl (Nat.le_of_ble_eq_true rfl) (fun X _ C hr _ => (B_X13_whoNow C hr f).1 S v0 res hT hpv0 hkv0 hF)
def F_X13_who_0 (f : Nat) (rc : Nat → List Value → aS → aR) (v0 : Nat) (S : aS) : aR :=
  fS (sI S v0 0 0) fun S1 => bI (F_X13_whoNow f 0 [.ref v0] S1) fun x2 S2 => some (some (.int x2), S2)
def F_X13_who : Nat → Nat → List Value → aS → aR
  | 0, _, _, _ => none
  | f + 1, 0, vs, S => F_X13_who_0 f (F_X13_who f) (vR vs 0) S
  | _ + 1, _, _, _ => none
theorem dX13_who_0 : decode cX13_who 0 = .ok (.aload_n 0, 1) := by decide +kernel
theorem dX13_who_1 : decode cX13_who 1 = .ok (.iconst 0, 1) := by decide +kernel
theorem dX13_who_2 : decode cX13_who 2 = .ok (.putfield 1, 3) := by decide +kernel
theorem dX13_who_5 : decode cX13_who 5 = .ok (.aload_n 0, 1) := by decide +kernel
theorem dX13_who_6 : decode cX13_who 6 = .ok (.invokevirtual 385, 3) := by decide +kernel
theorem dX13_who_9 : decode cX13_who 9 = .ok (.ireturn, 1) := by decide +kernel
set_option maxHeartbeats 4000000 in
set_option maxRecDepth 100000 in
theorem B_X13_who {G : zG} {X : zX} {kd : kD} {N0 : Nat} (C : zCt G X 5 0 0 RX13 cX13_who 1) (hr : (zXh X).sig.returnType = (some .int)) : ∀ f : Nat,
    (∀ (S : aS) (v0 : Nat) (res : Option Value × aS), zT0 kd N0 S → v0 < N0 → kd v0 = .inl 11 → F_X13_who f 0 [.ref v0] S = some res → zV G X (zQX G X (zPo G kd N0 res) 0 0) 1 [some (.ref (zB G + v0))] [] (cn G kd N0 S) 0 0 0) := by
  intro f
  induction f with
  | zero => exact (fun _ _ _ _ _ _ h => by cases h)
  | succ f ih =>
    have ih0 := ih
    intro S v0 res hT hpv0 hkv0 hF
    replace hF : F_X13_who_0 f (F_X13_who f) v0 S = some res := hF
    unfold F_X13_who_0 at hF
    refine z_aload_n C dX13_who_0 rfl ?_
    refine z_iconst (v := 0) C dX13_who_1 (by decide) ?_
    refine f_puti C dX13_who_2 zfRX13_1 fw11_0 hpv0 hkv0 rfl rfl rfl ?_
    have hT1 : zT0 kd N0 (sI S v0 0 0) := zT0_sI hT
    replace hF := fS_e hF
    generalize sI S v0 0 0 = S1 at hF hT1 ⊢
    refine z_aload_n C dX13_who_5 rfl ?_
    obtain ⟨x2, S2, h2, hF⟩ := bI_some hF
    refine f_cV (st2 := [.int x2]) C dX13_who_6 zyX13_whoNow zvX13_whoNow lkRX13_385 (K_X13_whoNow (l := zXl X) hT1 hpv0 hkv0 h2) hpv0 hkv0 rfl (by decide) rfl rfl (Nat.le_of_ble_eq_true rfl) rfl (fun hT2 => ?_)
    cases hF
    exact z_iret C hr dX13_who_9 ⟨rfl, rfl, hT2⟩
theorem K_X13_who {G : zG} {l : Launch} {kd : kD} {N0 f : Nat} {S : aS} {v0 : Nat} {res : Option Value × aS} (hT : zT0 kd N0 S) (hpv0 : v0 < N0) (hkv0 : kd v0 = .inl 11) (hF : F_X13_who f 0 [.ref v0] S = some res) : zM G l 5 0 0 yX13_who cX13_who 1 (some .int) [.ref (zB G + v0)] (cn G kd N0 S) (zPo G kd N0 res) := zM.of (by decide) rfl (Nat.le_of_ble_eq_true rfl) (fun X _ C hr _ => (B_X13_who C hr f) S v0 res hT hpv0 hkv0 hF)
def F_X13_look_0 (f : Nat) (rc : Nat → List Value → aS → aR) (v0 : Nat) (S : aS) : aR :=
  fS (sI S v0 0 0) fun S1 => bI (F_X13_whoNow f 0 [.ref v0] S1) fun x2 S2 => bI (F_X13_bits f 0 [.int x2] S2) fun x3 S3 => rc 1 [.ref v0, .int x2, .int ((-1)), .int x3, .int 0] S3
def F_X13_look_1 (f : Nat) (rc : Nat → List Value → aS → aR) (v0 : Nat) (v1 : Int32) (v2 : Int32) (v3 : Int32) (v4 : Int32) (S : aS) : aR :=
  bI (F_X13_yards f 0 [.ref v0] S) fun x4 S4 => if x4 ≤ v4 then some (some (.int v2), S4) else rc 2 [.ref v0, .int v1, .int v2, .int v3, .int v4, .int 0, .int 0] S4
def F_X13_look_2 (f : Nat) (rc : Nat → List Value → aS → aR) (v0 : Nat) (v1 : Int32) (v2 : Int32) (v3 : Int32) (v4 : Int32) (v5 : Int32) (v6 : Int32) (S : aS) : aR :=
  bI (F_X13_people f 0 [.ref v0] S) fun x7 S7 => if x7 ≤ v6 then rc 1 [.ref v0, .int v1, .int (if v3 ≤ v5 then v2 else v4), .int (if v3 ≤ v5 then v3 else v5), .int (v4 + 1)] S7 else rc 3 [.ref v0, .int v1, .int v2, .int v3, .int v4, .int v5, .int v6, .int 0, .int 0] S7
def F_X13_look_3 (f : Nat) (rc : Nat → List Value → aS → aR) (v0 : Nat) (v1 : Int32) (v2 : Int32) (v3 : Int32) (v4 : Int32) (v5 : Int32) (v6 : Int32) (v7 : Int32) (v8 : Int32) (S : aS) : aR :=
  bI (F_X13_people f 0 [.ref v0] S) fun x14 S14 => if x14 ≤ v8 then lI (if ((v1 >>> (v6 &&& 31)) &&& (1 : Int32)) = (1 : Int32) then if v7 ≤ v5 then v5 else v7 else v5) fun y21 => rc 2 [.ref v0, .int v1, .int v2, .int v3, .int v4, .int y21, .int (v6 + 1)] S14 else if ((v1 >>> (v8 &&& 31)) &&& (1 : Int32)) = (1 : Int32) then bX (((8 : Int32) * v8) + v4) 48 fun q26 => bX (((8 : Int32) * v6) + v4) 48 fun q28 => lI (v7 + (if (gI S14 (gR S14 v0 34) q26) = (gI S14 (gR S14 v0 34) q28) then (1 : Int32) else (0 : Int32))) fun y31 => rc 3 [.ref v0, .int v1, .int v2, .int v3, .int v4, .int v5, .int v6, .int y31, .int (v8 + 1)] S14 else rc 4 [.ref v0, .int v1, .int v2, .int v3, .int v4, .int v5, .int v6, .int v8, .int v7] S14
def F_X13_look_4 (f : Nat) (rc : Nat → List Value → aS → aR) (v0 : Nat) (v1 : Int32) (v2 : Int32) (v3 : Int32) (v4 : Int32) (v5 : Int32) (v6 : Int32) (v7 : Int32) (w0 : Int32) (S : aS) : aR :=
  rc 5 [.ref v0, .int v1, .int v2, .int v3, .int v4, .int v5, .int v6, .int v7, .int 0, .int w0] S
def F_X13_look_5 (f : Nat) (rc : Nat → List Value → aS → aR) (v0 : Nat) (v1 : Int32) (v2 : Int32) (v3 : Int32) (v4 : Int32) (v5 : Int32) (v6 : Int32) (v7 : Int32) (w0 : Int32) (w1 : Int32) (S : aS) : aR :=
  rc 3 [.ref v0, .int v1, .int v2, .int v3, .int v4, .int v5, .int v6, .int (w1 + w0), .int (v7 + 1)] S
def F_X13_look : Nat → Nat → List Value → aS → aR
  | 0, _, _, _ => none
  | f + 1, 0, vs, S => F_X13_look_0 f (F_X13_look f) (vR vs 0) S
  | f + 1, 1, vs, S => F_X13_look_1 f (F_X13_look f) (vR vs 0) (vI vs 1) (vI vs 2) (vI vs 3) (vI vs 4) S
  | f + 1, 2, vs, S => F_X13_look_2 f (F_X13_look f) (vR vs 0) (vI vs 1) (vI vs 2) (vI vs 3) (vI vs 4) (vI vs 5) (vI vs 6) S
  | f + 1, 3, vs, S => F_X13_look_3 f (F_X13_look f) (vR vs 0) (vI vs 1) (vI vs 2) (vI vs 3) (vI vs 4) (vI vs 5) (vI vs 6) (vI vs 7) (vI vs 8) S
  | f + 1, 4, vs, S => F_X13_look_4 f (F_X13_look f) (vR vs 0) (vI vs 1) (vI vs 2) (vI vs 3) (vI vs 4) (vI vs 5) (vI vs 6) (vI vs 7) (vI vs 8) S
  | f + 1, 5, vs, S => F_X13_look_5 f (F_X13_look f) (vR vs 0) (vI vs 1) (vI vs 2) (vI vs 3) (vI vs 4) (vI vs 5) (vI vs 6) (vI vs 7) (vI vs 8) (vI vs 9) S
  | _ + 1, _, _, _ => none
theorem dX13_look_0 : decode cX13_look 0 = .ok (.aload_n 0, 1) := by decide +kernel
theorem dX13_look_1 : decode cX13_look 1 = .ok (.iconst 0, 1) := by decide +kernel
theorem dX13_look_2 : decode cX13_look 2 = .ok (.putfield 1, 3) := by decide +kernel
theorem dX13_look_5 : decode cX13_look 5 = .ok (.aload_n 0, 1) := by decide +kernel
theorem dX13_look_6 : decode cX13_look 6 = .ok (.invokevirtual 385, 3) := by decide +kernel
theorem dX13_look_9 : decode cX13_look 9 = .ok (.istore_n 1, 1) := by decide +kernel
theorem dX13_look_10 : decode cX13_look 10 = .ok (.iconst (-1), 1) := by decide +kernel
theorem dX13_look_11 : decode cX13_look 11 = .ok (.istore_n 2, 1) := by decide +kernel
theorem dX13_look_12 : decode cX13_look 12 = .ok (.iload_n 1, 1) := by decide +kernel
theorem dX13_look_13 : decode cX13_look 13 = .ok (.invokestatic 367, 3) := by decide +kernel
theorem dX13_look_16 : decode cX13_look 16 = .ok (.istore_n 3, 1) := by decide +kernel
theorem dX13_look_17 : decode cX13_look 17 = .ok (.iconst 0, 1) := by decide +kernel
theorem dX13_look_18 : decode cX13_look 18 = .ok (.istore 4, 2) := by decide +kernel
theorem dX13_look_20 : decode cX13_look 20 = .ok (.iload 4, 2) := by decide +kernel
theorem dX13_look_22 : decode cX13_look 22 = .ok (.aload_n 0, 1) := by decide +kernel
theorem dX13_look_23 : decode cX13_look 23 = .ok (.invokevirtual 279, 3) := by decide +kernel
theorem dX13_look_26 : decode cX13_look 26 = .ok (.if_icmp .ge 152, 3) := by decide +kernel
theorem dX13_look_29 : decode cX13_look 29 = .ok (.iconst 0, 1) := by decide +kernel
theorem dX13_look_30 : decode cX13_look 30 = .ok (.istore 5, 2) := by decide +kernel
theorem dX13_look_32 : decode cX13_look 32 = .ok (.iconst 0, 1) := by decide +kernel
theorem dX13_look_33 : decode cX13_look 33 = .ok (.istore 6, 2) := by decide +kernel
theorem dX13_look_35 : decode cX13_look 35 = .ok (.iload 6, 2) := by decide +kernel
theorem dX13_look_37 : decode cX13_look 37 = .ok (.aload_n 0, 1) := by decide +kernel
theorem dX13_look_38 : decode cX13_look 38 = .ok (.invokevirtual 292, 3) := by decide +kernel
theorem dX13_look_41 : decode cX13_look 41 = .ok (.if_icmp .ge 105, 3) := by decide +kernel
theorem dX13_look_44 : decode cX13_look 44 = .ok (.iconst 0, 1) := by decide +kernel
theorem dX13_look_45 : decode cX13_look 45 = .ok (.istore 7, 2) := by decide +kernel
theorem dX13_look_47 : decode cX13_look 47 = .ok (.iconst 0, 1) := by decide +kernel
theorem dX13_look_48 : decode cX13_look 48 = .ok (.istore 8, 2) := by decide +kernel
theorem dX13_look_50 : decode cX13_look 50 = .ok (.iload 8, 2) := by decide +kernel
theorem dX13_look_52 : decode cX13_look 52 = .ok (.aload_n 0, 1) := by decide +kernel
theorem dX13_look_53 : decode cX13_look 53 = .ok (.invokevirtual 292, 3) := by decide +kernel
theorem dX13_look_56 : decode cX13_look 56 = .ok (.if_icmp .ge 58, 3) := by decide +kernel
theorem dX13_look_59 : decode cX13_look 59 = .ok (.iload 7, 2) := by decide +kernel
theorem dX13_look_61 : decode cX13_look 61 = .ok (.iload_n 1, 1) := by decide +kernel
theorem dX13_look_62 : decode cX13_look 62 = .ok (.iload 8, 2) := by decide +kernel
theorem dX13_look_64 : decode cX13_look 64 = .ok (.ishr, 1) := by decide +kernel
theorem dX13_look_65 : decode cX13_look 65 = .ok (.iconst 1, 1) := by decide +kernel
theorem dX13_look_66 : decode cX13_look 66 = .ok (.iand, 1) := by decide +kernel
theorem dX13_look_67 : decode cX13_look 67 = .ok (.iconst 1, 1) := by decide +kernel
theorem dX13_look_68 : decode cX13_look 68 = .ok (.if_icmp .ne 36, 3) := by decide +kernel
theorem dX13_look_71 : decode cX13_look 71 = .ok (.aload_n 0, 1) := by decide +kernel
theorem dX13_look_72 : decode cX13_look 72 = .ok (.getfield 141, 3) := by decide +kernel
theorem dX13_look_75 : decode cX13_look 75 = .ok (.bipush 8, 2) := by decide +kernel
theorem dX13_look_77 : decode cX13_look 77 = .ok (.iload 8, 2) := by decide +kernel
theorem dX13_look_79 : decode cX13_look 79 = .ok (.imul, 1) := by decide +kernel
theorem dX13_look_80 : decode cX13_look 80 = .ok (.iload 4, 2) := by decide +kernel
theorem dX13_look_82 : decode cX13_look 82 = .ok (.iadd, 1) := by decide +kernel
theorem dX13_look_83 : decode cX13_look 83 = .ok (.iaload, 1) := by decide +kernel
theorem dX13_look_84 : decode cX13_look 84 = .ok (.aload_n 0, 1) := by decide +kernel
theorem dX13_look_85 : decode cX13_look 85 = .ok (.getfield 141, 3) := by decide +kernel
theorem dX13_look_88 : decode cX13_look 88 = .ok (.bipush 8, 2) := by decide +kernel
theorem dX13_look_90 : decode cX13_look 90 = .ok (.iload 6, 2) := by decide +kernel
theorem dX13_look_92 : decode cX13_look 92 = .ok (.imul, 1) := by decide +kernel
theorem dX13_look_93 : decode cX13_look 93 = .ok (.iload 4, 2) := by decide +kernel
theorem dX13_look_95 : decode cX13_look 95 = .ok (.iadd, 1) := by decide +kernel
theorem dX13_look_96 : decode cX13_look 96 = .ok (.iaload, 1) := by decide +kernel
theorem dX13_look_97 : decode cX13_look 97 = .ok (.if_icmp .ne 7, 3) := by decide +kernel
theorem dX13_look_100 : decode cX13_look 100 = .ok (.iconst 1, 1) := by decide +kernel
theorem dX13_look_101 : decode cX13_look 101 = .ok (.goto 4, 3) := by decide +kernel
theorem dX13_look_104 : decode cX13_look 104 = .ok (.iconst 0, 1) := by decide +kernel
theorem dX13_look_105 : decode cX13_look 105 = .ok (.iadd, 1) := by decide +kernel
theorem dX13_look_106 : decode cX13_look 106 = .ok (.istore 7, 2) := by decide +kernel
theorem dX13_look_108 : decode cX13_look 108 = .ok (.iinc 8 1, 3) := by decide +kernel
theorem dX13_look_111 : decode cX13_look 111 = .ok (.goto (-61), 3) := by decide +kernel
theorem dX13_look_114 : decode cX13_look 114 = .ok (.iload_n 1, 1) := by decide +kernel
theorem dX13_look_115 : decode cX13_look 115 = .ok (.iload 6, 2) := by decide +kernel
theorem dX13_look_117 : decode cX13_look 117 = .ok (.ishr, 1) := by decide +kernel
theorem dX13_look_118 : decode cX13_look 118 = .ok (.iconst 1, 1) := by decide +kernel
theorem dX13_look_119 : decode cX13_look 119 = .ok (.iand, 1) := by decide +kernel
theorem dX13_look_120 : decode cX13_look 120 = .ok (.iconst 1, 1) := by decide +kernel
theorem dX13_look_121 : decode cX13_look 121 = .ok (.if_icmp .ne 15, 3) := by decide +kernel
theorem dX13_look_124 : decode cX13_look 124 = .ok (.iload 7, 2) := by decide +kernel
theorem dX13_look_126 : decode cX13_look 126 = .ok (.iload 5, 2) := by decide +kernel
theorem dX13_look_128 : decode cX13_look 128 = .ok (.if_icmp .le 8, 3) := by decide +kernel
theorem dX13_look_131 : decode cX13_look 131 = .ok (.iload 7, 2) := by decide +kernel
theorem dX13_look_133 : decode cX13_look 133 = .ok (.goto 5, 3) := by decide +kernel
theorem dX13_look_136 : decode cX13_look 136 = .ok (.iload 5, 2) := by decide +kernel
theorem dX13_look_138 : decode cX13_look 138 = .ok (.istore 5, 2) := by decide +kernel
theorem dX13_look_140 : decode cX13_look 140 = .ok (.iinc 6 1, 3) := by decide +kernel
theorem dX13_look_143 : decode cX13_look 143 = .ok (.goto (-108), 3) := by decide +kernel
theorem dX13_look_146 : decode cX13_look 146 = .ok (.iload 5, 2) := by decide +kernel
theorem dX13_look_148 : decode cX13_look 148 = .ok (.iload_n 3, 1) := by decide +kernel
theorem dX13_look_149 : decode cX13_look 149 = .ok (.if_icmp .ge 8, 3) := by decide +kernel
theorem dX13_look_152 : decode cX13_look 152 = .ok (.iload 4, 2) := by decide +kernel
theorem dX13_look_154 : decode cX13_look 154 = .ok (.goto 4, 3) := by decide +kernel
theorem dX13_look_157 : decode cX13_look 157 = .ok (.iload_n 2, 1) := by decide +kernel
theorem dX13_look_158 : decode cX13_look 158 = .ok (.istore_n 2, 1) := by decide +kernel
theorem dX13_look_159 : decode cX13_look 159 = .ok (.iload 5, 2) := by decide +kernel
theorem dX13_look_161 : decode cX13_look 161 = .ok (.iload_n 3, 1) := by decide +kernel
theorem dX13_look_162 : decode cX13_look 162 = .ok (.if_icmp .ge 8, 3) := by decide +kernel
theorem dX13_look_165 : decode cX13_look 165 = .ok (.iload 5, 2) := by decide +kernel
theorem dX13_look_167 : decode cX13_look 167 = .ok (.goto 4, 3) := by decide +kernel
theorem dX13_look_170 : decode cX13_look 170 = .ok (.iload_n 3, 1) := by decide +kernel
theorem dX13_look_171 : decode cX13_look 171 = .ok (.istore_n 3, 1) := by decide +kernel
theorem dX13_look_172 : decode cX13_look 172 = .ok (.iinc 4 1, 3) := by decide +kernel
theorem dX13_look_175 : decode cX13_look 175 = .ok (.goto (-155), 3) := by decide +kernel
theorem dX13_look_178 : decode cX13_look 178 = .ok (.iload_n 2, 1) := by decide +kernel
theorem dX13_look_179 : decode cX13_look 179 = .ok (.ireturn, 1) := by decide +kernel
set_option maxHeartbeats 4000000 in
set_option maxRecDepth 100000 in
theorem B_X13_look {G : zG} {X : zX} {kd : kD} {N0 : Nat} (C : zCt G X 5 0 0 RX13 cX13_look 9) (hr : (zXh X).sig.returnType = (some .int)) : ∀ f : Nat,
    (∀ (S : aS) (v0 : Nat) (res : Option Value × aS), zT0 kd N0 S → v0 < N0 → kd v0 = .inl 11 → F_X13_look f 0 [.ref v0] S = some res → zV G X (zQX G X (zPo G kd N0 res) 0 0) 9 [some (.ref (zB G + v0)), none, none, none, none, none, none, none, none] [] (cn G kd N0 S) 0 0 0) ∧
    (∀ (S : aS) (v0 : Nat) (v1 : Int32) (v2 : Int32) (v3 : Int32) (v4 : Int32) (res : Option Value × aS), zT0 kd N0 S → v0 < N0 → kd v0 = .inl 11 → F_X13_look f 1 [.ref v0, .int v1, .int v2, .int v3, .int v4] S = some res → zV G X (zQX G X (zPo G kd N0 res) 0 0) 9 [some (.ref (zB G + v0)), some (.int v1), some (.int v2), some (.int v3), some (.int v4), none, none, none, none] [] (cn G kd N0 S) 20 0 0) ∧
    (∀ (S : aS) (v0 : Nat) (v1 : Int32) (v2 : Int32) (v3 : Int32) (v4 : Int32) (v5 : Int32) (v6 : Int32) (res : Option Value × aS), zT0 kd N0 S → v0 < N0 → kd v0 = .inl 11 → F_X13_look f 2 [.ref v0, .int v1, .int v2, .int v3, .int v4, .int v5, .int v6] S = some res → zV G X (zQX G X (zPo G kd N0 res) 0 0) 9 [some (.ref (zB G + v0)), some (.int v1), some (.int v2), some (.int v3), some (.int v4), some (.int v5), some (.int v6), none, none] [] (cn G kd N0 S) 35 0 0) ∧
    (∀ (S : aS) (v0 : Nat) (v1 : Int32) (v2 : Int32) (v3 : Int32) (v4 : Int32) (v5 : Int32) (v6 : Int32) (v7 : Int32) (v8 : Int32) (res : Option Value × aS), zT0 kd N0 S → v0 < N0 → kd v0 = .inl 11 → F_X13_look f 3 [.ref v0, .int v1, .int v2, .int v3, .int v4, .int v5, .int v6, .int v7, .int v8] S = some res → zV G X (zQX G X (zPo G kd N0 res) 0 0) 9 [some (.ref (zB G + v0)), some (.int v1), some (.int v2), some (.int v3), some (.int v4), some (.int v5), some (.int v6), some (.int v7), some (.int v8)] [] (cn G kd N0 S) 50 0 0) ∧
    (∀ (S : aS) (v0 : Nat) (v1 : Int32) (v2 : Int32) (v3 : Int32) (v4 : Int32) (v5 : Int32) (v6 : Int32) (v7 : Int32) (w0 : Int32) (res : Option Value × aS), zT0 kd N0 S → v0 < N0 → kd v0 = .inl 11 → F_X13_look f 4 [.ref v0, .int v1, .int v2, .int v3, .int v4, .int v5, .int v6, .int v7, .int w0] S = some res → zV G X (zQX G X (zPo G kd N0 res) 0 0) 9 [some (.ref (zB G + v0)), some (.int v1), some (.int v2), some (.int v3), some (.int v4), some (.int v5), some (.int v6), none, some (.int v7)] [.int w0] (cn G kd N0 S) 104 0 0) ∧
    (∀ (S : aS) (v0 : Nat) (v1 : Int32) (v2 : Int32) (v3 : Int32) (v4 : Int32) (v5 : Int32) (v6 : Int32) (v7 : Int32) (w0 : Int32) (w1 : Int32) (res : Option Value × aS), zT0 kd N0 S → v0 < N0 → kd v0 = .inl 11 → F_X13_look f 5 [.ref v0, .int v1, .int v2, .int v3, .int v4, .int v5, .int v6, .int v7, .int w0, .int w1] S = some res → zV G X (zQX G X (zPo G kd N0 res) 0 0) 9 [some (.ref (zB G + v0)), some (.int v1), some (.int v2), some (.int v3), some (.int v4), some (.int v5), some (.int v6), none, some (.int v7)] [.int w0, .int w1] (cn G kd N0 S) 105 0 0) := by
  intro f
  induction f with
  | zero => exact ⟨(fun _ _ _ _ _ _ h => by cases h), (fun _ _ _ _ _ _ _ _ _ _ h => by cases h), (fun _ _ _ _ _ _ _ _ _ _ _ _ h => by cases h), (fun _ _ _ _ _ _ _ _ _ _ _ _ _ _ h => by cases h), (fun _ _ _ _ _ _ _ _ _ _ _ _ _ _ h => by cases h), (fun _ _ _ _ _ _ _ _ _ _ _ _ _ _ _ h => by cases h)⟩
  | succ f ih =>
    obtain ⟨ih0, ih1, ih2, ih3, ih4, ih5⟩ := ih
    refine ⟨?_, ?_, ?_, ?_, ?_, ?_⟩
    · intro S v0 res hT hpv0 hkv0 hF
      replace hF : F_X13_look_0 f (F_X13_look f) v0 S = some res := hF
      unfold F_X13_look_0 at hF
      refine z_aload_n C dX13_look_0 rfl ?_
      refine z_iconst (v := 0) C dX13_look_1 (by decide) ?_
      refine f_puti C dX13_look_2 zfRX13_1 fw11_0 hpv0 hkv0 rfl rfl rfl ?_
      have hT1 : zT0 kd N0 (sI S v0 0 0) := zT0_sI hT
      replace hF := fS_e hF
      generalize sI S v0 0 0 = S1 at hF hT1 ⊢
      refine z_aload_n C dX13_look_5 rfl ?_
      obtain ⟨x2, S2, h2, hF⟩ := bI_some hF
      refine f_cV (st2 := [.int x2]) C dX13_look_6 zyX13_whoNow zvX13_whoNow lkRX13_385 (K_X13_whoNow (l := zXl X) hT1 hpv0 hkv0 h2) hpv0 hkv0 rfl (by decide) rfl rfl (Nat.le_of_ble_eq_true rfl) rfl (fun hT2 => ?_)
      refine z_istore_n (lv2 := [some (.ref (zB G + v0)), some (.int x2), none, none, none, none, none, none, none]) C dX13_look_9 (by decide) rfl ?_
      refine z_iconst (v := (-1)) C dX13_look_10 (by decide) ?_
      refine z_istore_n (lv2 := [some (.ref (zB G + v0)), some (.int x2), some (.int ((-1))), none, none, none, none, none, none]) C dX13_look_11 (by decide) rfl ?_
      refine z_iload_n C dX13_look_12 rfl ?_
      obtain ⟨x3, S3, h3, hF⟩ := bI_some hF
      refine f_cS (st2 := [.int x3]) C dX13_look_13 zyX13_bits zsX13_bits lkRX13_367 (K_X13_bits (l := zXl X) hT2  h3) (by decide) rfl rfl (Nat.le_of_ble_eq_true rfl) rfl (fun hT3 => ?_)
      refine z_istore_n (lv2 := [some (.ref (zB G + v0)), some (.int x2), some (.int ((-1))), some (.int x3), none, none, none, none, none]) C dX13_look_16 (by decide) rfl ?_
      refine z_iconst (v := 0) C dX13_look_17 (by decide) ?_
      refine z_istore (lv2 := [some (.ref (zB G + v0)), some (.int x2), some (.int ((-1))), some (.int x3), some (.int 0), none, none, none, none]) C dX13_look_18 (by decide) rfl ?_
      exact ih1 S3 v0 x2 ((-1)) x3 0 res hT3 hpv0 hkv0     hF
    · intro S v0 v1 v2 v3 v4 res hT hpv0 hkv0 hF
      replace hF : F_X13_look_1 f (F_X13_look f) v0 v1 v2 v3 v4 S = some res := hF
      unfold F_X13_look_1 at hF
      refine z_iload C dX13_look_20 rfl ?_
      refine z_aload_n C dX13_look_22 rfl ?_
      obtain ⟨x4, S4, h4, hF⟩ := bI_some hF
      refine f_cV (st2 := [.int x4, .int v4]) C dX13_look_23 zyX13_yards zvX13_yards lkRX13_279 (K_X13_yards (l := zXl X) hT hpv0 hkv0 h4) hpv0 hkv0 rfl (by decide) rfl rfl (Nat.le_of_ble_eq_true rfl) rfl (fun hT4 => ?_)
      refine z_icmp_ge C 178 dX13_look_26 (by decide) (fun c6 => ?_) (fun c6 => ?_)
      · replace hF := ip hF c6
        refine z_iload_n C dX13_look_178 rfl ?_
        cases hF
        exact z_iret C hr dX13_look_179 ⟨rfl, rfl, hT4⟩
      · replace hF := im hF c6
        refine z_iconst (v := 0) C dX13_look_29 (by decide) ?_
        refine z_istore (lv2 := [some (.ref (zB G + v0)), some (.int v1), some (.int v2), some (.int v3), some (.int v4), some (.int 0), none, none, none]) C dX13_look_30 (by decide) rfl ?_
        refine z_iconst (v := 0) C dX13_look_32 (by decide) ?_
        refine z_istore (lv2 := [some (.ref (zB G + v0)), some (.int v1), some (.int v2), some (.int v3), some (.int v4), some (.int 0), some (.int 0), none, none]) C dX13_look_33 (by decide) rfl ?_
        exact ih2 S4 v0 v1 v2 v3 v4 0 0 res hT4 hpv0 hkv0       hF
    · intro S v0 v1 v2 v3 v4 v5 v6 res hT hpv0 hkv0 hF
      replace hF : F_X13_look_2 f (F_X13_look f) v0 v1 v2 v3 v4 v5 v6 S = some res := hF
      unfold F_X13_look_2 at hF
      refine z_iload C dX13_look_35 rfl ?_
      refine z_aload_n C dX13_look_37 rfl ?_
      obtain ⟨x7, S7, h7, hF⟩ := bI_some hF
      refine f_cV (st2 := [.int x7, .int v6]) C dX13_look_38 zyX13_people zvX13_people lkRX13_292 (K_X13_people (l := zXl X) hT hpv0 hkv0 h7) hpv0 hkv0 rfl (by decide) rfl rfl (Nat.le_of_ble_eq_true rfl) rfl (fun hT7 => ?_)
      refine z_icmp_ge C 146 dX13_look_41 (by decide) (fun c9 => ?_) (fun c9 => ?_)
      · replace hF := ip hF c9
        refine z_iload C dX13_look_146 rfl ?_
        refine z_iload_n C dX13_look_148 rfl ?_
        have hJ11 : zV G X (zQX G X (zPo G kd N0 res) 0 0) 9 [some (.ref (zB G + v0)), some (.int v1), some (.int v2), some (.int v3), some (.int v4), some (.int v5), some (.int v6), none, none] [.int (if v3 ≤ v5 then v2 else v4)] (cn G kd N0 S7) 158 0 0 := by
          refine z_istore_n (lv2 := [some (.ref (zB G + v0)), some (.int v1), some (.int (if v3 ≤ v5 then v2 else v4)), some (.int v3), some (.int v4), some (.int v5), some (.int v6), none, none]) C dX13_look_158 (by decide) rfl ?_
          refine z_iload C dX13_look_159 rfl ?_
          refine z_iload_n C dX13_look_161 rfl ?_
          have hJ13 : zV G X (zQX G X (zPo G kd N0 res) 0 0) 9 [some (.ref (zB G + v0)), some (.int v1), some (.int (if v3 ≤ v5 then v2 else v4)), some (.int v3), some (.int v4), some (.int v5), some (.int v6), none, none] [.int (if v3 ≤ v5 then v3 else v5)] (cn G kd N0 S7) 171 0 0 := by
            refine z_istore_n (lv2 := [some (.ref (zB G + v0)), some (.int v1), some (.int (if v3 ≤ v5 then v2 else v4)), some (.int (if v3 ≤ v5 then v3 else v5)), some (.int v4), some (.int v5), some (.int v6), none, none]) C dX13_look_171 (by decide) rfl ?_
            refine z_iinc (v := v4 + 1) (lv2 := [some (.ref (zB G + v0)), some (.int v1), some (.int (if v3 ≤ v5 then v2 else v4)), some (.int (if v3 ≤ v5 then v3 else v5)), some (.int (v4 + 1)), some (.int v5), some (.int v6), none, none]) C dX13_look_172 rfl (by rw [show Int32.ofInt 1 = (1 : Int32) from by decide]) rfl ?_
            refine z_goto C 20 dX13_look_175 (by decide) ?_
            refine z_mask [true, true, true, true, true, false, false, true, true] ?_ rfl
            exact ih1 S7 v0 v1 (if v3 ≤ v5 then v2 else v4) (if v3 ≤ v5 then v3 else v5) (v4 + 1) res hT7 hpv0 hkv0     hF
          refine z_icmp_ge C 170 dX13_look_162 (by decide) (fun c12 => ?_) (fun c12 => ?_)
          · refine z_iload_n C dX13_look_170 rfl ?_
            exact zV.at hJ13 (by first | rfl | contradiction | (simp only [if_pos c12]; done)) (by first | rfl | contradiction | (simp only [if_pos c12]; done)) rfl rfl
          · refine z_iload C dX13_look_165 rfl ?_
            refine z_goto C 171 dX13_look_167 (by decide) ?_
            exact zV.at hJ13 (by first | rfl | contradiction | (simp only [if_neg c12]; done)) (by first | rfl | contradiction | (simp only [if_neg c12]; done)) rfl rfl
        refine z_icmp_ge C 157 dX13_look_149 (by decide) (fun c10 => ?_) (fun c10 => ?_)
        · refine z_iload_n C dX13_look_157 rfl ?_
          exact zV.at hJ11 (by first | rfl | contradiction | (simp only [if_pos c10]; done)) (by first | rfl | contradiction | (simp only [if_pos c10]; done)) rfl rfl
        · refine z_iload C dX13_look_152 rfl ?_
          refine z_goto C 158 dX13_look_154 (by decide) ?_
          exact zV.at hJ11 (by first | rfl | contradiction | (simp only [if_neg c10]; done)) (by first | rfl | contradiction | (simp only [if_neg c10]; done)) rfl rfl
      · replace hF := im hF c9
        refine z_iconst (v := 0) C dX13_look_44 (by decide) ?_
        refine z_istore (lv2 := [some (.ref (zB G + v0)), some (.int v1), some (.int v2), some (.int v3), some (.int v4), some (.int v5), some (.int v6), some (.int 0), none]) C dX13_look_45 (by decide) rfl ?_
        refine z_iconst (v := 0) C dX13_look_47 (by decide) ?_
        refine z_istore (lv2 := [some (.ref (zB G + v0)), some (.int v1), some (.int v2), some (.int v3), some (.int v4), some (.int v5), some (.int v6), some (.int 0), some (.int 0)]) C dX13_look_48 (by decide) rfl ?_
        exact ih3 S7 v0 v1 v2 v3 v4 v5 v6 0 0 res hT7 hpv0 hkv0         hF
    · intro S v0 v1 v2 v3 v4 v5 v6 v7 v8 res hT hpv0 hkv0 hF
      replace hF : F_X13_look_3 f (F_X13_look f) v0 v1 v2 v3 v4 v5 v6 v7 v8 S = some res := hF
      unfold F_X13_look_3 at hF
      refine z_iload C dX13_look_50 rfl ?_
      refine z_aload_n C dX13_look_52 rfl ?_
      obtain ⟨x14, S14, h14, hF⟩ := bI_some hF
      refine f_cV (st2 := [.int x14, .int v8]) C dX13_look_53 zyX13_people zvX13_people lkRX13_292 (K_X13_people (l := zXl X) hT hpv0 hkv0 h14) hpv0 hkv0 rfl (by decide) rfl rfl (Nat.le_of_ble_eq_true rfl) rfl (fun hT14 => ?_)
      refine z_icmp_ge C 114 dX13_look_56 (by decide) (fun c17 => ?_) (fun c17 => ?_)
      · replace hF := ip hF c17
        refine z_iload_n C dX13_look_114 rfl ?_
        refine z_iload C dX13_look_115 rfl ?_
        refine z_ishr C dX13_look_117 ?_
        refine z_iconst (v := 1) C dX13_look_118 (by decide) ?_
        refine z_iand C dX13_look_119 ?_
        refine z_iconst (v := 1) C dX13_look_120 (by decide) ?_
        have hJ20 : zV G X (zQX G X (zPo G kd N0 res) 0 0) 9 [some (.ref (zB G + v0)), some (.int v1), some (.int v2), some (.int v3), some (.int v4), some (.int v5), some (.int v6), some (.int v7), some (.int v8)] [.int (if ((v1 >>> (v6 &&& 31)) &&& (1 : Int32)) = (1 : Int32) then if v7 ≤ v5 then v5 else v7 else v5)] (cn G kd N0 S14) 138 0 0 := by
          replace hF := lI_e hF
          generalize (if ((v1 >>> (v6 &&& 31)) &&& (1 : Int32)) = (1 : Int32) then if v7 ≤ v5 then v5 else v7 else v5) = y21 at hF ⊢
          refine z_istore (lv2 := [some (.ref (zB G + v0)), some (.int v1), some (.int v2), some (.int v3), some (.int v4), some (.int y21), some (.int v6), some (.int v7), some (.int v8)]) C dX13_look_138 (by decide) rfl ?_
          refine z_iinc (v := v6 + 1) (lv2 := [some (.ref (zB G + v0)), some (.int v1), some (.int v2), some (.int v3), some (.int v4), some (.int y21), some (.int (v6 + 1)), some (.int v7), some (.int v8)]) C dX13_look_140 rfl (by rw [show Int32.ofInt 1 = (1 : Int32) from by decide]) rfl ?_
          refine z_goto C 35 dX13_look_143 (by decide) ?_
          refine z_mask [true, true, true, true, true, true, true, false, false] ?_ rfl
          exact ih2 S14 v0 v1 v2 v3 v4 y21 (v6 + 1) res hT14 hpv0 hkv0       hF
        refine z_icmp_ne C 136 dX13_look_121 (by decide) (fun c18 => ?_) (fun c18 => ?_)
        · refine z_iload C dX13_look_136 rfl ?_
          exact zV.at hJ20 (by first | rfl | contradiction | (simp only [if_neg c18]; done)) (by first | rfl | contradiction | (simp only [if_neg c18]; done)) rfl rfl
        · refine z_iload C dX13_look_124 rfl ?_
          refine z_iload C dX13_look_126 rfl ?_
          refine z_icmp_le C 136 dX13_look_128 (by decide) (fun c19 => ?_) (fun c19 => ?_)
          · refine z_iload C dX13_look_136 rfl ?_
            exact zV.at hJ20 (by first | rfl | contradiction | (simp only [if_pos c18, if_pos c19]; done)) (by first | rfl | contradiction | (simp only [if_pos c18, if_pos c19]; done)) rfl rfl
          · refine z_iload C dX13_look_131 rfl ?_
            refine z_goto C 138 dX13_look_133 (by decide) ?_
            exact zV.at hJ20 (by first | rfl | contradiction | (simp only [if_pos c18, if_neg c19]; done)) (by first | rfl | contradiction | (simp only [if_pos c18, if_neg c19]; done)) rfl rfl
      · replace hF := im hF c17
        refine z_iload C dX13_look_59 rfl ?_
        refine z_iload_n C dX13_look_61 rfl ?_
        refine z_iload C dX13_look_62 rfl ?_
        refine z_ishr C dX13_look_64 ?_
        refine z_iconst (v := 1) C dX13_look_65 (by decide) ?_
        refine z_iand C dX13_look_66 ?_
        refine z_iconst (v := 1) C dX13_look_67 (by decide) ?_
        refine z_icmp_ne C 104 dX13_look_68 (by decide) (fun c24 => ?_) (fun c24 => ?_)
        · replace hF := im hF c24
          refine z_mask [true, true, true, true, true, true, true, false, true] ?_ rfl
          exact ih4 S14 v0 v1 v2 v3 v4 v5 v6 v8 v7 res hT14 hpv0 hkv0         hF
        · replace hF := ip hF c24
          refine z_aload_n C dX13_look_71 rfl ?_
          refine f_getr C dX13_look_72 zfRX13_141 hpv0 hkv0 rfl ?_
          obtain ⟨hp25, hk25⟩ := hT14.1 v0 11 34 (.inr (0, 48)) hpv0 hkv0 rfl
          refine z_bipush (v := 8) C dX13_look_75 (by decide) ?_
          refine z_iload C dX13_look_77 rfl ?_
          refine z_imul C dX13_look_79 ?_
          refine z_iload C dX13_look_80 rfl ?_
          refine z_iadd C dX13_look_82 ?_
          obtain ⟨hi26, hF⟩ := bX_some hF
          obtain ⟨q26, eq26⟩ : ∃ q : Nat, q = Int32.toNatClampNeg (((8 : Int32) * v8) + v4) := ⟨_, rfl⟩
          rw [← eq26] at hF
          refine f_iald C dX13_look_83 hp25 hk25 hi26 ?_
          rw [← eq26]
          refine z_aload_n C dX13_look_84 rfl ?_
          refine f_getr C dX13_look_85 zfRX13_141 hpv0 hkv0 rfl ?_
          obtain ⟨hp27, hk27⟩ := hT14.1 v0 11 34 (.inr (0, 48)) hpv0 hkv0 rfl
          refine z_bipush (v := 8) C dX13_look_88 (by decide) ?_
          refine z_iload C dX13_look_90 rfl ?_
          refine z_imul C dX13_look_92 ?_
          refine z_iload C dX13_look_93 rfl ?_
          refine z_iadd C dX13_look_95 ?_
          obtain ⟨hi28, hF⟩ := bX_some hF
          obtain ⟨q28, eq28⟩ : ∃ q : Nat, q = Int32.toNatClampNeg (((8 : Int32) * v6) + v4) := ⟨_, rfl⟩
          rw [← eq28] at hF
          refine f_iald C dX13_look_96 hp27 hk27 hi28 ?_
          rw [← eq28]
          have hJ30 : zV G X (zQX G X (zPo G kd N0 res) 0 0) 9 [some (.ref (zB G + v0)), some (.int v1), some (.int v2), some (.int v3), some (.int v4), some (.int v5), some (.int v6), some (.int v7), some (.int v8)] [.int (if (gI S14 (gR S14 v0 34) q26) = (gI S14 (gR S14 v0 34) q28) then (1 : Int32) else (0 : Int32)), .int v7] (cn G kd N0 S14) 105 0 0 := by
            refine z_iadd C dX13_look_105 ?_
            replace hF := lI_e hF
            generalize (v7 + (if (gI S14 (gR S14 v0 34) q26) = (gI S14 (gR S14 v0 34) q28) then (1 : Int32) else (0 : Int32))) = y31 at hF ⊢
            refine z_istore (lv2 := [some (.ref (zB G + v0)), some (.int v1), some (.int v2), some (.int v3), some (.int v4), some (.int v5), some (.int v6), some (.int y31), some (.int v8)]) C dX13_look_106 (by decide) rfl ?_
            refine z_iinc (v := v8 + 1) (lv2 := [some (.ref (zB G + v0)), some (.int v1), some (.int v2), some (.int v3), some (.int v4), some (.int v5), some (.int v6), some (.int y31), some (.int (v8 + 1))]) C dX13_look_108 rfl (by rw [show Int32.ofInt 1 = (1 : Int32) from by decide]) rfl ?_
            refine z_goto C 50 dX13_look_111 (by decide) ?_
            exact ih3 S14 v0 v1 v2 v3 v4 v5 v6 y31 (v8 + 1) res hT14 hpv0 hkv0         hF
          refine z_icmp_ne C 104 dX13_look_97 (by decide) (fun c29 => ?_) (fun c29 => ?_)
          · refine z_iconst (v := 0) C dX13_look_104 (by decide) ?_
            exact zV.at hJ30 (by first | rfl | contradiction | (simp only [if_neg c29]; done)) (by first | rfl | contradiction | (simp only [if_neg c29]; done)) rfl rfl
          · refine z_iconst (v := 1) C dX13_look_100 (by decide) ?_
            refine z_goto C 105 dX13_look_101 (by decide) ?_
            exact zV.at hJ30 (by first | rfl | contradiction | (simp only [if_pos c29]; done)) (by first | rfl | contradiction | (simp only [if_pos c29]; done)) rfl rfl
    · intro S v0 v1 v2 v3 v4 v5 v6 v7 w0 res hT hpv0 hkv0 hF
      replace hF : F_X13_look_4 f (F_X13_look f) v0 v1 v2 v3 v4 v5 v6 v7 w0 S = some res := hF
      unfold F_X13_look_4 at hF
      refine z_iconst (v := 0) C dX13_look_104 (by decide) ?_
      exact ih5 S v0 v1 v2 v3 v4 v5 v6 v7 0 w0 res hT hpv0 hkv0          hF
    · intro S v0 v1 v2 v3 v4 v5 v6 v7 w0 w1 res hT hpv0 hkv0 hF
      replace hF : F_X13_look_5 f (F_X13_look f) v0 v1 v2 v3 v4 v5 v6 v7 w0 w1 S = some res := hF
      unfold F_X13_look_5 at hF
      refine z_iadd C dX13_look_105 ?_
      refine z_istore (lv2 := [some (.ref (zB G + v0)), some (.int v1), some (.int v2), some (.int v3), some (.int v4), some (.int v5), some (.int v6), some (.int (w1 + w0)), some (.int v7)]) C dX13_look_106 (by decide) rfl ?_
      refine z_iinc (v := v7 + 1) (lv2 := [some (.ref (zB G + v0)), some (.int v1), some (.int v2), some (.int v3), some (.int v4), some (.int v5), some (.int v6), some (.int (w1 + w0)), some (.int (v7 + 1))]) C dX13_look_108 rfl (by rw [show Int32.ofInt 1 = (1 : Int32) from by decide]) rfl ?_
      refine z_goto C 50 dX13_look_111 (by decide) ?_
      exact ih3 S v0 v1 v2 v3 v4 v5 v6 (w1 + w0) (v7 + 1) res hT hpv0 hkv0         hF
theorem K_X13_look {G : zG} {l : Launch} {kd : kD} {N0 f : Nat} {S : aS} {v0 : Nat} {res : Option Value × aS} (hT : zT0 kd N0 S) (hpv0 : v0 < N0) (hkv0 : kd v0 = .inl 11) (hF : F_X13_look f 0 [.ref v0] S = some res) : zM G l 5 0 0 yX13_look cX13_look 9 (some .int) [.ref (zB G + v0)] (cn G kd N0 S) (zPo G kd N0 res) := zM.of (by decide) rfl (Nat.le_of_ble_eq_true rfl) (fun X _ C hr _ => (B_X13_look C hr f).1 S v0 res hT hpv0 hkv0 hF)
def F_X13_mean_0 (f : Nat) (rc : Nat → List Value → aS → aR) (v0 : Nat) (v1 : Int32) (S : aS) : aR :=
  fS (sI S v0 0 0) fun S1 => bI (F_X13_within f 0 [.int v1, .int 0, .int 10] S1) fun x2 S2 => if x2 = (0 : Int32) then some (some (.int ((-1))), S2) else rc 1 [.ref v0, .int v1, .long 0, .long 1, .int 0] S2
def F_X13_mean_1 (f : Nat) (rc : Nat → List Value → aS → aR) (v0 : Nat) (v1 : Int32) (v2 : Int64) (v3 : Int64) (v4 : Int32) (S : aS) : aR :=
  bI (F_X13_people f 0 [.ref v0] S) fun x4 S4 => if x4 ≤ v4 then rc 2 [.ref v0, .int v1, .long v2, .long v3, .int 0] S4 else rc 1 [.ref v0, .int v1, .long v2, .long (v3 * (10 : Int64)), .int (v4 + 1)] S4
def F_X13_mean_2 (f : Nat) (rc : Nat → List Value → aS → aR) (v0 : Nat) (v1 : Int32) (v2 : Int64) (v3 : Int64) (v4 : Int32) (S : aS) : aR :=
  bI (F_X13_people f 0 [.ref v0] S) fun x7 S7 => if ((1 : Int32) <<< (x7 &&& 31)) ≤ v4 then bNL v3 (some (some (.int (Int64.toInt32 ((v2 * (1000 : Int64)) / v3))), S7)) else rc 3 [.ref v0, .int v1, .long v2, .long v3, .int v4, .long 1, .int 0] S7
def F_X13_mean_3 (f : Nat) (rc : Nat → List Value → aS → aR) (v0 : Nat) (v1 : Int32) (v2 : Int64) (v3 : Int64) (v4 : Int32) (v5 : Int64) (v6 : Int32) (S : aS) : aR :=
  bI (F_X13_people f 0 [.ref v0] S) fun x11 S11 => if x11 ≤ v6 then if (lg_cmp v5 (0 : Int64)) ≤ (0 : Int32) then rc 4 [.ref v0, .int v1, .long v2, .long v3, .int v4] S11 else bV (F_X13_copies f 0 [.ref v0, .int 0, .int 756, .int 28] S11) fun S17 => bV (F_X13_allWalk f 0 [.ref v0, .int 756, .int v4] S17) fun S18 => bI (F_X13_lyingIn f 0 [.ref v0, .int 756] S18) fun x19 S19 => rc 4 [.ref v0, .int v1, .long (v2 + (v5 * (Int32.toInt64 x19))), .long v3, .int v4] S19 else lJ (v5 * (if ((v4 >>> (v6 &&& 31)) &&& (1 : Int32)) = (1 : Int32) then (Int32.toInt64 ((10 : Int32) - v1)) else (Int32.toInt64 v1))) fun y22 => rc 3 [.ref v0, .int v1, .long v2, .long v3, .int v4, .long y22, .int (v6 + 1)] S11
def F_X13_mean_4 (f : Nat) (rc : Nat → List Value → aS → aR) (v0 : Nat) (v1 : Int32) (v2 : Int64) (v3 : Int64) (v4 : Int32) (S : aS) : aR :=
  rc 2 [.ref v0, .int v1, .long v2, .long v3, .int (v4 + 1)] S
def F_X13_mean : Nat → Nat → List Value → aS → aR
  | 0, _, _, _ => none
  | f + 1, 0, vs, S => F_X13_mean_0 f (F_X13_mean f) (vR vs 0) (vI vs 1) S
  | f + 1, 1, vs, S => F_X13_mean_1 f (F_X13_mean f) (vR vs 0) (vI vs 1) (vJ vs 2) (vJ vs 3) (vI vs 4) S
  | f + 1, 2, vs, S => F_X13_mean_2 f (F_X13_mean f) (vR vs 0) (vI vs 1) (vJ vs 2) (vJ vs 3) (vI vs 4) S
  | f + 1, 3, vs, S => F_X13_mean_3 f (F_X13_mean f) (vR vs 0) (vI vs 1) (vJ vs 2) (vJ vs 3) (vI vs 4) (vJ vs 5) (vI vs 6) S
  | f + 1, 4, vs, S => F_X13_mean_4 f (F_X13_mean f) (vR vs 0) (vI vs 1) (vJ vs 2) (vJ vs 3) (vI vs 4) S
  | _ + 1, _, _, _ => none
theorem dX13_mean_0 : decode cX13_mean 0 = .ok (.aload_n 0, 1) := by decide +kernel
theorem dX13_mean_1 : decode cX13_mean 1 = .ok (.iconst 0, 1) := by decide +kernel
theorem dX13_mean_2 : decode cX13_mean 2 = .ok (.putfield 1, 3) := by decide +kernel
theorem dX13_mean_5 : decode cX13_mean 5 = .ok (.iload_n 1, 1) := by decide +kernel
theorem dX13_mean_6 : decode cX13_mean 6 = .ok (.iconst 0, 1) := by decide +kernel
theorem dX13_mean_7 : decode cX13_mean 7 = .ok (.bipush 10, 2) := by decide +kernel
theorem dX13_mean_9 : decode cX13_mean 9 = .ok (.invokestatic 339, 3) := by decide +kernel
theorem dX13_mean_12 : decode cX13_mean 12 = .ok (.ifCond .ne 5, 3) := by decide +kernel
theorem dX13_mean_15 : decode cX13_mean 15 = .ok (.iconst (-1), 1) := by decide +kernel
theorem dX13_mean_16 : decode cX13_mean 16 = .ok (.ireturn, 1) := by decide +kernel
theorem dX13_mean_17 : decode cX13_mean 17 = .ok (.lconst 0, 1) := by decide +kernel
theorem dX13_mean_18 : decode cX13_mean 18 = .ok (.lstore_n 2, 1) := by decide +kernel
theorem dX13_mean_19 : decode cX13_mean 19 = .ok (.lconst 1, 1) := by decide +kernel
theorem dX13_mean_20 : decode cX13_mean 20 = .ok (.lstore 4, 2) := by decide +kernel
theorem dX13_mean_22 : decode cX13_mean 22 = .ok (.iconst 0, 1) := by decide +kernel
theorem dX13_mean_23 : decode cX13_mean 23 = .ok (.istore 6, 2) := by decide +kernel
theorem dX13_mean_25 : decode cX13_mean 25 = .ok (.iload 6, 2) := by decide +kernel
theorem dX13_mean_27 : decode cX13_mean 27 = .ok (.aload_n 0, 1) := by decide +kernel
theorem dX13_mean_28 : decode cX13_mean 28 = .ok (.invokevirtual 292, 3) := by decide +kernel
theorem dX13_mean_31 : decode cX13_mean 31 = .ok (.if_icmp .ge 17, 3) := by decide +kernel
theorem dX13_mean_34 : decode cX13_mean 34 = .ok (.lload 4, 2) := by decide +kernel
theorem dX13_mean_36 : decode cX13_mean 36 = .ok (.ldc2_w 167, 3) := by decide +kernel
theorem dX13_mean_39 : decode cX13_mean 39 = .ok (.lmul, 1) := by decide +kernel
theorem dX13_mean_40 : decode cX13_mean 40 = .ok (.lstore 4, 2) := by decide +kernel
theorem dX13_mean_42 : decode cX13_mean 42 = .ok (.iinc 6 1, 3) := by decide +kernel
theorem dX13_mean_45 : decode cX13_mean 45 = .ok (.goto (-20), 3) := by decide +kernel
theorem dX13_mean_48 : decode cX13_mean 48 = .ok (.iconst 0, 1) := by decide +kernel
theorem dX13_mean_49 : decode cX13_mean 49 = .ok (.istore 6, 2) := by decide +kernel
theorem dX13_mean_51 : decode cX13_mean 51 = .ok (.iload 6, 2) := by decide +kernel
theorem dX13_mean_53 : decode cX13_mean 53 = .ok (.iconst 1, 1) := by decide +kernel
theorem dX13_mean_54 : decode cX13_mean 54 = .ok (.aload_n 0, 1) := by decide +kernel
theorem dX13_mean_55 : decode cX13_mean 55 = .ok (.invokevirtual 292, 3) := by decide +kernel
theorem dX13_mean_58 : decode cX13_mean 58 = .ok (.ishl, 1) := by decide +kernel
theorem dX13_mean_59 : decode cX13_mean 59 = .ok (.if_icmp .ge 96, 3) := by decide +kernel
theorem dX13_mean_62 : decode cX13_mean 62 = .ok (.lconst 1, 1) := by decide +kernel
theorem dX13_mean_63 : decode cX13_mean 63 = .ok (.lstore 7, 2) := by decide +kernel
theorem dX13_mean_65 : decode cX13_mean 65 = .ok (.iconst 0, 1) := by decide +kernel
theorem dX13_mean_66 : decode cX13_mean 66 = .ok (.istore 9, 2) := by decide +kernel
theorem dX13_mean_68 : decode cX13_mean 68 = .ok (.iload 9, 2) := by decide +kernel
theorem dX13_mean_70 : decode cX13_mean 70 = .ok (.aload_n 0, 1) := by decide +kernel
theorem dX13_mean_71 : decode cX13_mean 71 = .ok (.invokevirtual 292, 3) := by decide +kernel
theorem dX13_mean_74 : decode cX13_mean 74 = .ok (.if_icmp .ge 35, 3) := by decide +kernel
theorem dX13_mean_77 : decode cX13_mean 77 = .ok (.lload 7, 2) := by decide +kernel
theorem dX13_mean_79 : decode cX13_mean 79 = .ok (.iload 6, 2) := by decide +kernel
theorem dX13_mean_81 : decode cX13_mean 81 = .ok (.iload 9, 2) := by decide +kernel
theorem dX13_mean_83 : decode cX13_mean 83 = .ok (.ishr, 1) := by decide +kernel
theorem dX13_mean_84 : decode cX13_mean 84 = .ok (.iconst 1, 1) := by decide +kernel
theorem dX13_mean_85 : decode cX13_mean 85 = .ok (.iand, 1) := by decide +kernel
theorem dX13_mean_86 : decode cX13_mean 86 = .ok (.iconst 1, 1) := by decide +kernel
theorem dX13_mean_87 : decode cX13_mean 87 = .ok (.if_icmp .ne 11, 3) := by decide +kernel
theorem dX13_mean_90 : decode cX13_mean 90 = .ok (.bipush 10, 2) := by decide +kernel
theorem dX13_mean_92 : decode cX13_mean 92 = .ok (.iload_n 1, 1) := by decide +kernel
theorem dX13_mean_93 : decode cX13_mean 93 = .ok (.isub, 1) := by decide +kernel
theorem dX13_mean_94 : decode cX13_mean 94 = .ok (.i2l, 1) := by decide +kernel
theorem dX13_mean_95 : decode cX13_mean 95 = .ok (.goto 5, 3) := by decide +kernel
theorem dX13_mean_98 : decode cX13_mean 98 = .ok (.iload_n 1, 1) := by decide +kernel
theorem dX13_mean_99 : decode cX13_mean 99 = .ok (.i2l, 1) := by decide +kernel
theorem dX13_mean_100 : decode cX13_mean 100 = .ok (.lmul, 1) := by decide +kernel
theorem dX13_mean_101 : decode cX13_mean 101 = .ok (.lstore 7, 2) := by decide +kernel
theorem dX13_mean_103 : decode cX13_mean 103 = .ok (.iinc 9 1, 3) := by decide +kernel
theorem dX13_mean_106 : decode cX13_mean 106 = .ok (.goto (-38), 3) := by decide +kernel
theorem dX13_mean_109 : decode cX13_mean 109 = .ok (.lload 7, 2) := by decide +kernel
theorem dX13_mean_111 : decode cX13_mean 111 = .ok (.lconst 0, 1) := by decide +kernel
theorem dX13_mean_112 : decode cX13_mean 112 = .ok (.lcmp, 1) := by decide +kernel
theorem dX13_mean_113 : decode cX13_mean 113 = .ok (.ifCond .le 36, 3) := by decide +kernel
theorem dX13_mean_116 : decode cX13_mean 116 = .ok (.aload_n 0, 1) := by decide +kernel
theorem dX13_mean_117 : decode cX13_mean 117 = .ok (.iconst 0, 1) := by decide +kernel
theorem dX13_mean_118 : decode cX13_mean 118 = .ok (.sipush 756, 3) := by decide +kernel
theorem dX13_mean_121 : decode cX13_mean 121 = .ok (.bipush 28, 2) := by decide +kernel
theorem dX13_mean_123 : decode cX13_mean 123 = .ok (.invokevirtual 288, 3) := by decide +kernel
theorem dX13_mean_126 : decode cX13_mean 126 = .ok (.aload_n 0, 1) := by decide +kernel
theorem dX13_mean_127 : decode cX13_mean 127 = .ok (.sipush 756, 3) := by decide +kernel
theorem dX13_mean_130 : decode cX13_mean 130 = .ok (.iload 6, 2) := by decide +kernel
theorem dX13_mean_132 : decode cX13_mean 132 = .ok (.invokevirtual 364, 3) := by decide +kernel
theorem dX13_mean_135 : decode cX13_mean 135 = .ok (.lload_n 2, 1) := by decide +kernel
theorem dX13_mean_136 : decode cX13_mean 136 = .ok (.lload 7, 2) := by decide +kernel
theorem dX13_mean_138 : decode cX13_mean 138 = .ok (.aload_n 0, 1) := by decide +kernel
theorem dX13_mean_139 : decode cX13_mean 139 = .ok (.sipush 756, 3) := by decide +kernel
theorem dX13_mean_142 : decode cX13_mean 142 = .ok (.invokevirtual 299, 3) := by decide +kernel
theorem dX13_mean_145 : decode cX13_mean 145 = .ok (.i2l, 1) := by decide +kernel
theorem dX13_mean_146 : decode cX13_mean 146 = .ok (.lmul, 1) := by decide +kernel
theorem dX13_mean_147 : decode cX13_mean 147 = .ok (.ladd, 1) := by decide +kernel
theorem dX13_mean_148 : decode cX13_mean 148 = .ok (.lstore_n 2, 1) := by decide +kernel
theorem dX13_mean_149 : decode cX13_mean 149 = .ok (.iinc 6 1, 3) := by decide +kernel
theorem dX13_mean_152 : decode cX13_mean 152 = .ok (.goto (-101), 3) := by decide +kernel
theorem dX13_mean_155 : decode cX13_mean 155 = .ok (.lload_n 2, 1) := by decide +kernel
theorem dX13_mean_156 : decode cX13_mean 156 = .ok (.ldc2_w 388, 3) := by decide +kernel
theorem dX13_mean_159 : decode cX13_mean 159 = .ok (.lmul, 1) := by decide +kernel
theorem dX13_mean_160 : decode cX13_mean 160 = .ok (.lload 4, 2) := by decide +kernel
theorem dX13_mean_162 : decode cX13_mean 162 = .ok (.ldiv, 1) := by decide +kernel
theorem dX13_mean_163 : decode cX13_mean 163 = .ok (.l2i, 1) := by decide +kernel
theorem dX13_mean_164 : decode cX13_mean 164 = .ok (.ireturn, 1) := by decide +kernel
set_option maxHeartbeats 4000000 in
set_option maxRecDepth 100000 in
theorem B_X13_mean {G : zG} {X : zX} {kd : kD} {N0 : Nat} (C : zCt G X 5 0 0 RX13 cX13_mean 10) (hr : (zXh X).sig.returnType = (some .int)) : ∀ f : Nat,
    (∀ (S : aS) (v0 : Nat) (v1 : Int32) (res : Option Value × aS), zT0 kd N0 S → v0 < N0 → kd v0 = .inl 11 → F_X13_mean f 0 [.ref v0, .int v1] S = some res → zV G X (zQX G X (zPo G kd N0 res) 0 0) 10 [some (.ref (zB G + v0)), some (.int v1), none, none, none, none, none, none, none, none] [] (cn G kd N0 S) 0 0 0) ∧
    (∀ (S : aS) (v0 : Nat) (v1 : Int32) (v2 : Int64) (v3 : Int64) (v4 : Int32) (res : Option Value × aS), zT0 kd N0 S → v0 < N0 → kd v0 = .inl 11 → F_X13_mean f 1 [.ref v0, .int v1, .long v2, .long v3, .int v4] S = some res → zV G X (zQX G X (zPo G kd N0 res) 0 0) 10 [some (.ref (zB G + v0)), some (.int v1), some (.long v2), none, some (.long v3), none, some (.int v4), none, none, none] [] (cn G kd N0 S) 25 0 0) ∧
    (∀ (S : aS) (v0 : Nat) (v1 : Int32) (v2 : Int64) (v3 : Int64) (v4 : Int32) (res : Option Value × aS), zT0 kd N0 S → v0 < N0 → kd v0 = .inl 11 → F_X13_mean f 2 [.ref v0, .int v1, .long v2, .long v3, .int v4] S = some res → zV G X (zQX G X (zPo G kd N0 res) 0 0) 10 [some (.ref (zB G + v0)), some (.int v1), some (.long v2), none, some (.long v3), none, some (.int v4), none, none, none] [] (cn G kd N0 S) 51 0 0) ∧
    (∀ (S : aS) (v0 : Nat) (v1 : Int32) (v2 : Int64) (v3 : Int64) (v4 : Int32) (v5 : Int64) (v6 : Int32) (res : Option Value × aS), zT0 kd N0 S → v0 < N0 → kd v0 = .inl 11 → F_X13_mean f 3 [.ref v0, .int v1, .long v2, .long v3, .int v4, .long v5, .int v6] S = some res → zV G X (zQX G X (zPo G kd N0 res) 0 0) 10 [some (.ref (zB G + v0)), some (.int v1), some (.long v2), none, some (.long v3), none, some (.int v4), some (.long v5), none, some (.int v6)] [] (cn G kd N0 S) 68 0 0) ∧
    (∀ (S : aS) (v0 : Nat) (v1 : Int32) (v2 : Int64) (v3 : Int64) (v4 : Int32) (res : Option Value × aS), zT0 kd N0 S → v0 < N0 → kd v0 = .inl 11 → F_X13_mean f 4 [.ref v0, .int v1, .long v2, .long v3, .int v4] S = some res → zV G X (zQX G X (zPo G kd N0 res) 0 0) 10 [some (.ref (zB G + v0)), some (.int v1), some (.long v2), none, some (.long v3), none, some (.int v4), none, none, none] [] (cn G kd N0 S) 149 0 0) := by
  intro f
  induction f with
  | zero => exact ⟨(fun _ _ _ _ _ _ _ h => by cases h), (fun _ _ _ _ _ _ _ _ _ _ h => by cases h), (fun _ _ _ _ _ _ _ _ _ _ h => by cases h), (fun _ _ _ _ _ _ _ _ _ _ _ _ h => by cases h), (fun _ _ _ _ _ _ _ _ _ _ h => by cases h)⟩
  | succ f ih =>
    obtain ⟨ih0, ih1, ih2, ih3, ih4⟩ := ih
    refine ⟨?_, ?_, ?_, ?_, ?_⟩
    · intro S v0 v1 res hT hpv0 hkv0 hF
      replace hF : F_X13_mean_0 f (F_X13_mean f) v0 v1 S = some res := hF
      unfold F_X13_mean_0 at hF
      refine z_aload_n C dX13_mean_0 rfl ?_
      refine z_iconst (v := 0) C dX13_mean_1 (by decide) ?_
      refine f_puti C dX13_mean_2 zfRX13_1 fw11_0 hpv0 hkv0 rfl rfl rfl ?_
      have hT1 : zT0 kd N0 (sI S v0 0 0) := zT0_sI hT
      replace hF := fS_e hF
      generalize sI S v0 0 0 = S1 at hF hT1 ⊢
      refine z_iload_n C dX13_mean_5 rfl ?_
      refine z_iconst (v := 0) C dX13_mean_6 (by decide) ?_
      refine z_bipush (v := 10) C dX13_mean_7 (by decide) ?_
      obtain ⟨x2, S2, h2, hF⟩ := bI_some hF
      refine f_cS (st2 := [.int x2]) C dX13_mean_9 zyX13_within zsX13_within lkRX13_339 (K_X13_within (l := zXl X) hT1    h2) (by decide) rfl rfl (Nat.le_of_ble_eq_true rfl) rfl (fun hT2 => ?_)
      refine z_if_ne C 17 dX13_mean_12 (by decide) (fun c3 => ?_) (fun c3 => ?_)
      · replace hF := im hF c3
        refine z_lconst (v := 0) C dX13_mean_17 (by decide) ?_
        refine z_lstore_n (lv2 := [some (.ref (zB G + v0)), some (.int v1), some (.long 0), none, none, none, none, none, none, none]) C dX13_mean_18 (by decide) rfl ?_
        refine z_lconst (v := 1) C dX13_mean_19 (by decide) ?_
        refine z_lstore (lv2 := [some (.ref (zB G + v0)), some (.int v1), some (.long 0), none, some (.long 1), none, none, none, none, none]) C dX13_mean_20 (by decide) rfl ?_
        refine z_iconst (v := 0) C dX13_mean_22 (by decide) ?_
        refine z_istore (lv2 := [some (.ref (zB G + v0)), some (.int v1), some (.long 0), none, some (.long 1), none, some (.int 0), none, none, none]) C dX13_mean_23 (by decide) rfl ?_
        exact ih1 S2 v0 v1 0 1 0 res hT2 hpv0 hkv0     hF
      · replace hF := ip hF c3
        refine z_iconst (v := (-1)) C dX13_mean_15 (by decide) ?_
        cases hF
        exact z_iret C hr dX13_mean_16 ⟨rfl, rfl, hT2⟩
    · intro S v0 v1 v2 v3 v4 res hT hpv0 hkv0 hF
      replace hF : F_X13_mean_1 f (F_X13_mean f) v0 v1 v2 v3 v4 S = some res := hF
      unfold F_X13_mean_1 at hF
      refine z_iload C dX13_mean_25 rfl ?_
      refine z_aload_n C dX13_mean_27 rfl ?_
      obtain ⟨x4, S4, h4, hF⟩ := bI_some hF
      refine f_cV (st2 := [.int x4, .int v4]) C dX13_mean_28 zyX13_people zvX13_people lkRX13_292 (K_X13_people (l := zXl X) hT hpv0 hkv0 h4) hpv0 hkv0 rfl (by decide) rfl rfl (Nat.le_of_ble_eq_true rfl) rfl (fun hT4 => ?_)
      refine z_icmp_ge C 48 dX13_mean_31 (by decide) (fun c6 => ?_) (fun c6 => ?_)
      · replace hF := ip hF c6
        refine z_iconst (v := 0) C dX13_mean_48 (by decide) ?_
        refine z_istore (lv2 := [some (.ref (zB G + v0)), some (.int v1), some (.long v2), none, some (.long v3), none, some (.int 0), none, none, none]) C dX13_mean_49 (by decide) rfl ?_
        exact ih2 S4 v0 v1 v2 v3 0 res hT4 hpv0 hkv0     hF
      · replace hF := im hF c6
        refine z_lload C dX13_mean_34 rfl ?_
        refine z_ldc2 C dX13_mean_36 klRX13_167 ?_
        refine z_lmul C dX13_mean_39 ?_
        refine z_lstore (lv2 := [some (.ref (zB G + v0)), some (.int v1), some (.long v2), none, some (.long (v3 * (10 : Int64))), none, some (.int v4), none, none, none]) C dX13_mean_40 (by decide) rfl ?_
        refine z_iinc (v := v4 + 1) (lv2 := [some (.ref (zB G + v0)), some (.int v1), some (.long v2), none, some (.long (v3 * (10 : Int64))), none, some (.int (v4 + 1)), none, none, none]) C dX13_mean_42 rfl (by rw [show Int32.ofInt 1 = (1 : Int32) from by decide]) rfl ?_
        refine z_goto C 25 dX13_mean_45 (by decide) ?_
        exact ih1 S4 v0 v1 v2 (v3 * (10 : Int64)) (v4 + 1) res hT4 hpv0 hkv0     hF
    · intro S v0 v1 v2 v3 v4 res hT hpv0 hkv0 hF
      replace hF : F_X13_mean_2 f (F_X13_mean f) v0 v1 v2 v3 v4 S = some res := hF
      unfold F_X13_mean_2 at hF
      refine z_iload C dX13_mean_51 rfl ?_
      refine z_iconst (v := 1) C dX13_mean_53 (by decide) ?_
      refine z_aload_n C dX13_mean_54 rfl ?_
      obtain ⟨x7, S7, h7, hF⟩ := bI_some hF
      refine f_cV (st2 := [.int x7, .int 1, .int v4]) C dX13_mean_55 zyX13_people zvX13_people lkRX13_292 (K_X13_people (l := zXl X) hT hpv0 hkv0 h7) hpv0 hkv0 rfl (by decide) rfl rfl (Nat.le_of_ble_eq_true rfl) rfl (fun hT7 => ?_)
      refine z_ishl C dX13_mean_58 ?_
      refine z_icmp_ge C 155 dX13_mean_59 (by decide) (fun c9 => ?_) (fun c9 => ?_)
      · replace hF := ip hF c9
        refine z_lload_n C dX13_mean_155 rfl ?_
        refine z_ldc2 C dX13_mean_156 klRX13_388 ?_
        refine z_lmul C dX13_mean_159 ?_
        refine z_lload C dX13_mean_160 rfl ?_
        obtain ⟨hz10, hF⟩ := bNL_some hF
        refine z_ldiv C dX13_mean_162 hz10 ?_
        refine z_l2i C dX13_mean_163 ?_
        cases hF
        exact z_iret C hr dX13_mean_164 ⟨rfl, rfl, hT7⟩
      · replace hF := im hF c9
        refine z_lconst (v := 1) C dX13_mean_62 (by decide) ?_
        refine z_lstore (lv2 := [some (.ref (zB G + v0)), some (.int v1), some (.long v2), none, some (.long v3), none, some (.int v4), some (.long 1), none, none]) C dX13_mean_63 (by decide) rfl ?_
        refine z_iconst (v := 0) C dX13_mean_65 (by decide) ?_
        refine z_istore (lv2 := [some (.ref (zB G + v0)), some (.int v1), some (.long v2), none, some (.long v3), none, some (.int v4), some (.long 1), none, some (.int 0)]) C dX13_mean_66 (by decide) rfl ?_
        exact ih3 S7 v0 v1 v2 v3 v4 1 0 res hT7 hpv0 hkv0       hF
    · intro S v0 v1 v2 v3 v4 v5 v6 res hT hpv0 hkv0 hF
      replace hF : F_X13_mean_3 f (F_X13_mean f) v0 v1 v2 v3 v4 v5 v6 S = some res := hF
      unfold F_X13_mean_3 at hF
      refine z_iload C dX13_mean_68 rfl ?_
      refine z_aload_n C dX13_mean_70 rfl ?_
      obtain ⟨x11, S11, h11, hF⟩ := bI_some hF
      refine f_cV (st2 := [.int x11, .int v6]) C dX13_mean_71 zyX13_people zvX13_people lkRX13_292 (K_X13_people (l := zXl X) hT hpv0 hkv0 h11) hpv0 hkv0 rfl (by decide) rfl rfl (Nat.le_of_ble_eq_true rfl) rfl (fun hT11 => ?_)
      refine z_icmp_ge C 109 dX13_mean_74 (by decide) (fun c14 => ?_) (fun c14 => ?_)
      · replace hF := ip hF c14
        refine z_lload C dX13_mean_109 rfl ?_
        refine z_lconst (v := 0) C dX13_mean_111 (by decide) ?_
        refine z_lcmp C dX13_mean_112 ?_
        refine z_if_le C 149 dX13_mean_113 (by decide) (fun c16 => ?_) (fun c16 => ?_)
        · replace hF := ip hF c16
          refine z_mask [true, true, true, true, true, true, true, false, true, false] ?_ rfl
          exact ih4 S11 v0 v1 v2 v3 v4 res hT11 hpv0 hkv0     hF
        · replace hF := im hF c16
          refine z_aload_n C dX13_mean_116 rfl ?_
          refine z_iconst (v := 0) C dX13_mean_117 (by decide) ?_
          refine z_sipush (v := 756) C dX13_mean_118 (by decide) ?_
          refine z_bipush (v := 28) C dX13_mean_121 (by decide) ?_
          obtain ⟨S17, h17, hF⟩ := bV_some hF
          refine f_cV (st2 := []) C dX13_mean_123 zyX13_copies zvX13_copies lkRX13_288 (K_X13_copies (l := zXl X) hT11 hpv0 hkv0    h17) hpv0 hkv0 rfl (by decide) rfl rfl (Nat.le_of_ble_eq_true rfl) rfl (fun hT17 => ?_)
          refine z_aload_n C dX13_mean_126 rfl ?_
          refine z_sipush (v := 756) C dX13_mean_127 (by decide) ?_
          refine z_iload C dX13_mean_130 rfl ?_
          obtain ⟨S18, h18, hF⟩ := bV_some hF
          refine f_cV (st2 := []) C dX13_mean_132 zyX13_allWalk zvX13_allWalk lkRX13_364 (K_X13_allWalk (l := zXl X) hT17 hpv0 hkv0   h18) hpv0 hkv0 rfl (by decide) rfl rfl (Nat.le_of_ble_eq_true rfl) rfl (fun hT18 => ?_)
          refine z_lload_n C dX13_mean_135 rfl ?_
          refine z_lload C dX13_mean_136 rfl ?_
          refine z_aload_n C dX13_mean_138 rfl ?_
          refine z_sipush (v := 756) C dX13_mean_139 (by decide) ?_
          obtain ⟨x19, S19, h19, hF⟩ := bI_some hF
          refine f_cV (st2 := [.int x19, .long v5, .long v2]) C dX13_mean_142 zyX13_lyingIn zvX13_lyingIn lkRX13_299 (K_X13_lyingIn (l := zXl X) hT18 hpv0 hkv0  h19) hpv0 hkv0 rfl (by decide) rfl rfl (Nat.le_of_ble_eq_true rfl) rfl (fun hT19 => ?_)
          refine z_i2l C dX13_mean_145 ?_
          refine z_lmul C dX13_mean_146 ?_
          refine z_ladd C dX13_mean_147 ?_
          refine z_lstore_n (lv2 := [some (.ref (zB G + v0)), some (.int v1), some (.long (v2 + (v5 * (Int32.toInt64 x19)))), none, some (.long v3), none, some (.int v4), some (.long v5), none, some (.int v6)]) C dX13_mean_148 (by decide) rfl ?_
          refine z_mask [true, true, true, true, true, true, true, false, true, false] ?_ rfl
          exact ih4 S19 v0 v1 (v2 + (v5 * (Int32.toInt64 x19))) v3 v4 res hT19 hpv0 hkv0     hF
      · replace hF := im hF c14
        refine z_lload C dX13_mean_77 rfl ?_
        refine z_iload C dX13_mean_79 rfl ?_
        refine z_iload C dX13_mean_81 rfl ?_
        refine z_ishr C dX13_mean_83 ?_
        refine z_iconst (v := 1) C dX13_mean_84 (by decide) ?_
        refine z_iand C dX13_mean_85 ?_
        refine z_iconst (v := 1) C dX13_mean_86 (by decide) ?_
        have hJ21 : zV G X (zQX G X (zPo G kd N0 res) 0 0) 10 [some (.ref (zB G + v0)), some (.int v1), some (.long v2), none, some (.long v3), none, some (.int v4), some (.long v5), none, some (.int v6)] [.long (if ((v4 >>> (v6 &&& 31)) &&& (1 : Int32)) = (1 : Int32) then (Int32.toInt64 ((10 : Int32) - v1)) else (Int32.toInt64 v1)), .long v5] (cn G kd N0 S11) 100 0 0 := by
          refine z_lmul C dX13_mean_100 ?_
          replace hF := lJ_e hF
          generalize (v5 * (if ((v4 >>> (v6 &&& 31)) &&& (1 : Int32)) = (1 : Int32) then (Int32.toInt64 ((10 : Int32) - v1)) else (Int32.toInt64 v1))) = y22 at hF ⊢
          refine z_lstore (lv2 := [some (.ref (zB G + v0)), some (.int v1), some (.long v2), none, some (.long v3), none, some (.int v4), some (.long y22), none, some (.int v6)]) C dX13_mean_101 (by decide) rfl ?_
          refine z_iinc (v := v6 + 1) (lv2 := [some (.ref (zB G + v0)), some (.int v1), some (.long v2), none, some (.long v3), none, some (.int v4), some (.long y22), none, some (.int (v6 + 1))]) C dX13_mean_103 rfl (by rw [show Int32.ofInt 1 = (1 : Int32) from by decide]) rfl ?_
          refine z_goto C 68 dX13_mean_106 (by decide) ?_
          exact ih3 S11 v0 v1 v2 v3 v4 y22 (v6 + 1) res hT11 hpv0 hkv0       hF
        refine z_icmp_ne C 98 dX13_mean_87 (by decide) (fun c20 => ?_) (fun c20 => ?_)
        · refine z_iload_n C dX13_mean_98 rfl ?_
          refine z_i2l C dX13_mean_99 ?_
          exact zV.at hJ21 (by first | rfl | contradiction | (simp only [if_neg c20]; done)) (by first | rfl | contradiction | (simp only [if_neg c20]; done)) rfl rfl
        · refine z_bipush (v := 10) C dX13_mean_90 (by decide) ?_
          refine z_iload_n C dX13_mean_92 rfl ?_
          refine z_isub C dX13_mean_93 ?_
          refine z_i2l C dX13_mean_94 ?_
          refine z_goto C 100 dX13_mean_95 (by decide) ?_
          exact zV.at hJ21 (by first | rfl | contradiction | (simp only [if_pos c20]; done)) (by first | rfl | contradiction | (simp only [if_pos c20]; done)) rfl rfl
    · intro S v0 v1 v2 v3 v4 res hT hpv0 hkv0 hF
      replace hF : F_X13_mean_4 f (F_X13_mean f) v0 v1 v2 v3 v4 S = some res := hF
      unfold F_X13_mean_4 at hF
      refine z_iinc (v := v4 + 1) (lv2 := [some (.ref (zB G + v0)), some (.int v1), some (.long v2), none, some (.long v3), none, some (.int (v4 + 1)), none, none, none]) C dX13_mean_149 rfl (by rw [show Int32.ofInt 1 = (1 : Int32) from by decide]) rfl ?_
      refine z_goto C 51 dX13_mean_152 (by decide) ?_
      exact ih2 S v0 v1 v2 v3 (v4 + 1) res hT hpv0 hkv0     hF
theorem K_X13_mean {G : zG} {l : Launch} {kd : kD} {N0 f : Nat} {S : aS} {v0 : Nat} {v1 : Int32} {res : Option Value × aS} (hT : zT0 kd N0 S) (hpv0 : v0 < N0) (hkv0 : kd v0 = .inl 11) (hF : F_X13_mean f 0 [.ref v0, .int v1] S = some res) : zM G l 5 0 0 yX13_mean cX13_mean 10 (some .int) [.ref (zB G + v0), .int v1] (cn G kd N0 S) (zPo G kd N0 res) := zM.of (by decide) rfl (Nat.le_of_ble_eq_true rfl) (fun X _ C hr _ => (B_X13_mean C hr f).1 S v0 v1 res hT hpv0 hkv0 hF)
def F_X13_weeks_0 (f : Nat) (rc : Nat → List Value → aS → aR) (v0 : Nat) (v1 : Int32) (v2 : Int32) (v3 : Int32) (S : aS) : aR :=
  fS (sI S v0 0 0) fun S1 => bI (F_X13_within f 0 [.int v1, .int 0, .int 9999] S1) fun x2 S2 => if x2 = (0 : Int32) then rc 1 [] S2 else bI (F_X13_within f 0 [.int v2, .int 1, .int 99] S2) fun x4 S4 => if x4 = (0 : Int32) then rc 1 [] S4 else bI (F_X13_within f 0 [.int v3, .int 0, .int 2] S4) fun x6 S6 => if x6 = (0 : Int32) then rc 1 [] S6 else bV (F_X13_copies f 0 [.ref v0, .int 0, .int 792, .int 28] S6) fun S8 => fS (sJ S8 v0 35 (Int32.toInt64 v1)) fun S9 => rc 2 [.ref v0, .int v2, .int v3, .int 0] S9
def F_X13_weeks_1 (f : Nat) (rc : Nat → List Value → aS → aR)  (S : aS) : aR :=
  some (some (.int ((-1))), S)
def F_X13_weeks_2 (f : Nat) (rc : Nat → List Value → aS → aR) (v0 : Nat) (v1 : Int32) (v2 : Int32) (v3 : Int32) (S : aS) : aR :=
  if v1 ≤ v3 then if v2 = (0 : Int32) then bI (F_X13_lyingIn f 0 [.ref v0, .int 792] S) fun x28 S28 => rc 3 [.int x28] S28 else if v2 = (1 : Int32) then bX 793 828 fun q25 => bX 1 828 fun q27 => rc 3 [.int ((gI S (gR S v0 22) q25) - (gI S (gR S v0 22) q27))] S else bX 795 828 fun q21 => bX 3 828 fun q23 => rc 3 [.int ((gI S (gR S v0 22) q21) - (gI S (gR S v0 22) q23))] S else rc 4 [.ref v0, .int v1, .int v2, .int v3, .int 0] S
def F_X13_weeks_3 (f : Nat) (rc : Nat → List Value → aS → aR) (w0 : Int32) (S : aS) : aR :=
  some (some (.int w0), S)
def F_X13_weeks_4 (f : Nat) (rc : Nat → List Value → aS → aR) (v0 : Nat) (v1 : Int32) (v2 : Int32) (v3 : Int32) (v4 : Int32) (S : aS) : aR :=
  if (3 : Int32) ≤ v4 then rc 5 [.ref v0, .int v1, .int v2, .int v3] S else bI (F_X13_people f 0 [.ref v0] S) fun x31 S31 => if x31 ≤ (0 : Int32) then rc 5 [.ref v0, .int v1, .int v2, .int v3] S31 else bI (F_X13_people f 0 [.ref v0] S31) fun x34 S34 => bI (F_X13_draw f 0 [.ref v0, .int x34] S34) fun x35 S35 => bI (F_X13_walks f 0 [.ref v0, .int 792, .int x35] S35) fun x36 S36 => rc 4 [.ref v0, .int v1, .int v2, .int v3, .int (v4 + 1)] S36
def F_X13_weeks_5 (f : Nat) (rc : Nat → List Value → aS → aR) (v0 : Nat) (v1 : Int32) (v2 : Int32) (v3 : Int32) (S : aS) : aR :=
  bI (F_X13_draw f 0 [.ref v0, .int 5] S) fun x37 S37 => lI (if x37 = (0 : Int32) then (1 : Int32) else (0 : Int32)) fun y40 => rc 6 [.ref v0, .int v1, .int v2, .int v3, .int y40, .int 0] S37
def F_X13_weeks_6 (f : Nat) (rc : Nat → List Value → aS → aR) (v0 : Nat) (v1 : Int32) (v2 : Int32) (v3 : Int32) (v4 : Int32) (v5 : Int32) (S : aS) : aR :=
  bI (F_X13_yards f 0 [.ref v0] S) fun x41 S41 => if x41 ≤ v5 then bI (F_X13_passes f 0 [.ref v0, .int 792] S41) fun x45 S45 => rc 2 [.ref v0, .int v1, .int v2, .int (v3 + 1)] S45 else if v4 = (0 : Int32) then rc 7 [.ref v0, .int v1, .int v2, .int v3, .int v4, .int v5] S41 else bI (F_X13_isBin f 0 [.ref v0, .int 792, .int v5] S41) fun x48 S48 => if x48 = (0 : Int32) then rc 7 [.ref v0, .int v1, .int v2, .int v3, .int v4, .int v5] S48 else bI (F_X13_empties f 0 [.ref v0, .int 792, .int v5] S48) fun x51 S51 => rc 7 [.ref v0, .int v1, .int v2, .int v3, .int v4, .int v5] S51
def F_X13_weeks_7 (f : Nat) (rc : Nat → List Value → aS → aR) (v0 : Nat) (v1 : Int32) (v2 : Int32) (v3 : Int32) (v4 : Int32) (v5 : Int32) (S : aS) : aR :=
  rc 6 [.ref v0, .int v1, .int v2, .int v3, .int v4, .int (v5 + 1)] S
def F_X13_weeks : Nat → Nat → List Value → aS → aR
  | 0, _, _, _ => none
  | f + 1, 0, vs, S => F_X13_weeks_0 f (F_X13_weeks f) (vR vs 0) (vI vs 1) (vI vs 2) (vI vs 3) S
  | f + 1, 1, vs, S => F_X13_weeks_1 f (F_X13_weeks f)  S
  | f + 1, 2, vs, S => F_X13_weeks_2 f (F_X13_weeks f) (vR vs 0) (vI vs 1) (vI vs 2) (vI vs 3) S
  | f + 1, 3, vs, S => F_X13_weeks_3 f (F_X13_weeks f) (vI vs 0) S
  | f + 1, 4, vs, S => F_X13_weeks_4 f (F_X13_weeks f) (vR vs 0) (vI vs 1) (vI vs 2) (vI vs 3) (vI vs 4) S
  | f + 1, 5, vs, S => F_X13_weeks_5 f (F_X13_weeks f) (vR vs 0) (vI vs 1) (vI vs 2) (vI vs 3) S
  | f + 1, 6, vs, S => F_X13_weeks_6 f (F_X13_weeks f) (vR vs 0) (vI vs 1) (vI vs 2) (vI vs 3) (vI vs 4) (vI vs 5) S
  | f + 1, 7, vs, S => F_X13_weeks_7 f (F_X13_weeks f) (vR vs 0) (vI vs 1) (vI vs 2) (vI vs 3) (vI vs 4) (vI vs 5) S
  | _ + 1, _, _, _ => none
theorem dX13_weeks_0 : decode cX13_weeks 0 = .ok (.aload_n 0, 1) := by decide +kernel
theorem dX13_weeks_1 : decode cX13_weeks 1 = .ok (.iconst 0, 1) := by decide +kernel
theorem dX13_weeks_2 : decode cX13_weeks 2 = .ok (.putfield 1, 3) := by decide +kernel
theorem dX13_weeks_5 : decode cX13_weeks 5 = .ok (.iload_n 1, 1) := by decide +kernel
theorem dX13_weeks_6 : decode cX13_weeks 6 = .ok (.iconst 0, 1) := by decide +kernel
theorem dX13_weeks_7 : decode cX13_weeks 7 = .ok (.sipush 9999, 3) := by decide +kernel
theorem dX13_weeks_10 : decode cX13_weeks 10 = .ok (.invokestatic 339, 3) := by decide +kernel
theorem dX13_weeks_13 : decode cX13_weeks 13 = .ok (.ifCond .eq 22, 3) := by decide +kernel
theorem dX13_weeks_16 : decode cX13_weeks 16 = .ok (.iload_n 2, 1) := by decide +kernel
theorem dX13_weeks_17 : decode cX13_weeks 17 = .ok (.iconst 1, 1) := by decide +kernel
theorem dX13_weeks_18 : decode cX13_weeks 18 = .ok (.bipush 99, 2) := by decide +kernel
theorem dX13_weeks_20 : decode cX13_weeks 20 = .ok (.invokestatic 339, 3) := by decide +kernel
theorem dX13_weeks_23 : decode cX13_weeks 23 = .ok (.ifCond .eq 12, 3) := by decide +kernel
theorem dX13_weeks_26 : decode cX13_weeks 26 = .ok (.iload_n 3, 1) := by decide +kernel
theorem dX13_weeks_27 : decode cX13_weeks 27 = .ok (.iconst 0, 1) := by decide +kernel
theorem dX13_weeks_28 : decode cX13_weeks 28 = .ok (.iconst 2, 1) := by decide +kernel
theorem dX13_weeks_29 : decode cX13_weeks 29 = .ok (.invokestatic 339, 3) := by decide +kernel
theorem dX13_weeks_32 : decode cX13_weeks 32 = .ok (.ifCond .ne 5, 3) := by decide +kernel
theorem dX13_weeks_35 : decode cX13_weeks 35 = .ok (.iconst (-1), 1) := by decide +kernel
theorem dX13_weeks_36 : decode cX13_weeks 36 = .ok (.ireturn, 1) := by decide +kernel
theorem dX13_weeks_37 : decode cX13_weeks 37 = .ok (.aload_n 0, 1) := by decide +kernel
theorem dX13_weeks_38 : decode cX13_weeks 38 = .ok (.iconst 0, 1) := by decide +kernel
theorem dX13_weeks_39 : decode cX13_weeks 39 = .ok (.sipush 792, 3) := by decide +kernel
theorem dX13_weeks_42 : decode cX13_weeks 42 = .ok (.bipush 28, 2) := by decide +kernel
theorem dX13_weeks_44 : decode cX13_weeks 44 = .ok (.invokevirtual 288, 3) := by decide +kernel
theorem dX13_weeks_47 : decode cX13_weeks 47 = .ok (.aload_n 0, 1) := by decide +kernel
theorem dX13_weeks_48 : decode cX13_weeks 48 = .ok (.iload_n 1, 1) := by decide +kernel
theorem dX13_weeks_49 : decode cX13_weeks 49 = .ok (.i2l, 1) := by decide +kernel
theorem dX13_weeks_50 : decode cX13_weeks 50 = .ok (.putfield 394, 3) := by decide +kernel
theorem dX13_weeks_53 : decode cX13_weeks 53 = .ok (.iconst 0, 1) := by decide +kernel
theorem dX13_weeks_54 : decode cX13_weeks 54 = .ok (.istore 4, 2) := by decide +kernel
theorem dX13_weeks_56 : decode cX13_weeks 56 = .ok (.iload 4, 2) := by decide +kernel
theorem dX13_weeks_58 : decode cX13_weeks 58 = .ok (.iload_n 2, 1) := by decide +kernel
theorem dX13_weeks_59 : decode cX13_weeks 59 = .ok (.if_icmp .ge 115, 3) := by decide +kernel
theorem dX13_weeks_62 : decode cX13_weeks 62 = .ok (.iconst 0, 1) := by decide +kernel
theorem dX13_weeks_63 : decode cX13_weeks 63 = .ok (.istore 5, 2) := by decide +kernel
theorem dX13_weeks_65 : decode cX13_weeks 65 = .ok (.iload 5, 2) := by decide +kernel
theorem dX13_weeks_67 : decode cX13_weeks 67 = .ok (.iconst 3, 1) := by decide +kernel
theorem dX13_weeks_68 : decode cX13_weeks 68 = .ok (.if_icmp .ge 32, 3) := by decide +kernel
theorem dX13_weeks_71 : decode cX13_weeks 71 = .ok (.aload_n 0, 1) := by decide +kernel
theorem dX13_weeks_72 : decode cX13_weeks 72 = .ok (.invokevirtual 292, 3) := by decide +kernel
theorem dX13_weeks_75 : decode cX13_weeks 75 = .ok (.ifCond .le 25, 3) := by decide +kernel
theorem dX13_weeks_78 : decode cX13_weeks 78 = .ok (.aload_n 0, 1) := by decide +kernel
theorem dX13_weeks_79 : decode cX13_weeks 79 = .ok (.sipush 792, 3) := by decide +kernel
theorem dX13_weeks_82 : decode cX13_weeks 82 = .ok (.aload_n 0, 1) := by decide +kernel
theorem dX13_weeks_83 : decode cX13_weeks 83 = .ok (.aload_n 0, 1) := by decide +kernel
theorem dX13_weeks_84 : decode cX13_weeks 84 = .ok (.invokevirtual 292, 3) := by decide +kernel
theorem dX13_weeks_87 : decode cX13_weeks 87 = .ok (.invokevirtual 406, 3) := by decide +kernel
theorem dX13_weeks_90 : decode cX13_weeks 90 = .ok (.invokevirtual 330, 3) := by decide +kernel
theorem dX13_weeks_93 : decode cX13_weeks 93 = .ok (.pop, 1) := by decide +kernel
theorem dX13_weeks_94 : decode cX13_weeks 94 = .ok (.iinc 5 1, 3) := by decide +kernel
theorem dX13_weeks_97 : decode cX13_weeks 97 = .ok (.goto (-32), 3) := by decide +kernel
theorem dX13_weeks_100 : decode cX13_weeks 100 = .ok (.aload_n 0, 1) := by decide +kernel
theorem dX13_weeks_101 : decode cX13_weeks 101 = .ok (.iconst 5, 1) := by decide +kernel
theorem dX13_weeks_102 : decode cX13_weeks 102 = .ok (.invokevirtual 406, 3) := by decide +kernel
theorem dX13_weeks_105 : decode cX13_weeks 105 = .ok (.ifCond .ne 7, 3) := by decide +kernel
theorem dX13_weeks_108 : decode cX13_weeks 108 = .ok (.iconst 1, 1) := by decide +kernel
theorem dX13_weeks_109 : decode cX13_weeks 109 = .ok (.goto 4, 3) := by decide +kernel
theorem dX13_weeks_112 : decode cX13_weeks 112 = .ok (.iconst 0, 1) := by decide +kernel
theorem dX13_weeks_113 : decode cX13_weeks 113 = .ok (.istore 5, 2) := by decide +kernel
theorem dX13_weeks_115 : decode cX13_weeks 115 = .ok (.iconst 0, 1) := by decide +kernel
theorem dX13_weeks_116 : decode cX13_weeks 116 = .ok (.istore 6, 2) := by decide +kernel
theorem dX13_weeks_118 : decode cX13_weeks 118 = .ok (.iload 6, 2) := by decide +kernel
theorem dX13_weeks_120 : decode cX13_weeks 120 = .ok (.aload_n 0, 1) := by decide +kernel
theorem dX13_weeks_121 : decode cX13_weeks 121 = .ok (.invokevirtual 279, 3) := by decide +kernel
theorem dX13_weeks_124 : decode cX13_weeks 124 = .ok (.if_icmp .ge 36, 3) := by decide +kernel
theorem dX13_weeks_127 : decode cX13_weeks 127 = .ok (.iload 5, 2) := by decide +kernel
theorem dX13_weeks_129 : decode cX13_weeks 129 = .ok (.ifCond .eq 25, 3) := by decide +kernel
theorem dX13_weeks_132 : decode cX13_weeks 132 = .ok (.aload_n 0, 1) := by decide +kernel
theorem dX13_weeks_133 : decode cX13_weeks 133 = .ok (.sipush 792, 3) := by decide +kernel
theorem dX13_weeks_136 : decode cX13_weeks 136 = .ok (.iload 6, 2) := by decide +kernel
theorem dX13_weeks_138 : decode cX13_weeks 138 = .ok (.invokevirtual 349, 3) := by decide +kernel
theorem dX13_weeks_141 : decode cX13_weeks 141 = .ok (.ifCond .eq 13, 3) := by decide +kernel
theorem dX13_weeks_144 : decode cX13_weeks 144 = .ok (.aload_n 0, 1) := by decide +kernel
theorem dX13_weeks_145 : decode cX13_weeks 145 = .ok (.sipush 792, 3) := by decide +kernel
theorem dX13_weeks_148 : decode cX13_weeks 148 = .ok (.iload 6, 2) := by decide +kernel
theorem dX13_weeks_150 : decode cX13_weeks 150 = .ok (.invokevirtual 352, 3) := by decide +kernel
theorem dX13_weeks_153 : decode cX13_weeks 153 = .ok (.pop, 1) := by decide +kernel
theorem dX13_weeks_154 : decode cX13_weeks 154 = .ok (.iinc 6 1, 3) := by decide +kernel
theorem dX13_weeks_157 : decode cX13_weeks 157 = .ok (.goto (-39), 3) := by decide +kernel
theorem dX13_weeks_160 : decode cX13_weeks 160 = .ok (.aload_n 0, 1) := by decide +kernel
theorem dX13_weeks_161 : decode cX13_weeks 161 = .ok (.sipush 792, 3) := by decide +kernel
theorem dX13_weeks_164 : decode cX13_weeks 164 = .ok (.invokevirtual 358, 3) := by decide +kernel
theorem dX13_weeks_167 : decode cX13_weeks 167 = .ok (.pop, 1) := by decide +kernel
theorem dX13_weeks_168 : decode cX13_weeks 168 = .ok (.iinc 4 1, 3) := by decide +kernel
theorem dX13_weeks_171 : decode cX13_weeks 171 = .ok (.goto (-115), 3) := by decide +kernel
theorem dX13_weeks_174 : decode cX13_weeks 174 = .ok (.iload_n 3, 1) := by decide +kernel
theorem dX13_weeks_175 : decode cX13_weeks 175 = .ok (.ifCond .ne 13, 3) := by decide +kernel
theorem dX13_weeks_178 : decode cX13_weeks 178 = .ok (.aload_n 0, 1) := by decide +kernel
theorem dX13_weeks_179 : decode cX13_weeks 179 = .ok (.sipush 792, 3) := by decide +kernel
theorem dX13_weeks_182 : decode cX13_weeks 182 = .ok (.invokevirtual 299, 3) := by decide +kernel
theorem dX13_weeks_185 : decode cX13_weeks 185 = .ok (.goto 41, 3) := by decide +kernel
theorem dX13_weeks_188 : decode cX13_weeks 188 = .ok (.iload_n 3, 1) := by decide +kernel
theorem dX13_weeks_189 : decode cX13_weeks 189 = .ok (.iconst 1, 1) := by decide +kernel
theorem dX13_weeks_190 : decode cX13_weeks 190 = .ok (.if_icmp .ne 21, 3) := by decide +kernel
theorem dX13_weeks_193 : decode cX13_weeks 193 = .ok (.aload_n 0, 1) := by decide +kernel
theorem dX13_weeks_194 : decode cX13_weeks 194 = .ok (.getfield 119, 3) := by decide +kernel
theorem dX13_weeks_197 : decode cX13_weeks 197 = .ok (.sipush 793, 3) := by decide +kernel
theorem dX13_weeks_200 : decode cX13_weeks 200 = .ok (.iaload, 1) := by decide +kernel
theorem dX13_weeks_201 : decode cX13_weeks 201 = .ok (.aload_n 0, 1) := by decide +kernel
theorem dX13_weeks_202 : decode cX13_weeks 202 = .ok (.getfield 119, 3) := by decide +kernel
theorem dX13_weeks_205 : decode cX13_weeks 205 = .ok (.iconst 1, 1) := by decide +kernel
theorem dX13_weeks_206 : decode cX13_weeks 206 = .ok (.iaload, 1) := by decide +kernel
theorem dX13_weeks_207 : decode cX13_weeks 207 = .ok (.isub, 1) := by decide +kernel
theorem dX13_weeks_208 : decode cX13_weeks 208 = .ok (.goto 18, 3) := by decide +kernel
theorem dX13_weeks_211 : decode cX13_weeks 211 = .ok (.aload_n 0, 1) := by decide +kernel
theorem dX13_weeks_212 : decode cX13_weeks 212 = .ok (.getfield 119, 3) := by decide +kernel
theorem dX13_weeks_215 : decode cX13_weeks 215 = .ok (.sipush 795, 3) := by decide +kernel
theorem dX13_weeks_218 : decode cX13_weeks 218 = .ok (.iaload, 1) := by decide +kernel
theorem dX13_weeks_219 : decode cX13_weeks 219 = .ok (.aload_n 0, 1) := by decide +kernel
theorem dX13_weeks_220 : decode cX13_weeks 220 = .ok (.getfield 119, 3) := by decide +kernel
theorem dX13_weeks_223 : decode cX13_weeks 223 = .ok (.iconst 3, 1) := by decide +kernel
theorem dX13_weeks_224 : decode cX13_weeks 224 = .ok (.iaload, 1) := by decide +kernel
theorem dX13_weeks_225 : decode cX13_weeks 225 = .ok (.isub, 1) := by decide +kernel
theorem dX13_weeks_226 : decode cX13_weeks 226 = .ok (.ireturn, 1) := by decide +kernel
set_option maxHeartbeats 4000000 in
set_option maxRecDepth 100000 in
theorem B_X13_weeks {G : zG} {X : zX} {kd : kD} {N0 : Nat} (C : zCt G X 4 0 0 RX13 cX13_weeks 7) (hr : (zXh X).sig.returnType = (some .int)) : ∀ f : Nat,
    (∀ (S : aS) (v0 : Nat) (v1 : Int32) (v2 : Int32) (v3 : Int32) (res : Option Value × aS), zT0 kd N0 S → v0 < N0 → kd v0 = .inl 11 → F_X13_weeks f 0 [.ref v0, .int v1, .int v2, .int v3] S = some res → zV G X (zQX G X (zPo G kd N0 res) 0 0) 7 [some (.ref (zB G + v0)), some (.int v1), some (.int v2), some (.int v3), none, none, none] [] (cn G kd N0 S) 0 0 0) ∧
    (∀ (S : aS)  (res : Option Value × aS), zT0 kd N0 S → F_X13_weeks f 1 [] S = some res → zV G X (zQX G X (zPo G kd N0 res) 0 0) 7 [none, none, none, none, none, none, none] [] (cn G kd N0 S) 35 0 0) ∧
    (∀ (S : aS) (v0 : Nat) (v1 : Int32) (v2 : Int32) (v3 : Int32) (res : Option Value × aS), zT0 kd N0 S → v0 < N0 → kd v0 = .inl 11 → F_X13_weeks f 2 [.ref v0, .int v1, .int v2, .int v3] S = some res → zV G X (zQX G X (zPo G kd N0 res) 0 0) 7 [some (.ref (zB G + v0)), none, some (.int v1), some (.int v2), some (.int v3), none, none] [] (cn G kd N0 S) 56 0 0) ∧
    (∀ (S : aS) (w0 : Int32) (res : Option Value × aS), zT0 kd N0 S → F_X13_weeks f 3 [.int w0] S = some res → zV G X (zQX G X (zPo G kd N0 res) 0 0) 7 [none, none, none, none, none, none, none] [.int w0] (cn G kd N0 S) 226 0 0) ∧
    (∀ (S : aS) (v0 : Nat) (v1 : Int32) (v2 : Int32) (v3 : Int32) (v4 : Int32) (res : Option Value × aS), zT0 kd N0 S → v0 < N0 → kd v0 = .inl 11 → F_X13_weeks f 4 [.ref v0, .int v1, .int v2, .int v3, .int v4] S = some res → zV G X (zQX G X (zPo G kd N0 res) 0 0) 7 [some (.ref (zB G + v0)), none, some (.int v1), some (.int v2), some (.int v3), some (.int v4), none] [] (cn G kd N0 S) 65 0 0) ∧
    (∀ (S : aS) (v0 : Nat) (v1 : Int32) (v2 : Int32) (v3 : Int32) (res : Option Value × aS), zT0 kd N0 S → v0 < N0 → kd v0 = .inl 11 → F_X13_weeks f 5 [.ref v0, .int v1, .int v2, .int v3] S = some res → zV G X (zQX G X (zPo G kd N0 res) 0 0) 7 [some (.ref (zB G + v0)), none, some (.int v1), some (.int v2), some (.int v3), none, none] [] (cn G kd N0 S) 100 0 0) ∧
    (∀ (S : aS) (v0 : Nat) (v1 : Int32) (v2 : Int32) (v3 : Int32) (v4 : Int32) (v5 : Int32) (res : Option Value × aS), zT0 kd N0 S → v0 < N0 → kd v0 = .inl 11 → F_X13_weeks f 6 [.ref v0, .int v1, .int v2, .int v3, .int v4, .int v5] S = some res → zV G X (zQX G X (zPo G kd N0 res) 0 0) 7 [some (.ref (zB G + v0)), none, some (.int v1), some (.int v2), some (.int v3), some (.int v4), some (.int v5)] [] (cn G kd N0 S) 118 0 0) ∧
    (∀ (S : aS) (v0 : Nat) (v1 : Int32) (v2 : Int32) (v3 : Int32) (v4 : Int32) (v5 : Int32) (res : Option Value × aS), zT0 kd N0 S → v0 < N0 → kd v0 = .inl 11 → F_X13_weeks f 7 [.ref v0, .int v1, .int v2, .int v3, .int v4, .int v5] S = some res → zV G X (zQX G X (zPo G kd N0 res) 0 0) 7 [some (.ref (zB G + v0)), none, some (.int v1), some (.int v2), some (.int v3), some (.int v4), some (.int v5)] [] (cn G kd N0 S) 154 0 0) := by
  intro f
  induction f with
  | zero => exact ⟨(fun _ _ _ _ _ _ _ _ _ h => by cases h), (fun _ _ _ h => by cases h), (fun _ _ _ _ _ _ _ _ _ h => by cases h), (fun _ _ _ _ h => by cases h), (fun _ _ _ _ _ _ _ _ _ _ h => by cases h), (fun _ _ _ _ _ _ _ _ _ h => by cases h), (fun _ _ _ _ _ _ _ _ _ _ _ h => by cases h), (fun _ _ _ _ _ _ _ _ _ _ _ h => by cases h)⟩
  | succ f ih =>
    obtain ⟨ih0, ih1, ih2, ih3, ih4, ih5, ih6, ih7⟩ := ih
    refine ⟨?_, ?_, ?_, ?_, ?_, ?_, ?_, ?_⟩
    · intro S v0 v1 v2 v3 res hT hpv0 hkv0 hF
      replace hF : F_X13_weeks_0 f (F_X13_weeks f) v0 v1 v2 v3 S = some res := hF
      unfold F_X13_weeks_0 at hF
      refine z_aload_n C dX13_weeks_0 rfl ?_
      refine z_iconst (v := 0) C dX13_weeks_1 (by decide) ?_
      refine f_puti C dX13_weeks_2 zfRX13_1 fw11_0 hpv0 hkv0 rfl rfl rfl ?_
      have hT1 : zT0 kd N0 (sI S v0 0 0) := zT0_sI hT
      replace hF := fS_e hF
      generalize sI S v0 0 0 = S1 at hF hT1 ⊢
      refine z_iload_n C dX13_weeks_5 rfl ?_
      refine z_iconst (v := 0) C dX13_weeks_6 (by decide) ?_
      refine z_sipush (v := 9999) C dX13_weeks_7 (by decide) ?_
      obtain ⟨x2, S2, h2, hF⟩ := bI_some hF
      refine f_cS (st2 := [.int x2]) C dX13_weeks_10 zyX13_within zsX13_within lkRX13_339 (K_X13_within (l := zXl X) hT1    h2) (by decide) rfl rfl (Nat.le_of_ble_eq_true rfl) rfl (fun hT2 => ?_)
      refine z_if_eq C 35 dX13_weeks_13 (by decide) (fun c3 => ?_) (fun c3 => ?_)
      · replace hF := ip hF c3
        refine z_mask [false, false, false, false, true, true, true] ?_ rfl
        exact ih1 S2  res hT2  hF
      · replace hF := im hF c3
        refine z_iload_n C dX13_weeks_16 rfl ?_
        refine z_iconst (v := 1) C dX13_weeks_17 (by decide) ?_
        refine z_bipush (v := 99) C dX13_weeks_18 (by decide) ?_
        obtain ⟨x4, S4, h4, hF⟩ := bI_some hF
        refine f_cS (st2 := [.int x4]) C dX13_weeks_20 zyX13_within zsX13_within lkRX13_339 (K_X13_within (l := zXl X) hT2    h4) (by decide) rfl rfl (Nat.le_of_ble_eq_true rfl) rfl (fun hT4 => ?_)
        refine z_if_eq C 35 dX13_weeks_23 (by decide) (fun c5 => ?_) (fun c5 => ?_)
        · replace hF := ip hF c5
          refine z_mask [false, false, false, false, true, true, true] ?_ rfl
          exact ih1 S4  res hT4  hF
        · replace hF := im hF c5
          refine z_iload_n C dX13_weeks_26 rfl ?_
          refine z_iconst (v := 0) C dX13_weeks_27 (by decide) ?_
          refine z_iconst (v := 2) C dX13_weeks_28 (by decide) ?_
          obtain ⟨x6, S6, h6, hF⟩ := bI_some hF
          refine f_cS (st2 := [.int x6]) C dX13_weeks_29 zyX13_within zsX13_within lkRX13_339 (K_X13_within (l := zXl X) hT4    h6) (by decide) rfl rfl (Nat.le_of_ble_eq_true rfl) rfl (fun hT6 => ?_)
          refine z_if_ne C 37 dX13_weeks_32 (by decide) (fun c7 => ?_) (fun c7 => ?_)
          · replace hF := im hF c7
            refine z_aload_n C dX13_weeks_37 rfl ?_
            refine z_iconst (v := 0) C dX13_weeks_38 (by decide) ?_
            refine z_sipush (v := 792) C dX13_weeks_39 (by decide) ?_
            refine z_bipush (v := 28) C dX13_weeks_42 (by decide) ?_
            obtain ⟨S8, h8, hF⟩ := bV_some hF
            refine f_cV (st2 := []) C dX13_weeks_44 zyX13_copies zvX13_copies lkRX13_288 (K_X13_copies (l := zXl X) hT6 hpv0 hkv0    h8) hpv0 hkv0 rfl (by decide) rfl rfl (Nat.le_of_ble_eq_true rfl) rfl (fun hT8 => ?_)
            refine z_aload_n C dX13_weeks_47 rfl ?_
            refine z_iload_n C dX13_weeks_48 rfl ?_
            refine z_i2l C dX13_weeks_49 ?_
            refine f_putj C dX13_weeks_50 zfRX13_394 fw11_35 hpv0 hkv0 rfl rfl rfl ?_
            have hT9 : zT0 kd N0 (sJ S8 v0 35 (Int32.toInt64 v1)) := zT0_sJ hT8
            replace hF := fS_e hF
            generalize sJ S8 v0 35 (Int32.toInt64 v1) = S9 at hF hT9 ⊢
            refine z_iconst (v := 0) C dX13_weeks_53 (by decide) ?_
            refine z_istore (lv2 := [some (.ref (zB G + v0)), some (.int v1), some (.int v2), some (.int v3), some (.int 0), none, none]) C dX13_weeks_54 (by decide) rfl ?_
            refine z_mask [true, false, true, true, true, true, true] ?_ rfl
            exact ih2 S9 v0 v2 v3 0 res hT9 hpv0 hkv0    hF
          · replace hF := ip hF c7
            refine z_mask [false, false, false, false, true, true, true] ?_ rfl
            exact ih1 S6  res hT6  hF
    · intro S  res hT  hF
      replace hF : F_X13_weeks_1 f (F_X13_weeks f)  S = some res := hF
      unfold F_X13_weeks_1 at hF
      refine z_iconst (v := (-1)) C dX13_weeks_35 (by decide) ?_
      cases hF
      exact z_iret C hr dX13_weeks_36 ⟨rfl, rfl, hT⟩
    · intro S v0 v1 v2 v3 res hT hpv0 hkv0 hF
      replace hF : F_X13_weeks_2 f (F_X13_weeks f) v0 v1 v2 v3 S = some res := hF
      unfold F_X13_weeks_2 at hF
      refine z_iload C dX13_weeks_56 rfl ?_
      refine z_iload_n C dX13_weeks_58 rfl ?_
      refine z_icmp_ge C 174 dX13_weeks_59 (by decide) (fun c12 => ?_) (fun c12 => ?_)
      · replace hF := ip hF c12
        refine z_iload_n C dX13_weeks_174 rfl ?_
        refine z_if_ne C 188 dX13_weeks_175 (by decide) (fun c16 => ?_) (fun c16 => ?_)
        · replace hF := im hF c16
          refine z_iload_n C dX13_weeks_188 rfl ?_
          refine z_iconst (v := 1) C dX13_weeks_189 (by decide) ?_
          refine z_icmp_ne C 211 dX13_weeks_190 (by decide) (fun c19 => ?_) (fun c19 => ?_)
          · replace hF := im hF c19
            refine z_aload_n C dX13_weeks_211 rfl ?_
            refine f_getr C dX13_weeks_212 zfRX13_119 hpv0 hkv0 rfl ?_
            obtain ⟨hp20, hk20⟩ := hT.1 v0 11 22 (.inr (0, 828)) hpv0 hkv0 rfl
            refine z_sipush (v := 795) C dX13_weeks_215 (by decide) ?_
            obtain ⟨hi21, hF⟩ := bX_some hF
            obtain ⟨q21, eq21⟩ : ∃ q : Nat, q = Int32.toNatClampNeg 795 := ⟨_, rfl⟩
            rw [← eq21] at hF
            refine f_iald C dX13_weeks_218 hp20 hk20 hi21 ?_
            rw [← eq21]
            refine z_aload_n C dX13_weeks_219 rfl ?_
            refine f_getr C dX13_weeks_220 zfRX13_119 hpv0 hkv0 rfl ?_
            obtain ⟨hp22, hk22⟩ := hT.1 v0 11 22 (.inr (0, 828)) hpv0 hkv0 rfl
            refine z_iconst (v := 3) C dX13_weeks_223 (by decide) ?_
            obtain ⟨hi23, hF⟩ := bX_some hF
            obtain ⟨q23, eq23⟩ : ∃ q : Nat, q = Int32.toNatClampNeg 3 := ⟨_, rfl⟩
            rw [← eq23] at hF
            refine f_iald C dX13_weeks_224 hp22 hk22 hi23 ?_
            rw [← eq23]
            refine z_isub C dX13_weeks_225 ?_
            refine z_mask [false, true, false, false, false, true, true] ?_ rfl
            exact ih3 S ((gI S (gR S v0 22) q21) - (gI S (gR S v0 22) q23)) res hT  hF
          · replace hF := ip hF c19
            refine z_aload_n C dX13_weeks_193 rfl ?_
            refine f_getr C dX13_weeks_194 zfRX13_119 hpv0 hkv0 rfl ?_
            obtain ⟨hp24, hk24⟩ := hT.1 v0 11 22 (.inr (0, 828)) hpv0 hkv0 rfl
            refine z_sipush (v := 793) C dX13_weeks_197 (by decide) ?_
            obtain ⟨hi25, hF⟩ := bX_some hF
            obtain ⟨q25, eq25⟩ : ∃ q : Nat, q = Int32.toNatClampNeg 793 := ⟨_, rfl⟩
            rw [← eq25] at hF
            refine f_iald C dX13_weeks_200 hp24 hk24 hi25 ?_
            rw [← eq25]
            refine z_aload_n C dX13_weeks_201 rfl ?_
            refine f_getr C dX13_weeks_202 zfRX13_119 hpv0 hkv0 rfl ?_
            obtain ⟨hp26, hk26⟩ := hT.1 v0 11 22 (.inr (0, 828)) hpv0 hkv0 rfl
            refine z_iconst (v := 1) C dX13_weeks_205 (by decide) ?_
            obtain ⟨hi27, hF⟩ := bX_some hF
            obtain ⟨q27, eq27⟩ : ∃ q : Nat, q = Int32.toNatClampNeg 1 := ⟨_, rfl⟩
            rw [← eq27] at hF
            refine f_iald C dX13_weeks_206 hp26 hk26 hi27 ?_
            rw [← eq27]
            refine z_isub C dX13_weeks_207 ?_
            refine z_goto C 226 dX13_weeks_208 (by decide) ?_
            refine z_mask [false, true, false, false, false, true, true] ?_ rfl
            exact ih3 S ((gI S (gR S v0 22) q25) - (gI S (gR S v0 22) q27)) res hT  hF
        · replace hF := ip hF c16
          refine z_aload_n C dX13_weeks_178 rfl ?_
          refine z_sipush (v := 792) C dX13_weeks_179 (by decide) ?_
          obtain ⟨x28, S28, h28, hF⟩ := bI_some hF
          refine f_cV (st2 := [.int x28]) C dX13_weeks_182 zyX13_lyingIn zvX13_lyingIn lkRX13_299 (K_X13_lyingIn (l := zXl X) hT hpv0 hkv0  h28) hpv0 hkv0 rfl (by decide) rfl rfl (Nat.le_of_ble_eq_true rfl) rfl (fun hT28 => ?_)
          refine z_goto C 226 dX13_weeks_185 (by decide) ?_
          refine z_mask [false, true, false, false, false, true, true] ?_ rfl
          exact ih3 S28 x28 res hT28  hF
      · replace hF := im hF c12
        refine z_iconst (v := 0) C dX13_weeks_62 (by decide) ?_
        refine z_istore (lv2 := [some (.ref (zB G + v0)), none, some (.int v1), some (.int v2), some (.int v3), some (.int 0), none]) C dX13_weeks_63 (by decide) rfl ?_
        exact ih4 S v0 v1 v2 v3 0 res hT hpv0 hkv0     hF
    · intro S w0 res hT  hF
      replace hF : F_X13_weeks_3 f (F_X13_weeks f) w0 S = some res := hF
      unfold F_X13_weeks_3 at hF
      cases hF
      exact z_iret C hr dX13_weeks_226 ⟨rfl, rfl, hT⟩
    · intro S v0 v1 v2 v3 v4 res hT hpv0 hkv0 hF
      replace hF : F_X13_weeks_4 f (F_X13_weeks f) v0 v1 v2 v3 v4 S = some res := hF
      unfold F_X13_weeks_4 at hF
      refine z_iload C dX13_weeks_65 rfl ?_
      refine z_iconst (v := 3) C dX13_weeks_67 (by decide) ?_
      refine z_icmp_ge C 100 dX13_weeks_68 (by decide) (fun c30 => ?_) (fun c30 => ?_)
      · replace hF := ip hF c30
        refine z_mask [true, true, true, true, true, false, true] ?_ rfl
        exact ih5 S v0 v1 v2 v3 res hT hpv0 hkv0    hF
      · replace hF := im hF c30
        refine z_aload_n C dX13_weeks_71 rfl ?_
        obtain ⟨x31, S31, h31, hF⟩ := bI_some hF
        refine f_cV (st2 := [.int x31]) C dX13_weeks_72 zyX13_people zvX13_people lkRX13_292 (K_X13_people (l := zXl X) hT hpv0 hkv0 h31) hpv0 hkv0 rfl (by decide) rfl rfl (Nat.le_of_ble_eq_true rfl) rfl (fun hT31 => ?_)
        refine z_if_le C 100 dX13_weeks_75 (by decide) (fun c33 => ?_) (fun c33 => ?_)
        · replace hF := ip hF c33
          refine z_mask [true, true, true, true, true, false, true] ?_ rfl
          exact ih5 S31 v0 v1 v2 v3 res hT31 hpv0 hkv0    hF
        · replace hF := im hF c33
          refine z_aload_n C dX13_weeks_78 rfl ?_
          refine z_sipush (v := 792) C dX13_weeks_79 (by decide) ?_
          refine z_aload_n C dX13_weeks_82 rfl ?_
          refine z_aload_n C dX13_weeks_83 rfl ?_
          obtain ⟨x34, S34, h34, hF⟩ := bI_some hF
          refine f_cV (st2 := [.int x34, .ref (zB G + v0), .int 792, .ref (zB G + v0)]) C dX13_weeks_84 zyX13_people zvX13_people lkRX13_292 (K_X13_people (l := zXl X) hT31 hpv0 hkv0 h34) hpv0 hkv0 rfl (by decide) rfl rfl (Nat.le_of_ble_eq_true rfl) rfl (fun hT34 => ?_)
          obtain ⟨x35, S35, h35, hF⟩ := bI_some hF
          refine f_cV (st2 := [.int x35, .int 792, .ref (zB G + v0)]) C dX13_weeks_87 zyX13_draw zvX13_draw lkRX13_406 (K_X13_draw (l := zXl X) hT34 hpv0 hkv0  h35) hpv0 hkv0 rfl (by decide) rfl rfl (Nat.le_of_ble_eq_true rfl) rfl (fun hT35 => ?_)
          obtain ⟨x36, S36, h36, hF⟩ := bI_some hF
          refine f_cV (st2 := [.int x36]) C dX13_weeks_90 zyX13_walks zvX13_walks lkRX13_330 (K_X13_walks (l := zXl X) hT35 hpv0 hkv0   h36) hpv0 hkv0 rfl (by decide) rfl rfl (Nat.le_of_ble_eq_true rfl) rfl (fun hT36 => ?_)
          refine z_pop C dX13_weeks_93 rfl ?_
          refine z_iinc (v := v4 + 1) (lv2 := [some (.ref (zB G + v0)), none, some (.int v1), some (.int v2), some (.int v3), some (.int (v4 + 1)), none]) C dX13_weeks_94 rfl (by rw [show Int32.ofInt 1 = (1 : Int32) from by decide]) rfl ?_
          refine z_goto C 65 dX13_weeks_97 (by decide) ?_
          exact ih4 S36 v0 v1 v2 v3 (v4 + 1) res hT36 hpv0 hkv0     hF
    · intro S v0 v1 v2 v3 res hT hpv0 hkv0 hF
      replace hF : F_X13_weeks_5 f (F_X13_weeks f) v0 v1 v2 v3 S = some res := hF
      unfold F_X13_weeks_5 at hF
      refine z_aload_n C dX13_weeks_100 rfl ?_
      refine z_iconst (v := 5) C dX13_weeks_101 (by decide) ?_
      obtain ⟨x37, S37, h37, hF⟩ := bI_some hF
      refine f_cV (st2 := [.int x37]) C dX13_weeks_102 zyX13_draw zvX13_draw lkRX13_406 (K_X13_draw (l := zXl X) hT hpv0 hkv0  h37) hpv0 hkv0 rfl (by decide) rfl rfl (Nat.le_of_ble_eq_true rfl) rfl (fun hT37 => ?_)
      have hJ39 : zV G X (zQX G X (zPo G kd N0 res) 0 0) 7 [some (.ref (zB G + v0)), none, some (.int v1), some (.int v2), some (.int v3), none, none] [.int (if x37 = (0 : Int32) then (1 : Int32) else (0 : Int32))] (cn G kd N0 S37) 113 0 0 := by
        replace hF := lI_e hF
        generalize (if x37 = (0 : Int32) then (1 : Int32) else (0 : Int32)) = y40 at hF ⊢
        refine z_istore (lv2 := [some (.ref (zB G + v0)), none, some (.int v1), some (.int v2), some (.int v3), some (.int y40), none]) C dX13_weeks_113 (by decide) rfl ?_
        refine z_iconst (v := 0) C dX13_weeks_115 (by decide) ?_
        refine z_istore (lv2 := [some (.ref (zB G + v0)), none, some (.int v1), some (.int v2), some (.int v3), some (.int y40), some (.int 0)]) C dX13_weeks_116 (by decide) rfl ?_
        exact ih6 S37 v0 v1 v2 v3 y40 0 res hT37 hpv0 hkv0      hF
      refine z_if_ne C 112 dX13_weeks_105 (by decide) (fun c38 => ?_) (fun c38 => ?_)
      · refine z_iconst (v := 0) C dX13_weeks_112 (by decide) ?_
        exact zV.at hJ39 (by first | rfl | contradiction | (simp only [if_neg c38]; done)) (by first | rfl | contradiction | (simp only [if_neg c38]; done)) rfl rfl
      · refine z_iconst (v := 1) C dX13_weeks_108 (by decide) ?_
        refine z_goto C 113 dX13_weeks_109 (by decide) ?_
        exact zV.at hJ39 (by first | rfl | contradiction | (simp only [if_pos c38]; done)) (by first | rfl | contradiction | (simp only [if_pos c38]; done)) rfl rfl
    · intro S v0 v1 v2 v3 v4 v5 res hT hpv0 hkv0 hF
      replace hF : F_X13_weeks_6 f (F_X13_weeks f) v0 v1 v2 v3 v4 v5 S = some res := hF
      unfold F_X13_weeks_6 at hF
      refine z_iload C dX13_weeks_118 rfl ?_
      refine z_aload_n C dX13_weeks_120 rfl ?_
      obtain ⟨x41, S41, h41, hF⟩ := bI_some hF
      refine f_cV (st2 := [.int x41, .int v5]) C dX13_weeks_121 zyX13_yards zvX13_yards lkRX13_279 (K_X13_yards (l := zXl X) hT hpv0 hkv0 h41) hpv0 hkv0 rfl (by decide) rfl rfl (Nat.le_of_ble_eq_true rfl) rfl (fun hT41 => ?_)
      refine z_icmp_ge C 160 dX13_weeks_124 (by decide) (fun c44 => ?_) (fun c44 => ?_)
      · replace hF := ip hF c44
        refine z_aload_n C dX13_weeks_160 rfl ?_
        refine z_sipush (v := 792) C dX13_weeks_161 (by decide) ?_
        obtain ⟨x45, S45, h45, hF⟩ := bI_some hF
        refine f_cV (st2 := [.int x45]) C dX13_weeks_164 zyX13_passes zvX13_passes lkRX13_358 (K_X13_passes (l := zXl X) hT41 hpv0 hkv0  h45) hpv0 hkv0 rfl (by decide) rfl rfl (Nat.le_of_ble_eq_true rfl) rfl (fun hT45 => ?_)
        refine z_pop C dX13_weeks_167 rfl ?_
        refine z_iinc (v := v3 + 1) (lv2 := [some (.ref (zB G + v0)), none, some (.int v1), some (.int v2), some (.int (v3 + 1)), some (.int v4), some (.int v5)]) C dX13_weeks_168 rfl (by rw [show Int32.ofInt 1 = (1 : Int32) from by decide]) rfl ?_
        refine z_goto C 56 dX13_weeks_171 (by decide) ?_
        refine z_mask [true, true, true, true, true, false, false] ?_ rfl
        exact ih2 S45 v0 v1 v2 (v3 + 1) res hT45 hpv0 hkv0    hF
      · replace hF := im hF c44
        refine z_iload C dX13_weeks_127 rfl ?_
        refine z_if_eq C 154 dX13_weeks_129 (by decide) (fun c47 => ?_) (fun c47 => ?_)
        · replace hF := ip hF c47
          exact ih7 S41 v0 v1 v2 v3 v4 v5 res hT41 hpv0 hkv0      hF
        · replace hF := im hF c47
          refine z_aload_n C dX13_weeks_132 rfl ?_
          refine z_sipush (v := 792) C dX13_weeks_133 (by decide) ?_
          refine z_iload C dX13_weeks_136 rfl ?_
          obtain ⟨x48, S48, h48, hF⟩ := bI_some hF
          refine f_cV (st2 := [.int x48]) C dX13_weeks_138 zyX13_isBin zvX13_isBin lkRX13_349 (K_X13_isBin (l := zXl X) hT41 hpv0 hkv0   h48) hpv0 hkv0 rfl (by decide) rfl rfl (Nat.le_of_ble_eq_true rfl) rfl (fun hT48 => ?_)
          refine z_if_eq C 154 dX13_weeks_141 (by decide) (fun c50 => ?_) (fun c50 => ?_)
          · replace hF := ip hF c50
            exact ih7 S48 v0 v1 v2 v3 v4 v5 res hT48 hpv0 hkv0      hF
          · replace hF := im hF c50
            refine z_aload_n C dX13_weeks_144 rfl ?_
            refine z_sipush (v := 792) C dX13_weeks_145 (by decide) ?_
            refine z_iload C dX13_weeks_148 rfl ?_
            obtain ⟨x51, S51, h51, hF⟩ := bI_some hF
            refine f_cV (st2 := [.int x51]) C dX13_weeks_150 zyX13_empties zvX13_empties lkRX13_352 (K_X13_empties (l := zXl X) hT48 hpv0 hkv0   h51) hpv0 hkv0 rfl (by decide) rfl rfl (Nat.le_of_ble_eq_true rfl) rfl (fun hT51 => ?_)
            refine z_pop C dX13_weeks_153 rfl ?_
            exact ih7 S51 v0 v1 v2 v3 v4 v5 res hT51 hpv0 hkv0      hF
    · intro S v0 v1 v2 v3 v4 v5 res hT hpv0 hkv0 hF
      replace hF : F_X13_weeks_7 f (F_X13_weeks f) v0 v1 v2 v3 v4 v5 S = some res := hF
      unfold F_X13_weeks_7 at hF
      refine z_iinc (v := v5 + 1) (lv2 := [some (.ref (zB G + v0)), none, some (.int v1), some (.int v2), some (.int v3), some (.int v4), some (.int (v5 + 1))]) C dX13_weeks_154 rfl (by rw [show Int32.ofInt 1 = (1 : Int32) from by decide]) rfl ?_
      refine z_goto C 118 dX13_weeks_157 (by decide) ?_
      exact ih6 S v0 v1 v2 v3 v4 (v5 + 1) res hT hpv0 hkv0      hF
theorem K_X13_weeks {G : zG} {l : Launch} {kd : kD} {N0 f : Nat} {S : aS} {v0 : Nat} {v1 : Int32} {v2 : Int32} {v3 : Int32} {res : Option Value × aS} (hT : zT0 kd N0 S) (hpv0 : v0 < N0) (hkv0 : kd v0 = .inl 11) (hF : F_X13_weeks f 0 [.ref v0, .int v1, .int v2, .int v3] S = some res) : zM G l 4 0 0 yX13_weeks cX13_weeks 7 (some .int) [.ref (zB G + v0), .int v1, .int v2, .int v3] (cn G kd N0 S) (zPo G kd N0 res) := zM.of (by decide) rfl (Nat.le_of_ble_eq_true rfl) (fun X _ C hr _ => (B_X13_weeks C hr f).1 S v0 v1 v2 v3 res hT hpv0 hkv0 hF)

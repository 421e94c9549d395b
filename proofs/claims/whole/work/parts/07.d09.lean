def F_gOrd_0 (f : Nat) (rc : Nat → Nat → List Value → aS → aR) (e : Nat) (v0 : Nat) (v1 : Int32) (v2 : Int32) (S : aS) : aR :=
  if (gI S (gR S v0 2) 1) ≤ v1 then rc e 1 [.ref v0, .int v1] S else if (v1 + (1 : Int32)) < (7 : Int32) then rc e 2 [.ref v0, .int v1, .int v2, .int 0] S else rc e 1 [.ref v0, .int v1] S
def F_gOrd_1 (f : Nat) (rc : Nat → Nat → List Value → aS → aR) (e : Nat) (v0 : Nat) (v1 : Int32) (S : aS) : aR :=
  bX v1 7 fun q6 => bI (F_X4_total f 0 [.ref (gR S (gR S v0 3) q6)] S) fun x7 S7 => bV (F_X7_offerRow f 0 [.ref v0, .int x7] S7) fun S8 => some (none, S8)
def F_gOrd_2 (f : Nat) (rc : Nat → Nat → List Value → aS → aR) (e : Nat) (v0 : Nat) (v1 : Int32) (v2 : Int32) (v3 : Int32) (S : aS) : aR :=
  dE e fun e1 => if (gI S (gR S v0 2) 1) ≤ v3 then some (none, S) else if (v2 &&& ((1 : Int32) <<< (v3 &&& 31))) = (0 : Int32) then bX v1 6 fun q17 => fS (sI S (gR S v0 4) q17 v3) fun S18 => bX (v1 + (1 : Int32)) 7 fun q20 => bX v1 7 fun q22 => bV (F_X4_become f 0 [.ref (gR S18 (gR S18 v0 3) q20), .ref (gR S18 (gR S18 v0 3) q22)] S18) fun S23 => bX (v1 + (1 : Int32)) 7 fun q26 => bI (F_X9_walkOf f 0 [.ref (gR S23 v0 1), .int v3, .ref (gR S23 (gR S23 v0 3) q26)] S23) fun x27 S27 => bV (rc e1 0 [.ref v0, .int (v1 + (1 : Int32)), .int (v2 ||| ((1 : Int32) <<< (v3 &&& 31)))] S27) fun S28 => rc e 3 [.ref v0, .int v1, .int v2, .int v3] S28 else rc e 3 [.ref v0, .int v1, .int v2, .int v3] S
def F_gOrd_3 (f : Nat) (rc : Nat → Nat → List Value → aS → aR) (e : Nat) (v0 : Nat) (v1 : Int32) (v2 : Int32) (v3 : Int32) (S : aS) : aR :=
  rc e 2 [.ref v0, .int v1, .int v2, .int (v3 + 1)] S
def F_gOrd : Nat → Nat → Nat → List Value → aS → aR
  | 0, _, _, _, _ => none
  | f + 1, e, 0, vs, S => F_gOrd_0 f (F_gOrd f) e (vR vs 0) (vI vs 1) (vI vs 2) S
  | f + 1, e, 1, vs, S => F_gOrd_1 f (F_gOrd f) e (vR vs 0) (vI vs 1) S
  | f + 1, e, 2, vs, S => F_gOrd_2 f (F_gOrd f) e (vR vs 0) (vI vs 1) (vI vs 2) (vI vs 3) S
  | f + 1, e, 3, vs, S => F_gOrd_3 f (F_gOrd f) e (vR vs 0) (vI vs 1) (vI vs 2) (vI vs 3) S
  | _ + 1, _, _, _, _ => none
theorem dX7_tryOrders_0 : decode cX7_tryOrders 0 = .ok (.iload_n 1, 1) := by decide +kernel
theorem dX7_tryOrders_1 : decode cX7_tryOrders 1 = .ok (.aload_n 0, 1) := by decide +kernel
theorem dX7_tryOrders_2 : decode cX7_tryOrders 2 = .ok (.getfield 33, 3) := by decide +kernel
theorem dX7_tryOrders_5 : decode cX7_tryOrders 5 = .ok (.getfield 102, 3) := by decide +kernel
theorem dX7_tryOrders_8 : decode cX7_tryOrders 8 = .ok (.if_icmp .ge 14, 3) := by decide +kernel
theorem dX7_tryOrders_11 : decode cX7_tryOrders 11 = .ok (.iload_n 1, 1) := by decide +kernel
theorem dX7_tryOrders_12 : decode cX7_tryOrders 12 = .ok (.iconst 1, 1) := by decide +kernel
theorem dX7_tryOrders_13 : decode cX7_tryOrders 13 = .ok (.iadd, 1) := by decide +kernel
theorem dX7_tryOrders_14 : decode cX7_tryOrders 14 = .ok (.aload_n 0, 1) := by decide +kernel
theorem dX7_tryOrders_15 : decode cX7_tryOrders 15 = .ok (.getfield 13, 3) := by decide +kernel
theorem dX7_tryOrders_18 : decode cX7_tryOrders 18 = .ok (.arraylength, 1) := by decide +kernel
theorem dX7_tryOrders_19 : decode cX7_tryOrders 19 = .ok (.if_icmp .lt 17, 3) := by decide +kernel
theorem dX7_tryOrders_22 : decode cX7_tryOrders 22 = .ok (.aload_n 0, 1) := by decide +kernel
theorem dX7_tryOrders_23 : decode cX7_tryOrders 23 = .ok (.aload_n 0, 1) := by decide +kernel
theorem dX7_tryOrders_24 : decode cX7_tryOrders 24 = .ok (.getfield 13, 3) := by decide +kernel
theorem dX7_tryOrders_27 : decode cX7_tryOrders 27 = .ok (.iload_n 1, 1) := by decide +kernel
theorem dX7_tryOrders_28 : decode cX7_tryOrders 28 = .ok (.aaload, 1) := by decide +kernel
theorem dX7_tryOrders_29 : decode cX7_tryOrders 29 = .ok (.invokevirtual 83, 3) := by decide +kernel
theorem dX7_tryOrders_32 : decode cX7_tryOrders 32 = .ok (.invokevirtual 107, 3) := by decide +kernel
theorem dX7_tryOrders_35 : decode cX7_tryOrders 35 = .ok (.return_, 1) := by decide +kernel
theorem dX7_tryOrders_36 : decode cX7_tryOrders 36 = .ok (.iconst 0, 1) := by decide +kernel
theorem dX7_tryOrders_37 : decode cX7_tryOrders 37 = .ok (.istore_n 3, 1) := by decide +kernel
theorem dX7_tryOrders_38 : decode cX7_tryOrders 38 = .ok (.iload_n 3, 1) := by decide +kernel
theorem dX7_tryOrders_39 : decode cX7_tryOrders 39 = .ok (.aload_n 0, 1) := by decide +kernel
theorem dX7_tryOrders_40 : decode cX7_tryOrders 40 = .ok (.getfield 33, 3) := by decide +kernel
theorem dX7_tryOrders_43 : decode cX7_tryOrders 43 = .ok (.getfield 102, 3) := by decide +kernel
theorem dX7_tryOrders_46 : decode cX7_tryOrders 46 = .ok (.if_icmp .ge 70, 3) := by decide +kernel
theorem dX7_tryOrders_49 : decode cX7_tryOrders 49 = .ok (.iload_n 2, 1) := by decide +kernel
theorem dX7_tryOrders_50 : decode cX7_tryOrders 50 = .ok (.iconst 1, 1) := by decide +kernel
theorem dX7_tryOrders_51 : decode cX7_tryOrders 51 = .ok (.iload_n 3, 1) := by decide +kernel
theorem dX7_tryOrders_52 : decode cX7_tryOrders 52 = .ok (.ishl, 1) := by decide +kernel
theorem dX7_tryOrders_53 : decode cX7_tryOrders 53 = .ok (.iand, 1) := by decide +kernel
theorem dX7_tryOrders_54 : decode cX7_tryOrders 54 = .ok (.ifCond .ne 56, 3) := by decide +kernel
theorem dX7_tryOrders_57 : decode cX7_tryOrders 57 = .ok (.aload_n 0, 1) := by decide +kernel
theorem dX7_tryOrders_58 : decode cX7_tryOrders 58 = .ok (.getfield 17, 3) := by decide +kernel
theorem dX7_tryOrders_61 : decode cX7_tryOrders 61 = .ok (.iload_n 1, 1) := by decide +kernel
theorem dX7_tryOrders_62 : decode cX7_tryOrders 62 = .ok (.iload_n 3, 1) := by decide +kernel
theorem dX7_tryOrders_63 : decode cX7_tryOrders 63 = .ok (.iastore, 1) := by decide +kernel
theorem dX7_tryOrders_64 : decode cX7_tryOrders 64 = .ok (.aload_n 0, 1) := by decide +kernel
theorem dX7_tryOrders_65 : decode cX7_tryOrders 65 = .ok (.getfield 13, 3) := by decide +kernel
theorem dX7_tryOrders_68 : decode cX7_tryOrders 68 = .ok (.iload_n 1, 1) := by decide +kernel
theorem dX7_tryOrders_69 : decode cX7_tryOrders 69 = .ok (.iconst 1, 1) := by decide +kernel
theorem dX7_tryOrders_70 : decode cX7_tryOrders 70 = .ok (.iadd, 1) := by decide +kernel
theorem dX7_tryOrders_71 : decode cX7_tryOrders 71 = .ok (.aaload, 1) := by decide +kernel
theorem dX7_tryOrders_72 : decode cX7_tryOrders 72 = .ok (.aload_n 0, 1) := by decide +kernel
theorem dX7_tryOrders_73 : decode cX7_tryOrders 73 = .ok (.getfield 13, 3) := by decide +kernel
theorem dX7_tryOrders_76 : decode cX7_tryOrders 76 = .ok (.iload_n 1, 1) := by decide +kernel
theorem dX7_tryOrders_77 : decode cX7_tryOrders 77 = .ok (.aaload, 1) := by decide +kernel
theorem dX7_tryOrders_78 : decode cX7_tryOrders 78 = .ok (.invokevirtual 49, 3) := by decide +kernel
theorem dX7_tryOrders_81 : decode cX7_tryOrders 81 = .ok (.aload_n 0, 1) := by decide +kernel
theorem dX7_tryOrders_82 : decode cX7_tryOrders 82 = .ok (.getfield 37, 3) := by decide +kernel
theorem dX7_tryOrders_85 : decode cX7_tryOrders 85 = .ok (.iload_n 3, 1) := by decide +kernel
theorem dX7_tryOrders_86 : decode cX7_tryOrders 86 = .ok (.aload_n 0, 1) := by decide +kernel
theorem dX7_tryOrders_87 : decode cX7_tryOrders 87 = .ok (.getfield 13, 3) := by decide +kernel
theorem dX7_tryOrders_90 : decode cX7_tryOrders 90 = .ok (.iload_n 1, 1) := by decide +kernel
theorem dX7_tryOrders_91 : decode cX7_tryOrders 91 = .ok (.iconst 1, 1) := by decide +kernel
theorem dX7_tryOrders_92 : decode cX7_tryOrders 92 = .ok (.iadd, 1) := by decide +kernel
theorem dX7_tryOrders_93 : decode cX7_tryOrders 93 = .ok (.aaload, 1) := by decide +kernel
theorem dX7_tryOrders_94 : decode cX7_tryOrders 94 = .ok (.invokevirtual 111, 3) := by decide +kernel
theorem dX7_tryOrders_97 : decode cX7_tryOrders 97 = .ok (.pop, 1) := by decide +kernel
theorem dX7_tryOrders_98 : decode cX7_tryOrders 98 = .ok (.aload_n 0, 1) := by decide +kernel
theorem dX7_tryOrders_99 : decode cX7_tryOrders 99 = .ok (.iload_n 1, 1) := by decide +kernel
theorem dX7_tryOrders_100 : decode cX7_tryOrders 100 = .ok (.iconst 1, 1) := by decide +kernel
theorem dX7_tryOrders_101 : decode cX7_tryOrders 101 = .ok (.iadd, 1) := by decide +kernel
theorem dX7_tryOrders_102 : decode cX7_tryOrders 102 = .ok (.iload_n 2, 1) := by decide +kernel
theorem dX7_tryOrders_103 : decode cX7_tryOrders 103 = .ok (.iconst 1, 1) := by decide +kernel
theorem dX7_tryOrders_104 : decode cX7_tryOrders 104 = .ok (.iload_n 3, 1) := by decide +kernel
theorem dX7_tryOrders_105 : decode cX7_tryOrders 105 = .ok (.ishl, 1) := by decide +kernel
theorem dX7_tryOrders_106 : decode cX7_tryOrders 106 = .ok (.ior, 1) := by decide +kernel
theorem dX7_tryOrders_107 : decode cX7_tryOrders 107 = .ok (.invokevirtual 115, 3) := by decide +kernel
theorem dX7_tryOrders_110 : decode cX7_tryOrders 110 = .ok (.iinc 3 1, 3) := by decide +kernel
theorem dX7_tryOrders_113 : decode cX7_tryOrders 113 = .ok (.goto (-75), 3) := by decide +kernel
theorem dX7_tryOrders_116 : decode cX7_tryOrders 116 = .ok (.return_, 1) := by decide +kernel
set_option maxHeartbeats 4000000 in
set_option maxRecDepth 100000 in
theorem B_gOrd {G : zG} {kd : kD} {N0 : Nat} : ∀ f : Nat,
    (∀ (e : Nat) (X : zX), zCt G X (5 + e) 0 0 RX7 cX7_tryOrders 4 → (zXh X).sig.returnType = none → ∀ (S : aS) (v0 : Nat) (v1 : Int32) (v2 : Int32) (res : Option Value × aS), zT0 kd N0 S → v0 < N0 → kd v0 = .inl 6 → F_gOrd f e 0 [.ref v0, .int v1, .int v2] S = some res → zV G X (zQX G X (zPo G kd N0 res) 0 0) 4 [some (.ref (zB G + v0)), some (.int v1), some (.int v2), none] [] (cn G kd N0 S) 0 0 0) ∧
    (∀ (e : Nat) (X : zX), zCt G X (5 + e) 0 0 RX7 cX7_tryOrders 4 → (zXh X).sig.returnType = none → ∀ (S : aS) (v0 : Nat) (v1 : Int32) (res : Option Value × aS), zT0 kd N0 S → v0 < N0 → kd v0 = .inl 6 → F_gOrd f e 1 [.ref v0, .int v1] S = some res → zV G X (zQX G X (zPo G kd N0 res) 0 0) 4 [some (.ref (zB G + v0)), some (.int v1), none, none] [] (cn G kd N0 S) 22 0 0) ∧
    (∀ (e : Nat) (X : zX), zCt G X (5 + e) 0 0 RX7 cX7_tryOrders 4 → (zXh X).sig.returnType = none → ∀ (S : aS) (v0 : Nat) (v1 : Int32) (v2 : Int32) (v3 : Int32) (res : Option Value × aS), zT0 kd N0 S → v0 < N0 → kd v0 = .inl 6 → F_gOrd f e 2 [.ref v0, .int v1, .int v2, .int v3] S = some res → zV G X (zQX G X (zPo G kd N0 res) 0 0) 4 [some (.ref (zB G + v0)), some (.int v1), some (.int v2), some (.int v3)] [] (cn G kd N0 S) 38 0 0) ∧
    (∀ (e : Nat) (X : zX), zCt G X (5 + e) 0 0 RX7 cX7_tryOrders 4 → (zXh X).sig.returnType = none → ∀ (S : aS) (v0 : Nat) (v1 : Int32) (v2 : Int32) (v3 : Int32) (res : Option Value × aS), zT0 kd N0 S → v0 < N0 → kd v0 = .inl 6 → F_gOrd f e 3 [.ref v0, .int v1, .int v2, .int v3] S = some res → zV G X (zQX G X (zPo G kd N0 res) 0 0) 4 [some (.ref (zB G + v0)), some (.int v1), some (.int v2), some (.int v3)] [] (cn G kd N0 S) 110 0 0) := by
  intro f
  induction f with
  | zero => exact ⟨(fun _ _ _ _ _ _ _ _ _ _ _ _ h => by cases h), (fun _ _ _ _ _ _ _ _ _ _ _ h => by cases h), (fun _ _ _ _ _ _ _ _ _ _ _ _ _ h => by cases h), (fun _ _ _ _ _ _ _ _ _ _ _ _ _ h => by cases h)⟩
  | succ f ih =>
    obtain ⟨ih0, ih1, ih2, ih3⟩ := ih
    refine ⟨?_, ?_, ?_, ?_⟩
    · intro e X C hr S v0 v1 v2 res hT hpv0 hkv0 hF
      replace hF : F_gOrd_0 f (F_gOrd f) e v0 v1 v2 S = some res := hF
      unfold F_gOrd_0 at hF
      refine z_iload_n C dX7_tryOrders_0 rfl ?_
      refine z_aload_n C dX7_tryOrders_1 rfl ?_
      refine f_getr C dX7_tryOrders_2 zfRX7_33 hpv0 hkv0 rfl ?_
      obtain ⟨hp1, hk1⟩ := hT.1 v0 6 2 (.inl 5) hpv0 hkv0 rfl
      refine f_geti C dX7_tryOrders_5 zfRX7_102 hp1 hk1 rfl ?_
      refine z_icmp_ge C 22 dX7_tryOrders_8 (by decide) (fun c2 => ?_) (fun c2 => ?_)
      · replace hF := ip hF c2
        refine z_mask [true, true, false, true] ?_ rfl
        exact ih1 e X C hr S v0 v1 res hT hpv0 hkv0  hF
      · replace hF := im hF c2
        refine z_iload_n C dX7_tryOrders_11 rfl ?_
        refine z_iconst (v := 1) C dX7_tryOrders_12 (by decide) ?_
        refine z_iadd C dX7_tryOrders_13 ?_
        refine z_aload_n C dX7_tryOrders_14 rfl ?_
        refine f_getr C dX7_tryOrders_15 zfRX7_13 hpv0 hkv0 rfl ?_
        obtain ⟨hp3, hk3⟩ := hT.1 v0 6 3 (.inr (4, 7)) hpv0 hkv0 rfl
        refine f_alen (v := 7) C dX7_tryOrders_18 hp3 hk3 rfl (by decide) ?_
        refine z_icmp_lt C 36 dX7_tryOrders_19 (by decide) (fun c4 => ?_) (fun c4 => ?_)
        · replace hF := ip hF c4
          refine z_iconst (v := 0) C dX7_tryOrders_36 (by decide) ?_
          refine z_istore_n (lv2 := [some (.ref (zB G + v0)), some (.int v1), some (.int v2), some (.int 0)]) C dX7_tryOrders_37 (by decide) rfl ?_
          exact ih2 e X C hr S v0 v1 v2 0 res hT hpv0 hkv0    hF
        · replace hF := im hF c4
          refine z_mask [true, true, false, true] ?_ rfl
          exact ih1 e X C hr S v0 v1 res hT hpv0 hkv0  hF
    · intro e X C hr S v0 v1 res hT hpv0 hkv0 hF
      replace hF : F_gOrd_1 f (F_gOrd f) e v0 v1 S = some res := hF
      unfold F_gOrd_1 at hF
      refine z_aload_n C dX7_tryOrders_22 rfl ?_
      refine z_aload_n C dX7_tryOrders_23 rfl ?_
      refine f_getr C dX7_tryOrders_24 zfRX7_13 hpv0 hkv0 rfl ?_
      obtain ⟨hp5, hk5⟩ := hT.1 v0 6 3 (.inr (4, 7)) hpv0 hkv0 rfl
      refine z_iload_n C dX7_tryOrders_27 rfl ?_
      obtain ⟨hi6, hF⟩ := bX_some hF
      obtain ⟨q6, eq6⟩ : ∃ q : Nat, q = Int32.toNatClampNeg v1 := ⟨_, rfl⟩
      rw [← eq6] at hF
      refine f_aald C dX7_tryOrders_28 hp5 hk5 rfl rfl rfl hi6 ?_
      obtain ⟨hp6, hk6⟩ := hT.2.1 (gR S v0 3) 4 7 (.inl 3) q6 hp5 hk5 rfl (by rw [eq6]; exact Nat.not_le.mp fun z => hi6 (Or.inr z))
      rw [← eq6]
      obtain ⟨x7, S7, h7, hF⟩ := bI_some hF
      refine f_cV (st2 := [.int x7, .ref (zB G + v0)]) C dX7_tryOrders_29 zyX4_total zvX4_total lkRX7_83 (K_X4_total (l := zXl X) hT hp6 hk6 h7) hp6 hk6 rfl (by omega) rfl rfl (Nat.le_of_ble_eq_true rfl) rfl (fun hT7 => ?_)
      obtain ⟨S8, h8, hF⟩ := bV_some hF
      refine f_cV (st2 := []) C dX7_tryOrders_32 zyX7_offerRow zvX7_offerRow lkRX7_107 (K_X7_offerRow (l := zXl X) hT7 hpv0 hkv0  h8) hpv0 hkv0 rfl (by omega) rfl rfl (Nat.le_of_ble_eq_true rfl) rfl (fun hT8 => ?_)
      cases hF
      exact z_vret C hr dX7_tryOrders_35 ⟨rfl, rfl, hT8⟩
    · intro e X C hr S v0 v1 v2 v3 res hT hpv0 hkv0 hF
      replace hF : F_gOrd_2 f (F_gOrd f) e v0 v1 v2 v3 S = some res := hF
      unfold F_gOrd_2 at hF
      obtain ⟨e1, he1, hF1⟩ := dE_some hF
      subst he1
      replace hF := hF1
      refine z_iload_n C dX7_tryOrders_38 rfl ?_
      refine z_aload_n C dX7_tryOrders_39 rfl ?_
      refine f_getr C dX7_tryOrders_40 zfRX7_33 hpv0 hkv0 rfl ?_
      obtain ⟨hp9, hk9⟩ := hT.1 v0 6 2 (.inl 5) hpv0 hkv0 rfl
      refine f_geti C dX7_tryOrders_43 zfRX7_102 hp9 hk9 rfl ?_
      refine z_icmp_ge C 116 dX7_tryOrders_46 (by decide) (fun c12 => ?_) (fun c12 => ?_)
      · replace hF := ip hF c12
        cases hF
        exact z_vret C hr dX7_tryOrders_116 ⟨rfl, rfl, hT⟩
      · replace hF := im hF c12
        refine z_iload_n C dX7_tryOrders_49 rfl ?_
        refine z_iconst (v := 1) C dX7_tryOrders_50 (by decide) ?_
        refine z_iload_n C dX7_tryOrders_51 rfl ?_
        refine z_ishl C dX7_tryOrders_52 ?_
        refine z_iand C dX7_tryOrders_53 ?_
        refine z_if_ne C 110 dX7_tryOrders_54 (by decide) (fun c15 => ?_) (fun c15 => ?_)
        · replace hF := im hF c15
          exact ih3 (e1 + 1) X C hr S v0 v1 v2 v3 res hT hpv0 hkv0    hF
        · replace hF := ip hF c15
          refine z_aload_n C dX7_tryOrders_57 rfl ?_
          refine f_getr C dX7_tryOrders_58 zfRX7_17 hpv0 hkv0 rfl ?_
          obtain ⟨hp16, hk16⟩ := hT.1 v0 6 4 (.inr (0, 6)) hpv0 hkv0 rfl
          refine z_iload_n C dX7_tryOrders_61 rfl ?_
          refine z_iload_n C dX7_tryOrders_62 rfl ?_
          obtain ⟨hi17, hF⟩ := bX_some hF
          obtain ⟨q17, eq17⟩ : ∃ q : Nat, q = Int32.toNatClampNeg v1 := ⟨_, rfl⟩
          rw [← eq17] at hF
          refine f_iast C dX7_tryOrders_63 hp16 hk16 hi17 ?_
          rw [← eq17]
          have hT18 : zT0 kd N0 (sI S (gR S v0 4) q17 v3) := zT0_sI hT
          replace hF := fS_e hF
          generalize sI S (gR S v0 4) q17 v3 = S18 at hF hT18 ⊢
          refine z_aload_n C dX7_tryOrders_64 rfl ?_
          refine f_getr C dX7_tryOrders_65 zfRX7_13 hpv0 hkv0 rfl ?_
          obtain ⟨hp19, hk19⟩ := hT18.1 v0 6 3 (.inr (4, 7)) hpv0 hkv0 rfl
          refine z_iload_n C dX7_tryOrders_68 rfl ?_
          refine z_iconst (v := 1) C dX7_tryOrders_69 (by decide) ?_
          refine z_iadd C dX7_tryOrders_70 ?_
          obtain ⟨hi20, hF⟩ := bX_some hF
          obtain ⟨q20, eq20⟩ : ∃ q : Nat, q = Int32.toNatClampNeg (v1 + (1 : Int32)) := ⟨_, rfl⟩
          rw [← eq20] at hF
          refine f_aald C dX7_tryOrders_71 hp19 hk19 rfl rfl rfl hi20 ?_
          obtain ⟨hp20, hk20⟩ := hT18.2.1 (gR S18 v0 3) 4 7 (.inl 3) q20 hp19 hk19 rfl (by rw [eq20]; exact Nat.not_le.mp fun z => hi20 (Or.inr z))
          rw [← eq20]
          refine z_aload_n C dX7_tryOrders_72 rfl ?_
          refine f_getr C dX7_tryOrders_73 zfRX7_13 hpv0 hkv0 rfl ?_
          obtain ⟨hp21, hk21⟩ := hT18.1 v0 6 3 (.inr (4, 7)) hpv0 hkv0 rfl
          refine z_iload_n C dX7_tryOrders_76 rfl ?_
          obtain ⟨hi22, hF⟩ := bX_some hF
          obtain ⟨q22, eq22⟩ : ∃ q : Nat, q = Int32.toNatClampNeg v1 := ⟨_, rfl⟩
          rw [← eq22] at hF
          refine f_aald C dX7_tryOrders_77 hp21 hk21 rfl rfl rfl hi22 ?_
          obtain ⟨hp22, hk22⟩ := hT18.2.1 (gR S18 v0 3) 4 7 (.inl 3) q22 hp21 hk21 rfl (by rw [eq22]; exact Nat.not_le.mp fun z => hi22 (Or.inr z))
          rw [← eq22]
          obtain ⟨S23, h23, hF⟩ := bV_some hF
          refine f_cV (st2 := []) C dX7_tryOrders_78 zyX4_become zvX4_become lkRX7_49 (K_X4_become (l := zXl X) hT18 hp20 hk20 hp22 hk22 h23) hp20 hk20 rfl (by omega) rfl rfl (Nat.le_of_ble_eq_true rfl) rfl (fun hT23 => ?_)
          refine z_aload_n C dX7_tryOrders_81 rfl ?_
          refine f_getr C dX7_tryOrders_82 zfRX7_37 hpv0 hkv0 rfl ?_
          obtain ⟨hp24, hk24⟩ := hT23.1 v0 6 1 (.inl 8) hpv0 hkv0 rfl
          refine z_iload_n C dX7_tryOrders_85 rfl ?_
          refine z_aload_n C dX7_tryOrders_86 rfl ?_
          refine f_getr C dX7_tryOrders_87 zfRX7_13 hpv0 hkv0 rfl ?_
          obtain ⟨hp25, hk25⟩ := hT23.1 v0 6 3 (.inr (4, 7)) hpv0 hkv0 rfl
          refine z_iload_n C dX7_tryOrders_90 rfl ?_
          refine z_iconst (v := 1) C dX7_tryOrders_91 (by decide) ?_
          refine z_iadd C dX7_tryOrders_92 ?_
          obtain ⟨hi26, hF⟩ := bX_some hF
          obtain ⟨q26, eq26⟩ : ∃ q : Nat, q = Int32.toNatClampNeg (v1 + (1 : Int32)) := ⟨_, rfl⟩
          rw [← eq26] at hF
          refine f_aald C dX7_tryOrders_93 hp25 hk25 rfl rfl rfl hi26 ?_
          obtain ⟨hp26, hk26⟩ := hT23.2.1 (gR S23 v0 3) 4 7 (.inl 3) q26 hp25 hk25 rfl (by rw [eq26]; exact Nat.not_le.mp fun z => hi26 (Or.inr z))
          rw [← eq26]
          obtain ⟨x27, S27, h27, hF⟩ := bI_some hF
          refine f_cV (st2 := [.int x27]) C dX7_tryOrders_94 zyX9_walkOf zvX9_walkOf lkRX7_111 (K_X9_walkOf (l := zXl X) hT23 hp24 hk24  hp26 hk26 h27) hp24 hk24 rfl (by omega) rfl rfl (Nat.le_of_ble_eq_true rfl) rfl (fun hT27 => ?_)
          refine z_pop C dX7_tryOrders_97 rfl ?_
          refine z_aload_n C dX7_tryOrders_98 rfl ?_
          refine z_iload_n C dX7_tryOrders_99 rfl ?_
          refine z_iconst (v := 1) C dX7_tryOrders_100 (by decide) ?_
          refine z_iadd C dX7_tryOrders_101 ?_
          refine z_iload_n C dX7_tryOrders_102 rfl ?_
          refine z_iconst (v := 1) C dX7_tryOrders_103 (by decide) ?_
          refine z_iload_n C dX7_tryOrders_104 rfl ?_
          refine z_ishl C dX7_tryOrders_105 ?_
          refine z_ior C dX7_tryOrders_106 ?_
          obtain ⟨S28, h28, hF⟩ := bV_some hF
          have hM28 : zM G (zXl X) (5 + e1) 0 0 yX7_tryOrders cX7_tryOrders 4 none [.ref (zB G + v0), .int (v1 + (1 : Int32)), .int (v2 ||| ((1 : Int32) <<< (v3 &&& 31)))] (cn G kd N0 S27) (zPo G kd N0 (none, S28)) := zM.of (by decide) rfl (Nat.le_of_ble_eq_true rfl) (fun X9 _ C9 hr9 _ => ih0 e1 X9 C9 hr9 S27 v0 (v1 + (1 : Int32)) (v2 ||| ((1 : Int32) <<< (v3 &&& 31))) _ hT27 hpv0 hkv0   h28)
          refine f_cV (st2 := []) C dX7_tryOrders_107 zyX7_tryOrders zvX7_tryOrders lkRX7_115 hM28 hpv0 hkv0 rfl (by omega) rfl rfl (Nat.le_of_ble_eq_true rfl) rfl (fun hT28 => ?_)
          exact ih3 (e1 + 1) X C hr S28 v0 v1 v2 v3 res hT28 hpv0 hkv0    hF
    · intro e X C hr S v0 v1 v2 v3 res hT hpv0 hkv0 hF
      replace hF : F_gOrd_3 f (F_gOrd f) e v0 v1 v2 v3 S = some res := hF
      unfold F_gOrd_3 at hF
      refine z_iinc (v := v3 + 1) (lv2 := [some (.ref (zB G + v0)), some (.int v1), some (.int v2), some (.int (v3 + 1))]) C dX7_tryOrders_110 rfl (by rw [show Int32.ofInt 1 = (1 : Int32) from by decide]) rfl ?_
      refine z_goto C 38 dX7_tryOrders_113 (by decide) ?_
      exact ih2 e X C hr S v0 v1 v2 (v3 + 1) res hT hpv0 hkv0    hF
def F_X7_tryOrders (f : Nat) (_ : Nat) (vs : List Value) (S : aS) : aR := F_gOrd f 10 0 vs S
theorem K_X7_tryOrders {G : zG} {l : Launch} {kd : kD} {N0 f : Nat} {S : aS} {v0 : Nat} {v1 : Int32} {v2 : Int32} {res : Option Value × aS} (hT : zT0 kd N0 S) (hpv0 : v0 < N0) (hkv0 : kd v0 = .inl 6) (hF : F_X7_tryOrders f 0 [.ref v0, .int v1, .int v2] S = some res) : zM G l 15 0 0 yX7_tryOrders cX7_tryOrders 4 none [.ref (zB G + v0), .int v1, .int v2] (cn G kd N0 S) (zPo G kd N0 res) := zM.of (by decide) rfl (Nat.le_of_ble_eq_true rfl) (fun X _ C hr _ => (B_gOrd f).1 10 X C hr S v0 v1 v2 res hT hpv0 hkv0 hF)
def F_gWei_0 (f : Nat) (rc : Nat → Nat → List Value → aS → aR) (e : Nat) (v0 : Nat) (v1 : Int32) (v2 : Int32) (v3 : Int32) (S : aS) : aR :=
  dE e fun e1 => if (gI S (gR S v0 2) 1) ≤ v2 then rc e 1 [.ref v0, .int v1] S else if (v1 + (1 : Int32)) < (7 : Int32) then if (10 : Int32) ≤ v3 then rc e 2 [.ref v0, .int v1, .int v2, .int v3, .long 0] S else bJ (rc e1 0 [.ref v0, .int v1, .int (v2 + (1 : Int32)), .int v3] S) fun x7 S7 => lJ ((0 : Int64) + ((Int32.toInt64 ((10 : Int32) - v3)) * x7)) fun y8 => rc e 2 [.ref v0, .int v1, .int v2, .int v3, .long y8] S7 else rc e 1 [.ref v0, .int v1] S
def F_gWei_1 (f : Nat) (rc : Nat → Nat → List Value → aS → aR) (e : Nat) (v0 : Nat) (v1 : Int32) (S : aS) : aR :=
  bX v1 7 fun q10 => bI (F_X4_total f 0 [.ref (gR S (gR S v0 3) q10)] S) fun x11 S11 => some (some (.long (Int32.toInt64 x11)), S11)
def F_gWei_2 (f : Nat) (rc : Nat → Nat → List Value → aS → aR) (e : Nat) (v0 : Nat) (v1 : Int32) (v2 : Int32) (v3 : Int32) (v4 : Int64) (S : aS) : aR :=
  dE e fun e1 => if v3 ≤ (0 : Int32) then rc e 3 [.long v4] S else bX (v1 + (1 : Int32)) 7 fun q16 => bX v1 7 fun q18 => bV (F_X4_become f 0 [.ref (gR S (gR S v0 3) q16), .ref (gR S (gR S v0 3) q18)] S) fun S19 => bX (v1 + (1 : Int32)) 7 fun q22 => bI (F_X9_walkOf f 0 [.ref (gR S19 v0 1), .int v2, .ref (gR S19 (gR S19 v0 3) q22)] S19) fun x23 S23 => bJ (rc e1 0 [.ref v0, .int (v1 + (1 : Int32)), .int (v2 + (1 : Int32)), .int v3] S23) fun x24 S24 => rc e 3 [.long (v4 + ((Int32.toInt64 v3) * x24))] S24
def F_gWei_3 (f : Nat) (rc : Nat → Nat → List Value → aS → aR) (e : Nat) (v0 : Int64) (S : aS) : aR :=
  some (some (.long v0), S)
def F_gWei : Nat → Nat → Nat → List Value → aS → aR
  | 0, _, _, _, _ => none
  | f + 1, e, 0, vs, S => F_gWei_0 f (F_gWei f) e (vR vs 0) (vI vs 1) (vI vs 2) (vI vs 3) S
  | f + 1, e, 1, vs, S => F_gWei_1 f (F_gWei f) e (vR vs 0) (vI vs 1) S
  | f + 1, e, 2, vs, S => F_gWei_2 f (F_gWei f) e (vR vs 0) (vI vs 1) (vI vs 2) (vI vs 3) (vJ vs 4) S
  | f + 1, e, 3, vs, S => F_gWei_3 f (F_gWei f) e (vJ vs 0) S
  | _ + 1, _, _, _, _ => none
theorem dX7_weighedLies_0 : decode cX7_weighedLies 0 = .ok (.iload_n 2, 1) := by decide +kernel
theorem dX7_weighedLies_1 : decode cX7_weighedLies 1 = .ok (.aload_n 0, 1) := by decide +kernel
theorem dX7_weighedLies_2 : decode cX7_weighedLies 2 = .ok (.getfield 33, 3) := by decide +kernel
theorem dX7_weighedLies_5 : decode cX7_weighedLies 5 = .ok (.getfield 102, 3) := by decide +kernel
theorem dX7_weighedLies_8 : decode cX7_weighedLies 8 = .ok (.if_icmp .ge 14, 3) := by decide +kernel
theorem dX7_weighedLies_11 : decode cX7_weighedLies 11 = .ok (.iload_n 1, 1) := by decide +kernel
theorem dX7_weighedLies_12 : decode cX7_weighedLies 12 = .ok (.iconst 1, 1) := by decide +kernel
theorem dX7_weighedLies_13 : decode cX7_weighedLies 13 = .ok (.iadd, 1) := by decide +kernel
theorem dX7_weighedLies_14 : decode cX7_weighedLies 14 = .ok (.aload_n 0, 1) := by decide +kernel
theorem dX7_weighedLies_15 : decode cX7_weighedLies 15 = .ok (.getfield 13, 3) := by decide +kernel
theorem dX7_weighedLies_18 : decode cX7_weighedLies 18 = .ok (.arraylength, 1) := by decide +kernel
theorem dX7_weighedLies_19 : decode cX7_weighedLies 19 = .ok (.if_icmp .lt 14, 3) := by decide +kernel
theorem dX7_weighedLies_22 : decode cX7_weighedLies 22 = .ok (.aload_n 0, 1) := by decide +kernel
theorem dX7_weighedLies_23 : decode cX7_weighedLies 23 = .ok (.getfield 13, 3) := by decide +kernel
theorem dX7_weighedLies_26 : decode cX7_weighedLies 26 = .ok (.iload_n 1, 1) := by decide +kernel
theorem dX7_weighedLies_27 : decode cX7_weighedLies 27 = .ok (.aaload, 1) := by decide +kernel
theorem dX7_weighedLies_28 : decode cX7_weighedLies 28 = .ok (.invokevirtual 83, 3) := by decide +kernel
theorem dX7_weighedLies_31 : decode cX7_weighedLies 31 = .ok (.i2l, 1) := by decide +kernel
theorem dX7_weighedLies_32 : decode cX7_weighedLies 32 = .ok (.lreturn, 1) := by decide +kernel
theorem dX7_weighedLies_33 : decode cX7_weighedLies 33 = .ok (.lconst 0, 1) := by decide +kernel
theorem dX7_weighedLies_34 : decode cX7_weighedLies 34 = .ok (.lstore 4, 2) := by decide +kernel
theorem dX7_weighedLies_36 : decode cX7_weighedLies 36 = .ok (.iload_n 3, 1) := by decide +kernel
theorem dX7_weighedLies_37 : decode cX7_weighedLies 37 = .ok (.bipush 10, 2) := by decide +kernel
theorem dX7_weighedLies_39 : decode cX7_weighedLies 39 = .ok (.if_icmp .ge 23, 3) := by decide +kernel
theorem dX7_weighedLies_42 : decode cX7_weighedLies 42 = .ok (.lload 4, 2) := by decide +kernel
theorem dX7_weighedLies_44 : decode cX7_weighedLies 44 = .ok (.bipush 10, 2) := by decide +kernel
theorem dX7_weighedLies_46 : decode cX7_weighedLies 46 = .ok (.iload_n 3, 1) := by decide +kernel
theorem dX7_weighedLies_47 : decode cX7_weighedLies 47 = .ok (.isub, 1) := by decide +kernel
theorem dX7_weighedLies_48 : decode cX7_weighedLies 48 = .ok (.i2l, 1) := by decide +kernel
theorem dX7_weighedLies_49 : decode cX7_weighedLies 49 = .ok (.aload_n 0, 1) := by decide +kernel
theorem dX7_weighedLies_50 : decode cX7_weighedLies 50 = .ok (.iload_n 1, 1) := by decide +kernel
theorem dX7_weighedLies_51 : decode cX7_weighedLies 51 = .ok (.iload_n 2, 1) := by decide +kernel
theorem dX7_weighedLies_52 : decode cX7_weighedLies 52 = .ok (.iconst 1, 1) := by decide +kernel
theorem dX7_weighedLies_53 : decode cX7_weighedLies 53 = .ok (.iadd, 1) := by decide +kernel
theorem dX7_weighedLies_54 : decode cX7_weighedLies 54 = .ok (.iload_n 3, 1) := by decide +kernel
theorem dX7_weighedLies_55 : decode cX7_weighedLies 55 = .ok (.invokevirtual 141, 3) := by decide +kernel
theorem dX7_weighedLies_58 : decode cX7_weighedLies 58 = .ok (.lmul, 1) := by decide +kernel
theorem dX7_weighedLies_59 : decode cX7_weighedLies 59 = .ok (.ladd, 1) := by decide +kernel
theorem dX7_weighedLies_60 : decode cX7_weighedLies 60 = .ok (.lstore 4, 2) := by decide +kernel
theorem dX7_weighedLies_62 : decode cX7_weighedLies 62 = .ok (.iload_n 3, 1) := by decide +kernel
theorem dX7_weighedLies_63 : decode cX7_weighedLies 63 = .ok (.ifCond .le 56, 3) := by decide +kernel
theorem dX7_weighedLies_66 : decode cX7_weighedLies 66 = .ok (.aload_n 0, 1) := by decide +kernel
theorem dX7_weighedLies_67 : decode cX7_weighedLies 67 = .ok (.getfield 13, 3) := by decide +kernel
theorem dX7_weighedLies_70 : decode cX7_weighedLies 70 = .ok (.iload_n 1, 1) := by decide +kernel
theorem dX7_weighedLies_71 : decode cX7_weighedLies 71 = .ok (.iconst 1, 1) := by decide +kernel
theorem dX7_weighedLies_72 : decode cX7_weighedLies 72 = .ok (.iadd, 1) := by decide +kernel
theorem dX7_weighedLies_73 : decode cX7_weighedLies 73 = .ok (.aaload, 1) := by decide +kernel
theorem dX7_weighedLies_74 : decode cX7_weighedLies 74 = .ok (.aload_n 0, 1) := by decide +kernel
theorem dX7_weighedLies_75 : decode cX7_weighedLies 75 = .ok (.getfield 13, 3) := by decide +kernel
theorem dX7_weighedLies_78 : decode cX7_weighedLies 78 = .ok (.iload_n 1, 1) := by decide +kernel
theorem dX7_weighedLies_79 : decode cX7_weighedLies 79 = .ok (.aaload, 1) := by decide +kernel
theorem dX7_weighedLies_80 : decode cX7_weighedLies 80 = .ok (.invokevirtual 49, 3) := by decide +kernel
theorem dX7_weighedLies_83 : decode cX7_weighedLies 83 = .ok (.aload_n 0, 1) := by decide +kernel
theorem dX7_weighedLies_84 : decode cX7_weighedLies 84 = .ok (.getfield 37, 3) := by decide +kernel
theorem dX7_weighedLies_87 : decode cX7_weighedLies 87 = .ok (.iload_n 2, 1) := by decide +kernel
theorem dX7_weighedLies_88 : decode cX7_weighedLies 88 = .ok (.aload_n 0, 1) := by decide +kernel
theorem dX7_weighedLies_89 : decode cX7_weighedLies 89 = .ok (.getfield 13, 3) := by decide +kernel
theorem dX7_weighedLies_92 : decode cX7_weighedLies 92 = .ok (.iload_n 1, 1) := by decide +kernel
theorem dX7_weighedLies_93 : decode cX7_weighedLies 93 = .ok (.iconst 1, 1) := by decide +kernel
theorem dX7_weighedLies_94 : decode cX7_weighedLies 94 = .ok (.iadd, 1) := by decide +kernel
theorem dX7_weighedLies_95 : decode cX7_weighedLies 95 = .ok (.aaload, 1) := by decide +kernel
theorem dX7_weighedLies_96 : decode cX7_weighedLies 96 = .ok (.invokevirtual 111, 3) := by decide +kernel
theorem dX7_weighedLies_99 : decode cX7_weighedLies 99 = .ok (.pop, 1) := by decide +kernel
theorem dX7_weighedLies_100 : decode cX7_weighedLies 100 = .ok (.lload 4, 2) := by decide +kernel
theorem dX7_weighedLies_102 : decode cX7_weighedLies 102 = .ok (.iload_n 3, 1) := by decide +kernel
theorem dX7_weighedLies_103 : decode cX7_weighedLies 103 = .ok (.i2l, 1) := by decide +kernel
theorem dX7_weighedLies_104 : decode cX7_weighedLies 104 = .ok (.aload_n 0, 1) := by decide +kernel
theorem dX7_weighedLies_105 : decode cX7_weighedLies 105 = .ok (.iload_n 1, 1) := by decide +kernel
theorem dX7_weighedLies_106 : decode cX7_weighedLies 106 = .ok (.iconst 1, 1) := by decide +kernel
theorem dX7_weighedLies_107 : decode cX7_weighedLies 107 = .ok (.iadd, 1) := by decide +kernel
theorem dX7_weighedLies_108 : decode cX7_weighedLies 108 = .ok (.iload_n 2, 1) := by decide +kernel
theorem dX7_weighedLies_109 : decode cX7_weighedLies 109 = .ok (.iconst 1, 1) := by decide +kernel
theorem dX7_weighedLies_110 : decode cX7_weighedLies 110 = .ok (.iadd, 1) := by decide +kernel
theorem dX7_weighedLies_111 : decode cX7_weighedLies 111 = .ok (.iload_n 3, 1) := by decide +kernel
theorem dX7_weighedLies_112 : decode cX7_weighedLies 112 = .ok (.invokevirtual 141, 3) := by decide +kernel
theorem dX7_weighedLies_115 : decode cX7_weighedLies 115 = .ok (.lmul, 1) := by decide +kernel
theorem dX7_weighedLies_116 : decode cX7_weighedLies 116 = .ok (.ladd, 1) := by decide +kernel
theorem dX7_weighedLies_117 : decode cX7_weighedLies 117 = .ok (.lstore 4, 2) := by decide +kernel
theorem dX7_weighedLies_119 : decode cX7_weighedLies 119 = .ok (.lload 4, 2) := by decide +kernel
theorem dX7_weighedLies_121 : decode cX7_weighedLies 121 = .ok (.lreturn, 1) := by decide +kernel
set_option maxHeartbeats 4000000 in
set_option maxRecDepth 100000 in
theorem B_gWei {G : zG} {kd : kD} {N0 : Nat} : ∀ f : Nat,
    (∀ (e : Nat) (X : zX), zCt G X (5 + e) 0 0 RX7 cX7_weighedLies 6 → (zXh X).sig.returnType = (some .long) → ∀ (S : aS) (v0 : Nat) (v1 : Int32) (v2 : Int32) (v3 : Int32) (res : Option Value × aS), zT0 kd N0 S → v0 < N0 → kd v0 = .inl 6 → F_gWei f e 0 [.ref v0, .int v1, .int v2, .int v3] S = some res → zV G X (zQX G X (zPo G kd N0 res) 0 0) 6 [some (.ref (zB G + v0)), some (.int v1), some (.int v2), some (.int v3), none, none] [] (cn G kd N0 S) 0 0 0) ∧
    (∀ (e : Nat) (X : zX), zCt G X (5 + e) 0 0 RX7 cX7_weighedLies 6 → (zXh X).sig.returnType = (some .long) → ∀ (S : aS) (v0 : Nat) (v1 : Int32) (res : Option Value × aS), zT0 kd N0 S → v0 < N0 → kd v0 = .inl 6 → F_gWei f e 1 [.ref v0, .int v1] S = some res → zV G X (zQX G X (zPo G kd N0 res) 0 0) 6 [some (.ref (zB G + v0)), some (.int v1), none, none, none, none] [] (cn G kd N0 S) 22 0 0) ∧
    (∀ (e : Nat) (X : zX), zCt G X (5 + e) 0 0 RX7 cX7_weighedLies 6 → (zXh X).sig.returnType = (some .long) → ∀ (S : aS) (v0 : Nat) (v1 : Int32) (v2 : Int32) (v3 : Int32) (v4 : Int64) (res : Option Value × aS), zT0 kd N0 S → v0 < N0 → kd v0 = .inl 6 → F_gWei f e 2 [.ref v0, .int v1, .int v2, .int v3, .long v4] S = some res → zV G X (zQX G X (zPo G kd N0 res) 0 0) 6 [some (.ref (zB G + v0)), some (.int v1), some (.int v2), some (.int v3), some (.long v4), none] [] (cn G kd N0 S) 62 0 0) ∧
    (∀ (e : Nat) (X : zX), zCt G X (5 + e) 0 0 RX7 cX7_weighedLies 6 → (zXh X).sig.returnType = (some .long) → ∀ (S : aS) (v0 : Int64) (res : Option Value × aS), zT0 kd N0 S → F_gWei f e 3 [.long v0] S = some res → zV G X (zQX G X (zPo G kd N0 res) 0 0) 6 [none, none, none, none, some (.long v0), none] [] (cn G kd N0 S) 119 0 0) := by
  intro f
  induction f with
  | zero => exact ⟨(fun _ _ _ _ _ _ _ _ _ _ _ _ _ h => by cases h), (fun _ _ _ _ _ _ _ _ _ _ _ h => by cases h), (fun _ _ _ _ _ _ _ _ _ _ _ _ _ _ h => by cases h), (fun _ _ _ _ _ _ _ _ h => by cases h)⟩
  | succ f ih =>
    obtain ⟨ih0, ih1, ih2, ih3⟩ := ih
    refine ⟨?_, ?_, ?_, ?_⟩
    · intro e X C hr S v0 v1 v2 v3 res hT hpv0 hkv0 hF
      replace hF : F_gWei_0 f (F_gWei f) e v0 v1 v2 v3 S = some res := hF
      unfold F_gWei_0 at hF
      obtain ⟨e1, he1, hF1⟩ := dE_some hF
      subst he1
      replace hF := hF1
      refine z_iload_n C dX7_weighedLies_0 rfl ?_
      refine z_aload_n C dX7_weighedLies_1 rfl ?_
      refine f_getr C dX7_weighedLies_2 zfRX7_33 hpv0 hkv0 rfl ?_
      obtain ⟨hp1, hk1⟩ := hT.1 v0 6 2 (.inl 5) hpv0 hkv0 rfl
      refine f_geti C dX7_weighedLies_5 zfRX7_102 hp1 hk1 rfl ?_
      refine z_icmp_ge C 22 dX7_weighedLies_8 (by decide) (fun c2 => ?_) (fun c2 => ?_)
      · replace hF := ip hF c2
        refine z_mask [true, true, false, false, true, true] ?_ rfl
        exact ih1 (e1 + 1) X C hr S v0 v1 res hT hpv0 hkv0  hF
      · replace hF := im hF c2
        refine z_iload_n C dX7_weighedLies_11 rfl ?_
        refine z_iconst (v := 1) C dX7_weighedLies_12 (by decide) ?_
        refine z_iadd C dX7_weighedLies_13 ?_
        refine z_aload_n C dX7_weighedLies_14 rfl ?_
        refine f_getr C dX7_weighedLies_15 zfRX7_13 hpv0 hkv0 rfl ?_
        obtain ⟨hp3, hk3⟩ := hT.1 v0 6 3 (.inr (4, 7)) hpv0 hkv0 rfl
        refine f_alen (v := 7) C dX7_weighedLies_18 hp3 hk3 rfl (by decide) ?_
        refine z_icmp_lt C 33 dX7_weighedLies_19 (by decide) (fun c4 => ?_) (fun c4 => ?_)
        · replace hF := ip hF c4
          refine z_lconst (v := 0) C dX7_weighedLies_33 (by decide) ?_
          refine z_lstore (lv2 := [some (.ref (zB G + v0)), some (.int v1), some (.int v2), some (.int v3), some (.long 0), none]) C dX7_weighedLies_34 (by decide) rfl ?_
          refine z_iload_n C dX7_weighedLies_36 rfl ?_
          refine z_bipush (v := 10) C dX7_weighedLies_37 (by decide) ?_
          refine z_icmp_ge C 62 dX7_weighedLies_39 (by decide) (fun c6 => ?_) (fun c6 => ?_)
          · replace hF := ip hF c6
            exact ih2 (e1 + 1) X C hr S v0 v1 v2 v3 0 res hT hpv0 hkv0     hF
          · replace hF := im hF c6
            refine z_lload C dX7_weighedLies_42 rfl ?_
            refine z_bipush (v := 10) C dX7_weighedLies_44 (by decide) ?_
            refine z_iload_n C dX7_weighedLies_46 rfl ?_
            refine z_isub C dX7_weighedLies_47 ?_
            refine z_i2l C dX7_weighedLies_48 ?_
            refine z_aload_n C dX7_weighedLies_49 rfl ?_
            refine z_iload_n C dX7_weighedLies_50 rfl ?_
            refine z_iload_n C dX7_weighedLies_51 rfl ?_
            refine z_iconst (v := 1) C dX7_weighedLies_52 (by decide) ?_
            refine z_iadd C dX7_weighedLies_53 ?_
            refine z_iload_n C dX7_weighedLies_54 rfl ?_
            obtain ⟨x7, S7, h7, hF⟩ := bJ_some hF
            have hM7 : zM G (zXl X) (5 + e1) 0 0 yX7_weighedLies cX7_weighedLies 6 (some .long) [.ref (zB G + v0), .int v1, .int (v2 + (1 : Int32)), .int v3] (cn G kd N0 S) (zPo G kd N0 (some (.long x7), S7)) := zM.of (by decide) rfl (Nat.le_of_ble_eq_true rfl) (fun X9 _ C9 hr9 _ => ih0 e1 X9 C9 hr9 S v0 v1 (v2 + (1 : Int32)) v3 _ hT hpv0 hkv0    h7)
            refine f_cV (st2 := [.long x7, .long (Int32.toInt64 ((10 : Int32) - v3)), .long 0]) C dX7_weighedLies_55 zyX7_weighedLies zvX7_weighedLies lkRX7_141 hM7 hpv0 hkv0 rfl (by omega) rfl rfl (Nat.le_of_ble_eq_true rfl) rfl (fun hT7 => ?_)
            refine z_lmul C dX7_weighedLies_58 ?_
            refine z_ladd C dX7_weighedLies_59 ?_
            replace hF := lJ_e hF
            generalize ((0 : Int64) + ((Int32.toInt64 ((10 : Int32) - v3)) * x7)) = y8 at hF ⊢
            refine z_lstore (lv2 := [some (.ref (zB G + v0)), some (.int v1), some (.int v2), some (.int v3), some (.long y8), none]) C dX7_weighedLies_60 (by decide) rfl ?_
            exact ih2 (e1 + 1) X C hr S7 v0 v1 v2 v3 y8 res hT7 hpv0 hkv0     hF
        · replace hF := im hF c4
          refine z_mask [true, true, false, false, true, true] ?_ rfl
          exact ih1 (e1 + 1) X C hr S v0 v1 res hT hpv0 hkv0  hF
    · intro e X C hr S v0 v1 res hT hpv0 hkv0 hF
      replace hF : F_gWei_1 f (F_gWei f) e v0 v1 S = some res := hF
      unfold F_gWei_1 at hF
      refine z_aload_n C dX7_weighedLies_22 rfl ?_
      refine f_getr C dX7_weighedLies_23 zfRX7_13 hpv0 hkv0 rfl ?_
      obtain ⟨hp9, hk9⟩ := hT.1 v0 6 3 (.inr (4, 7)) hpv0 hkv0 rfl
      refine z_iload_n C dX7_weighedLies_26 rfl ?_
      obtain ⟨hi10, hF⟩ := bX_some hF
      obtain ⟨q10, eq10⟩ : ∃ q : Nat, q = Int32.toNatClampNeg v1 := ⟨_, rfl⟩
      rw [← eq10] at hF
      refine f_aald C dX7_weighedLies_27 hp9 hk9 rfl rfl rfl hi10 ?_
      obtain ⟨hp10, hk10⟩ := hT.2.1 (gR S v0 3) 4 7 (.inl 3) q10 hp9 hk9 rfl (by rw [eq10]; exact Nat.not_le.mp fun z => hi10 (Or.inr z))
      rw [← eq10]
      obtain ⟨x11, S11, h11, hF⟩ := bI_some hF
      refine f_cV (st2 := [.int x11]) C dX7_weighedLies_28 zyX4_total zvX4_total lkRX7_83 (K_X4_total (l := zXl X) hT hp10 hk10 h11) hp10 hk10 rfl (by omega) rfl rfl (Nat.le_of_ble_eq_true rfl) rfl (fun hT11 => ?_)
      refine z_i2l C dX7_weighedLies_31 ?_
      cases hF
      exact z_lret C hr dX7_weighedLies_32 ⟨rfl, rfl, hT11⟩
    · intro e X C hr S v0 v1 v2 v3 v4 res hT hpv0 hkv0 hF
      replace hF : F_gWei_2 f (F_gWei f) e v0 v1 v2 v3 v4 S = some res := hF
      unfold F_gWei_2 at hF
      obtain ⟨e1, he1, hF1⟩ := dE_some hF
      subst he1
      replace hF := hF1
      refine z_iload_n C dX7_weighedLies_62 rfl ?_
      refine z_if_le C 119 dX7_weighedLies_63 (by decide) (fun c14 => ?_) (fun c14 => ?_)
      · replace hF := ip hF c14
        refine z_mask [false, false, false, false, true, true] ?_ rfl
        exact ih3 (e1 + 1) X C hr S v4 res hT  hF
      · replace hF := im hF c14
        refine z_aload_n C dX7_weighedLies_66 rfl ?_
        refine f_getr C dX7_weighedLies_67 zfRX7_13 hpv0 hkv0 rfl ?_
        obtain ⟨hp15, hk15⟩ := hT.1 v0 6 3 (.inr (4, 7)) hpv0 hkv0 rfl
        refine z_iload_n C dX7_weighedLies_70 rfl ?_
        refine z_iconst (v := 1) C dX7_weighedLies_71 (by decide) ?_
        refine z_iadd C dX7_weighedLies_72 ?_
        obtain ⟨hi16, hF⟩ := bX_some hF
        obtain ⟨q16, eq16⟩ : ∃ q : Nat, q = Int32.toNatClampNeg (v1 + (1 : Int32)) := ⟨_, rfl⟩
        rw [← eq16] at hF
        refine f_aald C dX7_weighedLies_73 hp15 hk15 rfl rfl rfl hi16 ?_
        obtain ⟨hp16, hk16⟩ := hT.2.1 (gR S v0 3) 4 7 (.inl 3) q16 hp15 hk15 rfl (by rw [eq16]; exact Nat.not_le.mp fun z => hi16 (Or.inr z))
        rw [← eq16]
        refine z_aload_n C dX7_weighedLies_74 rfl ?_
        refine f_getr C dX7_weighedLies_75 zfRX7_13 hpv0 hkv0 rfl ?_
        obtain ⟨hp17, hk17⟩ := hT.1 v0 6 3 (.inr (4, 7)) hpv0 hkv0 rfl
        refine z_iload_n C dX7_weighedLies_78 rfl ?_
        obtain ⟨hi18, hF⟩ := bX_some hF
        obtain ⟨q18, eq18⟩ : ∃ q : Nat, q = Int32.toNatClampNeg v1 := ⟨_, rfl⟩
        rw [← eq18] at hF
        refine f_aald C dX7_weighedLies_79 hp17 hk17 rfl rfl rfl hi18 ?_
        obtain ⟨hp18, hk18⟩ := hT.2.1 (gR S v0 3) 4 7 (.inl 3) q18 hp17 hk17 rfl (by rw [eq18]; exact Nat.not_le.mp fun z => hi18 (Or.inr z))
        rw [← eq18]
        obtain ⟨S19, h19, hF⟩ := bV_some hF
        refine f_cV (st2 := []) C dX7_weighedLies_80 zyX4_become zvX4_become lkRX7_49 (K_X4_become (l := zXl X) hT hp16 hk16 hp18 hk18 h19) hp16 hk16 rfl (by omega) rfl rfl (Nat.le_of_ble_eq_true rfl) rfl (fun hT19 => ?_)
        refine z_aload_n C dX7_weighedLies_83 rfl ?_
        refine f_getr C dX7_weighedLies_84 zfRX7_37 hpv0 hkv0 rfl ?_
        obtain ⟨hp20, hk20⟩ := hT19.1 v0 6 1 (.inl 8) hpv0 hkv0 rfl
        refine z_iload_n C dX7_weighedLies_87 rfl ?_
        refine z_aload_n C dX7_weighedLies_88 rfl ?_
        refine f_getr C dX7_weighedLies_89 zfRX7_13 hpv0 hkv0 rfl ?_
        obtain ⟨hp21, hk21⟩ := hT19.1 v0 6 3 (.inr (4, 7)) hpv0 hkv0 rfl
        refine z_iload_n C dX7_weighedLies_92 rfl ?_
        refine z_iconst (v := 1) C dX7_weighedLies_93 (by decide) ?_
        refine z_iadd C dX7_weighedLies_94 ?_
        obtain ⟨hi22, hF⟩ := bX_some hF
        obtain ⟨q22, eq22⟩ : ∃ q : Nat, q = Int32.toNatClampNeg (v1 + (1 : Int32)) := ⟨_, rfl⟩
        rw [← eq22] at hF
        refine f_aald C dX7_weighedLies_95 hp21 hk21 rfl rfl rfl hi22 ?_
        obtain ⟨hp22, hk22⟩ := hT19.2.1 (gR S19 v0 3) 4 7 (.inl 3) q22 hp21 hk21 rfl (by rw [eq22]; exact Nat.not_le.mp fun z => hi22 (Or.inr z))
        rw [← eq22]
        obtain ⟨x23, S23, h23, hF⟩ := bI_some hF
        refine f_cV (st2 := [.int x23]) C dX7_weighedLies_96 zyX9_walkOf zvX9_walkOf lkRX7_111 (K_X9_walkOf (l := zXl X) hT19 hp20 hk20  hp22 hk22 h23) hp20 hk20 rfl (by omega) rfl rfl (Nat.le_of_ble_eq_true rfl) rfl (fun hT23 => ?_)
        refine z_pop C dX7_weighedLies_99 rfl ?_
        refine z_lload C dX7_weighedLies_100 rfl ?_
        refine z_iload_n C dX7_weighedLies_102 rfl ?_
        refine z_i2l C dX7_weighedLies_103 ?_
        refine z_aload_n C dX7_weighedLies_104 rfl ?_
        refine z_iload_n C dX7_weighedLies_105 rfl ?_
        refine z_iconst (v := 1) C dX7_weighedLies_106 (by decide) ?_
        refine z_iadd C dX7_weighedLies_107 ?_
        refine z_iload_n C dX7_weighedLies_108 rfl ?_
        refine z_iconst (v := 1) C dX7_weighedLies_109 (by decide) ?_
        refine z_iadd C dX7_weighedLies_110 ?_
        refine z_iload_n C dX7_weighedLies_111 rfl ?_
        obtain ⟨x24, S24, h24, hF⟩ := bJ_some hF
        have hM24 : zM G (zXl X) (5 + e1) 0 0 yX7_weighedLies cX7_weighedLies 6 (some .long) [.ref (zB G + v0), .int (v1 + (1 : Int32)), .int (v2 + (1 : Int32)), .int v3] (cn G kd N0 S23) (zPo G kd N0 (some (.long x24), S24)) := zM.of (by decide) rfl (Nat.le_of_ble_eq_true rfl) (fun X9 _ C9 hr9 _ => ih0 e1 X9 C9 hr9 S23 v0 (v1 + (1 : Int32)) (v2 + (1 : Int32)) v3 _ hT23 hpv0 hkv0    h24)
        refine f_cV (st2 := [.long x24, .long (Int32.toInt64 v3), .long v4]) C dX7_weighedLies_112 zyX7_weighedLies zvX7_weighedLies lkRX7_141 hM24 hpv0 hkv0 rfl (by omega) rfl rfl (Nat.le_of_ble_eq_true rfl) rfl (fun hT24 => ?_)
        refine z_lmul C dX7_weighedLies_115 ?_
        refine z_ladd C dX7_weighedLies_116 ?_
        refine z_lstore (lv2 := [some (.ref (zB G + v0)), some (.int v1), some (.int v2), some (.int v3), some (.long (v4 + ((Int32.toInt64 v3) * x24))), none]) C dX7_weighedLies_117 (by decide) rfl ?_
        refine z_mask [false, false, false, false, true, true] ?_ rfl
        exact ih3 (e1 + 1) X C hr S24 (v4 + ((Int32.toInt64 v3) * x24)) res hT24  hF
    · intro e X C hr S v0 res hT  hF
      replace hF : F_gWei_3 f (F_gWei f) e v0 S = some res := hF
      unfold F_gWei_3 at hF
      refine z_lload C dX7_weighedLies_119 rfl ?_
      cases hF
      exact z_lret C hr dX7_weighedLies_121 ⟨rfl, rfl, hT⟩
def F_X7_weighedLies (f : Nat) (_ : Nat) (vs : List Value) (S : aS) : aR := F_gWei f 10 0 vs S
theorem K_X7_weighedLies {G : zG} {l : Launch} {kd : kD} {N0 f : Nat} {S : aS} {v0 : Nat} {v1 : Int32} {v2 : Int32} {v3 : Int32} {res : Option Value × aS} (hT : zT0 kd N0 S) (hpv0 : v0 < N0) (hkv0 : kd v0 = .inl 6) (hF : F_X7_weighedLies f 0 [.ref v0, .int v1, .int v2, .int v3] S = some res) : zM G l 15 0 0 yX7_weighedLies cX7_weighedLies 6 (some .long) [.ref (zB G + v0), .int v1, .int v2, .int v3] (cn G kd N0 S) (zPo G kd N0 res) := zM.of (by decide) rfl (Nat.le_of_ble_eq_true rfl) (fun X _ C hr _ => (B_gWei f).1 10 X C hr S v0 v1 v2 v3 res hT hpv0 hkv0 hF)
def F_X1_readWalker_0 (f : Nat) (rc : Nat → List Value → aS → aR) (v0 : Nat) (v1 : Nat) (v2 : Nat) (S : aS) : aR :=
  bI (F_X8_isNameToken f 0 [.ref v1] S) fun x1 S1 => if x1 = (0 : Int32) then bZ 0 (some (some (.int 0), S1)) else bI (F_X6_numberOf f 0 [.ref v2, .long (gJ S1 v1 7)] S1) fun x3 S3 => if x3 = (-1 : Int32) then bI (F_X8_fail f 0 [.ref v1, .int 2] S3) fun x9 S9 => bZ x9 (some (some (.int x9), S9)) else bX (gI S3 v0 3) 40 fun q6 => fS (sI S3 (gR S3 v0 1) q6 x3) fun S7 => bV (F_X8_advance f 0 [.ref v1] S7) fun S8 => bZ 1 (some (some (.int 1), S8))
def F_X1_readWalker : Nat → Nat → List Value → aS → aR
  | 0, _, _, _ => none
  | f + 1, 0, vs, S => F_X1_readWalker_0 f (F_X1_readWalker f) (vR vs 0) (vR vs 1) (vR vs 2) S
  | _ + 1, _, _, _ => none
theorem dX1_readWalker_0 : decode cX1_readWalker 0 = .ok (.aload_n 1, 1) := by decide +kernel
theorem dX1_readWalker_1 : decode cX1_readWalker 1 = .ok (.invokevirtual 101, 3) := by decide +kernel
theorem dX1_readWalker_4 : decode cX1_readWalker 4 = .ok (.ifCond .ne 5, 3) := by decide +kernel
theorem dX1_readWalker_7 : decode cX1_readWalker 7 = .ok (.iconst 0, 1) := by decide +kernel
theorem dX1_readWalker_8 : decode cX1_readWalker 8 = .ok (.ireturn, 1) := by decide +kernel
theorem dX1_readWalker_9 : decode cX1_readWalker 9 = .ok (.aload_n 2, 1) := by decide +kernel
theorem dX1_readWalker_10 : decode cX1_readWalker 10 = .ok (.aload_n 1, 1) := by decide +kernel
theorem dX1_readWalker_11 : decode cX1_readWalker 11 = .ok (.getfield 104, 3) := by decide +kernel
theorem dX1_readWalker_14 : decode cX1_readWalker 14 = .ok (.invokevirtual 108, 3) := by decide +kernel
theorem dX1_readWalker_17 : decode cX1_readWalker 17 = .ok (.istore_n 3, 1) := by decide +kernel
theorem dX1_readWalker_18 : decode cX1_readWalker 18 = .ok (.iload_n 3, 1) := by decide +kernel
theorem dX1_readWalker_19 : decode cX1_readWalker 19 = .ok (.iconst (-1), 1) := by decide +kernel
theorem dX1_readWalker_20 : decode cX1_readWalker 20 = .ok (.if_icmp .ne 9, 3) := by decide +kernel
theorem dX1_readWalker_23 : decode cX1_readWalker 23 = .ok (.aload_n 1, 1) := by decide +kernel
theorem dX1_readWalker_24 : decode cX1_readWalker 24 = .ok (.iconst 2, 1) := by decide +kernel
theorem dX1_readWalker_25 : decode cX1_readWalker 25 = .ok (.invokevirtual 49, 3) := by decide +kernel
theorem dX1_readWalker_28 : decode cX1_readWalker 28 = .ok (.ireturn, 1) := by decide +kernel
theorem dX1_readWalker_29 : decode cX1_readWalker 29 = .ok (.aload_n 0, 1) := by decide +kernel
theorem dX1_readWalker_30 : decode cX1_readWalker 30 = .ok (.getfield 15, 3) := by decide +kernel
theorem dX1_readWalker_33 : decode cX1_readWalker 33 = .ok (.aload_n 0, 1) := by decide +kernel
theorem dX1_readWalker_34 : decode cX1_readWalker 34 = .ok (.getfield 21, 3) := by decide +kernel
theorem dX1_readWalker_37 : decode cX1_readWalker 37 = .ok (.iload_n 3, 1) := by decide +kernel
theorem dX1_readWalker_38 : decode cX1_readWalker 38 = .ok (.iastore, 1) := by decide +kernel
theorem dX1_readWalker_39 : decode cX1_readWalker 39 = .ok (.aload_n 1, 1) := by decide +kernel
theorem dX1_readWalker_40 : decode cX1_readWalker 40 = .ok (.invokevirtual 58, 3) := by decide +kernel
theorem dX1_readWalker_43 : decode cX1_readWalker 43 = .ok (.iconst 1, 1) := by decide +kernel
theorem dX1_readWalker_44 : decode cX1_readWalker 44 = .ok (.ireturn, 1) := by decide +kernel
set_option maxHeartbeats 4000000 in
set_option maxRecDepth 100000 in
theorem B_X1_readWalker {G : zG} {X : zX} {kd : kD} {N0 : Nat} (C : zCt G X 3 0 0 RX1 cX1_readWalker 4) (hr : (zXh X).sig.returnType = (some .boolean)) : ∀ f : Nat,
    (∀ (S : aS) (v0 : Nat) (v1 : Nat) (v2 : Nat) (res : Option Value × aS), zT0 kd N0 S → v0 < N0 → kd v0 = .inl 0 → v1 < N0 → kd v1 = .inl 7 → v2 < N0 → kd v2 = .inl 5 → F_X1_readWalker f 0 [.ref v0, .ref v1, .ref v2] S = some res → zV G X (zQX G X (zPo G kd N0 res) 0 0) 4 [some (.ref (zB G + v0)), some (.ref (zB G + v1)), some (.ref (zB G + v2)), none] [] (cn G kd N0 S) 0 0 0) := by
  intro f
  induction f with
  | zero => exact (fun _ _ _ _ _ _ _ _ _ _ _ _ h => by cases h)
  | succ f ih =>
    have ih0 := ih
    intro S v0 v1 v2 res hT hpv0 hkv0 hpv1 hkv1 hpv2 hkv2 hF
    replace hF : F_X1_readWalker_0 f (F_X1_readWalker f) v0 v1 v2 S = some res := hF
    unfold F_X1_readWalker_0 at hF
    refine z_aload_n C dX1_readWalker_0 rfl ?_
    obtain ⟨x1, S1, h1, hF⟩ := bI_some hF
    refine f_cV (st2 := [.int x1]) C dX1_readWalker_1 zyX8_isNameToken zvX8_isNameToken lkRX1_101 (K_X8_isNameToken (l := zXl X) hT hpv1 hkv1 h1) hpv1 hkv1 rfl (by decide) rfl rfl (Nat.le_of_ble_eq_true rfl) rfl (fun hT1 => ?_)
    refine z_if_ne C 9 dX1_readWalker_4 (by decide) (fun c2 => ?_) (fun c2 => ?_)
    · replace hF := im hF c2
      refine z_aload_n C dX1_readWalker_9 rfl ?_
      refine z_aload_n C dX1_readWalker_10 rfl ?_
      refine f_getj C dX1_readWalker_11 zfRX1_104 hpv1 hkv1 rfl ?_
      obtain ⟨x3, S3, h3, hF⟩ := bI_some hF
      refine f_cV (st2 := [.int x3]) C dX1_readWalker_14 zyX6_numberOf zvX6_numberOf lkRX1_108 (K_X6_numberOf (l := zXl X) hT1 hpv2 hkv2  h3) hpv2 hkv2 rfl (by decide) rfl rfl (Nat.le_of_ble_eq_true rfl) rfl (fun hT3 => ?_)
      refine z_istore_n (lv2 := [some (.ref (zB G + v0)), some (.ref (zB G + v1)), some (.ref (zB G + v2)), some (.int x3)]) C dX1_readWalker_17 (by decide) rfl ?_
      refine z_iload_n C dX1_readWalker_18 rfl ?_
      refine z_iconst (v := (-1)) C dX1_readWalker_19 (by decide) ?_
      refine z_icmp_ne C 29 dX1_readWalker_20 (by decide) (fun c4 => ?_) (fun c4 => ?_)
      · replace hF := im hF c4
        refine z_aload_n C dX1_readWalker_29 rfl ?_
        refine f_getr C dX1_readWalker_30 zfRX1_15 hpv0 hkv0 rfl ?_
        obtain ⟨hp5, hk5⟩ := hT3.1 v0 0 1 (.inr (0, 40)) hpv0 hkv0 rfl
        refine z_aload_n C dX1_readWalker_33 rfl ?_
        refine f_geti C dX1_readWalker_34 zfRX1_21 hpv0 hkv0 rfl ?_
        refine z_iload_n C dX1_readWalker_37 rfl ?_
        obtain ⟨hi6, hF⟩ := bX_some hF
        obtain ⟨q6, eq6⟩ : ∃ q : Nat, q = Int32.toNatClampNeg (gI S3 v0 3) := ⟨_, rfl⟩
        rw [← eq6] at hF
        refine f_iast C dX1_readWalker_38 hp5 hk5 hi6 ?_
        rw [← eq6]
        have hT7 : zT0 kd N0 (sI S3 (gR S3 v0 1) q6 x3) := zT0_sI hT3
        replace hF := fS_e hF
        generalize sI S3 (gR S3 v0 1) q6 x3 = S7 at hF hT7 ⊢
        refine z_aload_n C dX1_readWalker_39 rfl ?_
        obtain ⟨S8, h8, hF⟩ := bV_some hF
        refine f_cV (st2 := []) C dX1_readWalker_40 zyX8_advance zvX8_advance lkRX1_58 (K_X8_advance (l := zXl X) hT7 hpv1 hkv1 h8) hpv1 hkv1 rfl (by decide) rfl rfl (Nat.le_of_ble_eq_true rfl) rfl (fun hT8 => ?_)
        refine z_iconst (v := 1) C dX1_readWalker_43 (by decide) ?_
        obtain ⟨hz, hF⟩ := bZ_some hF
        cases hF
        exact z_zret C hr hz.1 dX1_readWalker_44 ⟨rfl, rfl, hT8⟩
      · replace hF := ip hF c4
        refine z_aload_n C dX1_readWalker_23 rfl ?_
        refine z_iconst (v := 2) C dX1_readWalker_24 (by decide) ?_
        obtain ⟨x9, S9, h9, hF⟩ := bI_some hF
        refine f_cV (st2 := [.int x9]) C dX1_readWalker_25 zyX8_fail zvX8_fail lkRX1_49 (K_X8_fail (l := zXl X) hT3 hpv1 hkv1  h9) hpv1 hkv1 rfl (by decide) rfl rfl (Nat.le_of_ble_eq_true rfl) rfl (fun hT9 => ?_)
        obtain ⟨hz, hF⟩ := bZ_some hF
        cases hF
        exact z_zret C hr hz.1 dX1_readWalker_28 ⟨rfl, rfl, hT9⟩
    · replace hF := ip hF c2
      refine z_iconst (v := 0) C dX1_readWalker_7 (by decide) ?_
      obtain ⟨hz, hF⟩ := bZ_some hF
      cases hF
      exact z_zret C hr hz.1 dX1_readWalker_8 ⟨rfl, rfl, hT1⟩
theorem K_X1_readWalker {G : zG} {l : Launch} {kd : kD} {N0 f : Nat} {S : aS} {v0 : Nat} {v1 : Nat} {v2 : Nat} {res : Option Value × aS} (hT : zT0 kd N0 S) (hpv0 : v0 < N0) (hkv0 : kd v0 = .inl 0) (hpv1 : v1 < N0) (hkv1 : kd v1 = .inl 7) (hpv2 : v2 < N0) (hkv2 : kd v2 = .inl 5) (hF : F_X1_readWalker f 0 [.ref v0, .ref v1, .ref v2] S = some res) : zM G l 3 0 0 yX1_readWalker cX1_readWalker 4 (some .boolean) [.ref (zB G + v0), .ref (zB G + v1), .ref (zB G + v2)] (cn G kd N0 S) (zPo G kd N0 res) := zM.of (by decide) rfl (Nat.le_of_ble_eq_true rfl) (fun X _ C hr _ => (B_X1_readWalker C hr f) S v0 v1 v2 res hT hpv0 hkv0 hpv1 hkv1 hpv2 hkv2 hF)
def F_X1_readHolds_0 (f : Nat) (rc : Nat → List Value → aS → aR) (v0 : Nat) (v1 : Nat) (S : aS) : aR :=
  bI (F_X8_isNumberWithin f 0 [.ref v1, .int 1, .int 30] S) fun x1 S1 => if x1 = (0 : Int32) then bZ 0 (some (some (.int 0), S1)) else bX (gI S1 v0 3) 40 fun q4 => fS (sI S1 (gR S1 v0 2) q4 (gI S1 v1 8)) fun S5 => bV (F_X8_advance f 0 [.ref v1] S5) fun S6 => bZ 1 (some (some (.int 1), S6))
def F_X1_readHolds : Nat → Nat → List Value → aS → aR
  | 0, _, _, _ => none
  | f + 1, 0, vs, S => F_X1_readHolds_0 f (F_X1_readHolds f) (vR vs 0) (vR vs 1) S
  | _ + 1, _, _, _ => none
theorem dX1_readHolds_0 : decode cX1_readHolds 0 = .ok (.aload_n 1, 1) := by decide +kernel
theorem dX1_readHolds_1 : decode cX1_readHolds 1 = .ok (.iconst 1, 1) := by decide +kernel
theorem dX1_readHolds_2 : decode cX1_readHolds 2 = .ok (.bipush 30, 2) := by decide +kernel
theorem dX1_readHolds_4 : decode cX1_readHolds 4 = .ok (.invokevirtual 90, 3) := by decide +kernel
theorem dX1_readHolds_7 : decode cX1_readHolds 7 = .ok (.ifCond .ne 5, 3) := by decide +kernel
theorem dX1_readHolds_10 : decode cX1_readHolds 10 = .ok (.iconst 0, 1) := by decide +kernel
theorem dX1_readHolds_11 : decode cX1_readHolds 11 = .ok (.ireturn, 1) := by decide +kernel
theorem dX1_readHolds_12 : decode cX1_readHolds 12 = .ok (.aload_n 0, 1) := by decide +kernel
theorem dX1_readHolds_13 : decode cX1_readHolds 13 = .ok (.getfield 18, 3) := by decide +kernel
theorem dX1_readHolds_16 : decode cX1_readHolds 16 = .ok (.aload_n 0, 1) := by decide +kernel
theorem dX1_readHolds_17 : decode cX1_readHolds 17 = .ok (.getfield 21, 3) := by decide +kernel
theorem dX1_readHolds_20 : decode cX1_readHolds 20 = .ok (.aload_n 1, 1) := by decide +kernel
theorem dX1_readHolds_21 : decode cX1_readHolds 21 = .ok (.getfield 94, 3) := by decide +kernel
theorem dX1_readHolds_24 : decode cX1_readHolds 24 = .ok (.iastore, 1) := by decide +kernel
theorem dX1_readHolds_25 : decode cX1_readHolds 25 = .ok (.aload_n 1, 1) := by decide +kernel
theorem dX1_readHolds_26 : decode cX1_readHolds 26 = .ok (.invokevirtual 58, 3) := by decide +kernel
theorem dX1_readHolds_29 : decode cX1_readHolds 29 = .ok (.iconst 1, 1) := by decide +kernel
theorem dX1_readHolds_30 : decode cX1_readHolds 30 = .ok (.ireturn, 1) := by decide +kernel
set_option maxHeartbeats 4000000 in
set_option maxRecDepth 100000 in
theorem B_X1_readHolds {G : zG} {X : zX} {kd : kD} {N0 : Nat} (C : zCt G X 3 0 0 RX1 cX1_readHolds 2) (hr : (zXh X).sig.returnType = (some .boolean)) : ∀ f : Nat,
    (∀ (S : aS) (v0 : Nat) (v1 : Nat) (res : Option Value × aS), zT0 kd N0 S → v0 < N0 → kd v0 = .inl 0 → v1 < N0 → kd v1 = .inl 7 → F_X1_readHolds f 0 [.ref v0, .ref v1] S = some res → zV G X (zQX G X (zPo G kd N0 res) 0 0) 2 [some (.ref (zB G + v0)), some (.ref (zB G + v1))] [] (cn G kd N0 S) 0 0 0) := by
  intro f
  induction f with
  | zero => exact (fun _ _ _ _ _ _ _ _ _ h => by cases h)
  | succ f ih =>
    have ih0 := ih
    intro S v0 v1 res hT hpv0 hkv0 hpv1 hkv1 hF
    replace hF : F_X1_readHolds_0 f (F_X1_readHolds f) v0 v1 S = some res := hF
    unfold F_X1_readHolds_0 at hF
    refine z_aload_n C dX1_readHolds_0 rfl ?_
    refine z_iconst (v := 1) C dX1_readHolds_1 (by decide) ?_
    refine z_bipush (v := 30) C dX1_readHolds_2 (by decide) ?_
    obtain ⟨x1, S1, h1, hF⟩ := bI_some hF
    refine f_cV (st2 := [.int x1]) C dX1_readHolds_4 zyX8_isNumberWithin zvX8_isNumberWithin lkRX1_90 (K_X8_isNumberWithin (l := zXl X) hT hpv1 hkv1   h1) hpv1 hkv1 rfl (by decide) rfl rfl (Nat.le_of_ble_eq_true rfl) rfl (fun hT1 => ?_)
    refine z_if_ne C 12 dX1_readHolds_7 (by decide) (fun c2 => ?_) (fun c2 => ?_)
    · replace hF := im hF c2
      refine z_aload_n C dX1_readHolds_12 rfl ?_
      refine f_getr C dX1_readHolds_13 zfRX1_18 hpv0 hkv0 rfl ?_
      obtain ⟨hp3, hk3⟩ := hT1.1 v0 0 2 (.inr (0, 40)) hpv0 hkv0 rfl
      refine z_aload_n C dX1_readHolds_16 rfl ?_
      refine f_geti C dX1_readHolds_17 zfRX1_21 hpv0 hkv0 rfl ?_
      refine z_aload_n C dX1_readHolds_20 rfl ?_
      refine f_geti C dX1_readHolds_21 zfRX1_94 hpv1 hkv1 rfl ?_
      obtain ⟨hi4, hF⟩ := bX_some hF
      obtain ⟨q4, eq4⟩ : ∃ q : Nat, q = Int32.toNatClampNeg (gI S1 v0 3) := ⟨_, rfl⟩
      rw [← eq4] at hF
      refine f_iast C dX1_readHolds_24 hp3 hk3 hi4 ?_
      rw [← eq4]
      have hT5 : zT0 kd N0 (sI S1 (gR S1 v0 2) q4 (gI S1 v1 8)) := zT0_sI hT1
      replace hF := fS_e hF
      generalize sI S1 (gR S1 v0 2) q4 (gI S1 v1 8) = S5 at hF hT5 ⊢
      refine z_aload_n C dX1_readHolds_25 rfl ?_
      obtain ⟨S6, h6, hF⟩ := bV_some hF
      refine f_cV (st2 := []) C dX1_readHolds_26 zyX8_advance zvX8_advance lkRX1_58 (K_X8_advance (l := zXl X) hT5 hpv1 hkv1 h6) hpv1 hkv1 rfl (by decide) rfl rfl (Nat.le_of_ble_eq_true rfl) rfl (fun hT6 => ?_)
      refine z_iconst (v := 1) C dX1_readHolds_29 (by decide) ?_
      obtain ⟨hz, hF⟩ := bZ_some hF
      cases hF
      exact z_zret C hr hz.1 dX1_readHolds_30 ⟨rfl, rfl, hT6⟩
    · replace hF := ip hF c2
      refine z_iconst (v := 0) C dX1_readHolds_10 (by decide) ?_
      obtain ⟨hz, hF⟩ := bZ_some hF
      cases hF
      exact z_zret C hr hz.1 dX1_readHolds_11 ⟨rfl, rfl, hT1⟩
theorem K_X1_readHolds {G : zG} {l : Launch} {kd : kD} {N0 f : Nat} {S : aS} {v0 : Nat} {v1 : Nat} {res : Option Value × aS} (hT : zT0 kd N0 S) (hpv0 : v0 < N0) (hkv0 : kd v0 = .inl 0) (hpv1 : v1 < N0) (hkv1 : kd v1 = .inl 7) (hF : F_X1_readHolds f 0 [.ref v0, .ref v1] S = some res) : zM G l 3 0 0 yX1_readHolds cX1_readHolds 2 (some .boolean) [.ref (zB G + v0), .ref (zB G + v1)] (cn G kd N0 S) (zPo G kd N0 res) := zM.of (by decide) rfl (Nat.le_of_ble_eq_true rfl) (fun X _ C hr _ => (B_X1_readHolds C hr f) S v0 v1 res hT hpv0 hkv0 hpv1 hkv1 hF)
def F_X6_readYards_0 (f : Nat) (rc : Nat → List Value → aS → aR) (v0 : Nat) (v1 : Nat) (S : aS) : aR :=
  bI (F_X8_isNumberWithin f 0 [.ref v1, .int 2, .int 8] S) fun x1 S1 => if x1 = (0 : Int32) then bZ 0 (some (some (.int 0), S1)) else fS (sI S1 v0 0 (gI S1 v1 8)) fun S3 => bV (F_X8_advance f 0 [.ref v1] S3) fun S4 => bZ 1 (some (some (.int 1), S4))
def F_X6_readYards : Nat → Nat → List Value → aS → aR
  | 0, _, _, _ => none
  | f + 1, 0, vs, S => F_X6_readYards_0 f (F_X6_readYards f) (vR vs 0) (vR vs 1) S
  | _ + 1, _, _, _ => none
theorem dX6_readYards_0 : decode cX6_readYards 0 = .ok (.aload_n 1, 1) := by decide +kernel
theorem dX6_readYards_1 : decode cX6_readYards 1 = .ok (.iconst 2, 1) := by decide +kernel
theorem dX6_readYards_2 : decode cX6_readYards 2 = .ok (.bipush 8, 2) := by decide +kernel
theorem dX6_readYards_4 : decode cX6_readYards 4 = .ok (.invokevirtual 175, 3) := by decide +kernel
theorem dX6_readYards_7 : decode cX6_readYards 7 = .ok (.ifCond .ne 5, 3) := by decide +kernel
theorem dX6_readYards_10 : decode cX6_readYards 10 = .ok (.iconst 0, 1) := by decide +kernel
theorem dX6_readYards_11 : decode cX6_readYards 11 = .ok (.ireturn, 1) := by decide +kernel
theorem dX6_readYards_12 : decode cX6_readYards 12 = .ok (.aload_n 0, 1) := by decide +kernel
theorem dX6_readYards_13 : decode cX6_readYards 13 = .ok (.aload_n 1, 1) := by decide +kernel
theorem dX6_readYards_14 : decode cX6_readYards 14 = .ok (.getfield 179, 3) := by decide +kernel
theorem dX6_readYards_17 : decode cX6_readYards 17 = .ok (.putfield 11, 3) := by decide +kernel
theorem dX6_readYards_20 : decode cX6_readYards 20 = .ok (.aload_n 1, 1) := by decide +kernel
theorem dX6_readYards_21 : decode cX6_readYards 21 = .ok (.invokevirtual 112, 3) := by decide +kernel
theorem dX6_readYards_24 : decode cX6_readYards 24 = .ok (.iconst 1, 1) := by decide +kernel
theorem dX6_readYards_25 : decode cX6_readYards 25 = .ok (.ireturn, 1) := by decide +kernel
set_option maxHeartbeats 4000000 in
set_option maxRecDepth 100000 in
theorem B_X6_readYards {G : zG} {X : zX} {kd : kD} {N0 : Nat} (C : zCt G X 3 0 0 RX6 cX6_readYards 2) (hr : (zXh X).sig.returnType = (some .boolean)) : ∀ f : Nat,
    (∀ (S : aS) (v0 : Nat) (v1 : Nat) (res : Option Value × aS), zT0 kd N0 S → v0 < N0 → kd v0 = .inl 5 → v1 < N0 → kd v1 = .inl 7 → F_X6_readYards f 0 [.ref v0, .ref v1] S = some res → zV G X (zQX G X (zPo G kd N0 res) 0 0) 2 [some (.ref (zB G + v0)), some (.ref (zB G + v1))] [] (cn G kd N0 S) 0 0 0) := by
  intro f
  induction f with
  | zero => exact (fun _ _ _ _ _ _ _ _ _ h => by cases h)
  | succ f ih =>
    have ih0 := ih
    intro S v0 v1 res hT hpv0 hkv0 hpv1 hkv1 hF
    replace hF : F_X6_readYards_0 f (F_X6_readYards f) v0 v1 S = some res := hF
    unfold F_X6_readYards_0 at hF
    refine z_aload_n C dX6_readYards_0 rfl ?_
    refine z_iconst (v := 2) C dX6_readYards_1 (by decide) ?_
    refine z_bipush (v := 8) C dX6_readYards_2 (by decide) ?_
    obtain ⟨x1, S1, h1, hF⟩ := bI_some hF
    refine f_cV (st2 := [.int x1]) C dX6_readYards_4 zyX8_isNumberWithin zvX8_isNumberWithin lkRX6_175 (K_X8_isNumberWithin (l := zXl X) hT hpv1 hkv1   h1) hpv1 hkv1 rfl (by decide) rfl rfl (Nat.le_of_ble_eq_true rfl) rfl (fun hT1 => ?_)
    refine z_if_ne C 12 dX6_readYards_7 (by decide) (fun c2 => ?_) (fun c2 => ?_)
    · replace hF := im hF c2
      refine z_aload_n C dX6_readYards_12 rfl ?_
      refine z_aload_n C dX6_readYards_13 rfl ?_
      refine f_geti C dX6_readYards_14 zfRX6_179 hpv1 hkv1 rfl ?_
      refine f_puti C dX6_readYards_17 zfRX6_11 fw5_0 hpv0 hkv0 rfl rfl rfl ?_
      have hT3 : zT0 kd N0 (sI S1 v0 0 (gI S1 v1 8)) := zT0_sI hT1
      replace hF := fS_e hF
      generalize sI S1 v0 0 (gI S1 v1 8) = S3 at hF hT3 ⊢
      refine z_aload_n C dX6_readYards_20 rfl ?_
      obtain ⟨S4, h4, hF⟩ := bV_some hF
      refine f_cV (st2 := []) C dX6_readYards_21 zyX8_advance zvX8_advance lkRX6_112 (K_X8_advance (l := zXl X) hT3 hpv1 hkv1 h4) hpv1 hkv1 rfl (by decide) rfl rfl (Nat.le_of_ble_eq_true rfl) rfl (fun hT4 => ?_)
      refine z_iconst (v := 1) C dX6_readYards_24 (by decide) ?_
      obtain ⟨hz, hF⟩ := bZ_some hF
      cases hF
      exact z_zret C hr hz.1 dX6_readYards_25 ⟨rfl, rfl, hT4⟩
    · replace hF := ip hF c2
      refine z_iconst (v := 0) C dX6_readYards_10 (by decide) ?_
      obtain ⟨hz, hF⟩ := bZ_some hF
      cases hF
      exact z_zret C hr hz.1 dX6_readYards_11 ⟨rfl, rfl, hT1⟩
theorem K_X6_readYards {G : zG} {l : Launch} {kd : kD} {N0 f : Nat} {S : aS} {v0 : Nat} {v1 : Nat} {res : Option Value × aS} (hT : zT0 kd N0 S) (hpv0 : v0 < N0) (hkv0 : kd v0 = .inl 5) (hpv1 : v1 < N0) (hkv1 : kd v1 = .inl 7) (hF : F_X6_readYards f 0 [.ref v0, .ref v1] S = some res) : zM G l 3 0 0 yX6_readYards cX6_readYards 2 (some .boolean) [.ref (zB G + v0), .ref (zB G + v1)] (cn G kd N0 S) (zPo G kd N0 res) := zM.of (by decide) rfl (Nat.le_of_ble_eq_true rfl) (fun X _ C hr _ => (B_X6_readYards C hr f) S v0 v1 res hT hpv0 hkv0 hpv1 hkv1 hF)
def F_X6_readPence_0 (f : Nat) (rc : Nat → List Value → aS → aR) (v0 : Nat) (v1 : Nat) (S : aS) : aR :=
  bI (F_X8_isNumberWithin f 0 [.ref v1, .int 0, .int 99] S) fun x1 S1 => if x1 = (0 : Int32) then bZ 0 (some (some (.int 0), S1)) else fS (sI S1 v0 10 (gI S1 v1 8)) fun S3 => bV (F_X8_advance f 0 [.ref v1] S3) fun S4 => bZ 1 (some (some (.int 1), S4))
def F_X6_readPence : Nat → Nat → List Value → aS → aR
  | 0, _, _, _ => none
  | f + 1, 0, vs, S => F_X6_readPence_0 f (F_X6_readPence f) (vR vs 0) (vR vs 1) S
  | _ + 1, _, _, _ => none
theorem dX6_readPence_0 : decode cX6_readPence 0 = .ok (.aload_n 1, 1) := by decide +kernel
theorem dX6_readPence_1 : decode cX6_readPence 1 = .ok (.iconst 0, 1) := by decide +kernel
theorem dX6_readPence_2 : decode cX6_readPence 2 = .ok (.bipush 99, 2) := by decide +kernel
theorem dX6_readPence_4 : decode cX6_readPence 4 = .ok (.invokevirtual 175, 3) := by decide +kernel
theorem dX6_readPence_7 : decode cX6_readPence 7 = .ok (.ifCond .ne 5, 3) := by decide +kernel
theorem dX6_readPence_10 : decode cX6_readPence 10 = .ok (.iconst 0, 1) := by decide +kernel
theorem dX6_readPence_11 : decode cX6_readPence 11 = .ok (.ireturn, 1) := by decide +kernel
theorem dX6_readPence_12 : decode cX6_readPence 12 = .ok (.aload_n 0, 1) := by decide +kernel
theorem dX6_readPence_13 : decode cX6_readPence 13 = .ok (.aload_n 1, 1) := by decide +kernel
theorem dX6_readPence_14 : decode cX6_readPence 14 = .ok (.getfield 179, 3) := by decide +kernel
theorem dX6_readPence_17 : decode cX6_readPence 17 = .ok (.putfield 38, 3) := by decide +kernel
theorem dX6_readPence_20 : decode cX6_readPence 20 = .ok (.aload_n 1, 1) := by decide +kernel
theorem dX6_readPence_21 : decode cX6_readPence 21 = .ok (.invokevirtual 112, 3) := by decide +kernel
theorem dX6_readPence_24 : decode cX6_readPence 24 = .ok (.iconst 1, 1) := by decide +kernel
theorem dX6_readPence_25 : decode cX6_readPence 25 = .ok (.ireturn, 1) := by decide +kernel
set_option maxHeartbeats 4000000 in
set_option maxRecDepth 100000 in
theorem B_X6_readPence {G : zG} {X : zX} {kd : kD} {N0 : Nat} (C : zCt G X 3 0 0 RX6 cX6_readPence 2) (hr : (zXh X).sig.returnType = (some .boolean)) : ∀ f : Nat,
    (∀ (S : aS) (v0 : Nat) (v1 : Nat) (res : Option Value × aS), zT0 kd N0 S → v0 < N0 → kd v0 = .inl 5 → v1 < N0 → kd v1 = .inl 7 → F_X6_readPence f 0 [.ref v0, .ref v1] S = some res → zV G X (zQX G X (zPo G kd N0 res) 0 0) 2 [some (.ref (zB G + v0)), some (.ref (zB G + v1))] [] (cn G kd N0 S) 0 0 0) := by
  intro f
  induction f with
  | zero => exact (fun _ _ _ _ _ _ _ _ _ h => by cases h)
  | succ f ih =>
    have ih0 := ih
    intro S v0 v1 res hT hpv0 hkv0 hpv1 hkv1 hF
    replace hF : F_X6_readPence_0 f (F_X6_readPence f) v0 v1 S = some res := hF
    unfold F_X6_readPence_0 at hF
    refine z_aload_n C dX6_readPence_0 rfl ?_
    refine z_iconst (v := 0) C dX6_readPence_1 (by decide) ?_
    refine z_bipush (v := 99) C dX6_readPence_2 (by decide) ?_
    obtain ⟨x1, S1, h1, hF⟩ := bI_some hF
    refine f_cV (st2 := [.int x1]) C dX6_readPence_4 zyX8_isNumberWithin zvX8_isNumberWithin lkRX6_175 (K_X8_isNumberWithin (l := zXl X) hT hpv1 hkv1   h1) hpv1 hkv1 rfl (by decide) rfl rfl (Nat.le_of_ble_eq_true rfl) rfl (fun hT1 => ?_)
    refine z_if_ne C 12 dX6_readPence_7 (by decide) (fun c2 => ?_) (fun c2 => ?_)
    · replace hF := im hF c2
      refine z_aload_n C dX6_readPence_12 rfl ?_
      refine z_aload_n C dX6_readPence_13 rfl ?_
      refine f_geti C dX6_readPence_14 zfRX6_179 hpv1 hkv1 rfl ?_
      refine f_puti C dX6_readPence_17 zfRX6_38 fw5_10 hpv0 hkv0 rfl rfl rfl ?_
      have hT3 : zT0 kd N0 (sI S1 v0 10 (gI S1 v1 8)) := zT0_sI hT1
      replace hF := fS_e hF
      generalize sI S1 v0 10 (gI S1 v1 8) = S3 at hF hT3 ⊢
      refine z_aload_n C dX6_readPence_20 rfl ?_
      obtain ⟨S4, h4, hF⟩ := bV_some hF
      refine f_cV (st2 := []) C dX6_readPence_21 zyX8_advance zvX8_advance lkRX6_112 (K_X8_advance (l := zXl X) hT3 hpv1 hkv1 h4) hpv1 hkv1 rfl (by decide) rfl rfl (Nat.le_of_ble_eq_true rfl) rfl (fun hT4 => ?_)
      refine z_iconst (v := 1) C dX6_readPence_24 (by decide) ?_
      obtain ⟨hz, hF⟩ := bZ_some hF
      cases hF
      exact z_zret C hr hz.1 dX6_readPence_25 ⟨rfl, rfl, hT4⟩
    · replace hF := ip hF c2
      refine z_iconst (v := 0) C dX6_readPence_10 (by decide) ?_
      obtain ⟨hz, hF⟩ := bZ_some hF
      cases hF
      exact z_zret C hr hz.1 dX6_readPence_11 ⟨rfl, rfl, hT1⟩
theorem K_X6_readPence {G : zG} {l : Launch} {kd : kD} {N0 f : Nat} {S : aS} {v0 : Nat} {v1 : Nat} {res : Option Value × aS} (hT : zT0 kd N0 S) (hpv0 : v0 < N0) (hkv0 : kd v0 = .inl 5) (hpv1 : v1 < N0) (hkv1 : kd v1 = .inl 7) (hF : F_X6_readPence f 0 [.ref v0, .ref v1] S = some res) : zM G l 3 0 0 yX6_readPence cX6_readPence 2 (some .boolean) [.ref (zB G + v0), .ref (zB G + v1)] (cn G kd N0 S) (zPo G kd N0 res) := zM.of (by decide) rfl (Nat.le_of_ble_eq_true rfl) (fun X _ C hr _ => (B_X6_readPence C hr f) S v0 v1 res hT hpv0 hkv0 hpv1 hkv1 hF)
def F_X6_readDeposit_0 (f : Nat) (rc : Nat → List Value → aS → aR) (v0 : Nat) (v1 : Nat) (S : aS) : aR :=
  bI (F_X8_isNumberWithin f 0 [.ref v1, .int 0, .int 9] S) fun x1 S1 => if x1 = (0 : Int32) then bZ 0 (some (some (.int 0), S1)) else fS (sI S1 v0 11 (gI S1 v1 8)) fun S3 => bV (F_X8_advance f 0 [.ref v1] S3) fun S4 => bZ 1 (some (some (.int 1), S4))
def F_X6_readDeposit : Nat → Nat → List Value → aS → aR
  | 0, _, _, _ => none
  | f + 1, 0, vs, S => F_X6_readDeposit_0 f (F_X6_readDeposit f) (vR vs 0) (vR vs 1) S
  | _ + 1, _, _, _ => none
theorem dX6_readDeposit_0 : decode cX6_readDeposit 0 = .ok (.aload_n 1, 1) := by decide +kernel
theorem dX6_readDeposit_1 : decode cX6_readDeposit 1 = .ok (.iconst 0, 1) := by decide +kernel
theorem dX6_readDeposit_2 : decode cX6_readDeposit 2 = .ok (.bipush 9, 2) := by decide +kernel
theorem dX6_readDeposit_4 : decode cX6_readDeposit 4 = .ok (.invokevirtual 175, 3) := by decide +kernel
theorem dX6_readDeposit_7 : decode cX6_readDeposit 7 = .ok (.ifCond .ne 5, 3) := by decide +kernel
theorem dX6_readDeposit_10 : decode cX6_readDeposit 10 = .ok (.iconst 0, 1) := by decide +kernel
theorem dX6_readDeposit_11 : decode cX6_readDeposit 11 = .ok (.ireturn, 1) := by decide +kernel
theorem dX6_readDeposit_12 : decode cX6_readDeposit 12 = .ok (.aload_n 0, 1) := by decide +kernel
theorem dX6_readDeposit_13 : decode cX6_readDeposit 13 = .ok (.aload_n 1, 1) := by decide +kernel
theorem dX6_readDeposit_14 : decode cX6_readDeposit 14 = .ok (.getfield 179, 3) := by decide +kernel
theorem dX6_readDeposit_17 : decode cX6_readDeposit 17 = .ok (.putfield 57, 3) := by decide +kernel
theorem dX6_readDeposit_20 : decode cX6_readDeposit 20 = .ok (.aload_n 1, 1) := by decide +kernel
theorem dX6_readDeposit_21 : decode cX6_readDeposit 21 = .ok (.invokevirtual 112, 3) := by decide +kernel
theorem dX6_readDeposit_24 : decode cX6_readDeposit 24 = .ok (.iconst 1, 1) := by decide +kernel
theorem dX6_readDeposit_25 : decode cX6_readDeposit 25 = .ok (.ireturn, 1) := by decide +kernel
set_option maxHeartbeats 4000000 in
set_option maxRecDepth 100000 in
theorem B_X6_readDeposit {G : zG} {X : zX} {kd : kD} {N0 : Nat} (C : zCt G X 3 0 0 RX6 cX6_readDeposit 2) (hr : (zXh X).sig.returnType = (some .boolean)) : ∀ f : Nat,
    (∀ (S : aS) (v0 : Nat) (v1 : Nat) (res : Option Value × aS), zT0 kd N0 S → v0 < N0 → kd v0 = .inl 5 → v1 < N0 → kd v1 = .inl 7 → F_X6_readDeposit f 0 [.ref v0, .ref v1] S = some res → zV G X (zQX G X (zPo G kd N0 res) 0 0) 2 [some (.ref (zB G + v0)), some (.ref (zB G + v1))] [] (cn G kd N0 S) 0 0 0) := by
  intro f
  induction f with
  | zero => exact (fun _ _ _ _ _ _ _ _ _ h => by cases h)
  | succ f ih =>
    have ih0 := ih
    intro S v0 v1 res hT hpv0 hkv0 hpv1 hkv1 hF
    replace hF : F_X6_readDeposit_0 f (F_X6_readDeposit f) v0 v1 S = some res := hF
    unfold F_X6_readDeposit_0 at hF
    refine z_aload_n C dX6_readDeposit_0 rfl ?_
    refine z_iconst (v := 0) C dX6_readDeposit_1 (by decide) ?_
    refine z_bipush (v := 9) C dX6_readDeposit_2 (by decide) ?_
    obtain ⟨x1, S1, h1, hF⟩ := bI_some hF
    refine f_cV (st2 := [.int x1]) C dX6_readDeposit_4 zyX8_isNumberWithin zvX8_isNumberWithin lkRX6_175 (K_X8_isNumberWithin (l := zXl X) hT hpv1 hkv1   h1) hpv1 hkv1 rfl (by decide) rfl rfl (Nat.le_of_ble_eq_true rfl) rfl (fun hT1 => ?_)
    refine z_if_ne C 12 dX6_readDeposit_7 (by decide) (fun c2 => ?_) (fun c2 => ?_)
    · replace hF := im hF c2
      refine z_aload_n C dX6_readDeposit_12 rfl ?_
      refine z_aload_n C dX6_readDeposit_13 rfl ?_
      refine f_geti C dX6_readDeposit_14 zfRX6_179 hpv1 hkv1 rfl ?_
      refine f_puti C dX6_readDeposit_17 zfRX6_57 fw5_11 hpv0 hkv0 rfl rfl rfl ?_
      have hT3 : zT0 kd N0 (sI S1 v0 11 (gI S1 v1 8)) := zT0_sI hT1
      replace hF := fS_e hF
      generalize sI S1 v0 11 (gI S1 v1 8) = S3 at hF hT3 ⊢
      refine z_aload_n C dX6_readDeposit_20 rfl ?_
      obtain ⟨S4, h4, hF⟩ := bV_some hF
      refine f_cV (st2 := []) C dX6_readDeposit_21 zyX8_advance zvX8_advance lkRX6_112 (K_X8_advance (l := zXl X) hT3 hpv1 hkv1 h4) hpv1 hkv1 rfl (by decide) rfl rfl (Nat.le_of_ble_eq_true rfl) rfl (fun hT4 => ?_)
      refine z_iconst (v := 1) C dX6_readDeposit_24 (by decide) ?_
      obtain ⟨hz, hF⟩ := bZ_some hF
      cases hF
      exact z_zret C hr hz.1 dX6_readDeposit_25 ⟨rfl, rfl, hT4⟩
    · replace hF := ip hF c2
      refine z_iconst (v := 0) C dX6_readDeposit_10 (by decide) ?_
      obtain ⟨hz, hF⟩ := bZ_some hF
      cases hF
      exact z_zret C hr hz.1 dX6_readDeposit_11 ⟨rfl, rfl, hT1⟩
theorem K_X6_readDeposit {G : zG} {l : Launch} {kd : kD} {N0 f : Nat} {S : aS} {v0 : Nat} {v1 : Nat} {res : Option Value × aS} (hT : zT0 kd N0 S) (hpv0 : v0 < N0) (hkv0 : kd v0 = .inl 5) (hpv1 : v1 < N0) (hkv1 : kd v1 = .inl 7) (hF : F_X6_readDeposit f 0 [.ref v0, .ref v1] S = some res) : zM G l 3 0 0 yX6_readDeposit cX6_readDeposit 2 (some .boolean) [.ref (zB G + v0), .ref (zB G + v1)] (cn G kd N0 S) (zPo G kd N0 res) := zM.of (by decide) rfl (Nat.le_of_ble_eq_true rfl) (fun X _ C hr _ => (B_X6_readDeposit C hr f) S v0 v1 res hT hpv0 hkv0 hpv1 hkv1 hF)
def F_X6_readPerson_0 (f : Nat) (rc : Nat → List Value → aS → aR) (v0 : Nat) (v1 : Nat) (S : aS) : aR :=
  bI (F_X8_isNameToken f 0 [.ref v1] S) fun x1 S1 => if x1 = (0 : Int32) then bZ 0 (some (some (.int 0), S1)) else bI (F_X6_numberOf f 0 [.ref v0, .long (gJ S1 v1 7)] S1) fun x3 S3 => if x3 = (-1 : Int32) then bX (gI S3 v0 1) 6 fun q6 => fS (sJ S3 (gR S3 v0 2) q6 (gJ S3 v1 7)) fun S7 => bV (F_X8_advance f 0 [.ref v1] S7) fun S8 => bI (F_X6_isKind f 0 [.ref (gR S8 v1 6)] S8) fun x10 S10 => if x10 = (0 : Int32) then bI (F_X8_fail f 0 [.ref v1, .int 1] S10) fun x34 S34 => bZ x34 (some (some (.int x34), S34)) else bX (gI S10 v0 1) 6 fun q14 => fS (sI S10 (gR S10 v0 3) q14 (zval (gR S10 v1 6))) fun S15 => bV (F_X8_advance f 0 [.ref v1] S15) fun S16 => bI (F_X8_pass f 0 [.ref v1, .ref 9] S16) fun x17 S17 => if x17 = (0 : Int32) then rc 1 [] S17 else bI (F_X8_isNumberWithin f 0 [.ref v1, .int 0, .int 9] S17) fun x19 S19 => if x19 = (0 : Int32) then rc 1 [] S19 else bX (gI S19 v0 1) 6 fun q22 => fS (sI S19 (gR S19 v0 4) q22 (gI S19 v1 8)) fun S23 => bV (F_X8_advance f 0 [.ref v1] S23) fun S24 => bI (F_X8_pass f 0 [.ref v1, .ref 10] S24) fun x25 S25 => if x25 = (0 : Int32) then rc 2 [] S25 else bI (F_X8_isNumberWithin f 0 [.ref v1, .int 0, .int 9] S25) fun x27 S27 => if x27 = (0 : Int32) then rc 2 [] S27 else bX (gI S27 v0 1) 6 fun q30 => fS (sI S27 (gR S27 v0 5) q30 (gI S27 v1 8)) fun S31 => bV (F_X8_advance f 0 [.ref v1] S31) fun S32 => fS (sI S32 v0 1 ((gI S32 v0 1) + (1 : Int32))) fun S33 => bZ 1 (some (some (.int 1), S33)) else bI (F_X8_fail f 0 [.ref v1, .int 3] S3) fun x35 S35 => bZ x35 (some (some (.int x35), S35))
def F_X6_readPerson_1 (f : Nat) (rc : Nat → List Value → aS → aR)  (S : aS) : aR :=
  bZ 0 (some (some (.int 0), S))
def F_X6_readPerson_2 (f : Nat) (rc : Nat → List Value → aS → aR)  (S : aS) : aR :=
  bZ 0 (some (some (.int 0), S))
def F_X6_readPerson : Nat → Nat → List Value → aS → aR
  | 0, _, _, _ => none
  | f + 1, 0, vs, S => F_X6_readPerson_0 f (F_X6_readPerson f) (vR vs 0) (vR vs 1) S
  | f + 1, 1, vs, S => F_X6_readPerson_1 f (F_X6_readPerson f)  S
  | f + 1, 2, vs, S => F_X6_readPerson_2 f (F_X6_readPerson f)  S
  | _ + 1, _, _, _ => none
theorem dX6_readPerson_0 : decode cX6_readPerson 0 = .ok (.aload_n 1, 1) := by decide +kernel
theorem dX6_readPerson_1 : decode cX6_readPerson 1 = .ok (.invokevirtual 182, 3) := by decide +kernel
theorem dX6_readPerson_4 : decode cX6_readPerson 4 = .ok (.ifCond .ne 5, 3) := by decide +kernel
theorem dX6_readPerson_7 : decode cX6_readPerson 7 = .ok (.iconst 0, 1) := by decide +kernel
theorem dX6_readPerson_8 : decode cX6_readPerson 8 = .ok (.ireturn, 1) := by decide +kernel
theorem dX6_readPerson_9 : decode cX6_readPerson 9 = .ok (.aload_n 0, 1) := by decide +kernel
theorem dX6_readPerson_10 : decode cX6_readPerson 10 = .ok (.aload_n 1, 1) := by decide +kernel
theorem dX6_readPerson_11 : decode cX6_readPerson 11 = .ok (.getfield 185, 3) := by decide +kernel
theorem dX6_readPerson_14 : decode cX6_readPerson 14 = .ok (.invokevirtual 189, 3) := by decide +kernel
theorem dX6_readPerson_17 : decode cX6_readPerson 17 = .ok (.iconst (-1), 1) := by decide +kernel
theorem dX6_readPerson_18 : decode cX6_readPerson 18 = .ok (.if_icmp .eq 9, 3) := by decide +kernel
theorem dX6_readPerson_21 : decode cX6_readPerson 21 = .ok (.aload_n 1, 1) := by decide +kernel
theorem dX6_readPerson_22 : decode cX6_readPerson 22 = .ok (.iconst 3, 1) := by decide +kernel
theorem dX6_readPerson_23 : decode cX6_readPerson 23 = .ok (.invokevirtual 99, 3) := by decide +kernel
theorem dX6_readPerson_26 : decode cX6_readPerson 26 = .ok (.ireturn, 1) := by decide +kernel
theorem dX6_readPerson_27 : decode cX6_readPerson 27 = .ok (.aload_n 0, 1) := by decide +kernel
theorem dX6_readPerson_28 : decode cX6_readPerson 28 = .ok (.getfield 15, 3) := by decide +kernel
theorem dX6_readPerson_31 : decode cX6_readPerson 31 = .ok (.aload_n 0, 1) := by decide +kernel
theorem dX6_readPerson_32 : decode cX6_readPerson 32 = .ok (.getfield 51, 3) := by decide +kernel
theorem dX6_readPerson_35 : decode cX6_readPerson 35 = .ok (.aload_n 1, 1) := by decide +kernel
theorem dX6_readPerson_36 : decode cX6_readPerson 36 = .ok (.getfield 185, 3) := by decide +kernel
theorem dX6_readPerson_39 : decode cX6_readPerson 39 = .ok (.lastore, 1) := by decide +kernel
theorem dX6_readPerson_40 : decode cX6_readPerson 40 = .ok (.aload_n 1, 1) := by decide +kernel
theorem dX6_readPerson_41 : decode cX6_readPerson 41 = .ok (.invokevirtual 112, 3) := by decide +kernel
theorem dX6_readPerson_44 : decode cX6_readPerson 44 = .ok (.aload_n 1, 1) := by decide +kernel
theorem dX6_readPerson_45 : decode cX6_readPerson 45 = .ok (.getfield 86, 3) := by decide +kernel
theorem dX6_readPerson_48 : decode cX6_readPerson 48 = .ok (.invokestatic 193, 3) := by decide +kernel
theorem dX6_readPerson_51 : decode cX6_readPerson 51 = .ok (.ifCond .ne 9, 3) := by decide +kernel
theorem dX6_readPerson_54 : decode cX6_readPerson 54 = .ok (.aload_n 1, 1) := by decide +kernel
theorem dX6_readPerson_55 : decode cX6_readPerson 55 = .ok (.iconst 1, 1) := by decide +kernel
theorem dX6_readPerson_56 : decode cX6_readPerson 56 = .ok (.invokevirtual 99, 3) := by decide +kernel
theorem dX6_readPerson_59 : decode cX6_readPerson 59 = .ok (.ireturn, 1) := by decide +kernel
theorem dX6_readPerson_60 : decode cX6_readPerson 60 = .ok (.aload_n 0, 1) := by decide +kernel
theorem dX6_readPerson_61 : decode cX6_readPerson 61 = .ok (.getfield 19, 3) := by decide +kernel
theorem dX6_readPerson_64 : decode cX6_readPerson 64 = .ok (.aload_n 0, 1) := by decide +kernel
theorem dX6_readPerson_65 : decode cX6_readPerson 65 = .ok (.getfield 51, 3) := by decide +kernel
theorem dX6_readPerson_68 : decode cX6_readPerson 68 = .ok (.aload_n 1, 1) := by decide +kernel
theorem dX6_readPerson_69 : decode cX6_readPerson 69 = .ok (.getfield 86, 3) := by decide +kernel
theorem dX6_readPerson_72 : decode cX6_readPerson 72 = .ok (.getfield 94, 3) := by decide +kernel
theorem dX6_readPerson_75 : decode cX6_readPerson 75 = .ok (.iastore, 1) := by decide +kernel
theorem dX6_readPerson_76 : decode cX6_readPerson 76 = .ok (.aload_n 1, 1) := by decide +kernel
theorem dX6_readPerson_77 : decode cX6_readPerson 77 = .ok (.invokevirtual 112, 3) := by decide +kernel
theorem dX6_readPerson_80 : decode cX6_readPerson 80 = .ok (.aload_n 1, 1) := by decide +kernel
theorem dX6_readPerson_81 : decode cX6_readPerson 81 = .ok (.getstatic 196, 3) := by decide +kernel
theorem dX6_readPerson_84 : decode cX6_readPerson 84 = .ok (.invokevirtual 199, 3) := by decide +kernel
theorem dX6_readPerson_87 : decode cX6_readPerson 87 = .ok (.ifCond .eq 13, 3) := by decide +kernel
theorem dX6_readPerson_90 : decode cX6_readPerson 90 = .ok (.aload_n 1, 1) := by decide +kernel
theorem dX6_readPerson_91 : decode cX6_readPerson 91 = .ok (.iconst 0, 1) := by decide +kernel
theorem dX6_readPerson_92 : decode cX6_readPerson 92 = .ok (.bipush 9, 2) := by decide +kernel
theorem dX6_readPerson_94 : decode cX6_readPerson 94 = .ok (.invokevirtual 175, 3) := by decide +kernel
theorem dX6_readPerson_97 : decode cX6_readPerson 97 = .ok (.ifCond .ne 5, 3) := by decide +kernel
theorem dX6_readPerson_100 : decode cX6_readPerson 100 = .ok (.iconst 0, 1) := by decide +kernel
theorem dX6_readPerson_101 : decode cX6_readPerson 101 = .ok (.ireturn, 1) := by decide +kernel
theorem dX6_readPerson_102 : decode cX6_readPerson 102 = .ok (.aload_n 0, 1) := by decide +kernel
theorem dX6_readPerson_103 : decode cX6_readPerson 103 = .ok (.getfield 23, 3) := by decide +kernel
theorem dX6_readPerson_106 : decode cX6_readPerson 106 = .ok (.aload_n 0, 1) := by decide +kernel
theorem dX6_readPerson_107 : decode cX6_readPerson 107 = .ok (.getfield 51, 3) := by decide +kernel
theorem dX6_readPerson_110 : decode cX6_readPerson 110 = .ok (.aload_n 1, 1) := by decide +kernel
theorem dX6_readPerson_111 : decode cX6_readPerson 111 = .ok (.getfield 179, 3) := by decide +kernel
theorem dX6_readPerson_114 : decode cX6_readPerson 114 = .ok (.iastore, 1) := by decide +kernel
theorem dX6_readPerson_115 : decode cX6_readPerson 115 = .ok (.aload_n 1, 1) := by decide +kernel
theorem dX6_readPerson_116 : decode cX6_readPerson 116 = .ok (.invokevirtual 112, 3) := by decide +kernel
theorem dX6_readPerson_119 : decode cX6_readPerson 119 = .ok (.aload_n 1, 1) := by decide +kernel
theorem dX6_readPerson_120 : decode cX6_readPerson 120 = .ok (.getstatic 201, 3) := by decide +kernel
theorem dX6_readPerson_123 : decode cX6_readPerson 123 = .ok (.invokevirtual 199, 3) := by decide +kernel
theorem dX6_readPerson_126 : decode cX6_readPerson 126 = .ok (.ifCond .eq 13, 3) := by decide +kernel
theorem dX6_readPerson_129 : decode cX6_readPerson 129 = .ok (.aload_n 1, 1) := by decide +kernel
theorem dX6_readPerson_130 : decode cX6_readPerson 130 = .ok (.iconst 0, 1) := by decide +kernel
theorem dX6_readPerson_131 : decode cX6_readPerson 131 = .ok (.bipush 9, 2) := by decide +kernel
theorem dX6_readPerson_133 : decode cX6_readPerson 133 = .ok (.invokevirtual 175, 3) := by decide +kernel
theorem dX6_readPerson_136 : decode cX6_readPerson 136 = .ok (.ifCond .ne 5, 3) := by decide +kernel
theorem dX6_readPerson_139 : decode cX6_readPerson 139 = .ok (.iconst 0, 1) := by decide +kernel
theorem dX6_readPerson_140 : decode cX6_readPerson 140 = .ok (.ireturn, 1) := by decide +kernel
theorem dX6_readPerson_141 : decode cX6_readPerson 141 = .ok (.aload_n 0, 1) := by decide +kernel
theorem dX6_readPerson_142 : decode cX6_readPerson 142 = .ok (.getfield 26, 3) := by decide +kernel
theorem dX6_readPerson_145 : decode cX6_readPerson 145 = .ok (.aload_n 0, 1) := by decide +kernel
theorem dX6_readPerson_146 : decode cX6_readPerson 146 = .ok (.getfield 51, 3) := by decide +kernel
theorem dX6_readPerson_149 : decode cX6_readPerson 149 = .ok (.aload_n 1, 1) := by decide +kernel
theorem dX6_readPerson_150 : decode cX6_readPerson 150 = .ok (.getfield 179, 3) := by decide +kernel
theorem dX6_readPerson_153 : decode cX6_readPerson 153 = .ok (.iastore, 1) := by decide +kernel
theorem dX6_readPerson_154 : decode cX6_readPerson 154 = .ok (.aload_n 1, 1) := by decide +kernel
theorem dX6_readPerson_155 : decode cX6_readPerson 155 = .ok (.invokevirtual 112, 3) := by decide +kernel
theorem dX6_readPerson_158 : decode cX6_readPerson 158 = .ok (.aload_n 0, 1) := by decide +kernel
theorem dX6_readPerson_159 : decode cX6_readPerson 159 = .ok (.dup, 1) := by decide +kernel
theorem dX6_readPerson_160 : decode cX6_readPerson 160 = .ok (.getfield 51, 3) := by decide +kernel
theorem dX6_readPerson_163 : decode cX6_readPerson 163 = .ok (.iconst 1, 1) := by decide +kernel
theorem dX6_readPerson_164 : decode cX6_readPerson 164 = .ok (.iadd, 1) := by decide +kernel
theorem dX6_readPerson_165 : decode cX6_readPerson 165 = .ok (.putfield 51, 3) := by decide +kernel
theorem dX6_readPerson_168 : decode cX6_readPerson 168 = .ok (.iconst 1, 1) := by decide +kernel
theorem dX6_readPerson_169 : decode cX6_readPerson 169 = .ok (.ireturn, 1) := by decide +kernel
set_option maxHeartbeats 4000000 in
set_option maxRecDepth 100000 in
theorem B_X6_readPerson {G : zG} {X : zX} {kd : kD} {N0 : Nat} (C : zCt G X 4 0 0 RX6 cX6_readPerson 2) (hr : (zXh X).sig.returnType = (some .boolean)) : ∀ f : Nat,
    (∀ (S : aS) (v0 : Nat) (v1 : Nat) (res : Option Value × aS), zT0 kd N0 S → v0 < N0 → kd v0 = .inl 5 → v1 < N0 → kd v1 = .inl 7 → F_X6_readPerson f 0 [.ref v0, .ref v1] S = some res → zV G X (zQX G X (zPo G kd N0 res) 0 0) 2 [some (.ref (zB G + v0)), some (.ref (zB G + v1))] [] (cn G kd N0 S) 0 0 0) ∧
    (∀ (S : aS)  (res : Option Value × aS), zT0 kd N0 S → F_X6_readPerson f 1 [] S = some res → zV G X (zQX G X (zPo G kd N0 res) 0 0) 2 [none, none] [] (cn G kd N0 S) 100 0 0) ∧
    (∀ (S : aS)  (res : Option Value × aS), zT0 kd N0 S → F_X6_readPerson f 2 [] S = some res → zV G X (zQX G X (zPo G kd N0 res) 0 0) 2 [none, none] [] (cn G kd N0 S) 139 0 0) := by
  intro f
  induction f with
  | zero => exact ⟨(fun _ _ _ _ _ _ _ _ _ h => by cases h), (fun _ _ _ h => by cases h), (fun _ _ _ h => by cases h)⟩
  | succ f ih =>
    obtain ⟨ih0, ih1, ih2⟩ := ih
    refine ⟨?_, ?_, ?_⟩
    · intro S v0 v1 res hT hpv0 hkv0 hpv1 hkv1 hF
      replace hF : F_X6_readPerson_0 f (F_X6_readPerson f) v0 v1 S = some res := hF
      unfold F_X6_readPerson_0 at hF
      refine z_aload_n C dX6_readPerson_0 rfl ?_
      obtain ⟨x1, S1, h1, hF⟩ := bI_some hF
      refine f_cV (st2 := [.int x1]) C dX6_readPerson_1 zyX8_isNameToken zvX8_isNameToken lkRX6_182 (K_X8_isNameToken (l := zXl X) hT hpv1 hkv1 h1) hpv1 hkv1 rfl (by decide) rfl rfl (Nat.le_of_ble_eq_true rfl) rfl (fun hT1 => ?_)
      refine z_if_ne C 9 dX6_readPerson_4 (by decide) (fun c2 => ?_) (fun c2 => ?_)
      · replace hF := im hF c2
        refine z_aload_n C dX6_readPerson_9 rfl ?_
        refine z_aload_n C dX6_readPerson_10 rfl ?_
        refine f_getj C dX6_readPerson_11 zfRX6_185 hpv1 hkv1 rfl ?_
        obtain ⟨x3, S3, h3, hF⟩ := bI_some hF
        refine f_cV (st2 := [.int x3]) C dX6_readPerson_14 zyX6_numberOf zvX6_numberOf lkRX6_189 (K_X6_numberOf (l := zXl X) hT1 hpv0 hkv0  h3) hpv0 hkv0 rfl (by decide) rfl rfl (Nat.le_of_ble_eq_true rfl) rfl (fun hT3 => ?_)
        refine z_iconst (v := (-1)) C dX6_readPerson_17 (by decide) ?_
        refine z_icmp_eq C 27 dX6_readPerson_18 (by decide) (fun c4 => ?_) (fun c4 => ?_)
        · replace hF := ip hF c4
          refine z_aload_n C dX6_readPerson_27 rfl ?_
          refine f_getr C dX6_readPerson_28 zfRX6_15 hpv0 hkv0 rfl ?_
          obtain ⟨hp5, hk5⟩ := hT3.1 v0 5 2 (.inr (1, 6)) hpv0 hkv0 rfl
          refine z_aload_n C dX6_readPerson_31 rfl ?_
          refine f_geti C dX6_readPerson_32 zfRX6_51 hpv0 hkv0 rfl ?_
          refine z_aload_n C dX6_readPerson_35 rfl ?_
          refine f_getj C dX6_readPerson_36 zfRX6_185 hpv1 hkv1 rfl ?_
          obtain ⟨hi6, hF⟩ := bX_some hF
          obtain ⟨q6, eq6⟩ : ∃ q : Nat, q = Int32.toNatClampNeg (gI S3 v0 1) := ⟨_, rfl⟩
          rw [← eq6] at hF
          refine f_last C dX6_readPerson_39 hp5 hk5 hi6 ?_
          rw [← eq6]
          have hT7 : zT0 kd N0 (sJ S3 (gR S3 v0 2) q6 (gJ S3 v1 7)) := zT0_sJ hT3
          replace hF := fS_e hF
          generalize sJ S3 (gR S3 v0 2) q6 (gJ S3 v1 7) = S7 at hF hT7 ⊢
          refine z_aload_n C dX6_readPerson_40 rfl ?_
          obtain ⟨S8, h8, hF⟩ := bV_some hF
          refine f_cV (st2 := []) C dX6_readPerson_41 zyX8_advance zvX8_advance lkRX6_112 (K_X8_advance (l := zXl X) hT7 hpv1 hkv1 h8) hpv1 hkv1 rfl (by decide) rfl rfl (Nat.le_of_ble_eq_true rfl) rfl (fun hT8 => ?_)
          refine z_aload_n C dX6_readPerson_44 rfl ?_
          refine f_getw C dX6_readPerson_45 zfRX6_86 hpv1 hkv1 rfl ?_
          have hw9 := hT8.2.2 v1 hpv1 hkv1
          obtain ⟨x10, S10, h10, hF⟩ := bI_some hF
          refine f_cS (st2 := [.int x10]) C dX6_readPerson_48 zyX6_isKind zsX6_isKind lkRX6_193 (K_X6_isKind (l := zXl X) hT8 hw9 h10) (by decide) rfl rfl (Nat.le_of_ble_eq_true rfl) rfl (fun hT10 => ?_)
          refine z_if_ne C 60 dX6_readPerson_51 (by decide) (fun c11 => ?_) (fun c11 => ?_)
          · replace hF := im hF c11
            refine z_aload_n C dX6_readPerson_60 rfl ?_
            refine f_getr C dX6_readPerson_61 zfRX6_19 hpv0 hkv0 rfl ?_
            obtain ⟨hp12, hk12⟩ := hT10.1 v0 5 3 (.inr (0, 6)) hpv0 hkv0 rfl
            refine z_aload_n C dX6_readPerson_64 rfl ?_
            refine f_geti C dX6_readPerson_65 zfRX6_51 hpv0 hkv0 rfl ?_
            refine z_aload_n C dX6_readPerson_68 rfl ?_
            refine f_getw C dX6_readPerson_69 zfRX6_86 hpv1 hkv1 rfl ?_
            have hw13 := hT10.2.2 v1 hpv1 hkv1
            refine f_getK C dX6_readPerson_72 fkRX6_94 (C.2.2.2.2.2.1.2.2.1 (gR S10 v1 6) hw13).2.2.2.1 ?_
            obtain ⟨hi14, hF⟩ := bX_some hF
            obtain ⟨q14, eq14⟩ : ∃ q : Nat, q = Int32.toNatClampNeg (gI S10 v0 1) := ⟨_, rfl⟩
            rw [← eq14] at hF
            refine f_iast C dX6_readPerson_75 hp12 hk12 hi14 ?_
            rw [← eq14]
            have hT15 : zT0 kd N0 (sI S10 (gR S10 v0 3) q14 (zval (gR S10 v1 6))) := zT0_sI hT10
            replace hF := fS_e hF
            generalize sI S10 (gR S10 v0 3) q14 (zval (gR S10 v1 6)) = S15 at hF hT15 ⊢
            refine z_aload_n C dX6_readPerson_76 rfl ?_
            obtain ⟨S16, h16, hF⟩ := bV_some hF
            refine f_cV (st2 := []) C dX6_readPerson_77 zyX8_advance zvX8_advance lkRX6_112 (K_X8_advance (l := zXl X) hT15 hpv1 hkv1 h16) hpv1 hkv1 rfl (by decide) rfl rfl (Nat.le_of_ble_eq_true rfl) rfl (fun hT16 => ?_)
            refine z_aload_n C dX6_readPerson_80 rfl ?_
            refine f_gets C dX6_readPerson_81 fkRX6_196 (C.2.2.2.2.2.1.2.2.1 9 (by decide)).1 ?_
            obtain ⟨x17, S17, h17, hF⟩ := bI_some hF
            refine f_cV (st2 := [.int x17]) C dX6_readPerson_84 zyX8_pass zvX8_pass lkRX6_199 (K_X8_pass (l := zXl X) hT16 hpv1 hkv1 (by decide) h17) hpv1 hkv1 rfl (by decide) rfl rfl (Nat.le_of_ble_eq_true rfl) rfl (fun hT17 => ?_)
            refine z_if_eq C 100 dX6_readPerson_87 (by decide) (fun c18 => ?_) (fun c18 => ?_)
            · replace hF := ip hF c18
              refine z_mask [false, false] ?_ rfl
              exact ih1 S17  res hT17  hF
            · replace hF := im hF c18
              refine z_aload_n C dX6_readPerson_90 rfl ?_
              refine z_iconst (v := 0) C dX6_readPerson_91 (by decide) ?_
              refine z_bipush (v := 9) C dX6_readPerson_92 (by decide) ?_
              obtain ⟨x19, S19, h19, hF⟩ := bI_some hF
              refine f_cV (st2 := [.int x19]) C dX6_readPerson_94 zyX8_isNumberWithin zvX8_isNumberWithin lkRX6_175 (K_X8_isNumberWithin (l := zXl X) hT17 hpv1 hkv1   h19) hpv1 hkv1 rfl (by decide) rfl rfl (Nat.le_of_ble_eq_true rfl) rfl (fun hT19 => ?_)
              refine z_if_ne C 102 dX6_readPerson_97 (by decide) (fun c20 => ?_) (fun c20 => ?_)
              · replace hF := im hF c20
                refine z_aload_n C dX6_readPerson_102 rfl ?_
                refine f_getr C dX6_readPerson_103 zfRX6_23 hpv0 hkv0 rfl ?_
                obtain ⟨hp21, hk21⟩ := hT19.1 v0 5 4 (.inr (0, 6)) hpv0 hkv0 rfl
                refine z_aload_n C dX6_readPerson_106 rfl ?_
                refine f_geti C dX6_readPerson_107 zfRX6_51 hpv0 hkv0 rfl ?_
                refine z_aload_n C dX6_readPerson_110 rfl ?_
                refine f_geti C dX6_readPerson_111 zfRX6_179 hpv1 hkv1 rfl ?_
                obtain ⟨hi22, hF⟩ := bX_some hF
                obtain ⟨q22, eq22⟩ : ∃ q : Nat, q = Int32.toNatClampNeg (gI S19 v0 1) := ⟨_, rfl⟩
                rw [← eq22] at hF
                refine f_iast C dX6_readPerson_114 hp21 hk21 hi22 ?_
                rw [← eq22]
                have hT23 : zT0 kd N0 (sI S19 (gR S19 v0 4) q22 (gI S19 v1 8)) := zT0_sI hT19
                replace hF := fS_e hF
                generalize sI S19 (gR S19 v0 4) q22 (gI S19 v1 8) = S23 at hF hT23 ⊢
                refine z_aload_n C dX6_readPerson_115 rfl ?_
                obtain ⟨S24, h24, hF⟩ := bV_some hF
                refine f_cV (st2 := []) C dX6_readPerson_116 zyX8_advance zvX8_advance lkRX6_112 (K_X8_advance (l := zXl X) hT23 hpv1 hkv1 h24) hpv1 hkv1 rfl (by decide) rfl rfl (Nat.le_of_ble_eq_true rfl) rfl (fun hT24 => ?_)
                refine z_aload_n C dX6_readPerson_119 rfl ?_
                refine f_gets C dX6_readPerson_120 fkRX6_201 (C.2.2.2.2.2.1.2.2.1 10 (by decide)).1 ?_
                obtain ⟨x25, S25, h25, hF⟩ := bI_some hF
                refine f_cV (st2 := [.int x25]) C dX6_readPerson_123 zyX8_pass zvX8_pass lkRX6_199 (K_X8_pass (l := zXl X) hT24 hpv1 hkv1 (by decide) h25) hpv1 hkv1 rfl (by decide) rfl rfl (Nat.le_of_ble_eq_true rfl) rfl (fun hT25 => ?_)
                refine z_if_eq C 139 dX6_readPerson_126 (by decide) (fun c26 => ?_) (fun c26 => ?_)
                · replace hF := ip hF c26
                  refine z_mask [false, false] ?_ rfl
                  exact ih2 S25  res hT25  hF
                · replace hF := im hF c26
                  refine z_aload_n C dX6_readPerson_129 rfl ?_
                  refine z_iconst (v := 0) C dX6_readPerson_130 (by decide) ?_
                  refine z_bipush (v := 9) C dX6_readPerson_131 (by decide) ?_
                  obtain ⟨x27, S27, h27, hF⟩ := bI_some hF
                  refine f_cV (st2 := [.int x27]) C dX6_readPerson_133 zyX8_isNumberWithin zvX8_isNumberWithin lkRX6_175 (K_X8_isNumberWithin (l := zXl X) hT25 hpv1 hkv1   h27) hpv1 hkv1 rfl (by decide) rfl rfl (Nat.le_of_ble_eq_true rfl) rfl (fun hT27 => ?_)
                  refine z_if_ne C 141 dX6_readPerson_136 (by decide) (fun c28 => ?_) (fun c28 => ?_)
                  · replace hF := im hF c28
                    refine z_aload_n C dX6_readPerson_141 rfl ?_
                    refine f_getr C dX6_readPerson_142 zfRX6_26 hpv0 hkv0 rfl ?_
                    obtain ⟨hp29, hk29⟩ := hT27.1 v0 5 5 (.inr (0, 6)) hpv0 hkv0 rfl
                    refine z_aload_n C dX6_readPerson_145 rfl ?_
                    refine f_geti C dX6_readPerson_146 zfRX6_51 hpv0 hkv0 rfl ?_
                    refine z_aload_n C dX6_readPerson_149 rfl ?_
                    refine f_geti C dX6_readPerson_150 zfRX6_179 hpv1 hkv1 rfl ?_
                    obtain ⟨hi30, hF⟩ := bX_some hF
                    obtain ⟨q30, eq30⟩ : ∃ q : Nat, q = Int32.toNatClampNeg (gI S27 v0 1) := ⟨_, rfl⟩
                    rw [← eq30] at hF
                    refine f_iast C dX6_readPerson_153 hp29 hk29 hi30 ?_
                    rw [← eq30]
                    have hT31 : zT0 kd N0 (sI S27 (gR S27 v0 5) q30 (gI S27 v1 8)) := zT0_sI hT27
                    replace hF := fS_e hF
                    generalize sI S27 (gR S27 v0 5) q30 (gI S27 v1 8) = S31 at hF hT31 ⊢
                    refine z_aload_n C dX6_readPerson_154 rfl ?_
                    obtain ⟨S32, h32, hF⟩ := bV_some hF
                    refine f_cV (st2 := []) C dX6_readPerson_155 zyX8_advance zvX8_advance lkRX6_112 (K_X8_advance (l := zXl X) hT31 hpv1 hkv1 h32) hpv1 hkv1 rfl (by decide) rfl rfl (Nat.le_of_ble_eq_true rfl) rfl (fun hT32 => ?_)
                    refine z_aload_n C dX6_readPerson_158 rfl ?_
                    refine z_dup C dX6_readPerson_159 rfl ?_
                    refine f_geti C dX6_readPerson_160 zfRX6_51 hpv0 hkv0 rfl ?_
                    refine z_iconst (v := 1) C dX6_readPerson_163 (by decide) ?_
                    refine z_iadd C dX6_readPerson_164 ?_
                    refine f_puti C dX6_readPerson_165 zfRX6_51 fw5_1 hpv0 hkv0 rfl rfl rfl ?_
                    have hT33 : zT0 kd N0 (sI S32 v0 1 ((gI S32 v0 1) + (1 : Int32))) := zT0_sI hT32
                    replace hF := fS_e hF
                    generalize sI S32 v0 1 ((gI S32 v0 1) + (1 : Int32)) = S33 at hF hT33 ⊢
                    refine z_iconst (v := 1) C dX6_readPerson_168 (by decide) ?_
                    obtain ⟨hz, hF⟩ := bZ_some hF
                    cases hF
                    exact z_zret C hr hz.1 dX6_readPerson_169 ⟨rfl, rfl, hT33⟩
                  · replace hF := ip hF c28
                    refine z_mask [false, false] ?_ rfl
                    exact ih2 S27  res hT27  hF
              · replace hF := ip hF c20
                refine z_mask [false, false] ?_ rfl
                exact ih1 S19  res hT19  hF
          · replace hF := ip hF c11
            refine z_aload_n C dX6_readPerson_54 rfl ?_
            refine z_iconst (v := 1) C dX6_readPerson_55 (by decide) ?_
            obtain ⟨x34, S34, h34, hF⟩ := bI_some hF
            refine f_cV (st2 := [.int x34]) C dX6_readPerson_56 zyX8_fail zvX8_fail lkRX6_99 (K_X8_fail (l := zXl X) hT10 hpv1 hkv1  h34) hpv1 hkv1 rfl (by decide) rfl rfl (Nat.le_of_ble_eq_true rfl) rfl (fun hT34 => ?_)
            obtain ⟨hz, hF⟩ := bZ_some hF
            cases hF
            exact z_zret C hr hz.1 dX6_readPerson_59 ⟨rfl, rfl, hT34⟩
        · replace hF := im hF c4
          refine z_aload_n C dX6_readPerson_21 rfl ?_
          refine z_iconst (v := 3) C dX6_readPerson_22 (by decide) ?_
          obtain ⟨x35, S35, h35, hF⟩ := bI_some hF
          refine f_cV (st2 := [.int x35]) C dX6_readPerson_23 zyX8_fail zvX8_fail lkRX6_99 (K_X8_fail (l := zXl X) hT3 hpv1 hkv1  h35) hpv1 hkv1 rfl (by decide) rfl rfl (Nat.le_of_ble_eq_true rfl) rfl (fun hT35 => ?_)
          obtain ⟨hz, hF⟩ := bZ_some hF
          cases hF
          exact z_zret C hr hz.1 dX6_readPerson_26 ⟨rfl, rfl, hT35⟩
      · replace hF := ip hF c2
        refine z_iconst (v := 0) C dX6_readPerson_7 (by decide) ?_
        obtain ⟨hz, hF⟩ := bZ_some hF
        cases hF
        exact z_zret C hr hz.1 dX6_readPerson_8 ⟨rfl, rfl, hT1⟩
    · intro S  res hT  hF
      replace hF : F_X6_readPerson_1 f (F_X6_readPerson f)  S = some res := hF
      unfold F_X6_readPerson_1 at hF
      refine z_iconst (v := 0) C dX6_readPerson_100 (by decide) ?_
      obtain ⟨hz, hF⟩ := bZ_some hF
      cases hF
      exact z_zret C hr hz.1 dX6_readPerson_101 ⟨rfl, rfl, hT⟩
    · intro S  res hT  hF
      replace hF : F_X6_readPerson_2 f (F_X6_readPerson f)  S = some res := hF
      unfold F_X6_readPerson_2 at hF
      refine z_iconst (v := 0) C dX6_readPerson_139 (by decide) ?_
      obtain ⟨hz, hF⟩ := bZ_some hF
      cases hF
      exact z_zret C hr hz.1 dX6_readPerson_140 ⟨rfl, rfl, hT⟩
theorem K_X6_readPerson {G : zG} {l : Launch} {kd : kD} {N0 f : Nat} {S : aS} {v0 : Nat} {v1 : Nat} {res : Option Value × aS} (hT : zT0 kd N0 S) (hpv0 : v0 < N0) (hkv0 : kd v0 = .inl 5) (hpv1 : v1 < N0) (hkv1 : kd v1 = .inl 7) (hF : F_X6_readPerson f 0 [.ref v0, .ref v1] S = some res) : zM G l 4 0 0 yX6_readPerson cX6_readPerson 2 (some .boolean) [.ref (zB G + v0), .ref (zB G + v1)] (cn G kd N0 S) (zPo G kd N0 res) := zM.of (by decide) rfl (Nat.le_of_ble_eq_true rfl) (fun X _ C hr _ => (B_X6_readPerson C hr f).1 S v0 v1 res hT hpv0 hkv0 hpv1 hkv1 hF)
def F_X6_readBin_0 (f : Nat) (rc : Nat → List Value → aS → aR) (v0 : Nat) (v1 : Nat) (S : aS) : aR :=
  bI (F_X8_isNumberWithin f 0 [.ref v1, .int 0, .int 7] S) fun x1 S1 => if x1 = (0 : Int32) then bZ 0 (some (some (.int 0), S1)) else bX (gI S1 v1 8) 8 fun q4 => if (gI S1 (gR S1 v0 6) q4) ≤ (0 : Int32) then bV (F_X8_advance f 0 [.ref v1] S1) fun S6 => bI (F_X8_pass f 0 [.ref v1, .ref 12] S6) fun x7 S7 => if x7 = (0 : Int32) then rc 1 [] S7 else bI (F_X8_isNumberWithin f 0 [.ref v1, .int 1, .int 30] S7) fun x9 S9 => if x9 = (0 : Int32) then rc 1 [] S9 else bX (gI S1 v1 8) 8 fun q12 => fS (sI S9 (gR S9 v0 6) q12 (gI S9 v1 8)) fun S13 => bV (F_X8_advance f 0 [.ref v1] S13) fun S14 => bZ 1 (some (some (.int 1), S14)) else bI (F_X8_fail f 0 [.ref v1, .int 3] S1) fun x15 S15 => bZ x15 (some (some (.int x15), S15))
def F_X6_readBin_1 (f : Nat) (rc : Nat → List Value → aS → aR)  (S : aS) : aR :=
  bZ 0 (some (some (.int 0), S))
def F_X6_readBin : Nat → Nat → List Value → aS → aR
  | 0, _, _, _ => none
  | f + 1, 0, vs, S => F_X6_readBin_0 f (F_X6_readBin f) (vR vs 0) (vR vs 1) S
  | f + 1, 1, vs, S => F_X6_readBin_1 f (F_X6_readBin f)  S
  | _ + 1, _, _, _ => none
theorem dX6_readBin_0 : decode cX6_readBin 0 = .ok (.aload_n 1, 1) := by decide +kernel
theorem dX6_readBin_1 : decode cX6_readBin 1 = .ok (.iconst 0, 1) := by decide +kernel
theorem dX6_readBin_2 : decode cX6_readBin 2 = .ok (.bipush 7, 2) := by decide +kernel
theorem dX6_readBin_4 : decode cX6_readBin 4 = .ok (.invokevirtual 175, 3) := by decide +kernel
theorem dX6_readBin_7 : decode cX6_readBin 7 = .ok (.ifCond .ne 5, 3) := by decide +kernel
theorem dX6_readBin_10 : decode cX6_readBin 10 = .ok (.iconst 0, 1) := by decide +kernel
theorem dX6_readBin_11 : decode cX6_readBin 11 = .ok (.ireturn, 1) := by decide +kernel
theorem dX6_readBin_12 : decode cX6_readBin 12 = .ok (.aload_n 1, 1) := by decide +kernel
theorem dX6_readBin_13 : decode cX6_readBin 13 = .ok (.getfield 179, 3) := by decide +kernel
theorem dX6_readBin_16 : decode cX6_readBin 16 = .ok (.istore_n 2, 1) := by decide +kernel
theorem dX6_readBin_17 : decode cX6_readBin 17 = .ok (.aload_n 0, 1) := by decide +kernel
theorem dX6_readBin_18 : decode cX6_readBin 18 = .ok (.getfield 29, 3) := by decide +kernel
theorem dX6_readBin_21 : decode cX6_readBin 21 = .ok (.iload_n 2, 1) := by decide +kernel
theorem dX6_readBin_22 : decode cX6_readBin 22 = .ok (.iaload, 1) := by decide +kernel
theorem dX6_readBin_23 : decode cX6_readBin 23 = .ok (.ifCond .le 9, 3) := by decide +kernel
theorem dX6_readBin_26 : decode cX6_readBin 26 = .ok (.aload_n 1, 1) := by decide +kernel
theorem dX6_readBin_27 : decode cX6_readBin 27 = .ok (.iconst 3, 1) := by decide +kernel
theorem dX6_readBin_28 : decode cX6_readBin 28 = .ok (.invokevirtual 99, 3) := by decide +kernel
theorem dX6_readBin_31 : decode cX6_readBin 31 = .ok (.ireturn, 1) := by decide +kernel
theorem dX6_readBin_32 : decode cX6_readBin 32 = .ok (.aload_n 1, 1) := by decide +kernel
theorem dX6_readBin_33 : decode cX6_readBin 33 = .ok (.invokevirtual 112, 3) := by decide +kernel
theorem dX6_readBin_36 : decode cX6_readBin 36 = .ok (.aload_n 1, 1) := by decide +kernel
theorem dX6_readBin_37 : decode cX6_readBin 37 = .ok (.getstatic 216, 3) := by decide +kernel
theorem dX6_readBin_40 : decode cX6_readBin 40 = .ok (.invokevirtual 199, 3) := by decide +kernel
theorem dX6_readBin_43 : decode cX6_readBin 43 = .ok (.ifCond .eq 13, 3) := by decide +kernel
theorem dX6_readBin_46 : decode cX6_readBin 46 = .ok (.aload_n 1, 1) := by decide +kernel
theorem dX6_readBin_47 : decode cX6_readBin 47 = .ok (.iconst 1, 1) := by decide +kernel
theorem dX6_readBin_48 : decode cX6_readBin 48 = .ok (.bipush 30, 2) := by decide +kernel
theorem dX6_readBin_50 : decode cX6_readBin 50 = .ok (.invokevirtual 175, 3) := by decide +kernel
theorem dX6_readBin_53 : decode cX6_readBin 53 = .ok (.ifCond .ne 5, 3) := by decide +kernel
theorem dX6_readBin_56 : decode cX6_readBin 56 = .ok (.iconst 0, 1) := by decide +kernel
theorem dX6_readBin_57 : decode cX6_readBin 57 = .ok (.ireturn, 1) := by decide +kernel
theorem dX6_readBin_58 : decode cX6_readBin 58 = .ok (.aload_n 0, 1) := by decide +kernel
theorem dX6_readBin_59 : decode cX6_readBin 59 = .ok (.getfield 29, 3) := by decide +kernel
theorem dX6_readBin_62 : decode cX6_readBin 62 = .ok (.iload_n 2, 1) := by decide +kernel
theorem dX6_readBin_63 : decode cX6_readBin 63 = .ok (.aload_n 1, 1) := by decide +kernel
theorem dX6_readBin_64 : decode cX6_readBin 64 = .ok (.getfield 179, 3) := by decide +kernel
theorem dX6_readBin_67 : decode cX6_readBin 67 = .ok (.iastore, 1) := by decide +kernel
theorem dX6_readBin_68 : decode cX6_readBin 68 = .ok (.aload_n 1, 1) := by decide +kernel
theorem dX6_readBin_69 : decode cX6_readBin 69 = .ok (.invokevirtual 112, 3) := by decide +kernel
theorem dX6_readBin_72 : decode cX6_readBin 72 = .ok (.iconst 1, 1) := by decide +kernel
theorem dX6_readBin_73 : decode cX6_readBin 73 = .ok (.ireturn, 1) := by decide +kernel
set_option maxHeartbeats 4000000 in
set_option maxRecDepth 100000 in
theorem B_X6_readBin {G : zG} {X : zX} {kd : kD} {N0 : Nat} (C : zCt G X 4 0 0 RX6 cX6_readBin 3) (hr : (zXh X).sig.returnType = (some .boolean)) : ∀ f : Nat,
    (∀ (S : aS) (v0 : Nat) (v1 : Nat) (res : Option Value × aS), zT0 kd N0 S → v0 < N0 → kd v0 = .inl 5 → v1 < N0 → kd v1 = .inl 7 → F_X6_readBin f 0 [.ref v0, .ref v1] S = some res → zV G X (zQX G X (zPo G kd N0 res) 0 0) 3 [some (.ref (zB G + v0)), some (.ref (zB G + v1)), none] [] (cn G kd N0 S) 0 0 0) ∧
    (∀ (S : aS)  (res : Option Value × aS), zT0 kd N0 S → F_X6_readBin f 1 [] S = some res → zV G X (zQX G X (zPo G kd N0 res) 0 0) 3 [none, none, none] [] (cn G kd N0 S) 56 0 0) := by
  intro f
  induction f with
  | zero => exact ⟨(fun _ _ _ _ _ _ _ _ _ h => by cases h), (fun _ _ _ h => by cases h)⟩
  | succ f ih =>
    obtain ⟨ih0, ih1⟩ := ih
    refine ⟨?_, ?_⟩
    · intro S v0 v1 res hT hpv0 hkv0 hpv1 hkv1 hF
      replace hF : F_X6_readBin_0 f (F_X6_readBin f) v0 v1 S = some res := hF
      unfold F_X6_readBin_0 at hF
      refine z_aload_n C dX6_readBin_0 rfl ?_
      refine z_iconst (v := 0) C dX6_readBin_1 (by decide) ?_
      refine z_bipush (v := 7) C dX6_readBin_2 (by decide) ?_
      obtain ⟨x1, S1, h1, hF⟩ := bI_some hF
      refine f_cV (st2 := [.int x1]) C dX6_readBin_4 zyX8_isNumberWithin zvX8_isNumberWithin lkRX6_175 (K_X8_isNumberWithin (l := zXl X) hT hpv1 hkv1   h1) hpv1 hkv1 rfl (by decide) rfl rfl (Nat.le_of_ble_eq_true rfl) rfl (fun hT1 => ?_)
      refine z_if_ne C 12 dX6_readBin_7 (by decide) (fun c2 => ?_) (fun c2 => ?_)
      · replace hF := im hF c2
        refine z_aload_n C dX6_readBin_12 rfl ?_
        refine f_geti C dX6_readBin_13 zfRX6_179 hpv1 hkv1 rfl ?_
        refine z_istore_n (lv2 := [some (.ref (zB G + v0)), some (.ref (zB G + v1)), some (.int (gI S1 v1 8))]) C dX6_readBin_16 (by decide) rfl ?_
        refine z_aload_n C dX6_readBin_17 rfl ?_
        refine f_getr C dX6_readBin_18 zfRX6_29 hpv0 hkv0 rfl ?_
        obtain ⟨hp3, hk3⟩ := hT1.1 v0 5 6 (.inr (0, 8)) hpv0 hkv0 rfl
        refine z_iload_n C dX6_readBin_21 rfl ?_
        obtain ⟨hi4, hF⟩ := bX_some hF
        obtain ⟨q4, eq4⟩ : ∃ q : Nat, q = Int32.toNatClampNeg (gI S1 v1 8) := ⟨_, rfl⟩
        rw [← eq4] at hF
        refine f_iald C dX6_readBin_22 hp3 hk3 hi4 ?_
        rw [← eq4]
        refine z_if_le C 32 dX6_readBin_23 (by decide) (fun c5 => ?_) (fun c5 => ?_)
        · replace hF := ip hF c5
          refine z_aload_n C dX6_readBin_32 rfl ?_
          obtain ⟨S6, h6, hF⟩ := bV_some hF
          refine f_cV (st2 := []) C dX6_readBin_33 zyX8_advance zvX8_advance lkRX6_112 (K_X8_advance (l := zXl X) hT1 hpv1 hkv1 h6) hpv1 hkv1 rfl (by decide) rfl rfl (Nat.le_of_ble_eq_true rfl) rfl (fun hT6 => ?_)
          refine z_aload_n C dX6_readBin_36 rfl ?_
          refine f_gets C dX6_readBin_37 fkRX6_216 (C.2.2.2.2.2.1.2.2.1 12 (by decide)).1 ?_
          obtain ⟨x7, S7, h7, hF⟩ := bI_some hF
          refine f_cV (st2 := [.int x7]) C dX6_readBin_40 zyX8_pass zvX8_pass lkRX6_199 (K_X8_pass (l := zXl X) hT6 hpv1 hkv1 (by decide) h7) hpv1 hkv1 rfl (by decide) rfl rfl (Nat.le_of_ble_eq_true rfl) rfl (fun hT7 => ?_)
          refine z_if_eq C 56 dX6_readBin_43 (by decide) (fun c8 => ?_) (fun c8 => ?_)
          · replace hF := ip hF c8
            refine z_mask [false, false, false] ?_ rfl
            exact ih1 S7  res hT7  hF
          · replace hF := im hF c8
            refine z_aload_n C dX6_readBin_46 rfl ?_
            refine z_iconst (v := 1) C dX6_readBin_47 (by decide) ?_
            refine z_bipush (v := 30) C dX6_readBin_48 (by decide) ?_
            obtain ⟨x9, S9, h9, hF⟩ := bI_some hF
            refine f_cV (st2 := [.int x9]) C dX6_readBin_50 zyX8_isNumberWithin zvX8_isNumberWithin lkRX6_175 (K_X8_isNumberWithin (l := zXl X) hT7 hpv1 hkv1   h9) hpv1 hkv1 rfl (by decide) rfl rfl (Nat.le_of_ble_eq_true rfl) rfl (fun hT9 => ?_)
            refine z_if_ne C 58 dX6_readBin_53 (by decide) (fun c10 => ?_) (fun c10 => ?_)
            · replace hF := im hF c10
              refine z_aload_n C dX6_readBin_58 rfl ?_
              refine f_getr C dX6_readBin_59 zfRX6_29 hpv0 hkv0 rfl ?_
              obtain ⟨hp11, hk11⟩ := hT9.1 v0 5 6 (.inr (0, 8)) hpv0 hkv0 rfl
              refine z_iload_n C dX6_readBin_62 rfl ?_
              refine z_aload_n C dX6_readBin_63 rfl ?_
              refine f_geti C dX6_readBin_64 zfRX6_179 hpv1 hkv1 rfl ?_
              obtain ⟨hi12, hF⟩ := bX_some hF
              obtain ⟨q12, eq12⟩ : ∃ q : Nat, q = Int32.toNatClampNeg (gI S1 v1 8) := ⟨_, rfl⟩
              rw [← eq12] at hF
              refine f_iast C dX6_readBin_67 hp11 hk11 hi12 ?_
              rw [← eq12]
              have hT13 : zT0 kd N0 (sI S9 (gR S9 v0 6) q12 (gI S9 v1 8)) := zT0_sI hT9
              replace hF := fS_e hF
              generalize sI S9 (gR S9 v0 6) q12 (gI S9 v1 8) = S13 at hF hT13 ⊢
              refine z_aload_n C dX6_readBin_68 rfl ?_
              obtain ⟨S14, h14, hF⟩ := bV_some hF
              refine f_cV (st2 := []) C dX6_readBin_69 zyX8_advance zvX8_advance lkRX6_112 (K_X8_advance (l := zXl X) hT13 hpv1 hkv1 h14) hpv1 hkv1 rfl (by decide) rfl rfl (Nat.le_of_ble_eq_true rfl) rfl (fun hT14 => ?_)
              refine z_iconst (v := 1) C dX6_readBin_72 (by decide) ?_
              obtain ⟨hz, hF⟩ := bZ_some hF
              cases hF
              exact z_zret C hr hz.1 dX6_readBin_73 ⟨rfl, rfl, hT14⟩
            · replace hF := ip hF c10
              refine z_mask [false, false, false] ?_ rfl
              exact ih1 S9  res hT9  hF
        · replace hF := im hF c5
          refine z_aload_n C dX6_readBin_26 rfl ?_
          refine z_iconst (v := 3) C dX6_readBin_27 (by decide) ?_
          obtain ⟨x15, S15, h15, hF⟩ := bI_some hF
          refine f_cV (st2 := [.int x15]) C dX6_readBin_28 zyX8_fail zvX8_fail lkRX6_99 (K_X8_fail (l := zXl X) hT1 hpv1 hkv1  h15) hpv1 hkv1 rfl (by decide) rfl rfl (Nat.le_of_ble_eq_true rfl) rfl (fun hT15 => ?_)
          obtain ⟨hz, hF⟩ := bZ_some hF
          cases hF
          exact z_zret C hr hz.1 dX6_readBin_31 ⟨rfl, rfl, hT15⟩
      · replace hF := ip hF c2
        refine z_iconst (v := 0) C dX6_readBin_10 (by decide) ?_
        obtain ⟨hz, hF⟩ := bZ_some hF
        cases hF
        exact z_zret C hr hz.1 dX6_readBin_11 ⟨rfl, rfl, hT1⟩
    · intro S  res hT  hF
      replace hF : F_X6_readBin_1 f (F_X6_readBin f)  S = some res := hF
      unfold F_X6_readBin_1 at hF
      refine z_iconst (v := 0) C dX6_readBin_56 (by decide) ?_
      obtain ⟨hz, hF⟩ := bZ_some hF
      cases hF
      exact z_zret C hr hz.1 dX6_readBin_57 ⟨rfl, rfl, hT⟩
theorem K_X6_readBin {G : zG} {l : Launch} {kd : kD} {N0 f : Nat} {S : aS} {v0 : Nat} {v1 : Nat} {res : Option Value × aS} (hT : zT0 kd N0 S) (hpv0 : v0 < N0) (hkv0 : kd v0 = .inl 5) (hpv1 : v1 < N0) (hkv1 : kd v1 = .inl 7) (hF : F_X6_readBin f 0 [.ref v0, .ref v1] S = some res) : zM G l 4 0 0 yX6_readBin cX6_readBin 3 (some .boolean) [.ref (zB G + v0), .ref (zB G + v1)] (cn G kd N0 S) (zPo G kd N0 res) := zM.of (by decide) rfl (Nat.le_of_ble_eq_true rfl) (fun X _ C hr _ => (B_X6_readBin C hr f).1 S v0 v1 res hT hpv0 hkv0 hpv1 hkv1 hF)
def F_X6_readHeap_0 (f : Nat) (rc : Nat → List Value → aS → aR) (v0 : Nat) (v1 : Nat) (S : aS) : aR :=
  bI (F_X8_isNumberWithin f 0 [.ref v1, .int 0, .int 7] S) fun x1 S1 => if x1 = (0 : Int32) then bZ 0 (some (some (.int 0), S1)) else if ((gI S1 v0 15) &&& ((1 : Int32) <<< ((gI S1 v1 8) &&& 31))) = (0 : Int32) then fS (sI S1 v0 15 ((gI S1 v0 15) ||| ((1 : Int32) <<< ((gI S1 v1 8) &&& 31)))) fun S4 => bV (F_X8_advance f 0 [.ref v1] S4) fun S5 => bI (F_X8_isNumberWithin f 0 [.ref v1, .int 0, .int 99] S5) fun x6 S6 => if x6 = (0 : Int32) then bZ 0 (some (some (.int 0), S6)) else bX (gI S1 v1 8) 8 fun q9 => fS (sI S6 (gR S6 v0 7) q9 (gI S6 v1 8)) fun S10 => bV (F_X8_advance f 0 [.ref v1] S10) fun S11 => bZ 1 (some (some (.int 1), S11)) else bI (F_X8_fail f 0 [.ref v1, .int 3] S1) fun x12 S12 => bZ x12 (some (some (.int x12), S12))
def F_X6_readHeap : Nat → Nat → List Value → aS → aR
  | 0, _, _, _ => none
  | f + 1, 0, vs, S => F_X6_readHeap_0 f (F_X6_readHeap f) (vR vs 0) (vR vs 1) S
  | _ + 1, _, _, _ => none
theorem dX6_readHeap_0 : decode cX6_readHeap 0 = .ok (.aload_n 1, 1) := by decide +kernel
theorem dX6_readHeap_1 : decode cX6_readHeap 1 = .ok (.iconst 0, 1) := by decide +kernel
theorem dX6_readHeap_2 : decode cX6_readHeap 2 = .ok (.bipush 7, 2) := by decide +kernel
theorem dX6_readHeap_4 : decode cX6_readHeap 4 = .ok (.invokevirtual 175, 3) := by decide +kernel
theorem dX6_readHeap_7 : decode cX6_readHeap 7 = .ok (.ifCond .ne 5, 3) := by decide +kernel
theorem dX6_readHeap_10 : decode cX6_readHeap 10 = .ok (.iconst 0, 1) := by decide +kernel
theorem dX6_readHeap_11 : decode cX6_readHeap 11 = .ok (.ireturn, 1) := by decide +kernel
theorem dX6_readHeap_12 : decode cX6_readHeap 12 = .ok (.aload_n 1, 1) := by decide +kernel
theorem dX6_readHeap_13 : decode cX6_readHeap 13 = .ok (.getfield 179, 3) := by decide +kernel
theorem dX6_readHeap_16 : decode cX6_readHeap 16 = .ok (.istore_n 2, 1) := by decide +kernel
theorem dX6_readHeap_17 : decode cX6_readHeap 17 = .ok (.aload_n 0, 1) := by decide +kernel
theorem dX6_readHeap_18 : decode cX6_readHeap 18 = .ok (.getfield 66, 3) := by decide +kernel
theorem dX6_readHeap_21 : decode cX6_readHeap 21 = .ok (.iconst 1, 1) := by decide +kernel
theorem dX6_readHeap_22 : decode cX6_readHeap 22 = .ok (.iload_n 2, 1) := by decide +kernel
theorem dX6_readHeap_23 : decode cX6_readHeap 23 = .ok (.ishl, 1) := by decide +kernel
theorem dX6_readHeap_24 : decode cX6_readHeap 24 = .ok (.iand, 1) := by decide +kernel
theorem dX6_readHeap_25 : decode cX6_readHeap 25 = .ok (.ifCond .eq 9, 3) := by decide +kernel
theorem dX6_readHeap_28 : decode cX6_readHeap 28 = .ok (.aload_n 1, 1) := by decide +kernel
theorem dX6_readHeap_29 : decode cX6_readHeap 29 = .ok (.iconst 3, 1) := by decide +kernel
theorem dX6_readHeap_30 : decode cX6_readHeap 30 = .ok (.invokevirtual 99, 3) := by decide +kernel
theorem dX6_readHeap_33 : decode cX6_readHeap 33 = .ok (.ireturn, 1) := by decide +kernel
theorem dX6_readHeap_34 : decode cX6_readHeap 34 = .ok (.aload_n 0, 1) := by decide +kernel
theorem dX6_readHeap_35 : decode cX6_readHeap 35 = .ok (.dup, 1) := by decide +kernel
theorem dX6_readHeap_36 : decode cX6_readHeap 36 = .ok (.getfield 66, 3) := by decide +kernel
theorem dX6_readHeap_39 : decode cX6_readHeap 39 = .ok (.iconst 1, 1) := by decide +kernel
theorem dX6_readHeap_40 : decode cX6_readHeap 40 = .ok (.iload_n 2, 1) := by decide +kernel
theorem dX6_readHeap_41 : decode cX6_readHeap 41 = .ok (.ishl, 1) := by decide +kernel
theorem dX6_readHeap_42 : decode cX6_readHeap 42 = .ok (.ior, 1) := by decide +kernel
theorem dX6_readHeap_43 : decode cX6_readHeap 43 = .ok (.putfield 66, 3) := by decide +kernel
theorem dX6_readHeap_46 : decode cX6_readHeap 46 = .ok (.aload_n 1, 1) := by decide +kernel
theorem dX6_readHeap_47 : decode cX6_readHeap 47 = .ok (.invokevirtual 112, 3) := by decide +kernel
theorem dX6_readHeap_50 : decode cX6_readHeap 50 = .ok (.aload_n 1, 1) := by decide +kernel
theorem dX6_readHeap_51 : decode cX6_readHeap 51 = .ok (.iconst 0, 1) := by decide +kernel
theorem dX6_readHeap_52 : decode cX6_readHeap 52 = .ok (.bipush 99, 2) := by decide +kernel
theorem dX6_readHeap_54 : decode cX6_readHeap 54 = .ok (.invokevirtual 175, 3) := by decide +kernel
theorem dX6_readHeap_57 : decode cX6_readHeap 57 = .ok (.ifCond .ne 5, 3) := by decide +kernel
theorem dX6_readHeap_60 : decode cX6_readHeap 60 = .ok (.iconst 0, 1) := by decide +kernel
theorem dX6_readHeap_61 : decode cX6_readHeap 61 = .ok (.ireturn, 1) := by decide +kernel
theorem dX6_readHeap_62 : decode cX6_readHeap 62 = .ok (.aload_n 0, 1) := by decide +kernel
theorem dX6_readHeap_63 : decode cX6_readHeap 63 = .ok (.getfield 32, 3) := by decide +kernel
theorem dX6_readHeap_66 : decode cX6_readHeap 66 = .ok (.iload_n 2, 1) := by decide +kernel
theorem dX6_readHeap_67 : decode cX6_readHeap 67 = .ok (.aload_n 1, 1) := by decide +kernel
theorem dX6_readHeap_68 : decode cX6_readHeap 68 = .ok (.getfield 179, 3) := by decide +kernel
theorem dX6_readHeap_71 : decode cX6_readHeap 71 = .ok (.iastore, 1) := by decide +kernel
theorem dX6_readHeap_72 : decode cX6_readHeap 72 = .ok (.aload_n 1, 1) := by decide +kernel
theorem dX6_readHeap_73 : decode cX6_readHeap 73 = .ok (.invokevirtual 112, 3) := by decide +kernel
theorem dX6_readHeap_76 : decode cX6_readHeap 76 = .ok (.iconst 1, 1) := by decide +kernel
theorem dX6_readHeap_77 : decode cX6_readHeap 77 = .ok (.ireturn, 1) := by decide +kernel
set_option maxHeartbeats 4000000 in
set_option maxRecDepth 100000 in
theorem B_X6_readHeap {G : zG} {X : zX} {kd : kD} {N0 : Nat} (C : zCt G X 3 0 0 RX6 cX6_readHeap 3) (hr : (zXh X).sig.returnType = (some .boolean)) : ∀ f : Nat,
    (∀ (S : aS) (v0 : Nat) (v1 : Nat) (res : Option Value × aS), zT0 kd N0 S → v0 < N0 → kd v0 = .inl 5 → v1 < N0 → kd v1 = .inl 7 → F_X6_readHeap f 0 [.ref v0, .ref v1] S = some res → zV G X (zQX G X (zPo G kd N0 res) 0 0) 3 [some (.ref (zB G + v0)), some (.ref (zB G + v1)), none] [] (cn G kd N0 S) 0 0 0) := by
  intro f
  induction f with
  | zero => exact (fun _ _ _ _ _ _ _ _ _ h => by cases h)
  | succ f ih =>
    have ih0 := ih
    intro S v0 v1 res hT hpv0 hkv0 hpv1 hkv1 hF
    replace hF : F_X6_readHeap_0 f (F_X6_readHeap f) v0 v1 S = some res := hF
    unfold F_X6_readHeap_0 at hF
    refine z_aload_n C dX6_readHeap_0 rfl ?_
    refine z_iconst (v := 0) C dX6_readHeap_1 (by decide) ?_
    refine z_bipush (v := 7) C dX6_readHeap_2 (by decide) ?_
    obtain ⟨x1, S1, h1, hF⟩ := bI_some hF
    refine f_cV (st2 := [.int x1]) C dX6_readHeap_4 zyX8_isNumberWithin zvX8_isNumberWithin lkRX6_175 (K_X8_isNumberWithin (l := zXl X) hT hpv1 hkv1   h1) hpv1 hkv1 rfl (by decide) rfl rfl (Nat.le_of_ble_eq_true rfl) rfl (fun hT1 => ?_)
    refine z_if_ne C 12 dX6_readHeap_7 (by decide) (fun c2 => ?_) (fun c2 => ?_)
    · replace hF := im hF c2
      refine z_aload_n C dX6_readHeap_12 rfl ?_
      refine f_geti C dX6_readHeap_13 zfRX6_179 hpv1 hkv1 rfl ?_
      refine z_istore_n (lv2 := [some (.ref (zB G + v0)), some (.ref (zB G + v1)), some (.int (gI S1 v1 8))]) C dX6_readHeap_16 (by decide) rfl ?_
      refine z_aload_n C dX6_readHeap_17 rfl ?_
      refine f_geti C dX6_readHeap_18 zfRX6_66 hpv0 hkv0 rfl ?_
      refine z_iconst (v := 1) C dX6_readHeap_21 (by decide) ?_
      refine z_iload_n C dX6_readHeap_22 rfl ?_
      refine z_ishl C dX6_readHeap_23 ?_
      refine z_iand C dX6_readHeap_24 ?_
      refine z_if_eq C 34 dX6_readHeap_25 (by decide) (fun c3 => ?_) (fun c3 => ?_)
      · replace hF := ip hF c3
        refine z_aload_n C dX6_readHeap_34 rfl ?_
        refine z_dup C dX6_readHeap_35 rfl ?_
        refine f_geti C dX6_readHeap_36 zfRX6_66 hpv0 hkv0 rfl ?_
        refine z_iconst (v := 1) C dX6_readHeap_39 (by decide) ?_
        refine z_iload_n C dX6_readHeap_40 rfl ?_
        refine z_ishl C dX6_readHeap_41 ?_
        refine z_ior C dX6_readHeap_42 ?_
        refine f_puti C dX6_readHeap_43 zfRX6_66 fw5_15 hpv0 hkv0 rfl rfl rfl ?_
        have hT4 : zT0 kd N0 (sI S1 v0 15 ((gI S1 v0 15) ||| ((1 : Int32) <<< ((gI S1 v1 8) &&& 31)))) := zT0_sI hT1
        replace hF := fS_e hF
        generalize sI S1 v0 15 ((gI S1 v0 15) ||| ((1 : Int32) <<< ((gI S1 v1 8) &&& 31))) = S4 at hF hT4 ⊢
        refine z_aload_n C dX6_readHeap_46 rfl ?_
        obtain ⟨S5, h5, hF⟩ := bV_some hF
        refine f_cV (st2 := []) C dX6_readHeap_47 zyX8_advance zvX8_advance lkRX6_112 (K_X8_advance (l := zXl X) hT4 hpv1 hkv1 h5) hpv1 hkv1 rfl (by decide) rfl rfl (Nat.le_of_ble_eq_true rfl) rfl (fun hT5 => ?_)
        refine z_aload_n C dX6_readHeap_50 rfl ?_
        refine z_iconst (v := 0) C dX6_readHeap_51 (by decide) ?_
        refine z_bipush (v := 99) C dX6_readHeap_52 (by decide) ?_
        obtain ⟨x6, S6, h6, hF⟩ := bI_some hF
        refine f_cV (st2 := [.int x6]) C dX6_readHeap_54 zyX8_isNumberWithin zvX8_isNumberWithin lkRX6_175 (K_X8_isNumberWithin (l := zXl X) hT5 hpv1 hkv1   h6) hpv1 hkv1 rfl (by decide) rfl rfl (Nat.le_of_ble_eq_true rfl) rfl (fun hT6 => ?_)
        refine z_if_ne C 62 dX6_readHeap_57 (by decide) (fun c7 => ?_) (fun c7 => ?_)
        · replace hF := im hF c7
          refine z_aload_n C dX6_readHeap_62 rfl ?_
          refine f_getr C dX6_readHeap_63 zfRX6_32 hpv0 hkv0 rfl ?_
          obtain ⟨hp8, hk8⟩ := hT6.1 v0 5 7 (.inr (0, 8)) hpv0 hkv0 rfl
          refine z_iload_n C dX6_readHeap_66 rfl ?_
          refine z_aload_n C dX6_readHeap_67 rfl ?_
          refine f_geti C dX6_readHeap_68 zfRX6_179 hpv1 hkv1 rfl ?_
          obtain ⟨hi9, hF⟩ := bX_some hF
          obtain ⟨q9, eq9⟩ : ∃ q : Nat, q = Int32.toNatClampNeg (gI S1 v1 8) := ⟨_, rfl⟩
          rw [← eq9] at hF
          refine f_iast C dX6_readHeap_71 hp8 hk8 hi9 ?_
          rw [← eq9]
          have hT10 : zT0 kd N0 (sI S6 (gR S6 v0 7) q9 (gI S6 v1 8)) := zT0_sI hT6
          replace hF := fS_e hF
          generalize sI S6 (gR S6 v0 7) q9 (gI S6 v1 8) = S10 at hF hT10 ⊢
          refine z_aload_n C dX6_readHeap_72 rfl ?_
          obtain ⟨S11, h11, hF⟩ := bV_some hF
          refine f_cV (st2 := []) C dX6_readHeap_73 zyX8_advance zvX8_advance lkRX6_112 (K_X8_advance (l := zXl X) hT10 hpv1 hkv1 h11) hpv1 hkv1 rfl (by decide) rfl rfl (Nat.le_of_ble_eq_true rfl) rfl (fun hT11 => ?_)
          refine z_iconst (v := 1) C dX6_readHeap_76 (by decide) ?_
          obtain ⟨hz, hF⟩ := bZ_some hF
          cases hF
          exact z_zret C hr hz.1 dX6_readHeap_77 ⟨rfl, rfl, hT11⟩
        · replace hF := ip hF c7
          refine z_iconst (v := 0) C dX6_readHeap_60 (by decide) ?_
          obtain ⟨hz, hF⟩ := bZ_some hF
          cases hF
          exact z_zret C hr hz.1 dX6_readHeap_61 ⟨rfl, rfl, hT6⟩
      · replace hF := im hF c3
        refine z_aload_n C dX6_readHeap_28 rfl ?_
        refine z_iconst (v := 3) C dX6_readHeap_29 (by decide) ?_
        obtain ⟨x12, S12, h12, hF⟩ := bI_some hF
        refine f_cV (st2 := [.int x12]) C dX6_readHeap_30 zyX8_fail zvX8_fail lkRX6_99 (K_X8_fail (l := zXl X) hT1 hpv1 hkv1  h12) hpv1 hkv1 rfl (by decide) rfl rfl (Nat.le_of_ble_eq_true rfl) rfl (fun hT12 => ?_)
        obtain ⟨hz, hF⟩ := bZ_some hF
        cases hF
        exact z_zret C hr hz.1 dX6_readHeap_33 ⟨rfl, rfl, hT12⟩
    · replace hF := ip hF c2
      refine z_iconst (v := 0) C dX6_readHeap_10 (by decide) ?_
      obtain ⟨hz, hF⟩ := bZ_some hF
      cases hF
      exact z_zret C hr hz.1 dX6_readHeap_11 ⟨rfl, rfl, hT1⟩
theorem K_X6_readHeap {G : zG} {l : Launch} {kd : kD} {N0 f : Nat} {S : aS} {v0 : Nat} {v1 : Nat} {res : Option Value × aS} (hT : zT0 kd N0 S) (hpv0 : v0 < N0) (hkv0 : kd v0 = .inl 5) (hpv1 : v1 < N0) (hkv1 : kd v1 = .inl 7) (hF : F_X6_readHeap f 0 [.ref v0, .ref v1] S = some res) : zM G l 3 0 0 yX6_readHeap cX6_readHeap 3 (some .boolean) [.ref (zB G + v0), .ref (zB G + v1)] (cn G kd N0 S) (zPo G kd N0 res) := zM.of (by decide) rfl (Nat.le_of_ble_eq_true rfl) (fun X _ C hr _ => (B_X6_readHeap C hr f) S v0 v1 res hT hpv0 hkv0 hpv1 hkv1 hF)
def F_X6_readWinds_0 (f : Nat) (rc : Nat → List Value → aS → aR) (v0 : Nat) (v1 : Nat) (S : aS) : aR :=
  rc 1 [.ref v0, .ref v1, .int 0] S
def F_X6_readWinds_1 (f : Nat) (rc : Nat → List Value → aS → aR) (v0 : Nat) (v1 : Nat) (v2 : Int32) (S : aS) : aR :=
  if (12 : Int32) < v2 then rc 2 [] S else if v2 = (0 : Int32) then rc 3 [.ref v0, .ref v1, .int v2] S else if (gI S v1 8) = (-1 : Int32) then rc 2 [] S else rc 3 [.ref v0, .ref v1, .int v2] S
def F_X6_readWinds_2 (f : Nat) (rc : Nat → List Value → aS → aR)  (S : aS) : aR :=
  bZ 1 (some (some (.int 1), S))
def F_X6_readWinds_3 (f : Nat) (rc : Nat → List Value → aS → aR) (v0 : Nat) (v1 : Nat) (v2 : Int32) (S : aS) : aR :=
  bI (F_X8_isNumberWithin f 0 [.ref v1, .int 0, .int 2] S) fun x4 S4 => if x4 = (0 : Int32) then bZ 0 (some (some (.int 0), S4)) else if (gI S4 v0 9) < (12 : Int32) then bX (gI S4 v0 9) 12 fun q8 => fS (sI S4 (gR S4 v0 8) q8 (gI S4 v1 8)) fun S9 => fS (sI S9 v0 9 ((gI S9 v0 9) + (1 : Int32))) fun S10 => bV (F_X8_advance f 0 [.ref v1] S10) fun S11 => rc 1 [.ref v0, .ref v1, .int (v2 + 1)] S11 else bI (F_X8_fail f 0 [.ref v1, .int 5] S4) fun x12 S12 => bZ x12 (some (some (.int x12), S12))
def F_X6_readWinds : Nat → Nat → List Value → aS → aR
  | 0, _, _, _ => none
  | f + 1, 0, vs, S => F_X6_readWinds_0 f (F_X6_readWinds f) (vR vs 0) (vR vs 1) S
  | f + 1, 1, vs, S => F_X6_readWinds_1 f (F_X6_readWinds f) (vR vs 0) (vR vs 1) (vI vs 2) S
  | f + 1, 2, vs, S => F_X6_readWinds_2 f (F_X6_readWinds f)  S
  | f + 1, 3, vs, S => F_X6_readWinds_3 f (F_X6_readWinds f) (vR vs 0) (vR vs 1) (vI vs 2) S
  | _ + 1, _, _, _ => none
theorem dX6_readWinds_0 : decode cX6_readWinds 0 = .ok (.iconst 0, 1) := by decide +kernel
theorem dX6_readWinds_1 : decode cX6_readWinds 1 = .ok (.istore_n 2, 1) := by decide +kernel
theorem dX6_readWinds_2 : decode cX6_readWinds 2 = .ok (.iload_n 2, 1) := by decide +kernel
theorem dX6_readWinds_3 : decode cX6_readWinds 3 = .ok (.bipush 12, 2) := by decide +kernel
theorem dX6_readWinds_5 : decode cX6_readWinds 5 = .ok (.if_icmp .gt 74, 3) := by decide +kernel
theorem dX6_readWinds_8 : decode cX6_readWinds 8 = .ok (.iload_n 2, 1) := by decide +kernel
theorem dX6_readWinds_9 : decode cX6_readWinds 9 = .ok (.ifCond .eq 11, 3) := by decide +kernel
theorem dX6_readWinds_12 : decode cX6_readWinds 12 = .ok (.aload_n 1, 1) := by decide +kernel
theorem dX6_readWinds_13 : decode cX6_readWinds 13 = .ok (.getfield 179, 3) := by decide +kernel
theorem dX6_readWinds_16 : decode cX6_readWinds 16 = .ok (.iconst (-1), 1) := by decide +kernel
theorem dX6_readWinds_17 : decode cX6_readWinds 17 = .ok (.if_icmp .eq 62, 3) := by decide +kernel
theorem dX6_readWinds_20 : decode cX6_readWinds 20 = .ok (.aload_n 1, 1) := by decide +kernel
theorem dX6_readWinds_21 : decode cX6_readWinds 21 = .ok (.iconst 0, 1) := by decide +kernel
theorem dX6_readWinds_22 : decode cX6_readWinds 22 = .ok (.iconst 2, 1) := by decide +kernel
theorem dX6_readWinds_23 : decode cX6_readWinds 23 = .ok (.invokevirtual 175, 3) := by decide +kernel
theorem dX6_readWinds_26 : decode cX6_readWinds 26 = .ok (.ifCond .ne 5, 3) := by decide +kernel
theorem dX6_readWinds_29 : decode cX6_readWinds 29 = .ok (.iconst 0, 1) := by decide +kernel
theorem dX6_readWinds_30 : decode cX6_readWinds 30 = .ok (.ireturn, 1) := by decide +kernel
theorem dX6_readWinds_31 : decode cX6_readWinds 31 = .ok (.aload_n 0, 1) := by decide +kernel
theorem dX6_readWinds_32 : decode cX6_readWinds 32 = .ok (.getfield 54, 3) := by decide +kernel
theorem dX6_readWinds_35 : decode cX6_readWinds 35 = .ok (.bipush 12, 2) := by decide +kernel
theorem dX6_readWinds_37 : decode cX6_readWinds 37 = .ok (.if_icmp .lt 9, 3) := by decide +kernel
theorem dX6_readWinds_40 : decode cX6_readWinds 40 = .ok (.aload_n 1, 1) := by decide +kernel
theorem dX6_readWinds_41 : decode cX6_readWinds 41 = .ok (.iconst 5, 1) := by decide +kernel
theorem dX6_readWinds_42 : decode cX6_readWinds 42 = .ok (.invokevirtual 99, 3) := by decide +kernel
theorem dX6_readWinds_45 : decode cX6_readWinds 45 = .ok (.ireturn, 1) := by decide +kernel
theorem dX6_readWinds_46 : decode cX6_readWinds 46 = .ok (.aload_n 0, 1) := by decide +kernel
theorem dX6_readWinds_47 : decode cX6_readWinds 47 = .ok (.getfield 35, 3) := by decide +kernel
theorem dX6_readWinds_50 : decode cX6_readWinds 50 = .ok (.aload_n 0, 1) := by decide +kernel
theorem dX6_readWinds_51 : decode cX6_readWinds 51 = .ok (.getfield 54, 3) := by decide +kernel
theorem dX6_readWinds_54 : decode cX6_readWinds 54 = .ok (.aload_n 1, 1) := by decide +kernel
theorem dX6_readWinds_55 : decode cX6_readWinds 55 = .ok (.getfield 179, 3) := by decide +kernel
theorem dX6_readWinds_58 : decode cX6_readWinds 58 = .ok (.iastore, 1) := by decide +kernel
theorem dX6_readWinds_59 : decode cX6_readWinds 59 = .ok (.aload_n 0, 1) := by decide +kernel
theorem dX6_readWinds_60 : decode cX6_readWinds 60 = .ok (.dup, 1) := by decide +kernel
theorem dX6_readWinds_61 : decode cX6_readWinds 61 = .ok (.getfield 54, 3) := by decide +kernel
theorem dX6_readWinds_64 : decode cX6_readWinds 64 = .ok (.iconst 1, 1) := by decide +kernel
theorem dX6_readWinds_65 : decode cX6_readWinds 65 = .ok (.iadd, 1) := by decide +kernel
theorem dX6_readWinds_66 : decode cX6_readWinds 66 = .ok (.putfield 54, 3) := by decide +kernel
theorem dX6_readWinds_69 : decode cX6_readWinds 69 = .ok (.aload_n 1, 1) := by decide +kernel
theorem dX6_readWinds_70 : decode cX6_readWinds 70 = .ok (.invokevirtual 112, 3) := by decide +kernel
theorem dX6_readWinds_73 : decode cX6_readWinds 73 = .ok (.iinc 2 1, 3) := by decide +kernel
theorem dX6_readWinds_76 : decode cX6_readWinds 76 = .ok (.goto (-74), 3) := by decide +kernel
theorem dX6_readWinds_79 : decode cX6_readWinds 79 = .ok (.iconst 1, 1) := by decide +kernel
theorem dX6_readWinds_80 : decode cX6_readWinds 80 = .ok (.ireturn, 1) := by decide +kernel
set_option maxHeartbeats 4000000 in
set_option maxRecDepth 100000 in
theorem B_X6_readWinds {G : zG} {X : zX} {kd : kD} {N0 : Nat} (C : zCt G X 3 0 0 RX6 cX6_readWinds 3) (hr : (zXh X).sig.returnType = (some .boolean)) : ∀ f : Nat,
    (∀ (S : aS) (v0 : Nat) (v1 : Nat) (res : Option Value × aS), zT0 kd N0 S → v0 < N0 → kd v0 = .inl 5 → v1 < N0 → kd v1 = .inl 7 → F_X6_readWinds f 0 [.ref v0, .ref v1] S = some res → zV G X (zQX G X (zPo G kd N0 res) 0 0) 3 [some (.ref (zB G + v0)), some (.ref (zB G + v1)), none] [] (cn G kd N0 S) 0 0 0) ∧
    (∀ (S : aS) (v0 : Nat) (v1 : Nat) (v2 : Int32) (res : Option Value × aS), zT0 kd N0 S → v0 < N0 → kd v0 = .inl 5 → v1 < N0 → kd v1 = .inl 7 → F_X6_readWinds f 1 [.ref v0, .ref v1, .int v2] S = some res → zV G X (zQX G X (zPo G kd N0 res) 0 0) 3 [some (.ref (zB G + v0)), some (.ref (zB G + v1)), some (.int v2)] [] (cn G kd N0 S) 2 0 0) ∧
    (∀ (S : aS)  (res : Option Value × aS), zT0 kd N0 S → F_X6_readWinds f 2 [] S = some res → zV G X (zQX G X (zPo G kd N0 res) 0 0) 3 [none, none, none] [] (cn G kd N0 S) 79 0 0) ∧
    (∀ (S : aS) (v0 : Nat) (v1 : Nat) (v2 : Int32) (res : Option Value × aS), zT0 kd N0 S → v0 < N0 → kd v0 = .inl 5 → v1 < N0 → kd v1 = .inl 7 → F_X6_readWinds f 3 [.ref v0, .ref v1, .int v2] S = some res → zV G X (zQX G X (zPo G kd N0 res) 0 0) 3 [some (.ref (zB G + v0)), some (.ref (zB G + v1)), some (.int v2)] [] (cn G kd N0 S) 20 0 0) := by
  intro f
  induction f with
  | zero => exact ⟨(fun _ _ _ _ _ _ _ _ _ h => by cases h), (fun _ _ _ _ _ _ _ _ _ _ h => by cases h), (fun _ _ _ h => by cases h), (fun _ _ _ _ _ _ _ _ _ _ h => by cases h)⟩
  | succ f ih =>
    obtain ⟨ih0, ih1, ih2, ih3⟩ := ih
    refine ⟨?_, ?_, ?_, ?_⟩
    · intro S v0 v1 res hT hpv0 hkv0 hpv1 hkv1 hF
      replace hF : F_X6_readWinds_0 f (F_X6_readWinds f) v0 v1 S = some res := hF
      unfold F_X6_readWinds_0 at hF
      refine z_iconst (v := 0) C dX6_readWinds_0 (by decide) ?_
      refine z_istore_n (lv2 := [some (.ref (zB G + v0)), some (.ref (zB G + v1)), some (.int 0)]) C dX6_readWinds_1 (by decide) rfl ?_
      exact ih1 S v0 v1 0 res hT hpv0 hkv0 hpv1 hkv1  hF
    · intro S v0 v1 v2 res hT hpv0 hkv0 hpv1 hkv1 hF
      replace hF : F_X6_readWinds_1 f (F_X6_readWinds f) v0 v1 v2 S = some res := hF
      unfold F_X6_readWinds_1 at hF
      refine z_iload_n C dX6_readWinds_2 rfl ?_
      refine z_bipush (v := 12) C dX6_readWinds_3 (by decide) ?_
      refine z_icmp_gt C 79 dX6_readWinds_5 (by decide) (fun c1 => ?_) (fun c1 => ?_)
      · replace hF := ip hF c1
        refine z_mask [false, false, false] ?_ rfl
        exact ih2 S  res hT  hF
      · replace hF := im hF c1
        refine z_iload_n C dX6_readWinds_8 rfl ?_
        refine z_if_eq C 20 dX6_readWinds_9 (by decide) (fun c2 => ?_) (fun c2 => ?_)
        · replace hF := ip hF c2
          exact ih3 S v0 v1 v2 res hT hpv0 hkv0 hpv1 hkv1  hF
        · replace hF := im hF c2
          refine z_aload_n C dX6_readWinds_12 rfl ?_
          refine f_geti C dX6_readWinds_13 zfRX6_179 hpv1 hkv1 rfl ?_
          refine z_iconst (v := (-1)) C dX6_readWinds_16 (by decide) ?_
          refine z_icmp_eq C 79 dX6_readWinds_17 (by decide) (fun c3 => ?_) (fun c3 => ?_)
          · replace hF := ip hF c3
            refine z_mask [false, false, false] ?_ rfl
            exact ih2 S  res hT  hF
          · replace hF := im hF c3
            exact ih3 S v0 v1 v2 res hT hpv0 hkv0 hpv1 hkv1  hF
    · intro S  res hT  hF
      replace hF : F_X6_readWinds_2 f (F_X6_readWinds f)  S = some res := hF
      unfold F_X6_readWinds_2 at hF
      refine z_iconst (v := 1) C dX6_readWinds_79 (by decide) ?_
      obtain ⟨hz, hF⟩ := bZ_some hF
      cases hF
      exact z_zret C hr hz.1 dX6_readWinds_80 ⟨rfl, rfl, hT⟩
    · intro S v0 v1 v2 res hT hpv0 hkv0 hpv1 hkv1 hF
      replace hF : F_X6_readWinds_3 f (F_X6_readWinds f) v0 v1 v2 S = some res := hF
      unfold F_X6_readWinds_3 at hF
      refine z_aload_n C dX6_readWinds_20 rfl ?_
      refine z_iconst (v := 0) C dX6_readWinds_21 (by decide) ?_
      refine z_iconst (v := 2) C dX6_readWinds_22 (by decide) ?_
      obtain ⟨x4, S4, h4, hF⟩ := bI_some hF
      refine f_cV (st2 := [.int x4]) C dX6_readWinds_23 zyX8_isNumberWithin zvX8_isNumberWithin lkRX6_175 (K_X8_isNumberWithin (l := zXl X) hT hpv1 hkv1   h4) hpv1 hkv1 rfl (by decide) rfl rfl (Nat.le_of_ble_eq_true rfl) rfl (fun hT4 => ?_)
      refine z_if_ne C 31 dX6_readWinds_26 (by decide) (fun c5 => ?_) (fun c5 => ?_)
      · replace hF := im hF c5
        refine z_aload_n C dX6_readWinds_31 rfl ?_
        refine f_geti C dX6_readWinds_32 zfRX6_54 hpv0 hkv0 rfl ?_
        refine z_bipush (v := 12) C dX6_readWinds_35 (by decide) ?_
        refine z_icmp_lt C 46 dX6_readWinds_37 (by decide) (fun c6 => ?_) (fun c6 => ?_)
        · replace hF := ip hF c6
          refine z_aload_n C dX6_readWinds_46 rfl ?_
          refine f_getr C dX6_readWinds_47 zfRX6_35 hpv0 hkv0 rfl ?_
          obtain ⟨hp7, hk7⟩ := hT4.1 v0 5 8 (.inr (0, 12)) hpv0 hkv0 rfl
          refine z_aload_n C dX6_readWinds_50 rfl ?_
          refine f_geti C dX6_readWinds_51 zfRX6_54 hpv0 hkv0 rfl ?_
          refine z_aload_n C dX6_readWinds_54 rfl ?_
          refine f_geti C dX6_readWinds_55 zfRX6_179 hpv1 hkv1 rfl ?_
          obtain ⟨hi8, hF⟩ := bX_some hF
          obtain ⟨q8, eq8⟩ : ∃ q : Nat, q = Int32.toNatClampNeg (gI S4 v0 9) := ⟨_, rfl⟩
          rw [← eq8] at hF
          refine f_iast C dX6_readWinds_58 hp7 hk7 hi8 ?_
          rw [← eq8]
          have hT9 : zT0 kd N0 (sI S4 (gR S4 v0 8) q8 (gI S4 v1 8)) := zT0_sI hT4
          replace hF := fS_e hF
          generalize sI S4 (gR S4 v0 8) q8 (gI S4 v1 8) = S9 at hF hT9 ⊢
          refine z_aload_n C dX6_readWinds_59 rfl ?_
          refine z_dup C dX6_readWinds_60 rfl ?_
          refine f_geti C dX6_readWinds_61 zfRX6_54 hpv0 hkv0 rfl ?_
          refine z_iconst (v := 1) C dX6_readWinds_64 (by decide) ?_
          refine z_iadd C dX6_readWinds_65 ?_
          refine f_puti C dX6_readWinds_66 zfRX6_54 fw5_9 hpv0 hkv0 rfl rfl rfl ?_
          have hT10 : zT0 kd N0 (sI S9 v0 9 ((gI S9 v0 9) + (1 : Int32))) := zT0_sI hT9
          replace hF := fS_e hF
          generalize sI S9 v0 9 ((gI S9 v0 9) + (1 : Int32)) = S10 at hF hT10 ⊢
          refine z_aload_n C dX6_readWinds_69 rfl ?_
          obtain ⟨S11, h11, hF⟩ := bV_some hF
          refine f_cV (st2 := []) C dX6_readWinds_70 zyX8_advance zvX8_advance lkRX6_112 (K_X8_advance (l := zXl X) hT10 hpv1 hkv1 h11) hpv1 hkv1 rfl (by decide) rfl rfl (Nat.le_of_ble_eq_true rfl) rfl (fun hT11 => ?_)
          refine z_iinc (v := v2 + 1) (lv2 := [some (.ref (zB G + v0)), some (.ref (zB G + v1)), some (.int (v2 + 1))]) C dX6_readWinds_73 rfl (by rw [show Int32.ofInt 1 = (1 : Int32) from by decide]) rfl ?_
          refine z_goto C 2 dX6_readWinds_76 (by decide) ?_
          exact ih1 S11 v0 v1 (v2 + 1) res hT11 hpv0 hkv0 hpv1 hkv1  hF
        · replace hF := im hF c6
          refine z_aload_n C dX6_readWinds_40 rfl ?_
          refine z_iconst (v := 5) C dX6_readWinds_41 (by decide) ?_
          obtain ⟨x12, S12, h12, hF⟩ := bI_some hF
          refine f_cV (st2 := [.int x12]) C dX6_readWinds_42 zyX8_fail zvX8_fail lkRX6_99 (K_X8_fail (l := zXl X) hT4 hpv1 hkv1  h12) hpv1 hkv1 rfl (by decide) rfl rfl (Nat.le_of_ble_eq_true rfl) rfl (fun hT12 => ?_)
          obtain ⟨hz, hF⟩ := bZ_some hF
          cases hF
          exact z_zret C hr hz.1 dX6_readWinds_45 ⟨rfl, rfl, hT12⟩
      · replace hF := ip hF c5
        refine z_iconst (v := 0) C dX6_readWinds_29 (by decide) ?_
        obtain ⟨hz, hF⟩ := bZ_some hF
        cases hF
        exact z_zret C hr hz.1 dX6_readWinds_30 ⟨rfl, rfl, hT4⟩
theorem K_X6_readWinds {G : zG} {l : Launch} {kd : kD} {N0 f : Nat} {S : aS} {v0 : Nat} {v1 : Nat} {res : Option Value × aS} (hT : zT0 kd N0 S) (hpv0 : v0 < N0) (hkv0 : kd v0 = .inl 5) (hpv1 : v1 < N0) (hkv1 : kd v1 = .inl 7) (hF : F_X6_readWinds f 0 [.ref v0, .ref v1] S = some res) : zM G l 3 0 0 yX6_readWinds cX6_readWinds 3 (some .boolean) [.ref (zB G + v0), .ref (zB G + v1)] (cn G kd N0 S) (zPo G kd N0 res) := zM.of (by decide) rfl (Nat.le_of_ble_eq_true rfl) (fun X _ C hr _ => (B_X6_readWinds C hr f).1 S v0 v1 res hT hpv0 hkv0 hpv1 hkv1 hF)
def F_X7_liesWithBins_0 (f : Nat) (rc : Nat → List Value → aS → aR) (v0 : Nat) (v1 : Int32) (v2 : Int32) (S : aS) : aR :=
  bX 1 7 fun q2 => bV (F_X4_become f 0 [.ref (gR S (gR S v0 3) q2), .ref (gR S v0 0)] S) fun S4 => rc 1 [.ref v0, .int v1, .int v2, .ref (gR S (gR S v0 3) q2), .int 0] S4
def F_X7_liesWithBins_1 (f : Nat) (rc : Nat → List Value → aS → aR) (v0 : Nat) (v1 : Int32) (v2 : Int32) (v3 : Nat) (v4 : Int32) (S : aS) : aR :=
  if (gI S v3 0) ≤ v4 then bV (F_X9_allWalkBut f 0 [.ref (gR S v0 1), .int ((-1)), .ref v3] S) fun S9 => bI (F_X4_total f 0 [.ref v3] S9) fun x10 S10 => some (some (.int x10), S10) else if (v1 &&& ((1 : Int32) <<< (v4 &&& 31))) = (0 : Int32) then rc 2 [.ref v0, .int v1, .int v2, .ref v3, .int v4] S else bV (F_X4_setBin f 0 [.ref v3, .int v4, .int v2] S) fun S13 => rc 2 [.ref v0, .int v1, .int v2, .ref v3, .int v4] S13
def F_X7_liesWithBins_2 (f : Nat) (rc : Nat → List Value → aS → aR) (v0 : Nat) (v1 : Int32) (v2 : Int32) (v3 : Nat) (v4 : Int32) (S : aS) : aR :=
  rc 1 [.ref v0, .int v1, .int v2, .ref v3, .int (v4 + 1)] S
def F_X7_liesWithBins : Nat → Nat → List Value → aS → aR
  | 0, _, _, _ => none
  | f + 1, 0, vs, S => F_X7_liesWithBins_0 f (F_X7_liesWithBins f) (vR vs 0) (vI vs 1) (vI vs 2) S
  | f + 1, 1, vs, S => F_X7_liesWithBins_1 f (F_X7_liesWithBins f) (vR vs 0) (vI vs 1) (vI vs 2) (vR vs 3) (vI vs 4) S
  | f + 1, 2, vs, S => F_X7_liesWithBins_2 f (F_X7_liesWithBins f) (vR vs 0) (vI vs 1) (vI vs 2) (vR vs 3) (vI vs 4) S
  | _ + 1, _, _, _ => none
theorem dX7_liesWithBins_0 : decode cX7_liesWithBins 0 = .ok (.aload_n 0, 1) := by decide +kernel
theorem dX7_liesWithBins_1 : decode cX7_liesWithBins 1 = .ok (.getfield 13, 3) := by decide +kernel
theorem dX7_liesWithBins_4 : decode cX7_liesWithBins 4 = .ok (.iconst 1, 1) := by decide +kernel
theorem dX7_liesWithBins_5 : decode cX7_liesWithBins 5 = .ok (.aaload, 1) := by decide +kernel
theorem dX7_liesWithBins_6 : decode cX7_liesWithBins 6 = .ok (.astore_n 3, 1) := by decide +kernel
theorem dX7_liesWithBins_7 : decode cX7_liesWithBins 7 = .ok (.aload_n 3, 1) := by decide +kernel
theorem dX7_liesWithBins_8 : decode cX7_liesWithBins 8 = .ok (.aload_n 0, 1) := by decide +kernel
theorem dX7_liesWithBins_9 : decode cX7_liesWithBins 9 = .ok (.getfield 29, 3) := by decide +kernel
theorem dX7_liesWithBins_12 : decode cX7_liesWithBins 12 = .ok (.invokevirtual 49, 3) := by decide +kernel
theorem dX7_liesWithBins_15 : decode cX7_liesWithBins 15 = .ok (.iconst 0, 1) := by decide +kernel
theorem dX7_liesWithBins_16 : decode cX7_liesWithBins 16 = .ok (.istore 4, 2) := by decide +kernel
theorem dX7_liesWithBins_18 : decode cX7_liesWithBins 18 = .ok (.iload 4, 2) := by decide +kernel
theorem dX7_liesWithBins_20 : decode cX7_liesWithBins 20 = .ok (.aload_n 3, 1) := by decide +kernel
theorem dX7_liesWithBins_21 : decode cX7_liesWithBins 21 = .ok (.getfield 63, 3) := by decide +kernel
theorem dX7_liesWithBins_24 : decode cX7_liesWithBins 24 = .ok (.if_icmp .ge 25, 3) := by decide +kernel
theorem dX7_liesWithBins_27 : decode cX7_liesWithBins 27 = .ok (.iload_n 1, 1) := by decide +kernel
theorem dX7_liesWithBins_28 : decode cX7_liesWithBins 28 = .ok (.iconst 1, 1) := by decide +kernel
theorem dX7_liesWithBins_29 : decode cX7_liesWithBins 29 = .ok (.iload 4, 2) := by decide +kernel
theorem dX7_liesWithBins_31 : decode cX7_liesWithBins 31 = .ok (.ishl, 1) := by decide +kernel
theorem dX7_liesWithBins_32 : decode cX7_liesWithBins 32 = .ok (.iand, 1) := by decide +kernel
theorem dX7_liesWithBins_33 : decode cX7_liesWithBins 33 = .ok (.ifCond .eq 10, 3) := by decide +kernel
theorem dX7_liesWithBins_36 : decode cX7_liesWithBins 36 = .ok (.aload_n 3, 1) := by decide +kernel
theorem dX7_liesWithBins_37 : decode cX7_liesWithBins 37 = .ok (.iload 4, 2) := by decide +kernel
theorem dX7_liesWithBins_39 : decode cX7_liesWithBins 39 = .ok (.iload_n 2, 1) := by decide +kernel
theorem dX7_liesWithBins_40 : decode cX7_liesWithBins 40 = .ok (.invokevirtual 74, 3) := by decide +kernel
theorem dX7_liesWithBins_43 : decode cX7_liesWithBins 43 = .ok (.iinc 4 1, 3) := by decide +kernel
theorem dX7_liesWithBins_46 : decode cX7_liesWithBins 46 = .ok (.goto (-28), 3) := by decide +kernel
theorem dX7_liesWithBins_49 : decode cX7_liesWithBins 49 = .ok (.aload_n 0, 1) := by decide +kernel
theorem dX7_liesWithBins_50 : decode cX7_liesWithBins 50 = .ok (.getfield 37, 3) := by decide +kernel
theorem dX7_liesWithBins_53 : decode cX7_liesWithBins 53 = .ok (.iconst (-1), 1) := by decide +kernel
theorem dX7_liesWithBins_54 : decode cX7_liesWithBins 54 = .ok (.aload_n 3, 1) := by decide +kernel
theorem dX7_liesWithBins_55 : decode cX7_liesWithBins 55 = .ok (.invokevirtual 77, 3) := by decide +kernel
theorem dX7_liesWithBins_58 : decode cX7_liesWithBins 58 = .ok (.aload_n 3, 1) := by decide +kernel
theorem dX7_liesWithBins_59 : decode cX7_liesWithBins 59 = .ok (.invokevirtual 83, 3) := by decide +kernel
theorem dX7_liesWithBins_62 : decode cX7_liesWithBins 62 = .ok (.ireturn, 1) := by decide +kernel
set_option maxHeartbeats 4000000 in
set_option maxRecDepth 100000 in
theorem B_X7_liesWithBins {G : zG} {X : zX} {kd : kD} {N0 : Nat} (C : zCt G X 5 0 0 RX7 cX7_liesWithBins 5) (hr : (zXh X).sig.returnType = (some .int)) : ∀ f : Nat,
    (∀ (S : aS) (v0 : Nat) (v1 : Int32) (v2 : Int32) (res : Option Value × aS), zT0 kd N0 S → v0 < N0 → kd v0 = .inl 6 → F_X7_liesWithBins f 0 [.ref v0, .int v1, .int v2] S = some res → zV G X (zQX G X (zPo G kd N0 res) 0 0) 5 [some (.ref (zB G + v0)), some (.int v1), some (.int v2), none, none] [] (cn G kd N0 S) 0 0 0) ∧
    (∀ (S : aS) (v0 : Nat) (v1 : Int32) (v2 : Int32) (v3 : Nat) (v4 : Int32) (res : Option Value × aS), zT0 kd N0 S → v0 < N0 → kd v0 = .inl 6 → v3 < N0 → kd v3 = .inl 3 → F_X7_liesWithBins f 1 [.ref v0, .int v1, .int v2, .ref v3, .int v4] S = some res → zV G X (zQX G X (zPo G kd N0 res) 0 0) 5 [some (.ref (zB G + v0)), some (.int v1), some (.int v2), some (.ref (zB G + v3)), some (.int v4)] [] (cn G kd N0 S) 18 0 0) ∧
    (∀ (S : aS) (v0 : Nat) (v1 : Int32) (v2 : Int32) (v3 : Nat) (v4 : Int32) (res : Option Value × aS), zT0 kd N0 S → v0 < N0 → kd v0 = .inl 6 → v3 < N0 → kd v3 = .inl 3 → F_X7_liesWithBins f 2 [.ref v0, .int v1, .int v2, .ref v3, .int v4] S = some res → zV G X (zQX G X (zPo G kd N0 res) 0 0) 5 [some (.ref (zB G + v0)), some (.int v1), some (.int v2), some (.ref (zB G + v3)), some (.int v4)] [] (cn G kd N0 S) 43 0 0) := by
  intro f
  induction f with
  | zero => exact ⟨(fun _ _ _ _ _ _ _ _ h => by cases h), (fun _ _ _ _ _ _ _ _ _ _ _ _ h => by cases h), (fun _ _ _ _ _ _ _ _ _ _ _ _ h => by cases h)⟩
  | succ f ih =>
    obtain ⟨ih0, ih1, ih2⟩ := ih
    refine ⟨?_, ?_, ?_⟩
    · intro S v0 v1 v2 res hT hpv0 hkv0 hF
      replace hF : F_X7_liesWithBins_0 f (F_X7_liesWithBins f) v0 v1 v2 S = some res := hF
      unfold F_X7_liesWithBins_0 at hF
      refine z_aload_n C dX7_liesWithBins_0 rfl ?_
      refine f_getr C dX7_liesWithBins_1 zfRX7_13 hpv0 hkv0 rfl ?_
      obtain ⟨hp1, hk1⟩ := hT.1 v0 6 3 (.inr (4, 7)) hpv0 hkv0 rfl
      refine z_iconst (v := 1) C dX7_liesWithBins_4 (by decide) ?_
      obtain ⟨hi2, hF⟩ := bX_some hF
      obtain ⟨q2, eq2⟩ : ∃ q : Nat, q = Int32.toNatClampNeg 1 := ⟨_, rfl⟩
      rw [← eq2] at hF
      refine f_aald C dX7_liesWithBins_5 hp1 hk1 rfl rfl rfl hi2 ?_
      obtain ⟨hp2, hk2⟩ := hT.2.1 (gR S v0 3) 4 7 (.inl 3) q2 hp1 hk1 rfl (by rw [eq2]; exact Nat.not_le.mp fun z => hi2 (Or.inr z))
      rw [← eq2]
      refine z_astore_n (lv2 := [some (.ref (zB G + v0)), some (.int v1), some (.int v2), some (.ref (zB G + (gR S (gR S v0 3) q2))), none]) C dX7_liesWithBins_6 (by decide) rfl ?_
      refine z_aload_n C dX7_liesWithBins_7 rfl ?_
      refine z_aload_n C dX7_liesWithBins_8 rfl ?_
      refine f_getr C dX7_liesWithBins_9 zfRX7_29 hpv0 hkv0 rfl ?_
      obtain ⟨hp3, hk3⟩ := hT.1 v0 6 0 (.inl 3) hpv0 hkv0 rfl
      obtain ⟨S4, h4, hF⟩ := bV_some hF
      refine f_cV (st2 := []) C dX7_liesWithBins_12 zyX4_become zvX4_become lkRX7_49 (K_X4_become (l := zXl X) hT hp2 hk2 hp3 hk3 h4) hp2 hk2 rfl (by decide) rfl rfl (Nat.le_of_ble_eq_true rfl) rfl (fun hT4 => ?_)
      refine z_iconst (v := 0) C dX7_liesWithBins_15 (by decide) ?_
      refine z_istore (lv2 := [some (.ref (zB G + v0)), some (.int v1), some (.int v2), some (.ref (zB G + (gR S (gR S v0 3) q2))), some (.int 0)]) C dX7_liesWithBins_16 (by decide) rfl ?_
      exact ih1 S4 v0 v1 v2 (gR S (gR S v0 3) q2) 0 res hT4 hpv0 hkv0   hp2 hk2  hF
    · intro S v0 v1 v2 v3 v4 res hT hpv0 hkv0 hpv3 hkv3 hF
      replace hF : F_X7_liesWithBins_1 f (F_X7_liesWithBins f) v0 v1 v2 v3 v4 S = some res := hF
      unfold F_X7_liesWithBins_1 at hF
      refine z_iload C dX7_liesWithBins_18 rfl ?_
      refine z_aload_n C dX7_liesWithBins_20 rfl ?_
      refine f_geti C dX7_liesWithBins_21 zfRX7_63 hpv3 hkv3 rfl ?_
      refine z_icmp_ge C 49 dX7_liesWithBins_24 (by decide) (fun c7 => ?_) (fun c7 => ?_)
      · replace hF := ip hF c7
        refine z_aload_n C dX7_liesWithBins_49 rfl ?_
        refine f_getr C dX7_liesWithBins_50 zfRX7_37 hpv0 hkv0 rfl ?_
        obtain ⟨hp8, hk8⟩ := hT.1 v0 6 1 (.inl 8) hpv0 hkv0 rfl
        refine z_iconst (v := (-1)) C dX7_liesWithBins_53 (by decide) ?_
        refine z_aload_n C dX7_liesWithBins_54 rfl ?_
        obtain ⟨S9, h9, hF⟩ := bV_some hF
        refine f_cV (st2 := []) C dX7_liesWithBins_55 zyX9_allWalkBut zvX9_allWalkBut lkRX7_77 (K_X9_allWalkBut (l := zXl X) hT hp8 hk8  hpv3 hkv3 h9) hp8 hk8 rfl (by decide) rfl rfl (Nat.le_of_ble_eq_true rfl) rfl (fun hT9 => ?_)
        refine z_aload_n C dX7_liesWithBins_58 rfl ?_
        obtain ⟨x10, S10, h10, hF⟩ := bI_some hF
        refine f_cV (st2 := [.int x10]) C dX7_liesWithBins_59 zyX4_total zvX4_total lkRX7_83 (K_X4_total (l := zXl X) hT9 hpv3 hkv3 h10) hpv3 hkv3 rfl (by decide) rfl rfl (Nat.le_of_ble_eq_true rfl) rfl (fun hT10 => ?_)
        cases hF
        exact z_iret C hr dX7_liesWithBins_62 ⟨rfl, rfl, hT10⟩
      · replace hF := im hF c7
        refine z_iload_n C dX7_liesWithBins_27 rfl ?_
        refine z_iconst (v := 1) C dX7_liesWithBins_28 (by decide) ?_
        refine z_iload C dX7_liesWithBins_29 rfl ?_
        refine z_ishl C dX7_liesWithBins_31 ?_
        refine z_iand C dX7_liesWithBins_32 ?_
        refine z_if_eq C 43 dX7_liesWithBins_33 (by decide) (fun c12 => ?_) (fun c12 => ?_)
        · replace hF := ip hF c12
          exact ih2 S v0 v1 v2 v3 v4 res hT hpv0 hkv0   hpv3 hkv3  hF
        · replace hF := im hF c12
          refine z_aload_n C dX7_liesWithBins_36 rfl ?_
          refine z_iload C dX7_liesWithBins_37 rfl ?_
          refine z_iload_n C dX7_liesWithBins_39 rfl ?_
          obtain ⟨S13, h13, hF⟩ := bV_some hF
          refine f_cV (st2 := []) C dX7_liesWithBins_40 zyX4_setBin zvX4_setBin lkRX7_74 (K_X4_setBin (l := zXl X) hT hpv3 hkv3   h13) hpv3 hkv3 rfl (by decide) rfl rfl (Nat.le_of_ble_eq_true rfl) rfl (fun hT13 => ?_)
          exact ih2 S13 v0 v1 v2 v3 v4 res hT13 hpv0 hkv0   hpv3 hkv3  hF
    · intro S v0 v1 v2 v3 v4 res hT hpv0 hkv0 hpv3 hkv3 hF
      replace hF : F_X7_liesWithBins_2 f (F_X7_liesWithBins f) v0 v1 v2 v3 v4 S = some res := hF
      unfold F_X7_liesWithBins_2 at hF
      refine z_iinc (v := v4 + 1) (lv2 := [some (.ref (zB G + v0)), some (.int v1), some (.int v2), some (.ref (zB G + v3)), some (.int (v4 + 1))]) C dX7_liesWithBins_43 rfl (by rw [show Int32.ofInt 1 = (1 : Int32) from by decide]) rfl ?_
      refine z_goto C 18 dX7_liesWithBins_46 (by decide) ?_
      exact ih1 S v0 v1 v2 v3 (v4 + 1) res hT hpv0 hkv0   hpv3 hkv3  hF
theorem K_X7_liesWithBins {G : zG} {l : Launch} {kd : kD} {N0 f : Nat} {S : aS} {v0 : Nat} {v1 : Int32} {v2 : Int32} {res : Option Value × aS} (hT : zT0 kd N0 S) (hpv0 : v0 < N0) (hkv0 : kd v0 = .inl 6) (hF : F_X7_liesWithBins f 0 [.ref v0, .int v1, .int v2] S = some res) : zM G l 5 0 0 yX7_liesWithBins cX7_liesWithBins 5 (some .int) [.ref (zB G + v0), .int v1, .int v2] (cn G kd N0 S) (zPo G kd N0 res) := zM.of (by decide) rfl (Nat.le_of_ble_eq_true rfl) (fun X _ C hr _ => (B_X7_liesWithBins C hr f).1 S v0 v1 v2 res hT hpv0 hkv0 hF)
def F_X7_liesAfterMove_0 (f : Nat) (rc : Nat → List Value → aS → aR) (v0 : Nat) (v1 : Int32) (v2 : Int32) (S : aS) : aR :=
  bX 1 7 fun q2 => bV (F_X4_become f 0 [.ref (gR S (gR S v0 3) q2), .ref (gR S v0 0)] S) fun S4 => bX v1 8 fun q6 => bV (F_X4_setBin f 0 [.ref (gR S (gR S v0 3) q2), .int v2, .int (gI S4 (gR S4 (gR S (gR S v0 3) q2) 2) q6)] S4) fun S7 => bI (F_X4_takeBin f 0 [.ref (gR S (gR S v0 3) q2), .int v1] S7) fun x8 S8 => bV (F_X9_allWalkBut f 0 [.ref (gR S8 v0 1), .int ((-1)), .ref (gR S (gR S v0 3) q2)] S8) fun S10 => bI (F_X4_total f 0 [.ref (gR S (gR S v0 3) q2)] S10) fun x11 S11 => some (some (.int x11), S11)
def F_X7_liesAfterMove : Nat → Nat → List Value → aS → aR
  | 0, _, _, _ => none
  | f + 1, 0, vs, S => F_X7_liesAfterMove_0 f (F_X7_liesAfterMove f) (vR vs 0) (vI vs 1) (vI vs 2) S
  | _ + 1, _, _, _ => none
theorem dX7_liesAfterMove_0 : decode cX7_liesAfterMove 0 = .ok (.aload_n 0, 1) := by decide +kernel
theorem dX7_liesAfterMove_1 : decode cX7_liesAfterMove 1 = .ok (.getfield 13, 3) := by decide +kernel
theorem dX7_liesAfterMove_4 : decode cX7_liesAfterMove 4 = .ok (.iconst 1, 1) := by decide +kernel
theorem dX7_liesAfterMove_5 : decode cX7_liesAfterMove 5 = .ok (.aaload, 1) := by decide +kernel
theorem dX7_liesAfterMove_6 : decode cX7_liesAfterMove 6 = .ok (.astore_n 3, 1) := by decide +kernel
theorem dX7_liesAfterMove_7 : decode cX7_liesAfterMove 7 = .ok (.aload_n 3, 1) := by decide +kernel
theorem dX7_liesAfterMove_8 : decode cX7_liesAfterMove 8 = .ok (.aload_n 0, 1) := by decide +kernel
theorem dX7_liesAfterMove_9 : decode cX7_liesAfterMove 9 = .ok (.getfield 29, 3) := by decide +kernel
theorem dX7_liesAfterMove_12 : decode cX7_liesAfterMove 12 = .ok (.invokevirtual 49, 3) := by decide +kernel
theorem dX7_liesAfterMove_15 : decode cX7_liesAfterMove 15 = .ok (.aload_n 3, 1) := by decide +kernel
theorem dX7_liesAfterMove_16 : decode cX7_liesAfterMove 16 = .ok (.iload_n 2, 1) := by decide +kernel
theorem dX7_liesAfterMove_17 : decode cX7_liesAfterMove 17 = .ok (.aload_n 3, 1) := by decide +kernel
theorem dX7_liesAfterMove_18 : decode cX7_liesAfterMove 18 = .ok (.getfield 96, 3) := by decide +kernel
theorem dX7_liesAfterMove_21 : decode cX7_liesAfterMove 21 = .ok (.iload_n 1, 1) := by decide +kernel
theorem dX7_liesAfterMove_22 : decode cX7_liesAfterMove 22 = .ok (.iaload, 1) := by decide +kernel
theorem dX7_liesAfterMove_23 : decode cX7_liesAfterMove 23 = .ok (.invokevirtual 74, 3) := by decide +kernel
theorem dX7_liesAfterMove_26 : decode cX7_liesAfterMove 26 = .ok (.aload_n 3, 1) := by decide +kernel
theorem dX7_liesAfterMove_27 : decode cX7_liesAfterMove 27 = .ok (.iload_n 1, 1) := by decide +kernel
theorem dX7_liesAfterMove_28 : decode cX7_liesAfterMove 28 = .ok (.invokevirtual 99, 3) := by decide +kernel
theorem dX7_liesAfterMove_31 : decode cX7_liesAfterMove 31 = .ok (.pop, 1) := by decide +kernel
theorem dX7_liesAfterMove_32 : decode cX7_liesAfterMove 32 = .ok (.aload_n 0, 1) := by decide +kernel
theorem dX7_liesAfterMove_33 : decode cX7_liesAfterMove 33 = .ok (.getfield 37, 3) := by decide +kernel
theorem dX7_liesAfterMove_36 : decode cX7_liesAfterMove 36 = .ok (.iconst (-1), 1) := by decide +kernel
theorem dX7_liesAfterMove_37 : decode cX7_liesAfterMove 37 = .ok (.aload_n 3, 1) := by decide +kernel
theorem dX7_liesAfterMove_38 : decode cX7_liesAfterMove 38 = .ok (.invokevirtual 77, 3) := by decide +kernel
theorem dX7_liesAfterMove_41 : decode cX7_liesAfterMove 41 = .ok (.aload_n 3, 1) := by decide +kernel
theorem dX7_liesAfterMove_42 : decode cX7_liesAfterMove 42 = .ok (.invokevirtual 83, 3) := by decide +kernel
theorem dX7_liesAfterMove_45 : decode cX7_liesAfterMove 45 = .ok (.ireturn, 1) := by decide +kernel
set_option maxHeartbeats 4000000 in
set_option maxRecDepth 100000 in
theorem B_X7_liesAfterMove {G : zG} {X : zX} {kd : kD} {N0 : Nat} (C : zCt G X 5 0 0 RX7 cX7_liesAfterMove 4) (hr : (zXh X).sig.returnType = (some .int)) : ∀ f : Nat,
    (∀ (S : aS) (v0 : Nat) (v1 : Int32) (v2 : Int32) (res : Option Value × aS), zT0 kd N0 S → v0 < N0 → kd v0 = .inl 6 → F_X7_liesAfterMove f 0 [.ref v0, .int v1, .int v2] S = some res → zV G X (zQX G X (zPo G kd N0 res) 0 0) 4 [some (.ref (zB G + v0)), some (.int v1), some (.int v2), none] [] (cn G kd N0 S) 0 0 0) := by
  intro f
  induction f with
  | zero => exact (fun _ _ _ _ _ _ _ _ h => by cases h)
  | succ f ih =>
    have ih0 := ih
    intro S v0 v1 v2 res hT hpv0 hkv0 hF
    replace hF : F_X7_liesAfterMove_0 f (F_X7_liesAfterMove f) v0 v1 v2 S = some res := hF
    unfold F_X7_liesAfterMove_0 at hF
    refine z_aload_n C dX7_liesAfterMove_0 rfl ?_
    refine f_getr C dX7_liesAfterMove_1 zfRX7_13 hpv0 hkv0 rfl ?_
    obtain ⟨hp1, hk1⟩ := hT.1 v0 6 3 (.inr (4, 7)) hpv0 hkv0 rfl
    refine z_iconst (v := 1) C dX7_liesAfterMove_4 (by decide) ?_
    obtain ⟨hi2, hF⟩ := bX_some hF
    obtain ⟨q2, eq2⟩ : ∃ q : Nat, q = Int32.toNatClampNeg 1 := ⟨_, rfl⟩
    rw [← eq2] at hF
    refine f_aald C dX7_liesAfterMove_5 hp1 hk1 rfl rfl rfl hi2 ?_
    obtain ⟨hp2, hk2⟩ := hT.2.1 (gR S v0 3) 4 7 (.inl 3) q2 hp1 hk1 rfl (by rw [eq2]; exact Nat.not_le.mp fun z => hi2 (Or.inr z))
    rw [← eq2]
    refine z_astore_n (lv2 := [some (.ref (zB G + v0)), some (.int v1), some (.int v2), some (.ref (zB G + (gR S (gR S v0 3) q2)))]) C dX7_liesAfterMove_6 (by decide) rfl ?_
    refine z_aload_n C dX7_liesAfterMove_7 rfl ?_
    refine z_aload_n C dX7_liesAfterMove_8 rfl ?_
    refine f_getr C dX7_liesAfterMove_9 zfRX7_29 hpv0 hkv0 rfl ?_
    obtain ⟨hp3, hk3⟩ := hT.1 v0 6 0 (.inl 3) hpv0 hkv0 rfl
    obtain ⟨S4, h4, hF⟩ := bV_some hF
    refine f_cV (st2 := []) C dX7_liesAfterMove_12 zyX4_become zvX4_become lkRX7_49 (K_X4_become (l := zXl X) hT hp2 hk2 hp3 hk3 h4) hp2 hk2 rfl (by decide) rfl rfl (Nat.le_of_ble_eq_true rfl) rfl (fun hT4 => ?_)
    refine z_aload_n C dX7_liesAfterMove_15 rfl ?_
    refine z_iload_n C dX7_liesAfterMove_16 rfl ?_
    refine z_aload_n C dX7_liesAfterMove_17 rfl ?_
    refine f_getr C dX7_liesAfterMove_18 zfRX7_96 hp2 hk2 rfl ?_
    obtain ⟨hp5, hk5⟩ := hT4.1 (gR S (gR S v0 3) q2) 3 2 (.inr (0, 8)) hp2 hk2 rfl
    refine z_iload_n C dX7_liesAfterMove_21 rfl ?_
    obtain ⟨hi6, hF⟩ := bX_some hF
    obtain ⟨q6, eq6⟩ : ∃ q : Nat, q = Int32.toNatClampNeg v1 := ⟨_, rfl⟩
    rw [← eq6] at hF
    refine f_iald C dX7_liesAfterMove_22 hp5 hk5 hi6 ?_
    rw [← eq6]
    obtain ⟨S7, h7, hF⟩ := bV_some hF
    refine f_cV (st2 := []) C dX7_liesAfterMove_23 zyX4_setBin zvX4_setBin lkRX7_74 (K_X4_setBin (l := zXl X) hT4 hp2 hk2   h7) hp2 hk2 rfl (by decide) rfl rfl (Nat.le_of_ble_eq_true rfl) rfl (fun hT7 => ?_)
    refine z_aload_n C dX7_liesAfterMove_26 rfl ?_
    refine z_iload_n C dX7_liesAfterMove_27 rfl ?_
    obtain ⟨x8, S8, h8, hF⟩ := bI_some hF
    refine f_cV (st2 := [.int x8]) C dX7_liesAfterMove_28 zyX4_takeBin zvX4_takeBin lkRX7_99 (K_X4_takeBin (l := zXl X) hT7 hp2 hk2  h8) hp2 hk2 rfl (by decide) rfl rfl (Nat.le_of_ble_eq_true rfl) rfl (fun hT8 => ?_)
    refine z_pop C dX7_liesAfterMove_31 rfl ?_
    refine z_aload_n C dX7_liesAfterMove_32 rfl ?_
    refine f_getr C dX7_liesAfterMove_33 zfRX7_37 hpv0 hkv0 rfl ?_
    obtain ⟨hp9, hk9⟩ := hT8.1 v0 6 1 (.inl 8) hpv0 hkv0 rfl
    refine z_iconst (v := (-1)) C dX7_liesAfterMove_36 (by decide) ?_
    refine z_aload_n C dX7_liesAfterMove_37 rfl ?_
    obtain ⟨S10, h10, hF⟩ := bV_some hF
    refine f_cV (st2 := []) C dX7_liesAfterMove_38 zyX9_allWalkBut zvX9_allWalkBut lkRX7_77 (K_X9_allWalkBut (l := zXl X) hT8 hp9 hk9  hp2 hk2 h10) hp9 hk9 rfl (by decide) rfl rfl (Nat.le_of_ble_eq_true rfl) rfl (fun hT10 => ?_)
    refine z_aload_n C dX7_liesAfterMove_41 rfl ?_
    obtain ⟨x11, S11, h11, hF⟩ := bI_some hF
    refine f_cV (st2 := [.int x11]) C dX7_liesAfterMove_42 zyX4_total zvX4_total lkRX7_83 (K_X4_total (l := zXl X) hT10 hp2 hk2 h11) hp2 hk2 rfl (by decide) rfl rfl (Nat.le_of_ble_eq_true rfl) rfl (fun hT11 => ?_)
    cases hF
    exact z_iret C hr dX7_liesAfterMove_45 ⟨rfl, rfl, hT11⟩
theorem K_X7_liesAfterMove {G : zG} {l : Launch} {kd : kD} {N0 f : Nat} {S : aS} {v0 : Nat} {v1 : Int32} {v2 : Int32} {res : Option Value × aS} (hT : zT0 kd N0 S) (hpv0 : v0 < N0) (hkv0 : kd v0 = .inl 6) (hF : F_X7_liesAfterMove f 0 [.ref v0, .int v1, .int v2] S = some res) : zM G l 5 0 0 yX7_liesAfterMove cX7_liesAfterMove 4 (some .int) [.ref (zB G + v0), .int v1, .int v2] (cn G kd N0 S) (zPo G kd N0 res) := zM.of (by decide) rfl (Nat.le_of_ble_eq_true rfl) (fun X _ C hr _ => (B_X7_liesAfterMove C hr f) S v0 v1 v2 res hT hpv0 hkv0 hF)
def F_X7_passRound_0 (f : Nat) (rc : Nat → List Value → aS → aR) (v0 : Nat) (v1 : Int32) (v2 : Int32) (S : aS) : aR :=
  bX (v1 + (1 : Int32)) 7 fun q2 => bX v1 7 fun q4 => bV (F_X4_become f 0 [.ref (gR S (gR S v0 3) q2), .ref (gR S (gR S v0 3) q4)] S) fun S5 => if v2 = (0 : Int32) then rc 1 [.ref v0, .ref (gR S (gR S v0 3) q2)] S5 else bV (F_X4_emptyBins f 0 [.ref (gR S (gR S v0 3) q2), .int (gI S5 (gR S5 v0 2) 10)] S5) fun S10 => rc 1 [.ref v0, .ref (gR S (gR S v0 3) q2)] S10
def F_X7_passRound_1 (f : Nat) (rc : Nat → List Value → aS → aR) (v0 : Nat) (v1 : Nat) (S : aS) : aR :=
  bV (F_X9_allWalkBut f 0 [.ref (gR S v0 1), .int ((-1)), .ref v1] S) fun S12 => bI (F_X4_passHour f 0 [.ref v1, .ref (gR S12 v0 2)] S12) fun x14 S14 => some (none, S14)
def F_X7_passRound : Nat → Nat → List Value → aS → aR
  | 0, _, _, _ => none
  | f + 1, 0, vs, S => F_X7_passRound_0 f (F_X7_passRound f) (vR vs 0) (vI vs 1) (vI vs 2) S
  | f + 1, 1, vs, S => F_X7_passRound_1 f (F_X7_passRound f) (vR vs 0) (vR vs 1) S
  | _ + 1, _, _, _ => none
theorem dX7_passRound_0 : decode cX7_passRound 0 = .ok (.aload_n 0, 1) := by decide +kernel
theorem dX7_passRound_1 : decode cX7_passRound 1 = .ok (.getfield 13, 3) := by decide +kernel
theorem dX7_passRound_4 : decode cX7_passRound 4 = .ok (.iload_n 1, 1) := by decide +kernel
theorem dX7_passRound_5 : decode cX7_passRound 5 = .ok (.iconst 1, 1) := by decide +kernel
theorem dX7_passRound_6 : decode cX7_passRound 6 = .ok (.iadd, 1) := by decide +kernel
theorem dX7_passRound_7 : decode cX7_passRound 7 = .ok (.aaload, 1) := by decide +kernel
theorem dX7_passRound_8 : decode cX7_passRound 8 = .ok (.astore_n 3, 1) := by decide +kernel
theorem dX7_passRound_9 : decode cX7_passRound 9 = .ok (.aload_n 3, 1) := by decide +kernel
theorem dX7_passRound_10 : decode cX7_passRound 10 = .ok (.aload_n 0, 1) := by decide +kernel
theorem dX7_passRound_11 : decode cX7_passRound 11 = .ok (.getfield 13, 3) := by decide +kernel
theorem dX7_passRound_14 : decode cX7_passRound 14 = .ok (.iload_n 1, 1) := by decide +kernel
theorem dX7_passRound_15 : decode cX7_passRound 15 = .ok (.aaload, 1) := by decide +kernel
theorem dX7_passRound_16 : decode cX7_passRound 16 = .ok (.invokevirtual 49, 3) := by decide +kernel
theorem dX7_passRound_19 : decode cX7_passRound 19 = .ok (.iload_n 2, 1) := by decide +kernel
theorem dX7_passRound_20 : decode cX7_passRound 20 = .ok (.ifCond .eq 14, 3) := by decide +kernel
theorem dX7_passRound_23 : decode cX7_passRound 23 = .ok (.aload_n 3, 1) := by decide +kernel
theorem dX7_passRound_24 : decode cX7_passRound 24 = .ok (.aload_n 0, 1) := by decide +kernel
theorem dX7_passRound_25 : decode cX7_passRound 25 = .ok (.getfield 33, 3) := by decide +kernel
theorem dX7_passRound_28 : decode cX7_passRound 28 = .ok (.getfield 126, 3) := by decide +kernel
theorem dX7_passRound_31 : decode cX7_passRound 31 = .ok (.invokevirtual 129, 3) := by decide +kernel
theorem dX7_passRound_34 : decode cX7_passRound 34 = .ok (.aload_n 0, 1) := by decide +kernel
theorem dX7_passRound_35 : decode cX7_passRound 35 = .ok (.getfield 37, 3) := by decide +kernel
theorem dX7_passRound_38 : decode cX7_passRound 38 = .ok (.iconst (-1), 1) := by decide +kernel
theorem dX7_passRound_39 : decode cX7_passRound 39 = .ok (.aload_n 3, 1) := by decide +kernel
theorem dX7_passRound_40 : decode cX7_passRound 40 = .ok (.invokevirtual 77, 3) := by decide +kernel
theorem dX7_passRound_43 : decode cX7_passRound 43 = .ok (.aload_n 3, 1) := by decide +kernel
theorem dX7_passRound_44 : decode cX7_passRound 44 = .ok (.aload_n 0, 1) := by decide +kernel
theorem dX7_passRound_45 : decode cX7_passRound 45 = .ok (.getfield 33, 3) := by decide +kernel
theorem dX7_passRound_48 : decode cX7_passRound 48 = .ok (.invokevirtual 132, 3) := by decide +kernel
theorem dX7_passRound_51 : decode cX7_passRound 51 = .ok (.pop, 1) := by decide +kernel
theorem dX7_passRound_52 : decode cX7_passRound 52 = .ok (.return_, 1) := by decide +kernel
set_option maxHeartbeats 4000000 in
set_option maxRecDepth 100000 in
theorem B_X7_passRound {G : zG} {X : zX} {kd : kD} {N0 : Nat} (C : zCt G X 5 0 0 RX7 cX7_passRound 4) (hr : (zXh X).sig.returnType = none) : ∀ f : Nat,
    (∀ (S : aS) (v0 : Nat) (v1 : Int32) (v2 : Int32) (res : Option Value × aS), zT0 kd N0 S → v0 < N0 → kd v0 = .inl 6 → F_X7_passRound f 0 [.ref v0, .int v1, .int v2] S = some res → zV G X (zQX G X (zPo G kd N0 res) 0 0) 4 [some (.ref (zB G + v0)), some (.int v1), some (.int v2), none] [] (cn G kd N0 S) 0 0 0) ∧
    (∀ (S : aS) (v0 : Nat) (v1 : Nat) (res : Option Value × aS), zT0 kd N0 S → v0 < N0 → kd v0 = .inl 6 → v1 < N0 → kd v1 = .inl 3 → F_X7_passRound f 1 [.ref v0, .ref v1] S = some res → zV G X (zQX G X (zPo G kd N0 res) 0 0) 4 [some (.ref (zB G + v0)), none, none, some (.ref (zB G + v1))] [] (cn G kd N0 S) 34 0 0) := by
  intro f
  induction f with
  | zero => exact ⟨(fun _ _ _ _ _ _ _ _ h => by cases h), (fun _ _ _ _ _ _ _ _ _ h => by cases h)⟩
  | succ f ih =>
    obtain ⟨ih0, ih1⟩ := ih
    refine ⟨?_, ?_⟩
    · intro S v0 v1 v2 res hT hpv0 hkv0 hF
      replace hF : F_X7_passRound_0 f (F_X7_passRound f) v0 v1 v2 S = some res := hF
      unfold F_X7_passRound_0 at hF
      refine z_aload_n C dX7_passRound_0 rfl ?_
      refine f_getr C dX7_passRound_1 zfRX7_13 hpv0 hkv0 rfl ?_
      obtain ⟨hp1, hk1⟩ := hT.1 v0 6 3 (.inr (4, 7)) hpv0 hkv0 rfl
      refine z_iload_n C dX7_passRound_4 rfl ?_
      refine z_iconst (v := 1) C dX7_passRound_5 (by decide) ?_
      refine z_iadd C dX7_passRound_6 ?_
      obtain ⟨hi2, hF⟩ := bX_some hF
      obtain ⟨q2, eq2⟩ : ∃ q : Nat, q = Int32.toNatClampNeg (v1 + (1 : Int32)) := ⟨_, rfl⟩
      rw [← eq2] at hF
      refine f_aald C dX7_passRound_7 hp1 hk1 rfl rfl rfl hi2 ?_
      obtain ⟨hp2, hk2⟩ := hT.2.1 (gR S v0 3) 4 7 (.inl 3) q2 hp1 hk1 rfl (by rw [eq2]; exact Nat.not_le.mp fun z => hi2 (Or.inr z))
      rw [← eq2]
      refine z_astore_n (lv2 := [some (.ref (zB G + v0)), some (.int v1), some (.int v2), some (.ref (zB G + (gR S (gR S v0 3) q2)))]) C dX7_passRound_8 (by decide) rfl ?_
      refine z_aload_n C dX7_passRound_9 rfl ?_
      refine z_aload_n C dX7_passRound_10 rfl ?_
      refine f_getr C dX7_passRound_11 zfRX7_13 hpv0 hkv0 rfl ?_
      obtain ⟨hp3, hk3⟩ := hT.1 v0 6 3 (.inr (4, 7)) hpv0 hkv0 rfl
      refine z_iload_n C dX7_passRound_14 rfl ?_
      obtain ⟨hi4, hF⟩ := bX_some hF
      obtain ⟨q4, eq4⟩ : ∃ q : Nat, q = Int32.toNatClampNeg v1 := ⟨_, rfl⟩
      rw [← eq4] at hF
      refine f_aald C dX7_passRound_15 hp3 hk3 rfl rfl rfl hi4 ?_
      obtain ⟨hp4, hk4⟩ := hT.2.1 (gR S v0 3) 4 7 (.inl 3) q4 hp3 hk3 rfl (by rw [eq4]; exact Nat.not_le.mp fun z => hi4 (Or.inr z))
      rw [← eq4]
      obtain ⟨S5, h5, hF⟩ := bV_some hF
      refine f_cV (st2 := []) C dX7_passRound_16 zyX4_become zvX4_become lkRX7_49 (K_X4_become (l := zXl X) hT hp2 hk2 hp4 hk4 h5) hp2 hk2 rfl (by decide) rfl rfl (Nat.le_of_ble_eq_true rfl) rfl (fun hT5 => ?_)
      refine z_iload_n C dX7_passRound_19 rfl ?_
      refine z_if_eq C 34 dX7_passRound_20 (by decide) (fun c8 => ?_) (fun c8 => ?_)
      · replace hF := ip hF c8
        refine z_mask [true, false, false, true] ?_ rfl
        exact ih1 S5 v0 (gR S (gR S v0 3) q2) res hT5 hpv0 hkv0 hp2 hk2 hF
      · replace hF := im hF c8
        refine z_aload_n C dX7_passRound_23 rfl ?_
        refine z_aload_n C dX7_passRound_24 rfl ?_
        refine f_getr C dX7_passRound_25 zfRX7_33 hpv0 hkv0 rfl ?_
        obtain ⟨hp9, hk9⟩ := hT5.1 v0 6 2 (.inl 5) hpv0 hkv0 rfl
        refine f_geti C dX7_passRound_28 zfRX7_126 hp9 hk9 rfl ?_
        obtain ⟨S10, h10, hF⟩ := bV_some hF
        refine f_cV (st2 := []) C dX7_passRound_31 zyX4_emptyBins zvX4_emptyBins lkRX7_129 (K_X4_emptyBins (l := zXl X) hT5 hp2 hk2  h10) hp2 hk2 rfl (by decide) rfl rfl (Nat.le_of_ble_eq_true rfl) rfl (fun hT10 => ?_)
        refine z_mask [true, false, false, true] ?_ rfl
        exact ih1 S10 v0 (gR S (gR S v0 3) q2) res hT10 hpv0 hkv0 hp2 hk2 hF
    · intro S v0 v1 res hT hpv0 hkv0 hpv1 hkv1 hF
      replace hF : F_X7_passRound_1 f (F_X7_passRound f) v0 v1 S = some res := hF
      unfold F_X7_passRound_1 at hF
      refine z_aload_n C dX7_passRound_34 rfl ?_
      refine f_getr C dX7_passRound_35 zfRX7_37 hpv0 hkv0 rfl ?_
      obtain ⟨hp11, hk11⟩ := hT.1 v0 6 1 (.inl 8) hpv0 hkv0 rfl
      refine z_iconst (v := (-1)) C dX7_passRound_38 (by decide) ?_
      refine z_aload_n C dX7_passRound_39 rfl ?_
      obtain ⟨S12, h12, hF⟩ := bV_some hF
      refine f_cV (st2 := []) C dX7_passRound_40 zyX9_allWalkBut zvX9_allWalkBut lkRX7_77 (K_X9_allWalkBut (l := zXl X) hT hp11 hk11  hpv1 hkv1 h12) hp11 hk11 rfl (by decide) rfl rfl (Nat.le_of_ble_eq_true rfl) rfl (fun hT12 => ?_)
      refine z_aload_n C dX7_passRound_43 rfl ?_
      refine z_aload_n C dX7_passRound_44 rfl ?_
      refine f_getr C dX7_passRound_45 zfRX7_33 hpv0 hkv0 rfl ?_
      obtain ⟨hp13, hk13⟩ := hT12.1 v0 6 2 (.inl 5) hpv0 hkv0 rfl
      obtain ⟨x14, S14, h14, hF⟩ := bI_some hF
      refine f_cV (st2 := [.int x14]) C dX7_passRound_48 zyX4_passHour zvX4_passHour lkRX7_132 (K_X4_passHour (l := zXl X) hT12 hpv1 hkv1 hp13 hk13 h14) hpv1 hkv1 rfl (by decide) rfl rfl (Nat.le_of_ble_eq_true rfl) rfl (fun hT14 => ?_)
      refine z_pop C dX7_passRound_51 rfl ?_
      cases hF
      exact z_vret C hr dX7_passRound_52 ⟨rfl, rfl, hT14⟩
theorem K_X7_passRound {G : zG} {l : Launch} {kd : kD} {N0 f : Nat} {S : aS} {v0 : Nat} {v1 : Int32} {v2 : Int32} {res : Option Value × aS} (hT : zT0 kd N0 S) (hpv0 : v0 < N0) (hkv0 : kd v0 = .inl 6) (hF : F_X7_passRound f 0 [.ref v0, .int v1, .int v2] S = some res) : zM G l 5 0 0 yX7_passRound cX7_passRound 4 none [.ref (zB G + v0), .int v1, .int v2] (cn G kd N0 S) (zPo G kd N0 res) := zM.of (by decide) rfl (Nat.le_of_ble_eq_true rfl) (fun X _ C hr _ => (B_X7_passRound C hr f).1 S v0 v1 v2 res hT hpv0 hkv0 hF)
def F_X7_meanThousandths_0 (f : Nat) (rc : Nat → List Value → aS → aR) (v0 : Nat) (v1 : Int32) (S : aS) : aR :=
  bV (F_X7_start f 0 [.ref v0] S) fun S1 => rc 1 [.ref v0, .int v1, .long 1, .int 0] S1
def F_X7_meanThousandths_1 (f : Nat) (rc : Nat → List Value → aS → aR) (v0 : Nat) (v1 : Int32) (v2 : Int64) (v3 : Int32) (S : aS) : aR :=
  if (gI S (gR S v0 2) 1) ≤ v3 then bJ (F_X7_weighedLies f 0 [.ref v0, .int 0, .int 0, .int v1] S) fun x5 S5 => bNL v2 (some (some (.int (Int64.toInt32 ((x5 * (1000 : Int64)) / v2))), S5)) else rc 1 [.ref v0, .int v1, .long (v2 * (10 : Int64)), .int (v3 + 1)] S
def F_X7_meanThousandths : Nat → Nat → List Value → aS → aR
  | 0, _, _, _ => none
  | f + 1, 0, vs, S => F_X7_meanThousandths_0 f (F_X7_meanThousandths f) (vR vs 0) (vI vs 1) S
  | f + 1, 1, vs, S => F_X7_meanThousandths_1 f (F_X7_meanThousandths f) (vR vs 0) (vI vs 1) (vJ vs 2) (vI vs 3) S
  | _ + 1, _, _, _ => none
theorem dX7_meanThousandths_0 : decode cX7_meanThousandths 0 = .ok (.aload_n 0, 1) := by decide +kernel
theorem dX7_meanThousandths_1 : decode cX7_meanThousandths 1 = .ok (.invokevirtual 136, 3) := by decide +kernel
theorem dX7_meanThousandths_4 : decode cX7_meanThousandths 4 = .ok (.lconst 1, 1) := by decide +kernel
theorem dX7_meanThousandths_5 : decode cX7_meanThousandths 5 = .ok (.lstore_n 2, 1) := by decide +kernel
theorem dX7_meanThousandths_6 : decode cX7_meanThousandths 6 = .ok (.iconst 0, 1) := by decide +kernel
theorem dX7_meanThousandths_7 : decode cX7_meanThousandths 7 = .ok (.istore 4, 2) := by decide +kernel
theorem dX7_meanThousandths_9 : decode cX7_meanThousandths 9 = .ok (.iload 4, 2) := by decide +kernel
theorem dX7_meanThousandths_11 : decode cX7_meanThousandths 11 = .ok (.aload_n 0, 1) := by decide +kernel
theorem dX7_meanThousandths_12 : decode cX7_meanThousandths 12 = .ok (.getfield 33, 3) := by decide +kernel
theorem dX7_meanThousandths_15 : decode cX7_meanThousandths 15 = .ok (.getfield 102, 3) := by decide +kernel
theorem dX7_meanThousandths_18 : decode cX7_meanThousandths 18 = .ok (.if_icmp .ge 15, 3) := by decide +kernel
theorem dX7_meanThousandths_21 : decode cX7_meanThousandths 21 = .ok (.lload_n 2, 1) := by decide +kernel
theorem dX7_meanThousandths_22 : decode cX7_meanThousandths 22 = .ok (.ldc2_w 139, 3) := by decide +kernel
theorem dX7_meanThousandths_25 : decode cX7_meanThousandths 25 = .ok (.lmul, 1) := by decide +kernel
theorem dX7_meanThousandths_26 : decode cX7_meanThousandths 26 = .ok (.lstore_n 2, 1) := by decide +kernel
theorem dX7_meanThousandths_27 : decode cX7_meanThousandths 27 = .ok (.iinc 4 1, 3) := by decide +kernel
theorem dX7_meanThousandths_30 : decode cX7_meanThousandths 30 = .ok (.goto (-21), 3) := by decide +kernel
theorem dX7_meanThousandths_33 : decode cX7_meanThousandths 33 = .ok (.aload_n 0, 1) := by decide +kernel
theorem dX7_meanThousandths_34 : decode cX7_meanThousandths 34 = .ok (.iconst 0, 1) := by decide +kernel
theorem dX7_meanThousandths_35 : decode cX7_meanThousandths 35 = .ok (.iconst 0, 1) := by decide +kernel
theorem dX7_meanThousandths_36 : decode cX7_meanThousandths 36 = .ok (.iload_n 1, 1) := by decide +kernel
theorem dX7_meanThousandths_37 : decode cX7_meanThousandths 37 = .ok (.invokevirtual 141, 3) := by decide +kernel
theorem dX7_meanThousandths_40 : decode cX7_meanThousandths 40 = .ok (.ldc2_w 145, 3) := by decide +kernel
theorem dX7_meanThousandths_43 : decode cX7_meanThousandths 43 = .ok (.lmul, 1) := by decide +kernel
theorem dX7_meanThousandths_44 : decode cX7_meanThousandths 44 = .ok (.lload_n 2, 1) := by decide +kernel
theorem dX7_meanThousandths_45 : decode cX7_meanThousandths 45 = .ok (.ldiv, 1) := by decide +kernel
theorem dX7_meanThousandths_46 : decode cX7_meanThousandths 46 = .ok (.l2i, 1) := by decide +kernel
theorem dX7_meanThousandths_47 : decode cX7_meanThousandths 47 = .ok (.ireturn, 1) := by decide +kernel
set_option maxHeartbeats 4000000 in
set_option maxRecDepth 100000 in
theorem B_X7_meanThousandths {G : zG} {X : zX} {kd : kD} {N0 : Nat} (C : zCt G X 16 0 0 RX7 cX7_meanThousandths 5) (hr : (zXh X).sig.returnType = (some .int)) : ∀ f : Nat,
    (∀ (S : aS) (v0 : Nat) (v1 : Int32) (res : Option Value × aS), zT0 kd N0 S → v0 < N0 → kd v0 = .inl 6 → F_X7_meanThousandths f 0 [.ref v0, .int v1] S = some res → zV G X (zQX G X (zPo G kd N0 res) 0 0) 5 [some (.ref (zB G + v0)), some (.int v1), none, none, none] [] (cn G kd N0 S) 0 0 0) ∧
    (∀ (S : aS) (v0 : Nat) (v1 : Int32) (v2 : Int64) (v3 : Int32) (res : Option Value × aS), zT0 kd N0 S → v0 < N0 → kd v0 = .inl 6 → F_X7_meanThousandths f 1 [.ref v0, .int v1, .long v2, .int v3] S = some res → zV G X (zQX G X (zPo G kd N0 res) 0 0) 5 [some (.ref (zB G + v0)), some (.int v1), some (.long v2), none, some (.int v3)] [] (cn G kd N0 S) 9 0 0) := by
  intro f
  induction f with
  | zero => exact ⟨(fun _ _ _ _ _ _ _ h => by cases h), (fun _ _ _ _ _ _ _ _ _ h => by cases h)⟩
  | succ f ih =>
    obtain ⟨ih0, ih1⟩ := ih
    refine ⟨?_, ?_⟩
    · intro S v0 v1 res hT hpv0 hkv0 hF
      replace hF : F_X7_meanThousandths_0 f (F_X7_meanThousandths f) v0 v1 S = some res := hF
      unfold F_X7_meanThousandths_0 at hF
      refine z_aload_n C dX7_meanThousandths_0 rfl ?_
      obtain ⟨S1, h1, hF⟩ := bV_some hF
      refine f_cV (st2 := []) C dX7_meanThousandths_1 zyX7_start zvX7_start lkRX7_136 (K_X7_start (l := zXl X) hT hpv0 hkv0 h1) hpv0 hkv0 rfl (by decide) rfl rfl (Nat.le_of_ble_eq_true rfl) rfl (fun hT1 => ?_)
      refine z_lconst (v := 1) C dX7_meanThousandths_4 (by decide) ?_
      refine z_lstore_n (lv2 := [some (.ref (zB G + v0)), some (.int v1), some (.long 1), none, none]) C dX7_meanThousandths_5 (by decide) rfl ?_
      refine z_iconst (v := 0) C dX7_meanThousandths_6 (by decide) ?_
      refine z_istore (lv2 := [some (.ref (zB G + v0)), some (.int v1), some (.long 1), none, some (.int 0)]) C dX7_meanThousandths_7 (by decide) rfl ?_
      exact ih1 S1 v0 v1 1 0 res hT1 hpv0 hkv0    hF
    · intro S v0 v1 v2 v3 res hT hpv0 hkv0 hF
      replace hF : F_X7_meanThousandths_1 f (F_X7_meanThousandths f) v0 v1 v2 v3 S = some res := hF
      unfold F_X7_meanThousandths_1 at hF
      refine z_iload C dX7_meanThousandths_9 rfl ?_
      refine z_aload_n C dX7_meanThousandths_11 rfl ?_
      refine f_getr C dX7_meanThousandths_12 zfRX7_33 hpv0 hkv0 rfl ?_
      obtain ⟨hp2, hk2⟩ := hT.1 v0 6 2 (.inl 5) hpv0 hkv0 rfl
      refine f_geti C dX7_meanThousandths_15 zfRX7_102 hp2 hk2 rfl ?_
      refine z_icmp_ge C 33 dX7_meanThousandths_18 (by decide) (fun c4 => ?_) (fun c4 => ?_)
      · replace hF := ip hF c4
        refine z_aload_n C dX7_meanThousandths_33 rfl ?_
        refine z_iconst (v := 0) C dX7_meanThousandths_34 (by decide) ?_
        refine z_iconst (v := 0) C dX7_meanThousandths_35 (by decide) ?_
        refine z_iload_n C dX7_meanThousandths_36 rfl ?_
        obtain ⟨x5, S5, h5, hF⟩ := bJ_some hF
        refine f_cV (st2 := [.long x5]) C dX7_meanThousandths_37 zyX7_weighedLies zvX7_weighedLies lkRX7_141 (K_X7_weighedLies (l := zXl X) hT hpv0 hkv0    h5) hpv0 hkv0 rfl (by decide) rfl rfl (Nat.le_of_ble_eq_true rfl) rfl (fun hT5 => ?_)
        refine z_ldc2 C dX7_meanThousandths_40 klRX7_145 ?_
        refine z_lmul C dX7_meanThousandths_43 ?_
        refine z_lload_n C dX7_meanThousandths_44 rfl ?_
        obtain ⟨hz6, hF⟩ := bNL_some hF
        refine z_ldiv C dX7_meanThousandths_45 hz6 ?_
        refine z_l2i C dX7_meanThousandths_46 ?_
        cases hF
        exact z_iret C hr dX7_meanThousandths_47 ⟨rfl, rfl, hT5⟩
      · replace hF := im hF c4
        refine z_lload_n C dX7_meanThousandths_21 rfl ?_
        refine z_ldc2 C dX7_meanThousandths_22 klRX7_139 ?_
        refine z_lmul C dX7_meanThousandths_25 ?_
        refine z_lstore_n (lv2 := [some (.ref (zB G + v0)), some (.int v1), some (.long (v2 * (10 : Int64))), none, some (.int v3)]) C dX7_meanThousandths_26 (by decide) rfl ?_
        refine z_iinc (v := v3 + 1) (lv2 := [some (.ref (zB G + v0)), some (.int v1), some (.long (v2 * (10 : Int64))), none, some (.int (v3 + 1))]) C dX7_meanThousandths_27 rfl (by rw [show Int32.ofInt 1 = (1 : Int32) from by decide]) rfl ?_
        refine z_goto C 9 dX7_meanThousandths_30 (by decide) ?_
        exact ih1 S v0 v1 (v2 * (10 : Int64)) (v3 + 1) res hT hpv0 hkv0    hF
theorem K_X7_meanThousandths {G : zG} {l : Launch} {kd : kD} {N0 f : Nat} {S : aS} {v0 : Nat} {v1 : Int32} {res : Option Value × aS} (hT : zT0 kd N0 S) (hpv0 : v0 < N0) (hkv0 : kd v0 = .inl 6) (hF : F_X7_meanThousandths f 0 [.ref v0, .int v1] S = some res) : zM G l 16 0 0 yX7_meanThousandths cX7_meanThousandths 5 (some .int) [.ref (zB G + v0), .int v1] (cn G kd N0 S) (zPo G kd N0 res) := zM.of (by decide) rfl (Nat.le_of_ble_eq_true rfl) (fun X _ C hr _ => (B_X7_meanThousandths C hr f).1 S v0 v1 res hT hpv0 hkv0 hF)
def F_X7_tellChanges_0 (f : Nat) (rc : Nat → List Value → aS → aR) (v0 : Nat) (v1 : Int32) (S : aS) : aR :=
  bX 1 7 fun q2 => bV (F_X4_become f 0 [.ref (gR S (gR S v0 3) q2), .ref (gR S v0 0)] S) fun S4 => bI (F_X9_walkOf f 0 [.ref (gR S4 v0 1), .int v1, .ref (gR S (gR S v0 3) q2)] S4) fun x6 S6 => rc 1 [.ref v0, .int v1, .ref (gR S (gR S v0 3) q2), .int 0] S6
def F_X7_tellChanges_1 (f : Nat) (rc : Nat → List Value → aS → aR) (v0 : Nat) (v1 : Int32) (v2 : Nat) (v3 : Int32) (S : aS) : aR :=
  if (gI S (gR S v0 0) 0) ≤ v3 then some (none, S) else bX v1 6 fun q12 => bX v3 8 fun q14 => bX v3 8 fun q17 => bX v3 8 fun q18 => fS (sI S (gR S (gR S v0 6) q12) q18 ((gI S (gR S v2 1) q14) - (gI S (gR S (gR S v0 0) 1) q17))) fun S19 => rc 1 [.ref v0, .int v1, .ref v2, .int (v3 + 1)] S19
def F_X7_tellChanges : Nat → Nat → List Value → aS → aR
  | 0, _, _, _ => none
  | f + 1, 0, vs, S => F_X7_tellChanges_0 f (F_X7_tellChanges f) (vR vs 0) (vI vs 1) S
  | f + 1, 1, vs, S => F_X7_tellChanges_1 f (F_X7_tellChanges f) (vR vs 0) (vI vs 1) (vR vs 2) (vI vs 3) S
  | _ + 1, _, _, _ => none
theorem dX7_tellChanges_0 : decode cX7_tellChanges 0 = .ok (.aload_n 0, 1) := by decide +kernel
theorem dX7_tellChanges_1 : decode cX7_tellChanges 1 = .ok (.getfield 13, 3) := by decide +kernel
theorem dX7_tellChanges_4 : decode cX7_tellChanges 4 = .ok (.iconst 1, 1) := by decide +kernel
theorem dX7_tellChanges_5 : decode cX7_tellChanges 5 = .ok (.aaload, 1) := by decide +kernel
theorem dX7_tellChanges_6 : decode cX7_tellChanges 6 = .ok (.astore_n 2, 1) := by decide +kernel
theorem dX7_tellChanges_7 : decode cX7_tellChanges 7 = .ok (.aload_n 2, 1) := by decide +kernel
theorem dX7_tellChanges_8 : decode cX7_tellChanges 8 = .ok (.aload_n 0, 1) := by decide +kernel
theorem dX7_tellChanges_9 : decode cX7_tellChanges 9 = .ok (.getfield 29, 3) := by decide +kernel
theorem dX7_tellChanges_12 : decode cX7_tellChanges 12 = .ok (.invokevirtual 49, 3) := by decide +kernel
theorem dX7_tellChanges_15 : decode cX7_tellChanges 15 = .ok (.aload_n 0, 1) := by decide +kernel
theorem dX7_tellChanges_16 : decode cX7_tellChanges 16 = .ok (.getfield 37, 3) := by decide +kernel
theorem dX7_tellChanges_19 : decode cX7_tellChanges 19 = .ok (.iload_n 1, 1) := by decide +kernel
theorem dX7_tellChanges_20 : decode cX7_tellChanges 20 = .ok (.aload_n 2, 1) := by decide +kernel
theorem dX7_tellChanges_21 : decode cX7_tellChanges 21 = .ok (.invokevirtual 111, 3) := by decide +kernel
theorem dX7_tellChanges_24 : decode cX7_tellChanges 24 = .ok (.pop, 1) := by decide +kernel
theorem dX7_tellChanges_25 : decode cX7_tellChanges 25 = .ok (.iconst 0, 1) := by decide +kernel
theorem dX7_tellChanges_26 : decode cX7_tellChanges 26 = .ok (.istore_n 3, 1) := by decide +kernel
theorem dX7_tellChanges_27 : decode cX7_tellChanges 27 = .ok (.iload_n 3, 1) := by decide +kernel
theorem dX7_tellChanges_28 : decode cX7_tellChanges 28 = .ok (.aload_n 0, 1) := by decide +kernel
theorem dX7_tellChanges_29 : decode cX7_tellChanges 29 = .ok (.getfield 29, 3) := by decide +kernel
theorem dX7_tellChanges_32 : decode cX7_tellChanges 32 = .ok (.getfield 63, 3) := by decide +kernel
theorem dX7_tellChanges_35 : decode cX7_tellChanges 35 = .ok (.if_icmp .ge 33, 3) := by decide +kernel
theorem dX7_tellChanges_38 : decode cX7_tellChanges 38 = .ok (.aload_n 0, 1) := by decide +kernel
theorem dX7_tellChanges_39 : decode cX7_tellChanges 39 = .ok (.getfield 26, 3) := by decide +kernel
theorem dX7_tellChanges_42 : decode cX7_tellChanges 42 = .ok (.iload_n 1, 1) := by decide +kernel
theorem dX7_tellChanges_43 : decode cX7_tellChanges 43 = .ok (.aaload, 1) := by decide +kernel
theorem dX7_tellChanges_44 : decode cX7_tellChanges 44 = .ok (.iload_n 3, 1) := by decide +kernel
theorem dX7_tellChanges_45 : decode cX7_tellChanges 45 = .ok (.aload_n 2, 1) := by decide +kernel
theorem dX7_tellChanges_46 : decode cX7_tellChanges 46 = .ok (.getfield 156, 3) := by decide +kernel
theorem dX7_tellChanges_49 : decode cX7_tellChanges 49 = .ok (.iload_n 3, 1) := by decide +kernel
theorem dX7_tellChanges_50 : decode cX7_tellChanges 50 = .ok (.iaload, 1) := by decide +kernel
theorem dX7_tellChanges_51 : decode cX7_tellChanges 51 = .ok (.aload_n 0, 1) := by decide +kernel
theorem dX7_tellChanges_52 : decode cX7_tellChanges 52 = .ok (.getfield 29, 3) := by decide +kernel
theorem dX7_tellChanges_55 : decode cX7_tellChanges 55 = .ok (.getfield 156, 3) := by decide +kernel
theorem dX7_tellChanges_58 : decode cX7_tellChanges 58 = .ok (.iload_n 3, 1) := by decide +kernel
theorem dX7_tellChanges_59 : decode cX7_tellChanges 59 = .ok (.iaload, 1) := by decide +kernel
theorem dX7_tellChanges_60 : decode cX7_tellChanges 60 = .ok (.isub, 1) := by decide +kernel
theorem dX7_tellChanges_61 : decode cX7_tellChanges 61 = .ok (.iastore, 1) := by decide +kernel
theorem dX7_tellChanges_62 : decode cX7_tellChanges 62 = .ok (.iinc 3 1, 3) := by decide +kernel
theorem dX7_tellChanges_65 : decode cX7_tellChanges 65 = .ok (.goto (-38), 3) := by decide +kernel
theorem dX7_tellChanges_68 : decode cX7_tellChanges 68 = .ok (.return_, 1) := by decide +kernel
set_option maxHeartbeats 4000000 in
set_option maxRecDepth 100000 in
theorem B_X7_tellChanges {G : zG} {X : zX} {kd : kD} {N0 : Nat} (C : zCt G X 5 0 0 RX7 cX7_tellChanges 4) (hr : (zXh X).sig.returnType = none) : ∀ f : Nat,
    (∀ (S : aS) (v0 : Nat) (v1 : Int32) (res : Option Value × aS), zT0 kd N0 S → v0 < N0 → kd v0 = .inl 6 → F_X7_tellChanges f 0 [.ref v0, .int v1] S = some res → zV G X (zQX G X (zPo G kd N0 res) 0 0) 4 [some (.ref (zB G + v0)), some (.int v1), none, none] [] (cn G kd N0 S) 0 0 0) ∧
    (∀ (S : aS) (v0 : Nat) (v1 : Int32) (v2 : Nat) (v3 : Int32) (res : Option Value × aS), zT0 kd N0 S → v0 < N0 → kd v0 = .inl 6 → v2 < N0 → kd v2 = .inl 3 → F_X7_tellChanges f 1 [.ref v0, .int v1, .ref v2, .int v3] S = some res → zV G X (zQX G X (zPo G kd N0 res) 0 0) 4 [some (.ref (zB G + v0)), some (.int v1), some (.ref (zB G + v2)), some (.int v3)] [] (cn G kd N0 S) 27 0 0) := by
  intro f
  induction f with
  | zero => exact ⟨(fun _ _ _ _ _ _ _ h => by cases h), (fun _ _ _ _ _ _ _ _ _ _ _ h => by cases h)⟩
  | succ f ih =>
    obtain ⟨ih0, ih1⟩ := ih
    refine ⟨?_, ?_⟩
    · intro S v0 v1 res hT hpv0 hkv0 hF
      replace hF : F_X7_tellChanges_0 f (F_X7_tellChanges f) v0 v1 S = some res := hF
      unfold F_X7_tellChanges_0 at hF
      refine z_aload_n C dX7_tellChanges_0 rfl ?_
      refine f_getr C dX7_tellChanges_1 zfRX7_13 hpv0 hkv0 rfl ?_
      obtain ⟨hp1, hk1⟩ := hT.1 v0 6 3 (.inr (4, 7)) hpv0 hkv0 rfl
      refine z_iconst (v := 1) C dX7_tellChanges_4 (by decide) ?_
      obtain ⟨hi2, hF⟩ := bX_some hF
      obtain ⟨q2, eq2⟩ : ∃ q : Nat, q = Int32.toNatClampNeg 1 := ⟨_, rfl⟩
      rw [← eq2] at hF
      refine f_aald C dX7_tellChanges_5 hp1 hk1 rfl rfl rfl hi2 ?_
      obtain ⟨hp2, hk2⟩ := hT.2.1 (gR S v0 3) 4 7 (.inl 3) q2 hp1 hk1 rfl (by rw [eq2]; exact Nat.not_le.mp fun z => hi2 (Or.inr z))
      rw [← eq2]
      refine z_astore_n (lv2 := [some (.ref (zB G + v0)), some (.int v1), some (.ref (zB G + (gR S (gR S v0 3) q2))), none]) C dX7_tellChanges_6 (by decide) rfl ?_
      refine z_aload_n C dX7_tellChanges_7 rfl ?_
      refine z_aload_n C dX7_tellChanges_8 rfl ?_
      refine f_getr C dX7_tellChanges_9 zfRX7_29 hpv0 hkv0 rfl ?_
      obtain ⟨hp3, hk3⟩ := hT.1 v0 6 0 (.inl 3) hpv0 hkv0 rfl
      obtain ⟨S4, h4, hF⟩ := bV_some hF
      refine f_cV (st2 := []) C dX7_tellChanges_12 zyX4_become zvX4_become lkRX7_49 (K_X4_become (l := zXl X) hT hp2 hk2 hp3 hk3 h4) hp2 hk2 rfl (by decide) rfl rfl (Nat.le_of_ble_eq_true rfl) rfl (fun hT4 => ?_)
      refine z_aload_n C dX7_tellChanges_15 rfl ?_
      refine f_getr C dX7_tellChanges_16 zfRX7_37 hpv0 hkv0 rfl ?_
      obtain ⟨hp5, hk5⟩ := hT4.1 v0 6 1 (.inl 8) hpv0 hkv0 rfl
      refine z_iload_n C dX7_tellChanges_19 rfl ?_
      refine z_aload_n C dX7_tellChanges_20 rfl ?_
      obtain ⟨x6, S6, h6, hF⟩ := bI_some hF
      refine f_cV (st2 := [.int x6]) C dX7_tellChanges_21 zyX9_walkOf zvX9_walkOf lkRX7_111 (K_X9_walkOf (l := zXl X) hT4 hp5 hk5  hp2 hk2 h6) hp5 hk5 rfl (by decide) rfl rfl (Nat.le_of_ble_eq_true rfl) rfl (fun hT6 => ?_)
      refine z_pop C dX7_tellChanges_24 rfl ?_
      refine z_iconst (v := 0) C dX7_tellChanges_25 (by decide) ?_
      refine z_istore_n (lv2 := [some (.ref (zB G + v0)), some (.int v1), some (.ref (zB G + (gR S (gR S v0 3) q2))), some (.int 0)]) C dX7_tellChanges_26 (by decide) rfl ?_
      exact ih1 S6 v0 v1 (gR S (gR S v0 3) q2) 0 res hT6 hpv0 hkv0  hp2 hk2  hF
    · intro S v0 v1 v2 v3 res hT hpv0 hkv0 hpv2 hkv2 hF
      replace hF : F_X7_tellChanges_1 f (F_X7_tellChanges f) v0 v1 v2 v3 S = some res := hF
      unfold F_X7_tellChanges_1 at hF
      refine z_iload_n C dX7_tellChanges_27 rfl ?_
      refine z_aload_n C dX7_tellChanges_28 rfl ?_
      refine f_getr C dX7_tellChanges_29 zfRX7_29 hpv0 hkv0 rfl ?_
      obtain ⟨hp7, hk7⟩ := hT.1 v0 6 0 (.inl 3) hpv0 hkv0 rfl
      refine f_geti C dX7_tellChanges_32 zfRX7_63 hp7 hk7 rfl ?_
      refine z_icmp_ge C 68 dX7_tellChanges_35 (by decide) (fun c10 => ?_) (fun c10 => ?_)
      · replace hF := ip hF c10
        cases hF
        exact z_vret C hr dX7_tellChanges_68 ⟨rfl, rfl, hT⟩
      · replace hF := im hF c10
        refine z_aload_n C dX7_tellChanges_38 rfl ?_
        refine f_getr C dX7_tellChanges_39 zfRX7_26 hpv0 hkv0 rfl ?_
        obtain ⟨hp11, hk11⟩ := hT.1 v0 6 6 (.inr (6, 6)) hpv0 hkv0 rfl
        refine z_iload_n C dX7_tellChanges_42 rfl ?_
        obtain ⟨hi12, hF⟩ := bX_some hF
        obtain ⟨q12, eq12⟩ : ∃ q : Nat, q = Int32.toNatClampNeg v1 := ⟨_, rfl⟩
        rw [← eq12] at hF
        refine f_aald C dX7_tellChanges_43 hp11 hk11 rfl rfl rfl hi12 ?_
        obtain ⟨hp12, hk12⟩ := hT.2.1 (gR S v0 6) 6 6 (.inr (0, 8)) q12 hp11 hk11 rfl (by rw [eq12]; exact Nat.not_le.mp fun z => hi12 (Or.inr z))
        rw [← eq12]
        refine z_iload_n C dX7_tellChanges_44 rfl ?_
        refine z_aload_n C dX7_tellChanges_45 rfl ?_
        refine f_getr C dX7_tellChanges_46 zfRX7_156 hpv2 hkv2 rfl ?_
        obtain ⟨hp13, hk13⟩ := hT.1 v2 3 1 (.inr (0, 8)) hpv2 hkv2 rfl
        refine z_iload_n C dX7_tellChanges_49 rfl ?_
        obtain ⟨hi14, hF⟩ := bX_some hF
        obtain ⟨q14, eq14⟩ : ∃ q : Nat, q = Int32.toNatClampNeg v3 := ⟨_, rfl⟩
        rw [← eq14] at hF
        refine f_iald C dX7_tellChanges_50 hp13 hk13 hi14 ?_
        rw [← eq14]
        refine z_aload_n C dX7_tellChanges_51 rfl ?_
        refine f_getr C dX7_tellChanges_52 zfRX7_29 hpv0 hkv0 rfl ?_
        obtain ⟨hp15, hk15⟩ := hT.1 v0 6 0 (.inl 3) hpv0 hkv0 rfl
        refine f_getr C dX7_tellChanges_55 zfRX7_156 hp15 hk15 rfl ?_
        obtain ⟨hp16, hk16⟩ := hT.1 (gR S v0 0) 3 1 (.inr (0, 8)) hp15 hk15 rfl
        refine z_iload_n C dX7_tellChanges_58 rfl ?_
        obtain ⟨hi17, hF⟩ := bX_some hF
        obtain ⟨q17, eq17⟩ : ∃ q : Nat, q = Int32.toNatClampNeg v3 := ⟨_, rfl⟩
        rw [← eq17] at hF
        refine f_iald C dX7_tellChanges_59 hp16 hk16 hi17 ?_
        rw [← eq17]
        refine z_isub C dX7_tellChanges_60 ?_
        obtain ⟨hi18, hF⟩ := bX_some hF
        obtain ⟨q18, eq18⟩ : ∃ q : Nat, q = Int32.toNatClampNeg v3 := ⟨_, rfl⟩
        rw [← eq18] at hF
        refine f_iast C dX7_tellChanges_61 hp12 hk12 hi18 ?_
        rw [← eq18]
        have hT19 : zT0 kd N0 (sI S (gR S (gR S v0 6) q12) q18 ((gI S (gR S v2 1) q14) - (gI S (gR S (gR S v0 0) 1) q17))) := zT0_sI hT
        replace hF := fS_e hF
        generalize sI S (gR S (gR S v0 6) q12) q18 ((gI S (gR S v2 1) q14) - (gI S (gR S (gR S v0 0) 1) q17)) = S19 at hF hT19 ⊢
        refine z_iinc (v := v3 + 1) (lv2 := [some (.ref (zB G + v0)), some (.int v1), some (.ref (zB G + v2)), some (.int (v3 + 1))]) C dX7_tellChanges_62 rfl (by rw [show Int32.ofInt 1 = (1 : Int32) from by decide]) rfl ?_
        refine z_goto C 27 dX7_tellChanges_65 (by decide) ?_
        exact ih1 S19 v0 v1 v2 (v3 + 1) res hT19 hpv0 hkv0  hpv2 hkv2  hF
theorem K_X7_tellChanges {G : zG} {l : Launch} {kd : kD} {N0 f : Nat} {S : aS} {v0 : Nat} {v1 : Int32} {res : Option Value × aS} (hT : zT0 kd N0 S) (hpv0 : v0 < N0) (hkv0 : kd v0 = .inl 6) (hF : F_X7_tellChanges f 0 [.ref v0, .int v1] S = some res) : zM G l 5 0 0 yX7_tellChanges cX7_tellChanges 4 none [.ref (zB G + v0), .int v1] (cn G kd N0 S) (zPo G kd N0 res) := zM.of (by decide) rfl (Nat.le_of_ble_eq_true rfl) (fun X _ C hr _ => (B_X7_tellChanges C hr f).1 S v0 v1 res hT hpv0 hkv0 hF)
def F_X8_rewind_0 (f : Nat) (rc : Nat → List Value → aS → aR) (v0 : Nat) (S : aS) : aR :=
  fS (sI S v0 3 0) fun S1 => fS (sI S1 v0 2 0) fun S2 => bV (F_X8_advance f 0 [.ref v0] S2) fun S3 => some (none, S3)
def F_X8_rewind : Nat → Nat → List Value → aS → aR
  | 0, _, _, _ => none
  | f + 1, 0, vs, S => F_X8_rewind_0 f (F_X8_rewind f) (vR vs 0) S
  | _ + 1, _, _, _ => none
theorem dX8_rewind_0 : decode cX8_rewind 0 = .ok (.aload_n 0, 1) := by decide +kernel
theorem dX8_rewind_1 : decode cX8_rewind 1 = .ok (.iconst 0, 1) := by decide +kernel
theorem dX8_rewind_2 : decode cX8_rewind 2 = .ok (.putfield 32, 3) := by decide +kernel
theorem dX8_rewind_5 : decode cX8_rewind 5 = .ok (.aload_n 0, 1) := by decide +kernel
theorem dX8_rewind_6 : decode cX8_rewind 6 = .ok (.iconst 0, 1) := by decide +kernel
theorem dX8_rewind_7 : decode cX8_rewind 7 = .ok (.putfield 35, 3) := by decide +kernel
theorem dX8_rewind_10 : decode cX8_rewind 10 = .ok (.aload_n 0, 1) := by decide +kernel
theorem dX8_rewind_11 : decode cX8_rewind 11 = .ok (.invokevirtual 38, 3) := by decide +kernel
theorem dX8_rewind_14 : decode cX8_rewind 14 = .ok (.return_, 1) := by decide +kernel
set_option maxHeartbeats 4000000 in
set_option maxRecDepth 100000 in
theorem B_X8_rewind {G : zG} {X : zX} {kd : kD} {N0 : Nat} (C : zCt G X 3 0 0 RX8 cX8_rewind 1) (hr : (zXh X).sig.returnType = none) : ∀ f : Nat,
    (∀ (S : aS) (v0 : Nat) (res : Option Value × aS), zT0 kd N0 S → v0 < N0 → kd v0 = .inl 7 → F_X8_rewind f 0 [.ref v0] S = some res → zV G X (zQX G X (zPo G kd N0 res) 0 0) 1 [some (.ref (zB G + v0))] [] (cn G kd N0 S) 0 0 0) := by
  intro f
  induction f with
  | zero => exact (fun _ _ _ _ _ _ h => by cases h)
  | succ f ih =>
    have ih0 := ih
    intro S v0 res hT hpv0 hkv0 hF
    replace hF : F_X8_rewind_0 f (F_X8_rewind f) v0 S = some res := hF
    unfold F_X8_rewind_0 at hF
    refine z_aload_n C dX8_rewind_0 rfl ?_
    refine z_iconst (v := 0) C dX8_rewind_1 (by decide) ?_
    refine f_puti C dX8_rewind_2 zfRX8_32 fw7_3 hpv0 hkv0 rfl rfl rfl ?_
    have hT1 : zT0 kd N0 (sI S v0 3 0) := zT0_sI hT
    replace hF := fS_e hF
    generalize sI S v0 3 0 = S1 at hF hT1 ⊢
    refine z_aload_n C dX8_rewind_5 rfl ?_
    refine z_iconst (v := 0) C dX8_rewind_6 (by decide) ?_
    refine f_puti C dX8_rewind_7 zfRX8_35 fw7_2 hpv0 hkv0 rfl rfl rfl ?_
    have hT2 : zT0 kd N0 (sI S1 v0 2 0) := zT0_sI hT1
    replace hF := fS_e hF
    generalize sI S1 v0 2 0 = S2 at hF hT2 ⊢
    refine z_aload_n C dX8_rewind_10 rfl ?_
    obtain ⟨S3, h3, hF⟩ := bV_some hF
    refine f_cV (st2 := []) C dX8_rewind_11 zyX8_advance zvX8_advance lkRX8_38 (K_X8_advance (l := zXl X) hT2 hpv0 hkv0 h3) hpv0 hkv0 rfl (by decide) rfl rfl (Nat.le_of_ble_eq_true rfl) rfl (fun hT3 => ?_)
    cases hF
    exact z_vret C hr dX8_rewind_14 ⟨rfl, rfl, hT3⟩
theorem K_X8_rewind {G : zG} {l : Launch} {kd : kD} {N0 f : Nat} {S : aS} {v0 : Nat} {res : Option Value × aS} (hT : zT0 kd N0 S) (hpv0 : v0 < N0) (hkv0 : kd v0 = .inl 7) (hF : F_X8_rewind f 0 [.ref v0] S = some res) : zM G l 3 0 0 yX8_rewind cX8_rewind 1 none [.ref (zB G + v0)] (cn G kd N0 S) (zPo G kd N0 res) := zM.of (by decide) rfl (Nat.le_of_ble_eq_true rfl) (fun X _ C hr _ => (B_X8_rewind C hr f) S v0 res hT hpv0 hkv0 hF)
def F_X9_judge_0 (f : Nat) (rc : Nat → List Value → aS → aR) (v0 : Nat) (v1 : Nat) (S : aS) : aR :=
  fS (sI S v0 5 ((-1))) fun S1 => fS (sI S1 v0 6 ((-1))) fun S2 => bV (F_X4_begin f 0 [.ref (gR S2 v0 1), .ref (gR S2 v0 3)] S2) fun S5 => rc 1 [.ref v0, .ref v1, .int 0] S5
def F_X9_judge_1 (f : Nat) (rc : Nat → List Value → aS → aR) (v0 : Nat) (v1 : Nat) (v2 : Int32) (S : aS) : aR :=
  if (gI S v1 3) ≤ v2 then bI (F_X4_total f 0 [.ref (gR S v0 1)] S) fun x9 S9 => fS (sI S9 v0 7 x9) fun S10 => some (none, S10) else bI (F_X9_canBe f 0 [.ref v0, .ref v1, .int v2] S) fun x11 S11 => if x11 = (0 : Int32) then fS (sI S11 v0 5 (if (gI S11 v0 5) = (-1 : Int32) then v2 else (gI S11 v0 5))) fun S30 => rc 2 [.ref v0, .ref v1, .int v2] S30 else bV (F_X9_act f 0 [.ref v0, .ref v1, .int v2] S11) fun S14 => bX v2 40 fun q16 => lI (if (gI S14 (gR S14 v1 0) q16) = (0 : Int32) then if (gI S14 (gR S14 v0 2) 3) ≤ (0 : Int32) then (0 : Int32) else (1 : Int32) else (0 : Int32)) fun y21 => if y21 = (0 : Int32) then rc 2 [.ref v0, .ref v1, .int v2] S14 else if (gI S14 v0 6) = (-1 : Int32) then fS (sI S14 v0 6 v2) fun S27 => rc 2 [.ref v0, .ref v1, .int v2] S27 else rc 2 [.ref v0, .ref v1, .int v2] S14
def F_X9_judge_2 (f : Nat) (rc : Nat → List Value → aS → aR) (v0 : Nat) (v1 : Nat) (v2 : Int32) (S : aS) : aR :=
  rc 1 [.ref v0, .ref v1, .int (v2 + 1)] S
def F_X9_judge : Nat → Nat → List Value → aS → aR
  | 0, _, _, _ => none
  | f + 1, 0, vs, S => F_X9_judge_0 f (F_X9_judge f) (vR vs 0) (vR vs 1) S
  | f + 1, 1, vs, S => F_X9_judge_1 f (F_X9_judge f) (vR vs 0) (vR vs 1) (vI vs 2) S
  | f + 1, 2, vs, S => F_X9_judge_2 f (F_X9_judge f) (vR vs 0) (vR vs 1) (vI vs 2) S
  | _ + 1, _, _, _ => none
theorem dX9_judge_0 : decode cX9_judge 0 = .ok (.aload_n 0, 1) := by decide +kernel
theorem dX9_judge_1 : decode cX9_judge 1 = .ok (.iconst (-1), 1) := by decide +kernel
theorem dX9_judge_2 : decode cX9_judge 2 = .ok (.putfield 99, 3) := by decide +kernel
theorem dX9_judge_5 : decode cX9_judge 5 = .ok (.aload_n 0, 1) := by decide +kernel
theorem dX9_judge_6 : decode cX9_judge 6 = .ok (.iconst (-1), 1) := by decide +kernel
theorem dX9_judge_7 : decode cX9_judge 7 = .ok (.putfield 102, 3) := by decide +kernel
theorem dX9_judge_10 : decode cX9_judge 10 = .ok (.aload_n 0, 1) := by decide +kernel
theorem dX9_judge_11 : decode cX9_judge 11 = .ok (.getfield 12, 3) := by decide +kernel
theorem dX9_judge_14 : decode cX9_judge 14 = .ok (.aload_n 0, 1) := by decide +kernel
theorem dX9_judge_15 : decode cX9_judge 15 = .ok (.getfield 28, 3) := by decide +kernel
theorem dX9_judge_18 : decode cX9_judge 18 = .ok (.invokevirtual 105, 3) := by decide +kernel
theorem dX9_judge_21 : decode cX9_judge 21 = .ok (.iconst 0, 1) := by decide +kernel
theorem dX9_judge_22 : decode cX9_judge 22 = .ok (.istore_n 2, 1) := by decide +kernel
theorem dX9_judge_23 : decode cX9_judge 23 = .ok (.iload_n 2, 1) := by decide +kernel
theorem dX9_judge_24 : decode cX9_judge 24 = .ok (.aload_n 1, 1) := by decide +kernel
theorem dX9_judge_25 : decode cX9_judge 25 = .ok (.getfield 109, 3) := by decide +kernel
theorem dX9_judge_28 : decode cX9_judge 28 = .ok (.if_icmp .ge 89, 3) := by decide +kernel
theorem dX9_judge_31 : decode cX9_judge 31 = .ok (.aload_n 0, 1) := by decide +kernel
theorem dX9_judge_32 : decode cX9_judge 32 = .ok (.aload_n 1, 1) := by decide +kernel
theorem dX9_judge_33 : decode cX9_judge 33 = .ok (.iload_n 2, 1) := by decide +kernel
theorem dX9_judge_34 : decode cX9_judge 34 = .ok (.invokevirtual 114, 3) := by decide +kernel
theorem dX9_judge_37 : decode cX9_judge 37 = .ok (.ifCond .ne 26, 3) := by decide +kernel
theorem dX9_judge_40 : decode cX9_judge 40 = .ok (.aload_n 0, 1) := by decide +kernel
theorem dX9_judge_41 : decode cX9_judge 41 = .ok (.aload_n 0, 1) := by decide +kernel
theorem dX9_judge_42 : decode cX9_judge 42 = .ok (.getfield 99, 3) := by decide +kernel
theorem dX9_judge_45 : decode cX9_judge 45 = .ok (.iconst (-1), 1) := by decide +kernel
theorem dX9_judge_46 : decode cX9_judge 46 = .ok (.if_icmp .ne 7, 3) := by decide +kernel
theorem dX9_judge_49 : decode cX9_judge 49 = .ok (.iload_n 2, 1) := by decide +kernel
theorem dX9_judge_50 : decode cX9_judge 50 = .ok (.goto 7, 3) := by decide +kernel
theorem dX9_judge_53 : decode cX9_judge 53 = .ok (.aload_n 0, 1) := by decide +kernel
theorem dX9_judge_54 : decode cX9_judge 54 = .ok (.getfield 99, 3) := by decide +kernel
theorem dX9_judge_57 : decode cX9_judge 57 = .ok (.putfield 99, 3) := by decide +kernel
theorem dX9_judge_60 : decode cX9_judge 60 = .ok (.goto 51, 3) := by decide +kernel
theorem dX9_judge_63 : decode cX9_judge 63 = .ok (.aload_n 0, 1) := by decide +kernel
theorem dX9_judge_64 : decode cX9_judge 64 = .ok (.aload_n 1, 1) := by decide +kernel
theorem dX9_judge_65 : decode cX9_judge 65 = .ok (.iload_n 2, 1) := by decide +kernel
theorem dX9_judge_66 : decode cX9_judge 66 = .ok (.invokevirtual 118, 3) := by decide +kernel
theorem dX9_judge_69 : decode cX9_judge 69 = .ok (.aload_n 1, 1) := by decide +kernel
theorem dX9_judge_70 : decode cX9_judge 70 = .ok (.getfield 122, 3) := by decide +kernel
theorem dX9_judge_73 : decode cX9_judge 73 = .ok (.iload_n 2, 1) := by decide +kernel
theorem dX9_judge_74 : decode cX9_judge 74 = .ok (.iaload, 1) := by decide +kernel
theorem dX9_judge_75 : decode cX9_judge 75 = .ok (.ifCond .ne 17, 3) := by decide +kernel
theorem dX9_judge_78 : decode cX9_judge 78 = .ok (.aload_n 0, 1) := by decide +kernel
theorem dX9_judge_79 : decode cX9_judge 79 = .ok (.getfield 21, 3) := by decide +kernel
theorem dX9_judge_82 : decode cX9_judge 82 = .ok (.getfield 125, 3) := by decide +kernel
theorem dX9_judge_85 : decode cX9_judge 85 = .ok (.ifCond .le 7, 3) := by decide +kernel
theorem dX9_judge_88 : decode cX9_judge 88 = .ok (.iconst 1, 1) := by decide +kernel
theorem dX9_judge_89 : decode cX9_judge 89 = .ok (.goto 4, 3) := by decide +kernel
theorem dX9_judge_92 : decode cX9_judge 92 = .ok (.iconst 0, 1) := by decide +kernel
theorem dX9_judge_93 : decode cX9_judge 93 = .ok (.istore_n 3, 1) := by decide +kernel
theorem dX9_judge_94 : decode cX9_judge 94 = .ok (.iload_n 3, 1) := by decide +kernel
theorem dX9_judge_95 : decode cX9_judge 95 = .ok (.ifCond .eq 16, 3) := by decide +kernel
theorem dX9_judge_98 : decode cX9_judge 98 = .ok (.aload_n 0, 1) := by decide +kernel
theorem dX9_judge_99 : decode cX9_judge 99 = .ok (.getfield 102, 3) := by decide +kernel
theorem dX9_judge_102 : decode cX9_judge 102 = .ok (.iconst (-1), 1) := by decide +kernel
theorem dX9_judge_103 : decode cX9_judge 103 = .ok (.if_icmp .ne 8, 3) := by decide +kernel
theorem dX9_judge_106 : decode cX9_judge 106 = .ok (.aload_n 0, 1) := by decide +kernel
theorem dX9_judge_107 : decode cX9_judge 107 = .ok (.iload_n 2, 1) := by decide +kernel
theorem dX9_judge_108 : decode cX9_judge 108 = .ok (.putfield 102, 3) := by decide +kernel
theorem dX9_judge_111 : decode cX9_judge 111 = .ok (.iinc 2 1, 3) := by decide +kernel
theorem dX9_judge_114 : decode cX9_judge 114 = .ok (.goto (-91), 3) := by decide +kernel
theorem dX9_judge_117 : decode cX9_judge 117 = .ok (.aload_n 0, 1) := by decide +kernel
theorem dX9_judge_118 : decode cX9_judge 118 = .ok (.aload_n 0, 1) := by decide +kernel
theorem dX9_judge_119 : decode cX9_judge 119 = .ok (.getfield 12, 3) := by decide +kernel
theorem dX9_judge_122 : decode cX9_judge 122 = .ok (.invokevirtual 53, 3) := by decide +kernel
theorem dX9_judge_125 : decode cX9_judge 125 = .ok (.putfield 128, 3) := by decide +kernel
theorem dX9_judge_128 : decode cX9_judge 128 = .ok (.return_, 1) := by decide +kernel
set_option maxHeartbeats 4000000 in
set_option maxRecDepth 100000 in
theorem B_X9_judge {G : zG} {X : zX} {kd : kD} {N0 : Nat} (C : zCt G X 6 0 0 RX9 cX9_judge 4) (hr : (zXh X).sig.returnType = none) : ∀ f : Nat,
    (∀ (S : aS) (v0 : Nat) (v1 : Nat) (res : Option Value × aS), zT0 kd N0 S → v0 < N0 → kd v0 = .inl 8 → v1 < N0 → kd v1 = .inl 0 → F_X9_judge f 0 [.ref v0, .ref v1] S = some res → zV G X (zQX G X (zPo G kd N0 res) 0 0) 4 [some (.ref (zB G + v0)), some (.ref (zB G + v1)), none, none] [] (cn G kd N0 S) 0 0 0) ∧
    (∀ (S : aS) (v0 : Nat) (v1 : Nat) (v2 : Int32) (res : Option Value × aS), zT0 kd N0 S → v0 < N0 → kd v0 = .inl 8 → v1 < N0 → kd v1 = .inl 0 → F_X9_judge f 1 [.ref v0, .ref v1, .int v2] S = some res → zV G X (zQX G X (zPo G kd N0 res) 0 0) 4 [some (.ref (zB G + v0)), some (.ref (zB G + v1)), some (.int v2), none] [] (cn G kd N0 S) 23 0 0) ∧
    (∀ (S : aS) (v0 : Nat) (v1 : Nat) (v2 : Int32) (res : Option Value × aS), zT0 kd N0 S → v0 < N0 → kd v0 = .inl 8 → v1 < N0 → kd v1 = .inl 0 → F_X9_judge f 2 [.ref v0, .ref v1, .int v2] S = some res → zV G X (zQX G X (zPo G kd N0 res) 0 0) 4 [some (.ref (zB G + v0)), some (.ref (zB G + v1)), some (.int v2), none] [] (cn G kd N0 S) 111 0 0) := by
  intro f
  induction f with
  | zero => exact ⟨(fun _ _ _ _ _ _ _ _ _ h => by cases h), (fun _ _ _ _ _ _ _ _ _ _ h => by cases h), (fun _ _ _ _ _ _ _ _ _ _ h => by cases h)⟩
  | succ f ih =>
    obtain ⟨ih0, ih1, ih2⟩ := ih
    refine ⟨?_, ?_, ?_⟩
    · intro S v0 v1 res hT hpv0 hkv0 hpv1 hkv1 hF
      replace hF : F_X9_judge_0 f (F_X9_judge f) v0 v1 S = some res := hF
      unfold F_X9_judge_0 at hF
      refine z_aload_n C dX9_judge_0 rfl ?_
      refine z_iconst (v := (-1)) C dX9_judge_1 (by decide) ?_
      refine f_puti C dX9_judge_2 zfRX9_99 fw8_5 hpv0 hkv0 rfl rfl rfl ?_
      have hT1 : zT0 kd N0 (sI S v0 5 ((-1))) := zT0_sI hT
      replace hF := fS_e hF
      generalize sI S v0 5 ((-1)) = S1 at hF hT1 ⊢
      refine z_aload_n C dX9_judge_5 rfl ?_
      refine z_iconst (v := (-1)) C dX9_judge_6 (by decide) ?_
      refine f_puti C dX9_judge_7 zfRX9_102 fw8_6 hpv0 hkv0 rfl rfl rfl ?_
      have hT2 : zT0 kd N0 (sI S1 v0 6 ((-1))) := zT0_sI hT1
      replace hF := fS_e hF
      generalize sI S1 v0 6 ((-1)) = S2 at hF hT2 ⊢
      refine z_aload_n C dX9_judge_10 rfl ?_
      refine f_getr C dX9_judge_11 zfRX9_12 hpv0 hkv0 rfl ?_
      obtain ⟨hp3, hk3⟩ := hT2.1 v0 8 1 (.inl 3) hpv0 hkv0 rfl
      refine z_aload_n C dX9_judge_14 rfl ?_
      refine f_getr C dX9_judge_15 zfRX9_28 hpv0 hkv0 rfl ?_
      obtain ⟨hp4, hk4⟩ := hT2.1 v0 8 3 (.inl 5) hpv0 hkv0 rfl
      obtain ⟨S5, h5, hF⟩ := bV_some hF
      refine f_cV (st2 := []) C dX9_judge_18 zyX4_begin zvX4_begin lkRX9_105 (K_X4_begin (l := zXl X) hT2 hp3 hk3 hp4 hk4 h5) hp3 hk3 rfl (by decide) rfl rfl (Nat.le_of_ble_eq_true rfl) rfl (fun hT5 => ?_)
      refine z_iconst (v := 0) C dX9_judge_21 (by decide) ?_
      refine z_istore_n (lv2 := [some (.ref (zB G + v0)), some (.ref (zB G + v1)), some (.int 0), none]) C dX9_judge_22 (by decide) rfl ?_
      exact ih1 S5 v0 v1 0 res hT5 hpv0 hkv0 hpv1 hkv1  hF
    · intro S v0 v1 v2 res hT hpv0 hkv0 hpv1 hkv1 hF
      replace hF : F_X9_judge_1 f (F_X9_judge f) v0 v1 v2 S = some res := hF
      unfold F_X9_judge_1 at hF
      refine z_iload_n C dX9_judge_23 rfl ?_
      refine z_aload_n C dX9_judge_24 rfl ?_
      refine f_geti C dX9_judge_25 zfRX9_109 hpv1 hkv1 rfl ?_
      refine z_icmp_ge C 117 dX9_judge_28 (by decide) (fun c7 => ?_) (fun c7 => ?_)
      · replace hF := ip hF c7
        refine z_aload_n C dX9_judge_117 rfl ?_
        refine z_aload_n C dX9_judge_118 rfl ?_
        refine f_getr C dX9_judge_119 zfRX9_12 hpv0 hkv0 rfl ?_
        obtain ⟨hp8, hk8⟩ := hT.1 v0 8 1 (.inl 3) hpv0 hkv0 rfl
        obtain ⟨x9, S9, h9, hF⟩ := bI_some hF
        refine f_cV (st2 := [.int x9, .ref (zB G + v0)]) C dX9_judge_122 zyX4_total zvX4_total lkRX9_53 (K_X4_total (l := zXl X) hT hp8 hk8 h9) hp8 hk8 rfl (by decide) rfl rfl (Nat.le_of_ble_eq_true rfl) rfl (fun hT9 => ?_)
        refine f_puti C dX9_judge_125 zfRX9_128 fw8_7 hpv0 hkv0 rfl rfl rfl ?_
        have hT10 : zT0 kd N0 (sI S9 v0 7 x9) := zT0_sI hT9
        replace hF := fS_e hF
        generalize sI S9 v0 7 x9 = S10 at hF hT10 ⊢
        cases hF
        exact z_vret C hr dX9_judge_128 ⟨rfl, rfl, hT10⟩
      · replace hF := im hF c7
        refine z_aload_n C dX9_judge_31 rfl ?_
        refine z_aload_n C dX9_judge_32 rfl ?_
        refine z_iload_n C dX9_judge_33 rfl ?_
        obtain ⟨x11, S11, h11, hF⟩ := bI_some hF
        refine f_cV (st2 := [.int x11]) C dX9_judge_34 zyX9_canBe zvX9_canBe lkRX9_114 (K_X9_canBe (l := zXl X) hT hpv0 hkv0 hpv1 hkv1  h11) hpv0 hkv0 rfl (by decide) rfl rfl (Nat.le_of_ble_eq_true rfl) rfl (fun hT11 => ?_)
        refine z_if_ne C 63 dX9_judge_37 (by decide) (fun c13 => ?_) (fun c13 => ?_)
        · replace hF := im hF c13
          refine z_aload_n C dX9_judge_63 rfl ?_
          refine z_aload_n C dX9_judge_64 rfl ?_
          refine z_iload_n C dX9_judge_65 rfl ?_
          obtain ⟨S14, h14, hF⟩ := bV_some hF
          refine f_cV (st2 := []) C dX9_judge_66 zyX9_act zvX9_act lkRX9_118 (K_X9_act (l := zXl X) hT11 hpv0 hkv0 hpv1 hkv1  h14) hpv0 hkv0 rfl (by decide) rfl rfl (Nat.le_of_ble_eq_true rfl) rfl (fun hT14 => ?_)
          refine z_aload_n C dX9_judge_69 rfl ?_
          refine f_getr C dX9_judge_70 zfRX9_122 hpv1 hkv1 rfl ?_
          obtain ⟨hp15, hk15⟩ := hT14.1 v1 0 0 (.inr (0, 40)) hpv1 hkv1 rfl
          refine z_iload_n C dX9_judge_73 rfl ?_
          obtain ⟨hi16, hF⟩ := bX_some hF
          obtain ⟨q16, eq16⟩ : ∃ q : Nat, q = Int32.toNatClampNeg v2 := ⟨_, rfl⟩
          rw [← eq16] at hF
          refine f_iald C dX9_judge_74 hp15 hk15 hi16 ?_
          rw [← eq16]
          have hJ20 : zV G X (zQX G X (zPo G kd N0 res) 0 0) 4 [some (.ref (zB G + v0)), some (.ref (zB G + v1)), some (.int v2), none] [.int (if (gI S14 (gR S14 v1 0) q16) = (0 : Int32) then if (gI S14 (gR S14 v0 2) 3) ≤ (0 : Int32) then (0 : Int32) else (1 : Int32) else (0 : Int32))] (cn G kd N0 S14) 93 0 0 := by
            replace hF := lI_e hF
            generalize (if (gI S14 (gR S14 v1 0) q16) = (0 : Int32) then if (gI S14 (gR S14 v0 2) 3) ≤ (0 : Int32) then (0 : Int32) else (1 : Int32) else (0 : Int32)) = y21 at hF ⊢
            refine z_istore_n (lv2 := [some (.ref (zB G + v0)), some (.ref (zB G + v1)), some (.int v2), some (.int y21)]) C dX9_judge_93 (by decide) rfl ?_
            refine z_iload_n C dX9_judge_94 rfl ?_
            refine z_if_eq C 111 dX9_judge_95 (by decide) (fun c24 => ?_) (fun c24 => ?_)
            · replace hF := ip hF c24
              refine z_mask [true, true, true, false] ?_ rfl
              exact ih2 S14 v0 v1 v2 res hT14 hpv0 hkv0 hpv1 hkv1  hF
            · replace hF := im hF c24
              refine z_aload_n C dX9_judge_98 rfl ?_
              refine f_geti C dX9_judge_99 zfRX9_102 hpv0 hkv0 rfl ?_
              refine z_iconst (v := (-1)) C dX9_judge_102 (by decide) ?_
              refine z_icmp_ne C 111 dX9_judge_103 (by decide) (fun c26 => ?_) (fun c26 => ?_)
              · replace hF := im hF c26
                refine z_mask [true, true, true, false] ?_ rfl
                exact ih2 S14 v0 v1 v2 res hT14 hpv0 hkv0 hpv1 hkv1  hF
              · replace hF := ip hF c26
                refine z_aload_n C dX9_judge_106 rfl ?_
                refine z_iload_n C dX9_judge_107 rfl ?_
                refine f_puti C dX9_judge_108 zfRX9_102 fw8_6 hpv0 hkv0 rfl rfl rfl ?_
                have hT27 : zT0 kd N0 (sI S14 v0 6 v2) := zT0_sI hT14
                replace hF := fS_e hF
                generalize sI S14 v0 6 v2 = S27 at hF hT27 ⊢
                refine z_mask [true, true, true, false] ?_ rfl
                exact ih2 S27 v0 v1 v2 res hT27 hpv0 hkv0 hpv1 hkv1  hF
          refine z_if_ne C 92 dX9_judge_75 (by decide) (fun c17 => ?_) (fun c17 => ?_)
          · refine z_iconst (v := 0) C dX9_judge_92 (by decide) ?_
            exact zV.at hJ20 (by first | rfl | contradiction | (simp only [if_neg c17]; done)) (by first | rfl | contradiction | (simp only [if_neg c17]; done)) rfl rfl
          · refine z_aload_n C dX9_judge_78 rfl ?_
            refine f_getr C dX9_judge_79 zfRX9_21 hpv0 hkv0 rfl ?_
            obtain ⟨hp18, hk18⟩ := hT14.1 v0 8 2 (.inl 9) hpv0 hkv0 rfl
            refine f_geti C dX9_judge_82 zfRX9_125 hp18 hk18 rfl ?_
            refine z_if_le C 92 dX9_judge_85 (by decide) (fun c19 => ?_) (fun c19 => ?_)
            · refine z_iconst (v := 0) C dX9_judge_92 (by decide) ?_
              exact zV.at hJ20 (by first | rfl | contradiction | (simp only [if_pos c17, if_pos c19]; done)) (by first | rfl | contradiction | (simp only [if_pos c17, if_pos c19]; done)) rfl rfl
            · refine z_iconst (v := 1) C dX9_judge_88 (by decide) ?_
              refine z_goto C 93 dX9_judge_89 (by decide) ?_
              exact zV.at hJ20 (by first | rfl | contradiction | (simp only [if_pos c17, if_neg c19]; done)) (by first | rfl | contradiction | (simp only [if_pos c17, if_neg c19]; done)) rfl rfl
        · replace hF := ip hF c13
          refine z_aload_n C dX9_judge_40 rfl ?_
          refine z_aload_n C dX9_judge_41 rfl ?_
          refine f_geti C dX9_judge_42 zfRX9_99 hpv0 hkv0 rfl ?_
          refine z_iconst (v := (-1)) C dX9_judge_45 (by decide) ?_
          have hJ29 : zV G X (zQX G X (zPo G kd N0 res) 0 0) 4 [some (.ref (zB G + v0)), some (.ref (zB G + v1)), some (.int v2), none] [.int (if (gI S11 v0 5) = (-1 : Int32) then v2 else (gI S11 v0 5)), .ref (zB G + v0)] (cn G kd N0 S11) 57 0 0 := by
            refine f_puti C dX9_judge_57 zfRX9_99 fw8_5 hpv0 hkv0 rfl rfl rfl ?_
            have hT30 : zT0 kd N0 (sI S11 v0 5 (if (gI S11 v0 5) = (-1 : Int32) then v2 else (gI S11 v0 5))) := zT0_sI hT11
            replace hF := fS_e hF
            generalize sI S11 v0 5 (if (gI S11 v0 5) = (-1 : Int32) then v2 else (gI S11 v0 5)) = S30 at hF hT30 ⊢
            refine z_goto C 111 dX9_judge_60 (by decide) ?_
            exact ih2 S30 v0 v1 v2 res hT30 hpv0 hkv0 hpv1 hkv1  hF
          refine z_icmp_ne C 53 dX9_judge_46 (by decide) (fun c28 => ?_) (fun c28 => ?_)
          · refine z_aload_n C dX9_judge_53 rfl ?_
            refine f_geti C dX9_judge_54 zfRX9_99 hpv0 hkv0 rfl ?_
            exact zV.at hJ29 (by first | rfl | contradiction | (simp only [if_neg c28]; done)) (by first | rfl | contradiction | (simp only [if_neg c28]; done)) rfl rfl
          · refine z_iload_n C dX9_judge_49 rfl ?_
            refine z_goto C 57 dX9_judge_50 (by decide) ?_
            exact zV.at hJ29 (by first | rfl | contradiction | (simp only [if_pos c28]; done)) (by first | rfl | contradiction | (simp only [if_pos c28]; done)) rfl rfl
    · intro S v0 v1 v2 res hT hpv0 hkv0 hpv1 hkv1 hF
      replace hF : F_X9_judge_2 f (F_X9_judge f) v0 v1 v2 S = some res := hF
      unfold F_X9_judge_2 at hF
      refine z_iinc (v := v2 + 1) (lv2 := [some (.ref (zB G + v0)), some (.ref (zB G + v1)), some (.int (v2 + 1)), none]) C dX9_judge_111 rfl (by rw [show Int32.ofInt 1 = (1 : Int32) from by decide]) rfl ?_
      refine z_goto C 23 dX9_judge_114 (by decide) ?_
      exact ih1 S v0 v1 (v2 + 1) res hT hpv0 hkv0 hpv1 hkv1  hF
theorem K_X9_judge {G : zG} {l : Launch} {kd : kD} {N0 f : Nat} {S : aS} {v0 : Nat} {v1 : Nat} {res : Option Value × aS} (hT : zT0 kd N0 S) (hpv0 : v0 < N0) (hkv0 : kd v0 = .inl 8) (hpv1 : v1 < N0) (hkv1 : kd v1 = .inl 0) (hF : F_X9_judge f 0 [.ref v0, .ref v1] S = some res) : zM G l 6 0 0 yX9_judge cX9_judge 4 none [.ref (zB G + v0), .ref (zB G + v1)] (cn G kd N0 S) (zPo G kd N0 res) := zM.of (by decide) rfl (Nat.le_of_ble_eq_true rfl) (fun X _ C hr _ => (B_X9_judge C hr f).1 S v0 v1 res hT hpv0 hkv0 hpv1 hkv1 hF)
def F_X12_judged_0 (f : Nat) (rc : Nat → List Value → aS → aR) (v0 : Nat) (v1 : Int32) (S : aS) : aR :=
  bI (F_X12_isWithin f 0 [.int v1, .int 0, .int 2] S) fun x1 S1 => if x1 = (0 : Int32) then some (some (.int ((-2))), S1) else bV (F_X9_judge f 0 [.ref (gR S1 v0 11), .ref (gR S1 v0 3)] S1) fun S5 => if v1 = (0 : Int32) then some (some (.int (gI S5 (gR S5 v0 11) 5)), S5) else some (some (.int (if v1 = (1 : Int32) then (gI S5 (gR S5 v0 11) 6) else (gI S5 (gR S5 v0 11) 7))), S5)
def F_X12_judged : Nat → Nat → List Value → aS → aR
  | 0, _, _, _ => none
  | f + 1, 0, vs, S => F_X12_judged_0 f (F_X12_judged f) (vR vs 0) (vI vs 1) S
  | _ + 1, _, _, _ => none
theorem dX12_judged_0 : decode cX12_judged 0 = .ok (.iload_n 1, 1) := by decide +kernel
theorem dX12_judged_1 : decode cX12_judged 1 = .ok (.iconst 0, 1) := by decide +kernel
theorem dX12_judged_2 : decode cX12_judged 2 = .ok (.iconst 2, 1) := by decide +kernel
theorem dX12_judged_3 : decode cX12_judged 3 = .ok (.invokestatic 178, 3) := by decide +kernel
theorem dX12_judged_6 : decode cX12_judged 6 = .ok (.ifCond .ne 6, 3) := by decide +kernel
theorem dX12_judged_9 : decode cX12_judged 9 = .ok (.bipush (-2), 2) := by decide +kernel
theorem dX12_judged_11 : decode cX12_judged 11 = .ok (.ireturn, 1) := by decide +kernel
theorem dX12_judged_12 : decode cX12_judged 12 = .ok (.aload_n 0, 1) := by decide +kernel
theorem dX12_judged_13 : decode cX12_judged 13 = .ok (.getfield 70, 3) := by decide +kernel
theorem dX12_judged_16 : decode cX12_judged 16 = .ok (.aload_n 0, 1) := by decide +kernel
theorem dX12_judged_17 : decode cX12_judged 17 = .ok (.getfield 29, 3) := by decide +kernel
theorem dX12_judged_20 : decode cX12_judged 20 = .ok (.invokevirtual 200, 3) := by decide +kernel
theorem dX12_judged_23 : decode cX12_judged 23 = .ok (.iload_n 1, 1) := by decide +kernel
theorem dX12_judged_24 : decode cX12_judged 24 = .ok (.ifCond .ne 11, 3) := by decide +kernel
theorem dX12_judged_27 : decode cX12_judged 27 = .ok (.aload_n 0, 1) := by decide +kernel
theorem dX12_judged_28 : decode cX12_judged 28 = .ok (.getfield 70, 3) := by decide +kernel
theorem dX12_judged_31 : decode cX12_judged 31 = .ok (.getfield 204, 3) := by decide +kernel
theorem dX12_judged_34 : decode cX12_judged 34 = .ok (.ireturn, 1) := by decide +kernel
theorem dX12_judged_35 : decode cX12_judged 35 = .ok (.iload_n 1, 1) := by decide +kernel
theorem dX12_judged_36 : decode cX12_judged 36 = .ok (.iconst 1, 1) := by decide +kernel
theorem dX12_judged_37 : decode cX12_judged 37 = .ok (.if_icmp .ne 13, 3) := by decide +kernel
theorem dX12_judged_40 : decode cX12_judged 40 = .ok (.aload_n 0, 1) := by decide +kernel
theorem dX12_judged_41 : decode cX12_judged 41 = .ok (.getfield 70, 3) := by decide +kernel
theorem dX12_judged_44 : decode cX12_judged 44 = .ok (.getfield 207, 3) := by decide +kernel
theorem dX12_judged_47 : decode cX12_judged 47 = .ok (.goto 10, 3) := by decide +kernel
theorem dX12_judged_50 : decode cX12_judged 50 = .ok (.aload_n 0, 1) := by decide +kernel
theorem dX12_judged_51 : decode cX12_judged 51 = .ok (.getfield 70, 3) := by decide +kernel
theorem dX12_judged_54 : decode cX12_judged 54 = .ok (.getfield 210, 3) := by decide +kernel
theorem dX12_judged_57 : decode cX12_judged 57 = .ok (.ireturn, 1) := by decide +kernel
set_option maxHeartbeats 4000000 in
set_option maxRecDepth 100000 in
theorem B_X12_judged {G : zG} {X : zX} {kd : kD} {N0 : Nat} (C : zCt G X 7 0 0 RX12 cX12_judged 2) (hr : (zXh X).sig.returnType = (some .int)) : ∀ f : Nat,
    (∀ (S : aS) (v0 : Nat) (v1 : Int32) (res : Option Value × aS), zT0 kd N0 S → v0 < N0 → kd v0 = .inl 10 → F_X12_judged f 0 [.ref v0, .int v1] S = some res → zV G X (zQX G X (zPo G kd N0 res) 0 0) 2 [some (.ref (zB G + v0)), some (.int v1)] [] (cn G kd N0 S) 0 0 0) := by
  intro f
  induction f with
  | zero => exact (fun _ _ _ _ _ _ _ h => by cases h)
  | succ f ih =>
    have ih0 := ih
    intro S v0 v1 res hT hpv0 hkv0 hF
    replace hF : F_X12_judged_0 f (F_X12_judged f) v0 v1 S = some res := hF
    unfold F_X12_judged_0 at hF
    refine z_iload_n C dX12_judged_0 rfl ?_
    refine z_iconst (v := 0) C dX12_judged_1 (by decide) ?_
    refine z_iconst (v := 2) C dX12_judged_2 (by decide) ?_
    obtain ⟨x1, S1, h1, hF⟩ := bI_some hF
    refine f_cS (st2 := [.int x1]) C dX12_judged_3 zyX12_isWithin zsX12_isWithin lkRX12_178 (K_X12_isWithin (l := zXl X) hT    h1) (by decide) rfl rfl (Nat.le_of_ble_eq_true rfl) rfl (fun hT1 => ?_)
    refine z_if_ne C 12 dX12_judged_6 (by decide) (fun c2 => ?_) (fun c2 => ?_)
    · replace hF := im hF c2
      refine z_aload_n C dX12_judged_12 rfl ?_
      refine f_getr C dX12_judged_13 zfRX12_70 hpv0 hkv0 rfl ?_
      obtain ⟨hp3, hk3⟩ := hT1.1 v0 10 11 (.inl 8) hpv0 hkv0 rfl
      refine z_aload_n C dX12_judged_16 rfl ?_
      refine f_getr C dX12_judged_17 zfRX12_29 hpv0 hkv0 rfl ?_
      obtain ⟨hp4, hk4⟩ := hT1.1 v0 10 3 (.inl 0) hpv0 hkv0 rfl
      obtain ⟨S5, h5, hF⟩ := bV_some hF
      refine f_cV (st2 := []) C dX12_judged_20 zyX9_judge zvX9_judge lkRX12_200 (K_X9_judge (l := zXl X) hT1 hp3 hk3 hp4 hk4 h5) hp3 hk3 rfl (by decide) rfl rfl (Nat.le_of_ble_eq_true rfl) rfl (fun hT5 => ?_)
      refine z_iload_n C dX12_judged_23 rfl ?_
      refine z_if_ne C 35 dX12_judged_24 (by decide) (fun c6 => ?_) (fun c6 => ?_)
      · replace hF := im hF c6
        refine z_iload_n C dX12_judged_35 rfl ?_
        refine z_iconst (v := 1) C dX12_judged_36 (by decide) ?_
        have hJ10 : zV G X (zQX G X (zPo G kd N0 res) 0 0) 2 [some (.ref (zB G + v0)), some (.int v1)] [.int (if v1 = (1 : Int32) then (gI S5 (gR S5 v0 11) 6) else (gI S5 (gR S5 v0 11) 7))] (cn G kd N0 S5) 57 0 0 := by
          cases hF
          exact z_iret C hr dX12_judged_57 ⟨rfl, rfl, hT5⟩
        refine z_icmp_ne C 50 dX12_judged_37 (by decide) (fun c7 => ?_) (fun c7 => ?_)
        · refine z_aload_n C dX12_judged_50 rfl ?_
          refine f_getr C dX12_judged_51 zfRX12_70 hpv0 hkv0 rfl ?_
          obtain ⟨hp8, hk8⟩ := hT5.1 v0 10 11 (.inl 8) hpv0 hkv0 rfl
          refine f_geti C dX12_judged_54 zfRX12_210 hp8 hk8 rfl ?_
          exact zV.at hJ10 (by first | rfl | contradiction | (simp only [if_neg c7]; done)) (by first | rfl | contradiction | (simp only [if_neg c7]; done)) rfl rfl
        · refine z_aload_n C dX12_judged_40 rfl ?_
          refine f_getr C dX12_judged_41 zfRX12_70 hpv0 hkv0 rfl ?_
          obtain ⟨hp9, hk9⟩ := hT5.1 v0 10 11 (.inl 8) hpv0 hkv0 rfl
          refine f_geti C dX12_judged_44 zfRX12_207 hp9 hk9 rfl ?_
          refine z_goto C 57 dX12_judged_47 (by decide) ?_
          exact zV.at hJ10 (by first | rfl | contradiction | (simp only [if_pos c7]; done)) (by first | rfl | contradiction | (simp only [if_pos c7]; done)) rfl rfl
      · replace hF := ip hF c6
        refine z_aload_n C dX12_judged_27 rfl ?_
        refine f_getr C dX12_judged_28 zfRX12_70 hpv0 hkv0 rfl ?_
        obtain ⟨hp11, hk11⟩ := hT5.1 v0 10 11 (.inl 8) hpv0 hkv0 rfl
        refine f_geti C dX12_judged_31 zfRX12_204 hp11 hk11 rfl ?_
        cases hF
        exact z_iret C hr dX12_judged_34 ⟨rfl, rfl, hT5⟩
    · replace hF := ip hF c2
      refine z_bipush (v := (-2)) C dX12_judged_9 (by decide) ?_
      cases hF
      exact z_iret C hr dX12_judged_11 ⟨rfl, rfl, hT1⟩
theorem K_X12_judged {G : zG} {l : Launch} {kd : kD} {N0 f : Nat} {S : aS} {v0 : Nat} {v1 : Int32} {res : Option Value × aS} (hT : zT0 kd N0 S) (hpv0 : v0 < N0) (hkv0 : kd v0 = .inl 10) (hF : F_X12_judged f 0 [.ref v0, .int v1] S = some res) : zM G l 7 0 0 yX12_judged cX12_judged 2 (some .int) [.ref (zB G + v0), .int v1] (cn G kd N0 S) (zPo G kd N0 res) := zM.of (by decide) rfl (Nat.le_of_ble_eq_true rfl) (fun X _ C hr _ => (B_X12_judged C hr f) S v0 v1 res hT hpv0 hkv0 hF)
def F_X12_order_0 (f : Nat) (rc : Nat → List Value → aS → aR) (v0 : Nat) (v1 : Int32) (S : aS) : aR :=
  if v1 = (-1 : Int32) then rc 1 [.ref v0, .int v1] S else bI (F_X6_hasPerson f 0 [.ref (gR S v0 1), .int v1] S) fun x3 S3 => if x3 = (0 : Int32) then some (some (.int ((-2))), S3) else rc 1 [.ref v0, .int v1] S3
def F_X12_order_1 (f : Nat) (rc : Nat → List Value → aS → aR) (v0 : Nat) (v1 : Int32) (S : aS) : aR :=
  bV (F_X7_start f 0 [.ref (gR S v0 12)] S) fun S6 => bV (F_X7_tryOrders f 0 [.ref (gR S6 v0 12), .int 0, .int 0] S6) fun S8 => if v1 = (-1 : Int32) then rc 2 [.int (gI S8 (gR S8 v0 12) 7)] S8 else bX v1 6 fun q15 => rc 2 [.int (gI S8 (gR S8 (gR S8 v0 12) 5) q15)] S8
def F_X12_order_2 (f : Nat) (rc : Nat → List Value → aS → aR) (w0 : Int32) (S : aS) : aR :=
  some (some (.int w0), S)
def F_X12_order : Nat → Nat → List Value → aS → aR
  | 0, _, _, _ => none
  | f + 1, 0, vs, S => F_X12_order_0 f (F_X12_order f) (vR vs 0) (vI vs 1) S
  | f + 1, 1, vs, S => F_X12_order_1 f (F_X12_order f) (vR vs 0) (vI vs 1) S
  | f + 1, 2, vs, S => F_X12_order_2 f (F_X12_order f) (vI vs 0) S
  | _ + 1, _, _, _ => none
theorem dX12_order_0 : decode cX12_order 0 = .ok (.iload_n 1, 1) := by decide +kernel
theorem dX12_order_1 : decode cX12_order 1 = .ok (.iconst (-1), 1) := by decide +kernel
theorem dX12_order_2 : decode cX12_order 2 = .ok (.if_icmp .eq 17, 3) := by decide +kernel
theorem dX12_order_5 : decode cX12_order 5 = .ok (.aload_n 0, 1) := by decide +kernel
theorem dX12_order_6 : decode cX12_order 6 = .ok (.getfield 19, 3) := by decide +kernel
theorem dX12_order_9 : decode cX12_order 9 = .ok (.iload_n 1, 1) := by decide +kernel
theorem dX12_order_10 : decode cX12_order 10 = .ok (.invokevirtual 135, 3) := by decide +kernel
theorem dX12_order_13 : decode cX12_order 13 = .ok (.ifCond .ne 6, 3) := by decide +kernel
theorem dX12_order_16 : decode cX12_order 16 = .ok (.bipush (-2), 2) := by decide +kernel
theorem dX12_order_18 : decode cX12_order 18 = .ok (.ireturn, 1) := by decide +kernel
theorem dX12_order_19 : decode cX12_order 19 = .ok (.aload_n 0, 1) := by decide +kernel
theorem dX12_order_20 : decode cX12_order 20 = .ok (.getfield 79, 3) := by decide +kernel
theorem dX12_order_23 : decode cX12_order 23 = .ok (.invokevirtual 219, 3) := by decide +kernel
theorem dX12_order_26 : decode cX12_order 26 = .ok (.aload_n 0, 1) := by decide +kernel
theorem dX12_order_27 : decode cX12_order 27 = .ok (.getfield 79, 3) := by decide +kernel
theorem dX12_order_30 : decode cX12_order 30 = .ok (.iconst 0, 1) := by decide +kernel
theorem dX12_order_31 : decode cX12_order 31 = .ok (.iconst 0, 1) := by decide +kernel
theorem dX12_order_32 : decode cX12_order 32 = .ok (.invokevirtual 243, 3) := by decide +kernel
theorem dX12_order_35 : decode cX12_order 35 = .ok (.iload_n 1, 1) := by decide +kernel
theorem dX12_order_36 : decode cX12_order 36 = .ok (.iconst (-1), 1) := by decide +kernel
theorem dX12_order_37 : decode cX12_order 37 = .ok (.if_icmp .ne 13, 3) := by decide +kernel
theorem dX12_order_40 : decode cX12_order 40 = .ok (.aload_n 0, 1) := by decide +kernel
theorem dX12_order_41 : decode cX12_order 41 = .ok (.getfield 79, 3) := by decide +kernel
theorem dX12_order_44 : decode cX12_order 44 = .ok (.getfield 225, 3) := by decide +kernel
theorem dX12_order_47 : decode cX12_order 47 = .ok (.goto 12, 3) := by decide +kernel
theorem dX12_order_50 : decode cX12_order 50 = .ok (.aload_n 0, 1) := by decide +kernel
theorem dX12_order_51 : decode cX12_order 51 = .ok (.getfield 79, 3) := by decide +kernel
theorem dX12_order_54 : decode cX12_order 54 = .ok (.getfield 246, 3) := by decide +kernel
theorem dX12_order_57 : decode cX12_order 57 = .ok (.iload_n 1, 1) := by decide +kernel
theorem dX12_order_58 : decode cX12_order 58 = .ok (.iaload, 1) := by decide +kernel
theorem dX12_order_59 : decode cX12_order 59 = .ok (.ireturn, 1) := by decide +kernel
set_option maxHeartbeats 4000000 in
set_option maxRecDepth 100000 in
theorem B_X12_order {G : zG} {X : zX} {kd : kD} {N0 : Nat} (C : zCt G X 16 0 0 RX12 cX12_order 2) (hr : (zXh X).sig.returnType = (some .int)) : ∀ f : Nat,
    (∀ (S : aS) (v0 : Nat) (v1 : Int32) (res : Option Value × aS), zT0 kd N0 S → v0 < N0 → kd v0 = .inl 10 → F_X12_order f 0 [.ref v0, .int v1] S = some res → zV G X (zQX G X (zPo G kd N0 res) 0 0) 2 [some (.ref (zB G + v0)), some (.int v1)] [] (cn G kd N0 S) 0 0 0) ∧
    (∀ (S : aS) (v0 : Nat) (v1 : Int32) (res : Option Value × aS), zT0 kd N0 S → v0 < N0 → kd v0 = .inl 10 → F_X12_order f 1 [.ref v0, .int v1] S = some res → zV G X (zQX G X (zPo G kd N0 res) 0 0) 2 [some (.ref (zB G + v0)), some (.int v1)] [] (cn G kd N0 S) 19 0 0) ∧
    (∀ (S : aS) (w0 : Int32) (res : Option Value × aS), zT0 kd N0 S → F_X12_order f 2 [.int w0] S = some res → zV G X (zQX G X (zPo G kd N0 res) 0 0) 2 [none, none] [.int w0] (cn G kd N0 S) 59 0 0) := by
  intro f
  induction f with
  | zero => exact ⟨(fun _ _ _ _ _ _ _ h => by cases h), (fun _ _ _ _ _ _ _ h => by cases h), (fun _ _ _ _ h => by cases h)⟩
  | succ f ih =>
    obtain ⟨ih0, ih1, ih2⟩ := ih
    refine ⟨?_, ?_, ?_⟩
    · intro S v0 v1 res hT hpv0 hkv0 hF
      replace hF : F_X12_order_0 f (F_X12_order f) v0 v1 S = some res := hF
      unfold F_X12_order_0 at hF
      refine z_iload_n C dX12_order_0 rfl ?_
      refine z_iconst (v := (-1)) C dX12_order_1 (by decide) ?_
      refine z_icmp_eq C 19 dX12_order_2 (by decide) (fun c1 => ?_) (fun c1 => ?_)
      · replace hF := ip hF c1
        exact ih1 S v0 v1 res hT hpv0 hkv0  hF
      · replace hF := im hF c1
        refine z_aload_n C dX12_order_5 rfl ?_
        refine f_getr C dX12_order_6 zfRX12_19 hpv0 hkv0 rfl ?_
        obtain ⟨hp2, hk2⟩ := hT.1 v0 10 1 (.inl 5) hpv0 hkv0 rfl
        refine z_iload_n C dX12_order_9 rfl ?_
        obtain ⟨x3, S3, h3, hF⟩ := bI_some hF
        refine f_cV (st2 := [.int x3]) C dX12_order_10 zyX6_hasPerson zvX6_hasPerson lkRX12_135 (K_X6_hasPerson (l := zXl X) hT hp2 hk2  h3) hp2 hk2 rfl (by decide) rfl rfl (Nat.le_of_ble_eq_true rfl) rfl (fun hT3 => ?_)
        refine z_if_ne C 19 dX12_order_13 (by decide) (fun c4 => ?_) (fun c4 => ?_)
        · replace hF := im hF c4
          exact ih1 S3 v0 v1 res hT3 hpv0 hkv0  hF
        · replace hF := ip hF c4
          refine z_bipush (v := (-2)) C dX12_order_16 (by decide) ?_
          cases hF
          exact z_iret C hr dX12_order_18 ⟨rfl, rfl, hT3⟩
    · intro S v0 v1 res hT hpv0 hkv0 hF
      replace hF : F_X12_order_1 f (F_X12_order f) v0 v1 S = some res := hF
      unfold F_X12_order_1 at hF
      refine z_aload_n C dX12_order_19 rfl ?_
      refine f_getr C dX12_order_20 zfRX12_79 hpv0 hkv0 rfl ?_
      obtain ⟨hp5, hk5⟩ := hT.1 v0 10 12 (.inl 6) hpv0 hkv0 rfl
      obtain ⟨S6, h6, hF⟩ := bV_some hF
      refine f_cV (st2 := []) C dX12_order_23 zyX7_start zvX7_start lkRX12_219 (K_X7_start (l := zXl X) hT hp5 hk5 h6) hp5 hk5 rfl (by decide) rfl rfl (Nat.le_of_ble_eq_true rfl) rfl (fun hT6 => ?_)
      refine z_aload_n C dX12_order_26 rfl ?_
      refine f_getr C dX12_order_27 zfRX12_79 hpv0 hkv0 rfl ?_
      obtain ⟨hp7, hk7⟩ := hT6.1 v0 10 12 (.inl 6) hpv0 hkv0 rfl
      refine z_iconst (v := 0) C dX12_order_30 (by decide) ?_
      refine z_iconst (v := 0) C dX12_order_31 (by decide) ?_
      obtain ⟨S8, h8, hF⟩ := bV_some hF
      refine f_cVN (st2 := []) C dX12_order_32 zyX7_tryOrders zvX7_tryOrders lkRX12_243 (K_X7_tryOrders (l := zXl X) hT6 hp7 hk7   h8) hp7 hk7 rfl (by decide) rfl rfl (Nat.le_of_ble_eq_true rfl) rfl (fun hT8 => ?_)
      refine z_iload_n C dX12_order_35 rfl ?_
      refine z_iconst (v := (-1)) C dX12_order_36 (by decide) ?_
      refine z_icmp_ne C 50 dX12_order_37 (by decide) (fun c12 => ?_) (fun c12 => ?_)
      · replace hF := im hF c12
        refine z_aload_n C dX12_order_50 rfl ?_
        refine f_getr C dX12_order_51 zfRX12_79 hpv0 hkv0 rfl ?_
        obtain ⟨hp13, hk13⟩ := hT8.1 v0 10 12 (.inl 6) hpv0 hkv0 rfl
        refine f_getr C dX12_order_54 zfRX12_246 hp13 hk13 rfl ?_
        obtain ⟨hp14, hk14⟩ := hT8.1 (gR S8 v0 12) 6 5 (.inr (0, 6)) hp13 hk13 rfl
        refine z_iload_n C dX12_order_57 rfl ?_
        obtain ⟨hi15, hF⟩ := bX_some hF
        obtain ⟨q15, eq15⟩ : ∃ q : Nat, q = Int32.toNatClampNeg v1 := ⟨_, rfl⟩
        rw [← eq15] at hF
        refine f_iald C dX12_order_58 hp14 hk14 hi15 ?_
        rw [← eq15]
        refine z_mask [false, false] ?_ rfl
        exact ih2 S8 (gI S8 (gR S8 (gR S8 v0 12) 5) q15) res hT8  hF
      · replace hF := ip hF c12
        refine z_aload_n C dX12_order_40 rfl ?_
        refine f_getr C dX12_order_41 zfRX12_79 hpv0 hkv0 rfl ?_
        obtain ⟨hp16, hk16⟩ := hT8.1 v0 10 12 (.inl 6) hpv0 hkv0 rfl
        refine f_geti C dX12_order_44 zfRX12_225 hp16 hk16 rfl ?_
        refine z_goto C 59 dX12_order_47 (by decide) ?_
        refine z_mask [false, false] ?_ rfl
        exact ih2 S8 (gI S8 (gR S8 v0 12) 7) res hT8  hF
    · intro S w0 res hT  hF
      replace hF : F_X12_order_2 f (F_X12_order f) w0 S = some res := hF
      unfold F_X12_order_2 at hF
      cases hF
      exact z_iret C hr dX12_order_59 ⟨rfl, rfl, hT⟩
theorem K_X12_order {G : zG} {l : Launch} {kd : kD} {N0 f : Nat} {S : aS} {v0 : Nat} {v1 : Int32} {res : Option Value × aS} (hT : zT0 kd N0 S) (hpv0 : v0 < N0) (hkv0 : kd v0 = .inl 10) (hF : F_X12_order f 0 [.ref v0, .int v1] S = some res) : zM G l 16 0 0 yX12_order cX12_order 2 (some .int) [.ref (zB G + v0), .int v1] (cn G kd N0 S) (zPo G kd N0 res) := zM.of (by decide) rfl (Nat.le_of_ble_eq_true rfl) (fun X _ C hr _ => (B_X12_order C hr f).1 S v0 v1 res hT hpv0 hkv0 hF)
def F_X12_mean_0 (f : Nat) (rc : Nat → List Value → aS → aR) (v0 : Nat) (v1 : Int32) (S : aS) : aR :=
  bI (F_X12_isWithin f 0 [.int v1, .int 0, .int 10] S) fun x1 S1 => if x1 = (0 : Int32) then rc 1 [.int ((-1))] S1 else bI (F_X7_meanThousandths f 0 [.ref (gR S1 v0 12), .int v1] S1) fun x6 S6 => rc 1 [.int x6] S6
def F_X12_mean_1 (f : Nat) (rc : Nat → List Value → aS → aR) (w0 : Int32) (S : aS) : aR :=
  some (some (.int w0), S)
def F_X12_mean : Nat → Nat → List Value → aS → aR
  | 0, _, _, _ => none
  | f + 1, 0, vs, S => F_X12_mean_0 f (F_X12_mean f) (vR vs 0) (vI vs 1) S
  | f + 1, 1, vs, S => F_X12_mean_1 f (F_X12_mean f) (vI vs 0) S
  | _ + 1, _, _, _ => none
theorem dX12_mean_0 : decode cX12_mean 0 = .ok (.iload_n 1, 1) := by decide +kernel
theorem dX12_mean_1 : decode cX12_mean 1 = .ok (.iconst 0, 1) := by decide +kernel
theorem dX12_mean_2 : decode cX12_mean 2 = .ok (.bipush 10, 2) := by decide +kernel
theorem dX12_mean_4 : decode cX12_mean 4 = .ok (.invokestatic 178, 3) := by decide +kernel
theorem dX12_mean_7 : decode cX12_mean 7 = .ok (.ifCond .eq 14, 3) := by decide +kernel
theorem dX12_mean_10 : decode cX12_mean 10 = .ok (.aload_n 0, 1) := by decide +kernel
theorem dX12_mean_11 : decode cX12_mean 11 = .ok (.getfield 79, 3) := by decide +kernel
theorem dX12_mean_14 : decode cX12_mean 14 = .ok (.iload_n 1, 1) := by decide +kernel
theorem dX12_mean_15 : decode cX12_mean 15 = .ok (.invokevirtual 272, 3) := by decide +kernel
theorem dX12_mean_18 : decode cX12_mean 18 = .ok (.goto 4, 3) := by decide +kernel
theorem dX12_mean_21 : decode cX12_mean 21 = .ok (.iconst (-1), 1) := by decide +kernel
theorem dX12_mean_22 : decode cX12_mean 22 = .ok (.ireturn, 1) := by decide +kernel
set_option maxHeartbeats 4000000 in
set_option maxRecDepth 100000 in
theorem B_X12_mean {G : zG} {X : zX} {kd : kD} {N0 : Nat} (C : zCt G X 17 0 0 RX12 cX12_mean 2) (hr : (zXh X).sig.returnType = (some .int)) : ∀ f : Nat,
    (∀ (S : aS) (v0 : Nat) (v1 : Int32) (res : Option Value × aS), zT0 kd N0 S → v0 < N0 → kd v0 = .inl 10 → F_X12_mean f 0 [.ref v0, .int v1] S = some res → zV G X (zQX G X (zPo G kd N0 res) 0 0) 2 [some (.ref (zB G + v0)), some (.int v1)] [] (cn G kd N0 S) 0 0 0) ∧
    (∀ (S : aS) (w0 : Int32) (res : Option Value × aS), zT0 kd N0 S → F_X12_mean f 1 [.int w0] S = some res → zV G X (zQX G X (zPo G kd N0 res) 0 0) 2 [none, none] [.int w0] (cn G kd N0 S) 22 0 0) := by
  intro f
  induction f with
  | zero => exact ⟨(fun _ _ _ _ _ _ _ h => by cases h), (fun _ _ _ _ h => by cases h)⟩
  | succ f ih =>
    obtain ⟨ih0, ih1⟩ := ih
    refine ⟨?_, ?_⟩
    · intro S v0 v1 res hT hpv0 hkv0 hF
      replace hF : F_X12_mean_0 f (F_X12_mean f) v0 v1 S = some res := hF
      unfold F_X12_mean_0 at hF
      refine z_iload_n C dX12_mean_0 rfl ?_
      refine z_iconst (v := 0) C dX12_mean_1 (by decide) ?_
      refine z_bipush (v := 10) C dX12_mean_2 (by decide) ?_
      obtain ⟨x1, S1, h1, hF⟩ := bI_some hF
      refine f_cS (st2 := [.int x1]) C dX12_mean_4 zyX12_isWithin zsX12_isWithin lkRX12_178 (K_X12_isWithin (l := zXl X) hT    h1) (by decide) rfl rfl (Nat.le_of_ble_eq_true rfl) rfl (fun hT1 => ?_)
      refine z_if_eq C 21 dX12_mean_7 (by decide) (fun c4 => ?_) (fun c4 => ?_)
      · replace hF := ip hF c4
        refine z_iconst (v := (-1)) C dX12_mean_21 (by decide) ?_
        refine z_mask [false, false] ?_ rfl
        exact ih1 S1 ((-1)) res hT1  hF
      · replace hF := im hF c4
        refine z_aload_n C dX12_mean_10 rfl ?_
        refine f_getr C dX12_mean_11 zfRX12_79 hpv0 hkv0 rfl ?_
        obtain ⟨hp5, hk5⟩ := hT1.1 v0 10 12 (.inl 6) hpv0 hkv0 rfl
        refine z_iload_n C dX12_mean_14 rfl ?_
        obtain ⟨x6, S6, h6, hF⟩ := bI_some hF
        refine f_cV (st2 := [.int x6]) C dX12_mean_15 zyX7_meanThousandths zvX7_meanThousandths lkRX12_272 (K_X7_meanThousandths (l := zXl X) hT1 hp5 hk5  h6) hp5 hk5 rfl (by decide) rfl rfl (Nat.le_of_ble_eq_true rfl) rfl (fun hT6 => ?_)
        refine z_goto C 22 dX12_mean_18 (by decide) ?_
        refine z_mask [false, false] ?_ rfl
        exact ih1 S6 x6 res hT6  hF
    · intro S w0 res hT  hF
      replace hF : F_X12_mean_1 f (F_X12_mean f) w0 S = some res := hF
      unfold F_X12_mean_1 at hF
      cases hF
      exact z_iret C hr dX12_mean_22 ⟨rfl, rfl, hT⟩
theorem K_X12_mean {G : zG} {l : Launch} {kd : kD} {N0 f : Nat} {S : aS} {v0 : Nat} {v1 : Int32} {res : Option Value × aS} (hT : zT0 kd N0 S) (hpv0 : v0 < N0) (hkv0 : kd v0 = .inl 10) (hF : F_X12_mean f 0 [.ref v0, .int v1] S = some res) : zM G l 17 0 0 yX12_mean cX12_mean 2 (some .int) [.ref (zB G + v0), .int v1] (cn G kd N0 S) (zPo G kd N0 res) := zM.of (by decide) rfl (Nat.le_of_ble_eq_true rfl) (fun X _ C hr _ => (B_X12_mean C hr f).1 S v0 v1 res hT hpv0 hkv0 hF)
def F_X13_path_0 (f : Nat) (rc : Nat → List Value → aS → aR) (v0 : Nat) (S : aS) : aR :=
  fS (sI S v0 0 0) fun S1 => bV (F_X13_cutAll f 0 [.ref v0] S1) fun S2 => fS (sI S2 v0 13 0) fun S3 => fS (sI S3 v0 17 0) fun S4 => fS (sI S4 v0 18 0) fun S5 => bV (F_X13_standsAsAlways f 0 [.ref v0, .int 70] S5) fun S6 => rc 1 [.ref v0] S6
def F_X13_path_1 (f : Nat) (rc : Nat → List Value → aS → aR) (v0 : Nat) (S : aS) : aR :=
  if (gI S v0 8) = (0 : Int32) then bX (gI S v0 7) 1002 fun q11 => if (gI S (gR S v0 4) q11) = (0 : Int32) then rc 2 [.ref v0] S else bV (F_X13_readLine f 0 [.ref v0] S) fun S14 => bV (F_X13_takeSign f 0 [.ref v0, .int 59] S14) fun S15 => rc 1 [.ref v0] S15 else rc 2 [.ref v0] S
def F_X13_path_2 (f : Nat) (rc : Nat → List Value → aS → aR) (v0 : Nat) (S : aS) : aR :=
  if (gI S v0 8) ≤ (0 : Int32) then rc 3 [.ref v0, .int 0] S else some (some (.int (gI S v0 8)), S)
def F_X13_path_3 (f : Nat) (rc : Nat → List Value → aS → aR) (v0 : Nat) (v1 : Int32) (S : aS) : aR :=
  if (70 : Int32) ≤ v1 then rc 4 [.ref v0, .int 0] S else bX ((70 : Int32) + v1) 140 fun q23 => bX v1 140 fun q24 => fS (sI S (gR S v0 10) q24 (gI S (gR S v0 10) q23)) fun S25 => rc 3 [.ref v0, .int (v1 + 1)] S25
def F_X13_path_4 (f : Nat) (rc : Nat → List Value → aS → aR) (v0 : Nat) (v1 : Int32) (S : aS) : aR :=
  if (gI S v0 13) ≤ v1 then rc 5 [.ref v0, .int 0] S else bX ((1100 : Int32) + v1) 2200 fun q32 => bX v1 2200 fun q33 => fS (sI S (gR S v0 11) q33 (gI S (gR S v0 11) q32)) fun S34 => bX ((1100 : Int32) + v1) 2200 fun q37 => bX v1 2200 fun q38 => fS (sI S34 (gR S34 v0 12) q38 (gI S34 (gR S34 v0 12) q37)) fun S39 => rc 4 [.ref v0, .int (v1 + 1)] S39
def F_X13_path_5 (f : Nat) (rc : Nat → List Value → aS → aR) (v0 : Nat) (v1 : Int32) (S : aS) : aR :=
  if (gI S v0 17) ≤ v1 then fS (sI S v0 16 (gI S v0 17)) fun S44 => bV (F_X13_begins f 0 [.ref v0] S44) fun S45 => some (some (.int 0), S45) else bX v1 6 fun q48 => bX v1 6 fun q49 => fS (sJ S (gR S v0 14) q49 (gJ S (gR S v0 15) q48)) fun S50 => rc 5 [.ref v0, .int (v1 + 1)] S50
def F_X13_path : Nat → Nat → List Value → aS → aR
  | 0, _, _, _ => none
  | f + 1, 0, vs, S => F_X13_path_0 f (F_X13_path f) (vR vs 0) S
  | f + 1, 1, vs, S => F_X13_path_1 f (F_X13_path f) (vR vs 0) S
  | f + 1, 2, vs, S => F_X13_path_2 f (F_X13_path f) (vR vs 0) S
  | f + 1, 3, vs, S => F_X13_path_3 f (F_X13_path f) (vR vs 0) (vI vs 1) S
  | f + 1, 4, vs, S => F_X13_path_4 f (F_X13_path f) (vR vs 0) (vI vs 1) S
  | f + 1, 5, vs, S => F_X13_path_5 f (F_X13_path f) (vR vs 0) (vI vs 1) S
  | _ + 1, _, _, _ => none
theorem dX13_path_0 : decode cX13_path 0 = .ok (.aload_n 0, 1) := by decide +kernel
theorem dX13_path_1 : decode cX13_path 1 = .ok (.iconst 0, 1) := by decide +kernel
theorem dX13_path_2 : decode cX13_path 2 = .ok (.putfield 1, 3) := by decide +kernel
theorem dX13_path_5 : decode cX13_path 5 = .ok (.aload_n 0, 1) := by decide +kernel
theorem dX13_path_6 : decode cX13_path 6 = .ok (.invokevirtual 208, 3) := by decide +kernel
theorem dX13_path_9 : decode cX13_path 9 = .ok (.aload_n 0, 1) := by decide +kernel
theorem dX13_path_10 : decode cX13_path 10 = .ok (.iconst 0, 1) := by decide +kernel
theorem dX13_path_11 : decode cX13_path 11 = .ok (.putfield 211, 3) := by decide +kernel
theorem dX13_path_14 : decode cX13_path 14 = .ok (.aload_n 0, 1) := by decide +kernel
theorem dX13_path_15 : decode cX13_path 15 = .ok (.iconst 0, 1) := by decide +kernel
theorem dX13_path_16 : decode cX13_path 16 = .ok (.putfield 202, 3) := by decide +kernel
theorem dX13_path_19 : decode cX13_path 19 = .ok (.aload_n 0, 1) := by decide +kernel
theorem dX13_path_20 : decode cX13_path 20 = .ok (.iconst 0, 1) := by decide +kernel
theorem dX13_path_21 : decode cX13_path 21 = .ok (.putfield 214, 3) := by decide +kernel
theorem dX13_path_24 : decode cX13_path 24 = .ok (.aload_n 0, 1) := by decide +kernel
theorem dX13_path_25 : decode cX13_path 25 = .ok (.bipush 70, 2) := by decide +kernel
theorem dX13_path_27 : decode cX13_path 27 = .ok (.invokevirtual 144, 3) := by decide +kernel
theorem dX13_path_30 : decode cX13_path 30 = .ok (.aload_n 0, 1) := by decide +kernel
theorem dX13_path_31 : decode cX13_path 31 = .ok (.getfield 177, 3) := by decide +kernel
theorem dX13_path_34 : decode cX13_path 34 = .ok (.ifCond .ne 28, 3) := by decide +kernel
theorem dX13_path_37 : decode cX13_path 37 = .ok (.aload_n 0, 1) := by decide +kernel
theorem dX13_path_38 : decode cX13_path 38 = .ok (.getfield 24, 3) := by decide +kernel
theorem dX13_path_41 : decode cX13_path 41 = .ok (.aload_n 0, 1) := by decide +kernel
theorem dX13_path_42 : decode cX13_path 42 = .ok (.getfield 174, 3) := by decide +kernel
theorem dX13_path_45 : decode cX13_path 45 = .ok (.iaload, 1) := by decide +kernel
theorem dX13_path_46 : decode cX13_path 46 = .ok (.ifCond .eq 16, 3) := by decide +kernel
theorem dX13_path_49 : decode cX13_path 49 = .ok (.aload_n 0, 1) := by decide +kernel
theorem dX13_path_50 : decode cX13_path 50 = .ok (.invokevirtual 217, 3) := by decide +kernel
theorem dX13_path_53 : decode cX13_path 53 = .ok (.aload_n 0, 1) := by decide +kernel
theorem dX13_path_54 : decode cX13_path 54 = .ok (.bipush 59, 2) := by decide +kernel
theorem dX13_path_56 : decode cX13_path 56 = .ok (.invokevirtual 220, 3) := by decide +kernel
theorem dX13_path_59 : decode cX13_path 59 = .ok (.goto (-29), 3) := by decide +kernel
theorem dX13_path_62 : decode cX13_path 62 = .ok (.aload_n 0, 1) := by decide +kernel
theorem dX13_path_63 : decode cX13_path 63 = .ok (.getfield 177, 3) := by decide +kernel
theorem dX13_path_66 : decode cX13_path 66 = .ok (.ifCond .le 8, 3) := by decide +kernel
theorem dX13_path_69 : decode cX13_path 69 = .ok (.aload_n 0, 1) := by decide +kernel
theorem dX13_path_70 : decode cX13_path 70 = .ok (.getfield 177, 3) := by decide +kernel
theorem dX13_path_73 : decode cX13_path 73 = .ok (.ireturn, 1) := by decide +kernel
theorem dX13_path_74 : decode cX13_path 74 = .ok (.iconst 0, 1) := by decide +kernel
theorem dX13_path_75 : decode cX13_path 75 = .ok (.istore_n 1, 1) := by decide +kernel
theorem dX13_path_76 : decode cX13_path 76 = .ok (.iload_n 1, 1) := by decide +kernel
theorem dX13_path_77 : decode cX13_path 77 = .ok (.bipush 70, 2) := by decide +kernel
theorem dX13_path_79 : decode cX13_path 79 = .ok (.if_icmp .ge 24, 3) := by decide +kernel
theorem dX13_path_82 : decode cX13_path 82 = .ok (.aload_n 0, 1) := by decide +kernel
theorem dX13_path_83 : decode cX13_path 83 = .ok (.getfield 95, 3) := by decide +kernel
theorem dX13_path_86 : decode cX13_path 86 = .ok (.iload_n 1, 1) := by decide +kernel
theorem dX13_path_87 : decode cX13_path 87 = .ok (.aload_n 0, 1) := by decide +kernel
theorem dX13_path_88 : decode cX13_path 88 = .ok (.getfield 95, 3) := by decide +kernel
theorem dX13_path_91 : decode cX13_path 91 = .ok (.bipush 70, 2) := by decide +kernel
theorem dX13_path_93 : decode cX13_path 93 = .ok (.iload_n 1, 1) := by decide +kernel
theorem dX13_path_94 : decode cX13_path 94 = .ok (.iadd, 1) := by decide +kernel
theorem dX13_path_95 : decode cX13_path 95 = .ok (.iaload, 1) := by decide +kernel
theorem dX13_path_96 : decode cX13_path 96 = .ok (.iastore, 1) := by decide +kernel
theorem dX13_path_97 : decode cX13_path 97 = .ok (.iinc 1 1, 3) := by decide +kernel
theorem dX13_path_100 : decode cX13_path 100 = .ok (.goto (-24), 3) := by decide +kernel
theorem dX13_path_103 : decode cX13_path 103 = .ok (.iconst 0, 1) := by decide +kernel
theorem dX13_path_104 : decode cX13_path 104 = .ok (.istore_n 1, 1) := by decide +kernel
theorem dX13_path_105 : decode cX13_path 105 = .ok (.iload_n 1, 1) := by decide +kernel
theorem dX13_path_106 : decode cX13_path 106 = .ok (.aload_n 0, 1) := by decide +kernel
theorem dX13_path_107 : decode cX13_path 107 = .ok (.getfield 211, 3) := by decide +kernel
theorem dX13_path_110 : decode cX13_path 110 = .ok (.if_icmp .ge 41, 3) := by decide +kernel
theorem dX13_path_113 : decode cX13_path 113 = .ok (.aload_n 0, 1) := by decide +kernel
theorem dX13_path_114 : decode cX13_path 114 = .ok (.getfield 98, 3) := by decide +kernel
theorem dX13_path_117 : decode cX13_path 117 = .ok (.iload_n 1, 1) := by decide +kernel
theorem dX13_path_118 : decode cX13_path 118 = .ok (.aload_n 0, 1) := by decide +kernel
theorem dX13_path_119 : decode cX13_path 119 = .ok (.getfield 98, 3) := by decide +kernel
theorem dX13_path_122 : decode cX13_path 122 = .ok (.sipush 1100, 3) := by decide +kernel
theorem dX13_path_125 : decode cX13_path 125 = .ok (.iload_n 1, 1) := by decide +kernel
theorem dX13_path_126 : decode cX13_path 126 = .ok (.iadd, 1) := by decide +kernel
theorem dX13_path_127 : decode cX13_path 127 = .ok (.iaload, 1) := by decide +kernel
theorem dX13_path_128 : decode cX13_path 128 = .ok (.iastore, 1) := by decide +kernel
theorem dX13_path_129 : decode cX13_path 129 = .ok (.aload_n 0, 1) := by decide +kernel
theorem dX13_path_130 : decode cX13_path 130 = .ok (.getfield 101, 3) := by decide +kernel
theorem dX13_path_133 : decode cX13_path 133 = .ok (.iload_n 1, 1) := by decide +kernel
theorem dX13_path_134 : decode cX13_path 134 = .ok (.aload_n 0, 1) := by decide +kernel
theorem dX13_path_135 : decode cX13_path 135 = .ok (.getfield 101, 3) := by decide +kernel
theorem dX13_path_138 : decode cX13_path 138 = .ok (.sipush 1100, 3) := by decide +kernel
theorem dX13_path_141 : decode cX13_path 141 = .ok (.iload_n 1, 1) := by decide +kernel
theorem dX13_path_142 : decode cX13_path 142 = .ok (.iadd, 1) := by decide +kernel
theorem dX13_path_143 : decode cX13_path 143 = .ok (.iaload, 1) := by decide +kernel
theorem dX13_path_144 : decode cX13_path 144 = .ok (.iastore, 1) := by decide +kernel
theorem dX13_path_145 : decode cX13_path 145 = .ok (.iinc 1 1, 3) := by decide +kernel
theorem dX13_path_148 : decode cX13_path 148 = .ok (.goto (-43), 3) := by decide +kernel
theorem dX13_path_151 : decode cX13_path 151 = .ok (.iconst 0, 1) := by decide +kernel
theorem dX13_path_152 : decode cX13_path 152 = .ok (.istore_n 1, 1) := by decide +kernel
theorem dX13_path_153 : decode cX13_path 153 = .ok (.iload_n 1, 1) := by decide +kernel
theorem dX13_path_154 : decode cX13_path 154 = .ok (.aload_n 0, 1) := by decide +kernel
theorem dX13_path_155 : decode cX13_path 155 = .ok (.getfield 202, 3) := by decide +kernel
theorem dX13_path_158 : decode cX13_path 158 = .ok (.if_icmp .ge 21, 3) := by decide +kernel
theorem dX13_path_161 : decode cX13_path 161 = .ok (.aload_n 0, 1) := by decide +kernel
theorem dX13_path_162 : decode cX13_path 162 = .ok (.getfield 104, 3) := by decide +kernel
theorem dX13_path_165 : decode cX13_path 165 = .ok (.iload_n 1, 1) := by decide +kernel
theorem dX13_path_166 : decode cX13_path 166 = .ok (.aload_n 0, 1) := by decide +kernel
theorem dX13_path_167 : decode cX13_path 167 = .ok (.getfield 107, 3) := by decide +kernel
theorem dX13_path_170 : decode cX13_path 170 = .ok (.iload_n 1, 1) := by decide +kernel
theorem dX13_path_171 : decode cX13_path 171 = .ok (.laload, 1) := by decide +kernel
theorem dX13_path_172 : decode cX13_path 172 = .ok (.lastore, 1) := by decide +kernel
theorem dX13_path_173 : decode cX13_path 173 = .ok (.iinc 1 1, 3) := by decide +kernel
theorem dX13_path_176 : decode cX13_path 176 = .ok (.goto (-23), 3) := by decide +kernel
theorem dX13_path_179 : decode cX13_path 179 = .ok (.aload_n 0, 1) := by decide +kernel
theorem dX13_path_180 : decode cX13_path 180 = .ok (.aload_n 0, 1) := by decide +kernel
theorem dX13_path_181 : decode cX13_path 181 = .ok (.getfield 202, 3) := by decide +kernel
theorem dX13_path_184 : decode cX13_path 184 = .ok (.putfield 205, 3) := by decide +kernel
theorem dX13_path_187 : decode cX13_path 187 = .ok (.aload_n 0, 1) := by decide +kernel
theorem dX13_path_188 : decode cX13_path 188 = .ok (.invokevirtual 148, 3) := by decide +kernel
theorem dX13_path_191 : decode cX13_path 191 = .ok (.iconst 0, 1) := by decide +kernel
theorem dX13_path_192 : decode cX13_path 192 = .ok (.ireturn, 1) := by decide +kernel
set_option maxHeartbeats 4000000 in
set_option maxRecDepth 100000 in
theorem B_X13_path {G : zG} {X : zX} {kd : kD} {N0 : Nat} (C : zCt G X 45 0 0 RX13 cX13_path 2) (hr : (zXh X).sig.returnType = (some .int)) : ∀ f : Nat,
    (∀ (S : aS) (v0 : Nat) (res : Option Value × aS), zT0 kd N0 S → v0 < N0 → kd v0 = .inl 11 → F_X13_path f 0 [.ref v0] S = some res → zV G X (zQX G X (zPo G kd N0 res) 0 0) 2 [some (.ref (zB G + v0)), none] [] (cn G kd N0 S) 0 0 0) ∧
    (∀ (S : aS) (v0 : Nat) (res : Option Value × aS), zT0 kd N0 S → v0 < N0 → kd v0 = .inl 11 → F_X13_path f 1 [.ref v0] S = some res → zV G X (zQX G X (zPo G kd N0 res) 0 0) 2 [some (.ref (zB G + v0)), none] [] (cn G kd N0 S) 30 0 0) ∧
    (∀ (S : aS) (v0 : Nat) (res : Option Value × aS), zT0 kd N0 S → v0 < N0 → kd v0 = .inl 11 → F_X13_path f 2 [.ref v0] S = some res → zV G X (zQX G X (zPo G kd N0 res) 0 0) 2 [some (.ref (zB G + v0)), none] [] (cn G kd N0 S) 62 0 0) ∧
    (∀ (S : aS) (v0 : Nat) (v1 : Int32) (res : Option Value × aS), zT0 kd N0 S → v0 < N0 → kd v0 = .inl 11 → F_X13_path f 3 [.ref v0, .int v1] S = some res → zV G X (zQX G X (zPo G kd N0 res) 0 0) 2 [some (.ref (zB G + v0)), some (.int v1)] [] (cn G kd N0 S) 76 0 0) ∧
    (∀ (S : aS) (v0 : Nat) (v1 : Int32) (res : Option Value × aS), zT0 kd N0 S → v0 < N0 → kd v0 = .inl 11 → F_X13_path f 4 [.ref v0, .int v1] S = some res → zV G X (zQX G X (zPo G kd N0 res) 0 0) 2 [some (.ref (zB G + v0)), some (.int v1)] [] (cn G kd N0 S) 105 0 0) ∧
    (∀ (S : aS) (v0 : Nat) (v1 : Int32) (res : Option Value × aS), zT0 kd N0 S → v0 < N0 → kd v0 = .inl 11 → F_X13_path f 5 [.ref v0, .int v1] S = some res → zV G X (zQX G X (zPo G kd N0 res) 0 0) 2 [some (.ref (zB G + v0)), some (.int v1)] [] (cn G kd N0 S) 153 0 0) := by
  intro f
  induction f with
  | zero => exact ⟨(fun _ _ _ _ _ _ h => by cases h), (fun _ _ _ _ _ _ h => by cases h), (fun _ _ _ _ _ _ h => by cases h), (fun _ _ _ _ _ _ _ h => by cases h), (fun _ _ _ _ _ _ _ h => by cases h), (fun _ _ _ _ _ _ _ h => by cases h)⟩
  | succ f ih =>
    obtain ⟨ih0, ih1, ih2, ih3, ih4, ih5⟩ := ih
    refine ⟨?_, ?_, ?_, ?_, ?_, ?_⟩
    · intro S v0 res hT hpv0 hkv0 hF
      replace hF : F_X13_path_0 f (F_X13_path f) v0 S = some res := hF
      unfold F_X13_path_0 at hF
      refine z_aload_n C dX13_path_0 rfl ?_
      refine z_iconst (v := 0) C dX13_path_1 (by decide) ?_
      refine f_puti C dX13_path_2 zfRX13_1 fw11_0 hpv0 hkv0 rfl rfl rfl ?_
      have hT1 : zT0 kd N0 (sI S v0 0 0) := zT0_sI hT
      replace hF := fS_e hF
      generalize sI S v0 0 0 = S1 at hF hT1 ⊢
      refine z_aload_n C dX13_path_5 rfl ?_
      obtain ⟨S2, h2, hF⟩ := bV_some hF
      refine f_cV (st2 := []) C dX13_path_6 zyX13_cutAll zvX13_cutAll lkRX13_208 (K_X13_cutAll (l := zXl X) hT1 hpv0 hkv0 h2) hpv0 hkv0 rfl (by decide) rfl rfl (Nat.le_of_ble_eq_true rfl) rfl (fun hT2 => ?_)
      refine z_aload_n C dX13_path_9 rfl ?_
      refine z_iconst (v := 0) C dX13_path_10 (by decide) ?_
      refine f_puti C dX13_path_11 zfRX13_211 fw11_13 hpv0 hkv0 rfl rfl rfl ?_
      have hT3 : zT0 kd N0 (sI S2 v0 13 0) := zT0_sI hT2
      replace hF := fS_e hF
      generalize sI S2 v0 13 0 = S3 at hF hT3 ⊢
      refine z_aload_n C dX13_path_14 rfl ?_
      refine z_iconst (v := 0) C dX13_path_15 (by decide) ?_
      refine f_puti C dX13_path_16 zfRX13_202 fw11_17 hpv0 hkv0 rfl rfl rfl ?_
      have hT4 : zT0 kd N0 (sI S3 v0 17 0) := zT0_sI hT3
      replace hF := fS_e hF
      generalize sI S3 v0 17 0 = S4 at hF hT4 ⊢
      refine z_aload_n C dX13_path_19 rfl ?_
      refine z_iconst (v := 0) C dX13_path_20 (by decide) ?_
      refine f_puti C dX13_path_21 zfRX13_214 fw11_18 hpv0 hkv0 rfl rfl rfl ?_
      have hT5 : zT0 kd N0 (sI S4 v0 18 0) := zT0_sI hT4
      replace hF := fS_e hF
      generalize sI S4 v0 18 0 = S5 at hF hT5 ⊢
      refine z_aload_n C dX13_path_24 rfl ?_
      refine z_bipush (v := 70) C dX13_path_25 (by decide) ?_
      obtain ⟨S6, h6, hF⟩ := bV_some hF
      refine f_cV (st2 := []) C dX13_path_27 zyX13_standsAsAlways zvX13_standsAsAlways lkRX13_144 (K_X13_standsAsAlways (l := zXl X) hT5 hpv0 hkv0  h6) hpv0 hkv0 rfl (by decide) rfl rfl (Nat.le_of_ble_eq_true rfl) rfl (fun hT6 => ?_)
      exact ih1 S6 v0 res hT6 hpv0 hkv0 hF
    · intro S v0 res hT hpv0 hkv0 hF
      replace hF : F_X13_path_1 f (F_X13_path f) v0 S = some res := hF
      unfold F_X13_path_1 at hF
      refine z_aload_n C dX13_path_30 rfl ?_
      refine f_geti C dX13_path_31 zfRX13_177 hpv0 hkv0 rfl ?_
      refine z_if_ne C 62 dX13_path_34 (by decide) (fun c9 => ?_) (fun c9 => ?_)
      · replace hF := im hF c9
        exact ih2 S v0 res hT hpv0 hkv0 hF
      · replace hF := ip hF c9
        refine z_aload_n C dX13_path_37 rfl ?_
        refine f_getr C dX13_path_38 zfRX13_24 hpv0 hkv0 rfl ?_
        obtain ⟨hp10, hk10⟩ := hT.1 v0 11 4 (.inr (0, 1002)) hpv0 hkv0 rfl
        refine z_aload_n C dX13_path_41 rfl ?_
        refine f_geti C dX13_path_42 zfRX13_174 hpv0 hkv0 rfl ?_
        obtain ⟨hi11, hF⟩ := bX_some hF
        obtain ⟨q11, eq11⟩ : ∃ q : Nat, q = Int32.toNatClampNeg (gI S v0 7) := ⟨_, rfl⟩
        rw [← eq11] at hF
        refine f_iald C dX13_path_45 hp10 hk10 hi11 ?_
        rw [← eq11]
        refine z_if_eq C 62 dX13_path_46 (by decide) (fun c13 => ?_) (fun c13 => ?_)
        · replace hF := ip hF c13
          exact ih2 S v0 res hT hpv0 hkv0 hF
        · replace hF := im hF c13
          refine z_aload_n C dX13_path_49 rfl ?_
          obtain ⟨S14, h14, hF⟩ := bV_some hF
          refine f_cV (st2 := []) C dX13_path_50 zyX13_readLine zvX13_readLine lkRX13_217 (K_X13_readLine (l := zXl X) hT hpv0 hkv0 h14) hpv0 hkv0 rfl (by decide) rfl rfl (Nat.le_of_ble_eq_true rfl) rfl (fun hT14 => ?_)
          refine z_aload_n C dX13_path_53 rfl ?_
          refine z_bipush (v := 59) C dX13_path_54 (by decide) ?_
          obtain ⟨S15, h15, hF⟩ := bV_some hF
          refine f_cV (st2 := []) C dX13_path_56 zyX13_takeSign zvX13_takeSign lkRX13_220 (K_X13_takeSign (l := zXl X) hT14 hpv0 hkv0  h15) hpv0 hkv0 rfl (by decide) rfl rfl (Nat.le_of_ble_eq_true rfl) rfl (fun hT15 => ?_)
          refine z_goto C 30 dX13_path_59 (by decide) ?_
          exact ih1 S15 v0 res hT15 hpv0 hkv0 hF
    · intro S v0 res hT hpv0 hkv0 hF
      replace hF : F_X13_path_2 f (F_X13_path f) v0 S = some res := hF
      unfold F_X13_path_2 at hF
      refine z_aload_n C dX13_path_62 rfl ?_
      refine f_geti C dX13_path_63 zfRX13_177 hpv0 hkv0 rfl ?_
      refine z_if_le C 74 dX13_path_66 (by decide) (fun c16 => ?_) (fun c16 => ?_)
      · replace hF := ip hF c16
        refine z_iconst (v := 0) C dX13_path_74 (by decide) ?_
        refine z_istore_n (lv2 := [some (.ref (zB G + v0)), some (.int 0)]) C dX13_path_75 (by decide) rfl ?_
        exact ih3 S v0 0 res hT hpv0 hkv0  hF
      · replace hF := im hF c16
        refine z_aload_n C dX13_path_69 rfl ?_
        refine f_geti C dX13_path_70 zfRX13_177 hpv0 hkv0 rfl ?_
        cases hF
        exact z_iret C hr dX13_path_73 ⟨rfl, rfl, hT⟩
    · intro S v0 v1 res hT hpv0 hkv0 hF
      replace hF : F_X13_path_3 f (F_X13_path f) v0 v1 S = some res := hF
      unfold F_X13_path_3 at hF
      refine z_iload_n C dX13_path_76 rfl ?_
      refine z_bipush (v := 70) C dX13_path_77 (by decide) ?_
      refine z_icmp_ge C 103 dX13_path_79 (by decide) (fun c20 => ?_) (fun c20 => ?_)
      · replace hF := ip hF c20
        refine z_iconst (v := 0) C dX13_path_103 (by decide) ?_
        refine z_istore_n (lv2 := [some (.ref (zB G + v0)), some (.int 0)]) C dX13_path_104 (by decide) rfl ?_
        exact ih4 S v0 0 res hT hpv0 hkv0  hF
      · replace hF := im hF c20
        refine z_aload_n C dX13_path_82 rfl ?_
        refine f_getr C dX13_path_83 zfRX13_95 hpv0 hkv0 rfl ?_
        obtain ⟨hp21, hk21⟩ := hT.1 v0 11 10 (.inr (0, 140)) hpv0 hkv0 rfl
        refine z_iload_n C dX13_path_86 rfl ?_
        refine z_aload_n C dX13_path_87 rfl ?_
        refine f_getr C dX13_path_88 zfRX13_95 hpv0 hkv0 rfl ?_
        obtain ⟨hp22, hk22⟩ := hT.1 v0 11 10 (.inr (0, 140)) hpv0 hkv0 rfl
        refine z_bipush (v := 70) C dX13_path_91 (by decide) ?_
        refine z_iload_n C dX13_path_93 rfl ?_
        refine z_iadd C dX13_path_94 ?_
        obtain ⟨hi23, hF⟩ := bX_some hF
        obtain ⟨q23, eq23⟩ : ∃ q : Nat, q = Int32.toNatClampNeg ((70 : Int32) + v1) := ⟨_, rfl⟩
        rw [← eq23] at hF
        refine f_iald C dX13_path_95 hp22 hk22 hi23 ?_
        rw [← eq23]
        obtain ⟨hi24, hF⟩ := bX_some hF
        obtain ⟨q24, eq24⟩ : ∃ q : Nat, q = Int32.toNatClampNeg v1 := ⟨_, rfl⟩
        rw [← eq24] at hF
        refine f_iast C dX13_path_96 hp21 hk21 hi24 ?_
        rw [← eq24]
        have hT25 : zT0 kd N0 (sI S (gR S v0 10) q24 (gI S (gR S v0 10) q23)) := zT0_sI hT
        replace hF := fS_e hF
        generalize sI S (gR S v0 10) q24 (gI S (gR S v0 10) q23) = S25 at hF hT25 ⊢
        refine z_iinc (v := v1 + 1) (lv2 := [some (.ref (zB G + v0)), some (.int (v1 + 1))]) C dX13_path_97 rfl (by rw [show Int32.ofInt 1 = (1 : Int32) from by decide]) rfl ?_
        refine z_goto C 76 dX13_path_100 (by decide) ?_
        exact ih3 S25 v0 (v1 + 1) res hT25 hpv0 hkv0  hF
    · intro S v0 v1 res hT hpv0 hkv0 hF
      replace hF : F_X13_path_4 f (F_X13_path f) v0 v1 S = some res := hF
      unfold F_X13_path_4 at hF
      refine z_iload_n C dX13_path_105 rfl ?_
      refine z_aload_n C dX13_path_106 rfl ?_
      refine f_geti C dX13_path_107 zfRX13_211 hpv0 hkv0 rfl ?_
      refine z_icmp_ge C 151 dX13_path_110 (by decide) (fun c29 => ?_) (fun c29 => ?_)
      · replace hF := ip hF c29
        refine z_iconst (v := 0) C dX13_path_151 (by decide) ?_
        refine z_istore_n (lv2 := [some (.ref (zB G + v0)), some (.int 0)]) C dX13_path_152 (by decide) rfl ?_
        exact ih5 S v0 0 res hT hpv0 hkv0  hF
      · replace hF := im hF c29
        refine z_aload_n C dX13_path_113 rfl ?_
        refine f_getr C dX13_path_114 zfRX13_98 hpv0 hkv0 rfl ?_
        obtain ⟨hp30, hk30⟩ := hT.1 v0 11 11 (.inr (0, 2200)) hpv0 hkv0 rfl
        refine z_iload_n C dX13_path_117 rfl ?_
        refine z_aload_n C dX13_path_118 rfl ?_
        refine f_getr C dX13_path_119 zfRX13_98 hpv0 hkv0 rfl ?_
        obtain ⟨hp31, hk31⟩ := hT.1 v0 11 11 (.inr (0, 2200)) hpv0 hkv0 rfl
        refine z_sipush (v := 1100) C dX13_path_122 (by decide) ?_
        refine z_iload_n C dX13_path_125 rfl ?_
        refine z_iadd C dX13_path_126 ?_
        obtain ⟨hi32, hF⟩ := bX_some hF
        obtain ⟨q32, eq32⟩ : ∃ q : Nat, q = Int32.toNatClampNeg ((1100 : Int32) + v1) := ⟨_, rfl⟩
        rw [← eq32] at hF
        refine f_iald C dX13_path_127 hp31 hk31 hi32 ?_
        rw [← eq32]
        obtain ⟨hi33, hF⟩ := bX_some hF
        obtain ⟨q33, eq33⟩ : ∃ q : Nat, q = Int32.toNatClampNeg v1 := ⟨_, rfl⟩
        rw [← eq33] at hF
        refine f_iast C dX13_path_128 hp30 hk30 hi33 ?_
        rw [← eq33]
        have hT34 : zT0 kd N0 (sI S (gR S v0 11) q33 (gI S (gR S v0 11) q32)) := zT0_sI hT
        replace hF := fS_e hF
        generalize sI S (gR S v0 11) q33 (gI S (gR S v0 11) q32) = S34 at hF hT34 ⊢
        refine z_aload_n C dX13_path_129 rfl ?_
        refine f_getr C dX13_path_130 zfRX13_101 hpv0 hkv0 rfl ?_
        obtain ⟨hp35, hk35⟩ := hT34.1 v0 11 12 (.inr (0, 2200)) hpv0 hkv0 rfl
        refine z_iload_n C dX13_path_133 rfl ?_
        refine z_aload_n C dX13_path_134 rfl ?_
        refine f_getr C dX13_path_135 zfRX13_101 hpv0 hkv0 rfl ?_
        obtain ⟨hp36, hk36⟩ := hT34.1 v0 11 12 (.inr (0, 2200)) hpv0 hkv0 rfl
        refine z_sipush (v := 1100) C dX13_path_138 (by decide) ?_
        refine z_iload_n C dX13_path_141 rfl ?_
        refine z_iadd C dX13_path_142 ?_
        obtain ⟨hi37, hF⟩ := bX_some hF
        obtain ⟨q37, eq37⟩ : ∃ q : Nat, q = Int32.toNatClampNeg ((1100 : Int32) + v1) := ⟨_, rfl⟩
        rw [← eq37] at hF
        refine f_iald C dX13_path_143 hp36 hk36 hi37 ?_
        rw [← eq37]
        obtain ⟨hi38, hF⟩ := bX_some hF
        obtain ⟨q38, eq38⟩ : ∃ q : Nat, q = Int32.toNatClampNeg v1 := ⟨_, rfl⟩
        rw [← eq38] at hF
        refine f_iast C dX13_path_144 hp35 hk35 hi38 ?_
        rw [← eq38]
        have hT39 : zT0 kd N0 (sI S34 (gR S34 v0 12) q38 (gI S34 (gR S34 v0 12) q37)) := zT0_sI hT34
        replace hF := fS_e hF
        generalize sI S34 (gR S34 v0 12) q38 (gI S34 (gR S34 v0 12) q37) = S39 at hF hT39 ⊢
        refine z_iinc (v := v1 + 1) (lv2 := [some (.ref (zB G + v0)), some (.int (v1 + 1))]) C dX13_path_145 rfl (by rw [show Int32.ofInt 1 = (1 : Int32) from by decide]) rfl ?_
        refine z_goto C 105 dX13_path_148 (by decide) ?_
        exact ih4 S39 v0 (v1 + 1) res hT39 hpv0 hkv0  hF
    · intro S v0 v1 res hT hpv0 hkv0 hF
      replace hF : F_X13_path_5 f (F_X13_path f) v0 v1 S = some res := hF
      unfold F_X13_path_5 at hF
      refine z_iload_n C dX13_path_153 rfl ?_
      refine z_aload_n C dX13_path_154 rfl ?_
      refine f_geti C dX13_path_155 zfRX13_202 hpv0 hkv0 rfl ?_
      refine z_icmp_ge C 179 dX13_path_158 (by decide) (fun c43 => ?_) (fun c43 => ?_)
      · replace hF := ip hF c43
        refine z_aload_n C dX13_path_179 rfl ?_
        refine z_aload_n C dX13_path_180 rfl ?_
        refine f_geti C dX13_path_181 zfRX13_202 hpv0 hkv0 rfl ?_
        refine f_puti C dX13_path_184 zfRX13_205 fw11_16 hpv0 hkv0 rfl rfl rfl ?_
        have hT44 : zT0 kd N0 (sI S v0 16 (gI S v0 17)) := zT0_sI hT
        replace hF := fS_e hF
        generalize sI S v0 16 (gI S v0 17) = S44 at hF hT44 ⊢
        refine z_aload_n C dX13_path_187 rfl ?_
        obtain ⟨S45, h45, hF⟩ := bV_some hF
        refine f_cV (st2 := []) C dX13_path_188 zyX13_begins zvX13_begins lkRX13_148 (K_X13_begins (l := zXl X) hT44 hpv0 hkv0 h45) hpv0 hkv0 rfl (by decide) rfl rfl (Nat.le_of_ble_eq_true rfl) rfl (fun hT45 => ?_)
        refine z_iconst (v := 0) C dX13_path_191 (by decide) ?_
        cases hF
        exact z_iret C hr dX13_path_192 ⟨rfl, rfl, hT45⟩
      · replace hF := im hF c43
        refine z_aload_n C dX13_path_161 rfl ?_
        refine f_getr C dX13_path_162 zfRX13_104 hpv0 hkv0 rfl ?_
        obtain ⟨hp46, hk46⟩ := hT.1 v0 11 14 (.inr (1, 6)) hpv0 hkv0 rfl
        refine z_iload_n C dX13_path_165 rfl ?_
        refine z_aload_n C dX13_path_166 rfl ?_
        refine f_getr C dX13_path_167 zfRX13_107 hpv0 hkv0 rfl ?_
        obtain ⟨hp47, hk47⟩ := hT.1 v0 11 15 (.inr (1, 6)) hpv0 hkv0 rfl
        refine z_iload_n C dX13_path_170 rfl ?_
        obtain ⟨hi48, hF⟩ := bX_some hF
        obtain ⟨q48, eq48⟩ : ∃ q : Nat, q = Int32.toNatClampNeg v1 := ⟨_, rfl⟩
        rw [← eq48] at hF
        refine f_lald C dX13_path_171 hp47 hk47 hi48 ?_
        rw [← eq48]
        obtain ⟨hi49, hF⟩ := bX_some hF
        obtain ⟨q49, eq49⟩ : ∃ q : Nat, q = Int32.toNatClampNeg v1 := ⟨_, rfl⟩
        rw [← eq49] at hF
        refine f_last C dX13_path_172 hp46 hk46 hi49 ?_
        rw [← eq49]
        have hT50 : zT0 kd N0 (sJ S (gR S v0 14) q49 (gJ S (gR S v0 15) q48)) := zT0_sJ hT
        replace hF := fS_e hF
        generalize sJ S (gR S v0 14) q49 (gJ S (gR S v0 15) q48) = S50 at hF hT50 ⊢
        refine z_iinc (v := v1 + 1) (lv2 := [some (.ref (zB G + v0)), some (.int (v1 + 1))]) C dX13_path_173 rfl (by rw [show Int32.ofInt 1 = (1 : Int32) from by decide]) rfl ?_
        refine z_goto C 153 dX13_path_176 (by decide) ?_
        exact ih5 S50 v0 (v1 + 1) res hT50 hpv0 hkv0  hF
theorem K_X13_path {G : zG} {l : Launch} {kd : kD} {N0 f : Nat} {S : aS} {v0 : Nat} {res : Option Value × aS} (hT : zT0 kd N0 S) (hpv0 : v0 < N0) (hkv0 : kd v0 = .inl 11) (hF : F_X13_path f 0 [.ref v0] S = some res) : zM G l 45 0 0 yX13_path cX13_path 2 (some .int) [.ref (zB G + v0)] (cn G kd N0 S) (zPo G kd N0 res) := zM.of (by decide) rfl (Nat.le_of_ble_eq_true rfl) (fun X _ C hr _ => (B_X13_path C hr f).1 S v0 res hT hpv0 hkv0 hF)
def F_gRnd_0 (f : Nat) (rc : Nat → Nat → List Value → aS → aR) (e : Nat) (v0 : Nat) (v1 : Int32) (v2 : Int32) (v3 : Int32) (v4 : Int32) (S : aS) : aR :=
  dE e fun e1 => if v2 ≤ v1 then rc e 1 [.ref v0, .int v1, .int v4] S else if (v1 + (1 : Int32)) < (7 : Int32) then bV (F_X7_passRound f 0 [.ref v0, .int v1, .int 0] S) fun S4 => bV (rc e1 0 [.ref v0, .int (v1 + (1 : Int32)), .int v2, .int v3, .int v4] S4) fun S5 => if v3 ≤ (0 : Int32) then rc e 2 [] S5 else bV (F_X7_passRound f 0 [.ref v0, .int v1, .int 1] S5) fun S8 => bV (rc e1 0 [.ref v0, .int (v1 + (1 : Int32)), .int v2, .int (v3 - (1 : Int32)), .int (v4 ||| ((1 : Int32) <<< (v1 &&& 31)))] S8) fun S9 => rc e 2 [] S9 else rc e 1 [.ref v0, .int v1, .int v4] S
def F_gRnd_1 (f : Nat) (rc : Nat → Nat → List Value → aS → aR) (e : Nat) (v0 : Nat) (v1 : Int32) (v2 : Int32) (S : aS) : aR :=
  bX v1 7 fun q11 => bI (F_X4_total f 0 [.ref (gR S (gR S v0 3) q11)] S) fun x12 S12 => bV (F_X7_offerSet f 0 [.ref v0, .int x12, .int v2] S12) fun S13 => some (none, S13)
def F_gRnd_2 (f : Nat) (rc : Nat → Nat → List Value → aS → aR) (e : Nat)  (S : aS) : aR :=
  some (none, S)
def F_gRnd : Nat → Nat → Nat → List Value → aS → aR
  | 0, _, _, _, _ => none
  | f + 1, e, 0, vs, S => F_gRnd_0 f (F_gRnd f) e (vR vs 0) (vI vs 1) (vI vs 2) (vI vs 3) (vI vs 4) S
  | f + 1, e, 1, vs, S => F_gRnd_1 f (F_gRnd f) e (vR vs 0) (vI vs 1) (vI vs 2) S
  | f + 1, e, 2, vs, S => F_gRnd_2 f (F_gRnd f) e  S
  | _ + 1, _, _, _, _ => none
theorem dX7_tryRounds_0 : decode cX7_tryRounds 0 = .ok (.iload_n 1, 1) := by decide +kernel
theorem dX7_tryRounds_1 : decode cX7_tryRounds 1 = .ok (.iload_n 2, 1) := by decide +kernel
theorem dX7_tryRounds_2 : decode cX7_tryRounds 2 = .ok (.if_icmp .ge 14, 3) := by decide +kernel
theorem dX7_tryRounds_5 : decode cX7_tryRounds 5 = .ok (.iload_n 1, 1) := by decide +kernel
theorem dX7_tryRounds_6 : decode cX7_tryRounds 6 = .ok (.iconst 1, 1) := by decide +kernel
theorem dX7_tryRounds_7 : decode cX7_tryRounds 7 = .ok (.iadd, 1) := by decide +kernel
theorem dX7_tryRounds_8 : decode cX7_tryRounds 8 = .ok (.aload_n 0, 1) := by decide +kernel
theorem dX7_tryRounds_9 : decode cX7_tryRounds 9 = .ok (.getfield 13, 3) := by decide +kernel
theorem dX7_tryRounds_12 : decode cX7_tryRounds 12 = .ok (.arraylength, 1) := by decide +kernel
theorem dX7_tryRounds_13 : decode cX7_tryRounds 13 = .ok (.if_icmp .lt 19, 3) := by decide +kernel
theorem dX7_tryRounds_16 : decode cX7_tryRounds 16 = .ok (.aload_n 0, 1) := by decide +kernel
theorem dX7_tryRounds_17 : decode cX7_tryRounds 17 = .ok (.aload_n 0, 1) := by decide +kernel
theorem dX7_tryRounds_18 : decode cX7_tryRounds 18 = .ok (.getfield 13, 3) := by decide +kernel
theorem dX7_tryRounds_21 : decode cX7_tryRounds 21 = .ok (.iload_n 1, 1) := by decide +kernel
theorem dX7_tryRounds_22 : decode cX7_tryRounds 22 = .ok (.aaload, 1) := by decide +kernel
theorem dX7_tryRounds_23 : decode cX7_tryRounds 23 = .ok (.invokevirtual 83, 3) := by decide +kernel
theorem dX7_tryRounds_26 : decode cX7_tryRounds 26 = .ok (.iload 4, 2) := by decide +kernel
theorem dX7_tryRounds_28 : decode cX7_tryRounds 28 = .ok (.invokevirtual 70, 3) := by decide +kernel
theorem dX7_tryRounds_31 : decode cX7_tryRounds 31 = .ok (.return_, 1) := by decide +kernel
theorem dX7_tryRounds_32 : decode cX7_tryRounds 32 = .ok (.aload_n 0, 1) := by decide +kernel
theorem dX7_tryRounds_33 : decode cX7_tryRounds 33 = .ok (.iload_n 1, 1) := by decide +kernel
theorem dX7_tryRounds_34 : decode cX7_tryRounds 34 = .ok (.iconst 0, 1) := by decide +kernel
theorem dX7_tryRounds_35 : decode cX7_tryRounds 35 = .ok (.invokevirtual 118, 3) := by decide +kernel
theorem dX7_tryRounds_38 : decode cX7_tryRounds 38 = .ok (.aload_n 0, 1) := by decide +kernel
theorem dX7_tryRounds_39 : decode cX7_tryRounds 39 = .ok (.iload_n 1, 1) := by decide +kernel
theorem dX7_tryRounds_40 : decode cX7_tryRounds 40 = .ok (.iconst 1, 1) := by decide +kernel
theorem dX7_tryRounds_41 : decode cX7_tryRounds 41 = .ok (.iadd, 1) := by decide +kernel
theorem dX7_tryRounds_42 : decode cX7_tryRounds 42 = .ok (.iload_n 2, 1) := by decide +kernel
theorem dX7_tryRounds_43 : decode cX7_tryRounds 43 = .ok (.iload_n 3, 1) := by decide +kernel
theorem dX7_tryRounds_44 : decode cX7_tryRounds 44 = .ok (.iload 4, 2) := by decide +kernel
theorem dX7_tryRounds_46 : decode cX7_tryRounds 46 = .ok (.invokevirtual 122, 3) := by decide +kernel
theorem dX7_tryRounds_49 : decode cX7_tryRounds 49 = .ok (.iload_n 3, 1) := by decide +kernel
theorem dX7_tryRounds_50 : decode cX7_tryRounds 50 = .ok (.ifCond .le 26, 3) := by decide +kernel
theorem dX7_tryRounds_53 : decode cX7_tryRounds 53 = .ok (.aload_n 0, 1) := by decide +kernel
theorem dX7_tryRounds_54 : decode cX7_tryRounds 54 = .ok (.iload_n 1, 1) := by decide +kernel
theorem dX7_tryRounds_55 : decode cX7_tryRounds 55 = .ok (.iconst 1, 1) := by decide +kernel
theorem dX7_tryRounds_56 : decode cX7_tryRounds 56 = .ok (.invokevirtual 118, 3) := by decide +kernel
theorem dX7_tryRounds_59 : decode cX7_tryRounds 59 = .ok (.aload_n 0, 1) := by decide +kernel
theorem dX7_tryRounds_60 : decode cX7_tryRounds 60 = .ok (.iload_n 1, 1) := by decide +kernel
theorem dX7_tryRounds_61 : decode cX7_tryRounds 61 = .ok (.iconst 1, 1) := by decide +kernel
theorem dX7_tryRounds_62 : decode cX7_tryRounds 62 = .ok (.iadd, 1) := by decide +kernel
theorem dX7_tryRounds_63 : decode cX7_tryRounds 63 = .ok (.iload_n 2, 1) := by decide +kernel
theorem dX7_tryRounds_64 : decode cX7_tryRounds 64 = .ok (.iload_n 3, 1) := by decide +kernel
theorem dX7_tryRounds_65 : decode cX7_tryRounds 65 = .ok (.iconst 1, 1) := by decide +kernel
theorem dX7_tryRounds_66 : decode cX7_tryRounds 66 = .ok (.isub, 1) := by decide +kernel
theorem dX7_tryRounds_67 : decode cX7_tryRounds 67 = .ok (.iload 4, 2) := by decide +kernel
theorem dX7_tryRounds_69 : decode cX7_tryRounds 69 = .ok (.iconst 1, 1) := by decide +kernel
theorem dX7_tryRounds_70 : decode cX7_tryRounds 70 = .ok (.iload_n 1, 1) := by decide +kernel
theorem dX7_tryRounds_71 : decode cX7_tryRounds 71 = .ok (.ishl, 1) := by decide +kernel
theorem dX7_tryRounds_72 : decode cX7_tryRounds 72 = .ok (.ior, 1) := by decide +kernel
theorem dX7_tryRounds_73 : decode cX7_tryRounds 73 = .ok (.invokevirtual 122, 3) := by decide +kernel
theorem dX7_tryRounds_76 : decode cX7_tryRounds 76 = .ok (.return_, 1) := by decide +kernel
set_option maxHeartbeats 4000000 in
set_option maxRecDepth 100000 in
theorem B_gRnd {G : zG} {kd : kD} {N0 : Nat} : ∀ f : Nat,
    (∀ (e : Nat) (X : zX), zCt G X (6 + e) 0 0 RX7 cX7_tryRounds 5 → (zXh X).sig.returnType = none → ∀ (S : aS) (v0 : Nat) (v1 : Int32) (v2 : Int32) (v3 : Int32) (v4 : Int32) (res : Option Value × aS), zT0 kd N0 S → v0 < N0 → kd v0 = .inl 6 → F_gRnd f e 0 [.ref v0, .int v1, .int v2, .int v3, .int v4] S = some res → zV G X (zQX G X (zPo G kd N0 res) 0 0) 5 [some (.ref (zB G + v0)), some (.int v1), some (.int v2), some (.int v3), some (.int v4)] [] (cn G kd N0 S) 0 0 0) ∧
    (∀ (e : Nat) (X : zX), zCt G X (6 + e) 0 0 RX7 cX7_tryRounds 5 → (zXh X).sig.returnType = none → ∀ (S : aS) (v0 : Nat) (v1 : Int32) (v2 : Int32) (res : Option Value × aS), zT0 kd N0 S → v0 < N0 → kd v0 = .inl 6 → F_gRnd f e 1 [.ref v0, .int v1, .int v2] S = some res → zV G X (zQX G X (zPo G kd N0 res) 0 0) 5 [some (.ref (zB G + v0)), some (.int v1), none, none, some (.int v2)] [] (cn G kd N0 S) 16 0 0) ∧
    (∀ (e : Nat) (X : zX), zCt G X (6 + e) 0 0 RX7 cX7_tryRounds 5 → (zXh X).sig.returnType = none → ∀ (S : aS)  (res : Option Value × aS), zT0 kd N0 S → F_gRnd f e 2 [] S = some res → zV G X (zQX G X (zPo G kd N0 res) 0 0) 5 [none, none, none, none, none] [] (cn G kd N0 S) 76 0 0) := by
  intro f
  induction f with
  | zero => exact ⟨(fun _ _ _ _ _ _ _ _ _ _ _ _ _ _ h => by cases h), (fun _ _ _ _ _ _ _ _ _ _ _ _ h => by cases h), (fun _ _ _ _ _ _ _ h => by cases h)⟩
  | succ f ih =>
    obtain ⟨ih0, ih1, ih2⟩ := ih
    refine ⟨?_, ?_, ?_⟩
    · intro e X C hr S v0 v1 v2 v3 v4 res hT hpv0 hkv0 hF
      replace hF : F_gRnd_0 f (F_gRnd f) e v0 v1 v2 v3 v4 S = some res := hF
      unfold F_gRnd_0 at hF
      obtain ⟨e1, he1, hF1⟩ := dE_some hF
      subst he1
      replace hF := hF1
      refine z_iload_n C dX7_tryRounds_0 rfl ?_
      refine z_iload_n C dX7_tryRounds_1 rfl ?_
      refine z_icmp_ge C 16 dX7_tryRounds_2 (by decide) (fun c1 => ?_) (fun c1 => ?_)
      · replace hF := ip hF c1
        refine z_mask [true, true, false, false, true] ?_ rfl
        exact ih1 (e1 + 1) X C hr S v0 v1 v4 res hT hpv0 hkv0   hF
      · replace hF := im hF c1
        refine z_iload_n C dX7_tryRounds_5 rfl ?_
        refine z_iconst (v := 1) C dX7_tryRounds_6 (by decide) ?_
        refine z_iadd C dX7_tryRounds_7 ?_
        refine z_aload_n C dX7_tryRounds_8 rfl ?_
        refine f_getr C dX7_tryRounds_9 zfRX7_13 hpv0 hkv0 rfl ?_
        obtain ⟨hp2, hk2⟩ := hT.1 v0 6 3 (.inr (4, 7)) hpv0 hkv0 rfl
        refine f_alen (v := 7) C dX7_tryRounds_12 hp2 hk2 rfl (by decide) ?_
        refine z_icmp_lt C 32 dX7_tryRounds_13 (by decide) (fun c3 => ?_) (fun c3 => ?_)
        · replace hF := ip hF c3
          refine z_aload_n C dX7_tryRounds_32 rfl ?_
          refine z_iload_n C dX7_tryRounds_33 rfl ?_
          refine z_iconst (v := 0) C dX7_tryRounds_34 (by decide) ?_
          obtain ⟨S4, h4, hF⟩ := bV_some hF
          refine f_cV (st2 := []) C dX7_tryRounds_35 zyX7_passRound zvX7_passRound lkRX7_118 (K_X7_passRound (l := zXl X) hT hpv0 hkv0   h4) hpv0 hkv0 rfl (by omega) rfl rfl (Nat.le_of_ble_eq_true rfl) rfl (fun hT4 => ?_)
          refine z_aload_n C dX7_tryRounds_38 rfl ?_
          refine z_iload_n C dX7_tryRounds_39 rfl ?_
          refine z_iconst (v := 1) C dX7_tryRounds_40 (by decide) ?_
          refine z_iadd C dX7_tryRounds_41 ?_
          refine z_iload_n C dX7_tryRounds_42 rfl ?_
          refine z_iload_n C dX7_tryRounds_43 rfl ?_
          refine z_iload C dX7_tryRounds_44 rfl ?_
          obtain ⟨S5, h5, hF⟩ := bV_some hF
          have hM5 : zM G (zXl X) (6 + e1) 0 0 yX7_tryRounds cX7_tryRounds 5 none [.ref (zB G + v0), .int (v1 + (1 : Int32)), .int v2, .int v3, .int v4] (cn G kd N0 S4) (zPo G kd N0 (none, S5)) := zM.of (by decide) rfl (Nat.le_of_ble_eq_true rfl) (fun X9 _ C9 hr9 _ => ih0 e1 X9 C9 hr9 S4 v0 (v1 + (1 : Int32)) v2 v3 v4 _ hT4 hpv0 hkv0     h5)
          refine f_cV (st2 := []) C dX7_tryRounds_46 zyX7_tryRounds zvX7_tryRounds lkRX7_122 hM5 hpv0 hkv0 rfl (by omega) rfl rfl (Nat.le_of_ble_eq_true rfl) rfl (fun hT5 => ?_)
          refine z_iload_n C dX7_tryRounds_49 rfl ?_
          refine z_if_le C 76 dX7_tryRounds_50 (by decide) (fun c7 => ?_) (fun c7 => ?_)
          · replace hF := ip hF c7
            refine z_mask [false, false, false, false, false] ?_ rfl
            exact ih2 (e1 + 1) X C hr S5  res hT5  hF
          · replace hF := im hF c7
            refine z_aload_n C dX7_tryRounds_53 rfl ?_
            refine z_iload_n C dX7_tryRounds_54 rfl ?_
            refine z_iconst (v := 1) C dX7_tryRounds_55 (by decide) ?_
            obtain ⟨S8, h8, hF⟩ := bV_some hF
            refine f_cV (st2 := []) C dX7_tryRounds_56 zyX7_passRound zvX7_passRound lkRX7_118 (K_X7_passRound (l := zXl X) hT5 hpv0 hkv0   h8) hpv0 hkv0 rfl (by omega) rfl rfl (Nat.le_of_ble_eq_true rfl) rfl (fun hT8 => ?_)
            refine z_aload_n C dX7_tryRounds_59 rfl ?_
            refine z_iload_n C dX7_tryRounds_60 rfl ?_
            refine z_iconst (v := 1) C dX7_tryRounds_61 (by decide) ?_
            refine z_iadd C dX7_tryRounds_62 ?_
            refine z_iload_n C dX7_tryRounds_63 rfl ?_
            refine z_iload_n C dX7_tryRounds_64 rfl ?_
            refine z_iconst (v := 1) C dX7_tryRounds_65 (by decide) ?_
            refine z_isub C dX7_tryRounds_66 ?_
            refine z_iload C dX7_tryRounds_67 rfl ?_
            refine z_iconst (v := 1) C dX7_tryRounds_69 (by decide) ?_
            refine z_iload_n C dX7_tryRounds_70 rfl ?_
            refine z_ishl C dX7_tryRounds_71 ?_
            refine z_ior C dX7_tryRounds_72 ?_
            obtain ⟨S9, h9, hF⟩ := bV_some hF
            have hM9 : zM G (zXl X) (6 + e1) 0 0 yX7_tryRounds cX7_tryRounds 5 none [.ref (zB G + v0), .int (v1 + (1 : Int32)), .int v2, .int (v3 - (1 : Int32)), .int (v4 ||| ((1 : Int32) <<< (v1 &&& 31)))] (cn G kd N0 S8) (zPo G kd N0 (none, S9)) := zM.of (by decide) rfl (Nat.le_of_ble_eq_true rfl) (fun X9 _ C9 hr9 _ => ih0 e1 X9 C9 hr9 S8 v0 (v1 + (1 : Int32)) v2 (v3 - (1 : Int32)) (v4 ||| ((1 : Int32) <<< (v1 &&& 31))) _ hT8 hpv0 hkv0     h9)
            refine f_cV (st2 := []) C dX7_tryRounds_73 zyX7_tryRounds zvX7_tryRounds lkRX7_122 hM9 hpv0 hkv0 rfl (by omega) rfl rfl (Nat.le_of_ble_eq_true rfl) rfl (fun hT9 => ?_)
            refine z_mask [false, false, false, false, false] ?_ rfl
            exact ih2 (e1 + 1) X C hr S9  res hT9  hF
        · replace hF := im hF c3
          refine z_mask [true, true, false, false, true] ?_ rfl
          exact ih1 (e1 + 1) X C hr S v0 v1 v4 res hT hpv0 hkv0   hF
    · intro e X C hr S v0 v1 v2 res hT hpv0 hkv0 hF
      replace hF : F_gRnd_1 f (F_gRnd f) e v0 v1 v2 S = some res := hF
      unfold F_gRnd_1 at hF
      refine z_aload_n C dX7_tryRounds_16 rfl ?_
      refine z_aload_n C dX7_tryRounds_17 rfl ?_
      refine f_getr C dX7_tryRounds_18 zfRX7_13 hpv0 hkv0 rfl ?_
      obtain ⟨hp10, hk10⟩ := hT.1 v0 6 3 (.inr (4, 7)) hpv0 hkv0 rfl
      refine z_iload_n C dX7_tryRounds_21 rfl ?_
      obtain ⟨hi11, hF⟩ := bX_some hF
      obtain ⟨q11, eq11⟩ : ∃ q : Nat, q = Int32.toNatClampNeg v1 := ⟨_, rfl⟩
      rw [← eq11] at hF
      refine f_aald C dX7_tryRounds_22 hp10 hk10 rfl rfl rfl hi11 ?_
      obtain ⟨hp11, hk11⟩ := hT.2.1 (gR S v0 3) 4 7 (.inl 3) q11 hp10 hk10 rfl (by rw [eq11]; exact Nat.not_le.mp fun z => hi11 (Or.inr z))
      rw [← eq11]
      obtain ⟨x12, S12, h12, hF⟩ := bI_some hF
      refine f_cV (st2 := [.int x12, .ref (zB G + v0)]) C dX7_tryRounds_23 zyX4_total zvX4_total lkRX7_83 (K_X4_total (l := zXl X) hT hp11 hk11 h12) hp11 hk11 rfl (by omega) rfl rfl (Nat.le_of_ble_eq_true rfl) rfl (fun hT12 => ?_)
      refine z_iload C dX7_tryRounds_26 rfl ?_
      obtain ⟨S13, h13, hF⟩ := bV_some hF
      refine f_cV (st2 := []) C dX7_tryRounds_28 zyX7_offerSet zvX7_offerSet lkRX7_70 (K_X7_offerSet (l := zXl X) hT12 hpv0 hkv0   h13) hpv0 hkv0 rfl (by omega) rfl rfl (Nat.le_of_ble_eq_true rfl) rfl (fun hT13 => ?_)
      cases hF
      exact z_vret C hr dX7_tryRounds_31 ⟨rfl, rfl, hT13⟩
    · intro e X C hr S  res hT  hF
      replace hF : F_gRnd_2 f (F_gRnd f) e  S = some res := hF
      unfold F_gRnd_2 at hF
      cases hF
      exact z_vret C hr dX7_tryRounds_76 ⟨rfl, rfl, hT⟩
def F_X7_tryRounds (f : Nat) (_ : Nat) (vs : List Value) (S : aS) : aR := F_gRnd f 10 0 vs S
theorem K_X7_tryRounds {G : zG} {l : Launch} {kd : kD} {N0 f : Nat} {S : aS} {v0 : Nat} {v1 : Int32} {v2 : Int32} {v3 : Int32} {v4 : Int32} {res : Option Value × aS} (hT : zT0 kd N0 S) (hpv0 : v0 < N0) (hkv0 : kd v0 = .inl 6) (hF : F_X7_tryRounds f 0 [.ref v0, .int v1, .int v2, .int v3, .int v4] S = some res) : zM G l 16 0 0 yX7_tryRounds cX7_tryRounds 5 none [.ref (zB G + v0), .int v1, .int v2, .int v3, .int v4] (cn G kd N0 S) (zPo G kd N0 res) := zM.of (by decide) rfl (Nat.le_of_ble_eq_true rfl) (fun X _ C hr _ => (B_gRnd f).1 10 X C hr S v0 v1 v2 v3 v4 res hT hpv0 hkv0 hF)

def F_gMod_0 (f : Nat) (rc : Nat → Nat → List Value → aS → aR) (e : Nat) (v0 : Nat) (v1 : Int32) (v2 : Int32) (S : aS) : aR :=
  bI (F_X13_people f 0 [.ref v0] S) fun x1 S1 => if v1 = x1 then bI (F_X13_lyingIn f 0 [.ref v0, .int 756] S1) fun x4 S4 => if (gI S4 v0 33) < (0 : Int32) then rc e 2 [.ref v0, .int v1, .int x4] S4 else if (gI S4 v0 33) ≤ x4 then rc e 3 [] S4 else rc e 2 [.ref v0, .int v1, .int x4] S4 else bV (F_X13_saves f 0 [.ref v0, .int v1] S1) fun S3 => rc e 1 [.ref v0, .int v1, .int v2, .int 0] S3
def F_gMod_1 (f : Nat) (rc : Nat → Nat → List Value → aS → aR) (e : Nat) (v0 : Nat) (v1 : Int32) (v2 : Int32) (v3 : Int32) (S : aS) : aR :=
  dE e fun e1 => bI (F_X13_people f 0 [.ref v0] S) fun x9 S9 => if x9 ≤ v3 then some (none, S9) else if ((v2 >>> (v3 &&& 31)) &&& (1 : Int32)) = (0 : Int32) then bV (F_X13_loads f 0 [.ref v0, .int v1] S9) fun S15 => bI (F_X13_walks f 0 [.ref v0, .int 756, .int v3] S15) fun x16 S16 => bX v1 6 fun q18 => fS (sI S16 (gR S16 v0 31) q18 v3) fun S19 => bV (rc e1 0 [.ref v0, .int (v1 + (1 : Int32)), .int (v2 ||| ((1 : Int32) <<< (v3 &&& 31)))] S19) fun S20 => rc e 4 [.ref v0, .int v1, .int v2, .int v3] S20 else rc e 4 [.ref v0, .int v1, .int v2, .int v3] S9
def F_gMod_2 (f : Nat) (rc : Nat → Nat → List Value → aS → aR) (e : Nat) (v0 : Nat) (v1 : Int32) (v2 : Int32) (S : aS) : aR :=
  fS (sI S v0 33 v2) fun S21 => rc e 5 [.ref v0, .int v1, .int 0] S21
def F_gMod_3 (f : Nat) (rc : Nat → Nat → List Value → aS → aR) (e : Nat)  (S : aS) : aR :=
  some (none, S)
def F_gMod_4 (f : Nat) (rc : Nat → Nat → List Value → aS → aR) (e : Nat) (v0 : Nat) (v1 : Int32) (v2 : Int32) (v3 : Int32) (S : aS) : aR :=
  rc e 1 [.ref v0, .int v1, .int v2, .int (v3 + 1)] S
def F_gMod_5 (f : Nat) (rc : Nat → Nat → List Value → aS → aR) (e : Nat) (v0 : Nat) (v1 : Int32) (v2 : Int32) (S : aS) : aR :=
  if v1 ≤ v2 then rc e 3 [] S else bX v2 6 fun q28 => bX v2 6 fun q29 => fS (sI S (gR S v0 32) q29 (gI S (gR S v0 31) q28)) fun S30 => rc e 5 [.ref v0, .int v1, .int (v2 + 1)] S30
def F_gMod : Nat → Nat → Nat → List Value → aS → aR
  | 0, _, _, _, _ => none
  | f + 1, e, 0, vs, S => F_gMod_0 f (F_gMod f) e (vR vs 0) (vI vs 1) (vI vs 2) S
  | f + 1, e, 1, vs, S => F_gMod_1 f (F_gMod f) e (vR vs 0) (vI vs 1) (vI vs 2) (vI vs 3) S
  | f + 1, e, 2, vs, S => F_gMod_2 f (F_gMod f) e (vR vs 0) (vI vs 1) (vI vs 2) S
  | f + 1, e, 3, vs, S => F_gMod_3 f (F_gMod f) e  S
  | f + 1, e, 4, vs, S => F_gMod_4 f (F_gMod f) e (vR vs 0) (vI vs 1) (vI vs 2) (vI vs 3) S
  | f + 1, e, 5, vs, S => F_gMod_5 f (F_gMod f) e (vR vs 0) (vI vs 1) (vI vs 2) S
  | _ + 1, _, _, _, _ => none
theorem dX13_orders_0 : decode cX13_orders 0 = .ok (.iload_n 1, 1) := by decide +kernel
theorem dX13_orders_1 : decode cX13_orders 1 = .ok (.aload_n 0, 1) := by decide +kernel
theorem dX13_orders_2 : decode cX13_orders 2 = .ok (.invokevirtual 292, 3) := by decide +kernel
theorem dX13_orders_5 : decode cX13_orders 5 = .ok (.if_icmp .ne 61, 3) := by decide +kernel
theorem dX13_orders_8 : decode cX13_orders 8 = .ok (.aload_n 0, 1) := by decide +kernel
theorem dX13_orders_9 : decode cX13_orders 9 = .ok (.sipush 756, 3) := by decide +kernel
theorem dX13_orders_12 : decode cX13_orders 12 = .ok (.invokevirtual 299, 3) := by decide +kernel
theorem dX13_orders_15 : decode cX13_orders 15 = .ok (.istore_n 3, 1) := by decide +kernel
theorem dX13_orders_16 : decode cX13_orders 16 = .ok (.aload_n 0, 1) := by decide +kernel
theorem dX13_orders_17 : decode cX13_orders 17 = .ok (.getfield 370, 3) := by decide +kernel
theorem dX13_orders_20 : decode cX13_orders 20 = .ok (.ifCond .lt 11, 3) := by decide +kernel
theorem dX13_orders_23 : decode cX13_orders 23 = .ok (.iload_n 3, 1) := by decide +kernel
theorem dX13_orders_24 : decode cX13_orders 24 = .ok (.aload_n 0, 1) := by decide +kernel
theorem dX13_orders_25 : decode cX13_orders 25 = .ok (.getfield 370, 3) := by decide +kernel
theorem dX13_orders_28 : decode cX13_orders 28 = .ok (.if_icmp .ge 37, 3) := by decide +kernel
theorem dX13_orders_31 : decode cX13_orders 31 = .ok (.aload_n 0, 1) := by decide +kernel
theorem dX13_orders_32 : decode cX13_orders 32 = .ok (.iload_n 3, 1) := by decide +kernel
theorem dX13_orders_33 : decode cX13_orders 33 = .ok (.putfield 370, 3) := by decide +kernel
theorem dX13_orders_36 : decode cX13_orders 36 = .ok (.iconst 0, 1) := by decide +kernel
theorem dX13_orders_37 : decode cX13_orders 37 = .ok (.istore 4, 2) := by decide +kernel
theorem dX13_orders_39 : decode cX13_orders 39 = .ok (.iload 4, 2) := by decide +kernel
theorem dX13_orders_41 : decode cX13_orders 41 = .ok (.iload_n 1, 1) := by decide +kernel
theorem dX13_orders_42 : decode cX13_orders 42 = .ok (.if_icmp .ge 23, 3) := by decide +kernel
theorem dX13_orders_45 : decode cX13_orders 45 = .ok (.aload_n 0, 1) := by decide +kernel
theorem dX13_orders_46 : decode cX13_orders 46 = .ok (.getfield 138, 3) := by decide +kernel
theorem dX13_orders_49 : decode cX13_orders 49 = .ok (.iload 4, 2) := by decide +kernel
theorem dX13_orders_51 : decode cX13_orders 51 = .ok (.aload_n 0, 1) := by decide +kernel
theorem dX13_orders_52 : decode cX13_orders 52 = .ok (.getfield 135, 3) := by decide +kernel
theorem dX13_orders_55 : decode cX13_orders 55 = .ok (.iload 4, 2) := by decide +kernel
theorem dX13_orders_57 : decode cX13_orders 57 = .ok (.iaload, 1) := by decide +kernel
theorem dX13_orders_58 : decode cX13_orders 58 = .ok (.iastore, 1) := by decide +kernel
theorem dX13_orders_59 : decode cX13_orders 59 = .ok (.iinc 4 1, 3) := by decide +kernel
theorem dX13_orders_62 : decode cX13_orders 62 = .ok (.goto (-23), 3) := by decide +kernel
theorem dX13_orders_65 : decode cX13_orders 65 = .ok (.return_, 1) := by decide +kernel
theorem dX13_orders_66 : decode cX13_orders 66 = .ok (.aload_n 0, 1) := by decide +kernel
theorem dX13_orders_67 : decode cX13_orders 67 = .ok (.iload_n 1, 1) := by decide +kernel
theorem dX13_orders_68 : decode cX13_orders 68 = .ok (.invokevirtual 373, 3) := by decide +kernel
theorem dX13_orders_71 : decode cX13_orders 71 = .ok (.iconst 0, 1) := by decide +kernel
theorem dX13_orders_72 : decode cX13_orders 72 = .ok (.istore_n 3, 1) := by decide +kernel
theorem dX13_orders_73 : decode cX13_orders 73 = .ok (.iload_n 3, 1) := by decide +kernel
theorem dX13_orders_74 : decode cX13_orders 74 = .ok (.aload_n 0, 1) := by decide +kernel
theorem dX13_orders_75 : decode cX13_orders 75 = .ok (.invokevirtual 292, 3) := by decide +kernel
theorem dX13_orders_78 : decode cX13_orders 78 = .ok (.if_icmp .ge 50, 3) := by decide +kernel
theorem dX13_orders_81 : decode cX13_orders 81 = .ok (.iload_n 2, 1) := by decide +kernel
theorem dX13_orders_82 : decode cX13_orders 82 = .ok (.iload_n 3, 1) := by decide +kernel
theorem dX13_orders_83 : decode cX13_orders 83 = .ok (.ishr, 1) := by decide +kernel
theorem dX13_orders_84 : decode cX13_orders 84 = .ok (.iconst 1, 1) := by decide +kernel
theorem dX13_orders_85 : decode cX13_orders 85 = .ok (.iand, 1) := by decide +kernel
theorem dX13_orders_86 : decode cX13_orders 86 = .ok (.ifCond .ne 36, 3) := by decide +kernel
theorem dX13_orders_89 : decode cX13_orders 89 = .ok (.aload_n 0, 1) := by decide +kernel
theorem dX13_orders_90 : decode cX13_orders 90 = .ok (.iload_n 1, 1) := by decide +kernel
theorem dX13_orders_91 : decode cX13_orders 91 = .ok (.invokevirtual 376, 3) := by decide +kernel
theorem dX13_orders_94 : decode cX13_orders 94 = .ok (.aload_n 0, 1) := by decide +kernel
theorem dX13_orders_95 : decode cX13_orders 95 = .ok (.sipush 756, 3) := by decide +kernel
theorem dX13_orders_98 : decode cX13_orders 98 = .ok (.iload_n 3, 1) := by decide +kernel
theorem dX13_orders_99 : decode cX13_orders 99 = .ok (.invokevirtual 330, 3) := by decide +kernel
theorem dX13_orders_102 : decode cX13_orders 102 = .ok (.pop, 1) := by decide +kernel
theorem dX13_orders_103 : decode cX13_orders 103 = .ok (.aload_n 0, 1) := by decide +kernel
theorem dX13_orders_104 : decode cX13_orders 104 = .ok (.getfield 135, 3) := by decide +kernel
theorem dX13_orders_107 : decode cX13_orders 107 = .ok (.iload_n 1, 1) := by decide +kernel
theorem dX13_orders_108 : decode cX13_orders 108 = .ok (.iload_n 3, 1) := by decide +kernel
theorem dX13_orders_109 : decode cX13_orders 109 = .ok (.iastore, 1) := by decide +kernel
theorem dX13_orders_110 : decode cX13_orders 110 = .ok (.aload_n 0, 1) := by decide +kernel
theorem dX13_orders_111 : decode cX13_orders 111 = .ok (.iload_n 1, 1) := by decide +kernel
theorem dX13_orders_112 : decode cX13_orders 112 = .ok (.iconst 1, 1) := by decide +kernel
theorem dX13_orders_113 : decode cX13_orders 113 = .ok (.iadd, 1) := by decide +kernel
theorem dX13_orders_114 : decode cX13_orders 114 = .ok (.iload_n 2, 1) := by decide +kernel
theorem dX13_orders_115 : decode cX13_orders 115 = .ok (.iconst 1, 1) := by decide +kernel
theorem dX13_orders_116 : decode cX13_orders 116 = .ok (.iload_n 3, 1) := by decide +kernel
theorem dX13_orders_117 : decode cX13_orders 117 = .ok (.ishl, 1) := by decide +kernel
theorem dX13_orders_118 : decode cX13_orders 118 = .ok (.ior, 1) := by decide +kernel
theorem dX13_orders_119 : decode cX13_orders 119 = .ok (.invokevirtual 379, 3) := by decide +kernel
theorem dX13_orders_122 : decode cX13_orders 122 = .ok (.iinc 3 1, 3) := by decide +kernel
theorem dX13_orders_125 : decode cX13_orders 125 = .ok (.goto (-52), 3) := by decide +kernel
theorem dX13_orders_128 : decode cX13_orders 128 = .ok (.return_, 1) := by decide +kernel
set_option maxHeartbeats 4000000 in
set_option maxRecDepth 100000 in
theorem B_gMod {G : zG} {kd : kD} {N0 : Nat} : ∀ f : Nat,
    (∀ (e : Nat) (X : zX), zCt G X (4 + e) 0 0 RX13 cX13_orders 5 → (zXh X).sig.returnType = none → ∀ (S : aS) (v0 : Nat) (v1 : Int32) (v2 : Int32) (res : Option Value × aS), zT0 kd N0 S → v0 < N0 → kd v0 = .inl 11 → F_gMod f e 0 [.ref v0, .int v1, .int v2] S = some res → zV G X (zQX G X (zPo G kd N0 res) 0 0) 5 [some (.ref (zB G + v0)), some (.int v1), some (.int v2), none, none] [] (cn G kd N0 S) 0 0 0) ∧
    (∀ (e : Nat) (X : zX), zCt G X (4 + e) 0 0 RX13 cX13_orders 5 → (zXh X).sig.returnType = none → ∀ (S : aS) (v0 : Nat) (v1 : Int32) (v2 : Int32) (v3 : Int32) (res : Option Value × aS), zT0 kd N0 S → v0 < N0 → kd v0 = .inl 11 → F_gMod f e 1 [.ref v0, .int v1, .int v2, .int v3] S = some res → zV G X (zQX G X (zPo G kd N0 res) 0 0) 5 [some (.ref (zB G + v0)), some (.int v1), some (.int v2), some (.int v3), none] [] (cn G kd N0 S) 73 0 0) ∧
    (∀ (e : Nat) (X : zX), zCt G X (4 + e) 0 0 RX13 cX13_orders 5 → (zXh X).sig.returnType = none → ∀ (S : aS) (v0 : Nat) (v1 : Int32) (v2 : Int32) (res : Option Value × aS), zT0 kd N0 S → v0 < N0 → kd v0 = .inl 11 → F_gMod f e 2 [.ref v0, .int v1, .int v2] S = some res → zV G X (zQX G X (zPo G kd N0 res) 0 0) 5 [some (.ref (zB G + v0)), some (.int v1), none, some (.int v2), none] [] (cn G kd N0 S) 31 0 0) ∧
    (∀ (e : Nat) (X : zX), zCt G X (4 + e) 0 0 RX13 cX13_orders 5 → (zXh X).sig.returnType = none → ∀ (S : aS)  (res : Option Value × aS), zT0 kd N0 S → F_gMod f e 3 [] S = some res → zV G X (zQX G X (zPo G kd N0 res) 0 0) 5 [none, none, none, none, none] [] (cn G kd N0 S) 65 0 0) ∧
    (∀ (e : Nat) (X : zX), zCt G X (4 + e) 0 0 RX13 cX13_orders 5 → (zXh X).sig.returnType = none → ∀ (S : aS) (v0 : Nat) (v1 : Int32) (v2 : Int32) (v3 : Int32) (res : Option Value × aS), zT0 kd N0 S → v0 < N0 → kd v0 = .inl 11 → F_gMod f e 4 [.ref v0, .int v1, .int v2, .int v3] S = some res → zV G X (zQX G X (zPo G kd N0 res) 0 0) 5 [some (.ref (zB G + v0)), some (.int v1), some (.int v2), some (.int v3), none] [] (cn G kd N0 S) 122 0 0) ∧
    (∀ (e : Nat) (X : zX), zCt G X (4 + e) 0 0 RX13 cX13_orders 5 → (zXh X).sig.returnType = none → ∀ (S : aS) (v0 : Nat) (v1 : Int32) (v2 : Int32) (res : Option Value × aS), zT0 kd N0 S → v0 < N0 → kd v0 = .inl 11 → F_gMod f e 5 [.ref v0, .int v1, .int v2] S = some res → zV G X (zQX G X (zPo G kd N0 res) 0 0) 5 [some (.ref (zB G + v0)), some (.int v1), none, none, some (.int v2)] [] (cn G kd N0 S) 39 0 0) := by
  intro f
  induction f with
  | zero => exact ⟨(fun _ _ _ _ _ _ _ _ _ _ _ _ h => by cases h), (fun _ _ _ _ _ _ _ _ _ _ _ _ _ h => by cases h), (fun _ _ _ _ _ _ _ _ _ _ _ _ h => by cases h), (fun _ _ _ _ _ _ _ h => by cases h), (fun _ _ _ _ _ _ _ _ _ _ _ _ _ h => by cases h), (fun _ _ _ _ _ _ _ _ _ _ _ _ h => by cases h)⟩
  | succ f ih =>
    obtain ⟨ih0, ih1, ih2, ih3, ih4, ih5⟩ := ih
    refine ⟨?_, ?_, ?_, ?_, ?_, ?_⟩
    · intro e X C hr S v0 v1 v2 res hT hpv0 hkv0 hF
      replace hF : F_gMod_0 f (F_gMod f) e v0 v1 v2 S = some res := hF
      unfold F_gMod_0 at hF
      refine z_iload_n C dX13_orders_0 rfl ?_
      refine z_aload_n C dX13_orders_1 rfl ?_
      obtain ⟨x1, S1, h1, hF⟩ := bI_some hF
      refine f_cV (st2 := [.int x1, .int v1]) C dX13_orders_2 zyX13_people zvX13_people lkRX13_292 (K_X13_people (l := zXl X) hT hpv0 hkv0 h1) hpv0 hkv0 rfl (by omega) rfl rfl (Nat.le_of_ble_eq_true rfl) rfl (fun hT1 => ?_)
      refine z_icmp_ne C 66 dX13_orders_5 (by decide) (fun c2 => ?_) (fun c2 => ?_)
      · replace hF := im hF c2
        refine z_aload_n C dX13_orders_66 rfl ?_
        refine z_iload_n C dX13_orders_67 rfl ?_
        obtain ⟨S3, h3, hF⟩ := bV_some hF
        refine f_cV (st2 := []) C dX13_orders_68 zyX13_saves zvX13_saves lkRX13_373 (K_X13_saves (l := zXl X) hT1 hpv0 hkv0  h3) hpv0 hkv0 rfl (by omega) rfl rfl (Nat.le_of_ble_eq_true rfl) rfl (fun hT3 => ?_)
        refine z_iconst (v := 0) C dX13_orders_71 (by decide) ?_
        refine z_istore_n (lv2 := [some (.ref (zB G + v0)), some (.int v1), some (.int v2), some (.int 0), none]) C dX13_orders_72 (by decide) rfl ?_
        exact ih1 e X C hr S3 v0 v1 v2 0 res hT3 hpv0 hkv0    hF
      · replace hF := ip hF c2
        refine z_aload_n C dX13_orders_8 rfl ?_
        refine z_sipush (v := 756) C dX13_orders_9 (by decide) ?_
        obtain ⟨x4, S4, h4, hF⟩ := bI_some hF
        refine f_cV (st2 := [.int x4]) C dX13_orders_12 zyX13_lyingIn zvX13_lyingIn lkRX13_299 (K_X13_lyingIn (l := zXl X) hT1 hpv0 hkv0  h4) hpv0 hkv0 rfl (by omega) rfl rfl (Nat.le_of_ble_eq_true rfl) rfl (fun hT4 => ?_)
        refine z_istore_n (lv2 := [some (.ref (zB G + v0)), some (.int v1), some (.int v2), some (.int x4), none]) C dX13_orders_15 (by decide) rfl ?_
        refine z_aload_n C dX13_orders_16 rfl ?_
        refine f_geti C dX13_orders_17 zfRX13_370 hpv0 hkv0 rfl ?_
        refine z_if_lt C 31 dX13_orders_20 (by decide) (fun c6 => ?_) (fun c6 => ?_)
        · replace hF := ip hF c6
          refine z_mask [true, true, false, true, true] ?_ rfl
          exact ih2 e X C hr S4 v0 v1 x4 res hT4 hpv0 hkv0   hF
        · replace hF := im hF c6
          refine z_iload_n C dX13_orders_23 rfl ?_
          refine z_aload_n C dX13_orders_24 rfl ?_
          refine f_geti C dX13_orders_25 zfRX13_370 hpv0 hkv0 rfl ?_
          refine z_icmp_ge C 65 dX13_orders_28 (by decide) (fun c8 => ?_) (fun c8 => ?_)
          · replace hF := ip hF c8
            refine z_mask [false, false, false, false, true] ?_ rfl
            exact ih3 e X C hr S4  res hT4  hF
          · replace hF := im hF c8
            refine z_mask [true, true, false, true, true] ?_ rfl
            exact ih2 e X C hr S4 v0 v1 x4 res hT4 hpv0 hkv0   hF
    · intro e X C hr S v0 v1 v2 v3 res hT hpv0 hkv0 hF
      replace hF : F_gMod_1 f (F_gMod f) e v0 v1 v2 v3 S = some res := hF
      unfold F_gMod_1 at hF
      obtain ⟨e1, he1, hF1⟩ := dE_some hF
      subst he1
      replace hF := hF1
      refine z_iload_n C dX13_orders_73 rfl ?_
      refine z_aload_n C dX13_orders_74 rfl ?_
      obtain ⟨x9, S9, h9, hF⟩ := bI_some hF
      refine f_cV (st2 := [.int x9, .int v3]) C dX13_orders_75 zyX13_people zvX13_people lkRX13_292 (K_X13_people (l := zXl X) hT hpv0 hkv0 h9) hpv0 hkv0 rfl (by omega) rfl rfl (Nat.le_of_ble_eq_true rfl) rfl (fun hT9 => ?_)
      refine z_icmp_ge C 128 dX13_orders_78 (by decide) (fun c12 => ?_) (fun c12 => ?_)
      · replace hF := ip hF c12
        cases hF
        exact z_vret C hr dX13_orders_128 ⟨rfl, rfl, hT9⟩
      · replace hF := im hF c12
        refine z_iload_n C dX13_orders_81 rfl ?_
        refine z_iload_n C dX13_orders_82 rfl ?_
        refine z_ishr C dX13_orders_83 ?_
        refine z_iconst (v := 1) C dX13_orders_84 (by decide) ?_
        refine z_iand C dX13_orders_85 ?_
        refine z_if_ne C 122 dX13_orders_86 (by decide) (fun c14 => ?_) (fun c14 => ?_)
        · replace hF := im hF c14
          exact ih4 (e1 + 1) X C hr S9 v0 v1 v2 v3 res hT9 hpv0 hkv0    hF
        · replace hF := ip hF c14
          refine z_aload_n C dX13_orders_89 rfl ?_
          refine z_iload_n C dX13_orders_90 rfl ?_
          obtain ⟨S15, h15, hF⟩ := bV_some hF
          refine f_cV (st2 := []) C dX13_orders_91 zyX13_loads zvX13_loads lkRX13_376 (K_X13_loads (l := zXl X) hT9 hpv0 hkv0  h15) hpv0 hkv0 rfl (by omega) rfl rfl (Nat.le_of_ble_eq_true rfl) rfl (fun hT15 => ?_)
          refine z_aload_n C dX13_orders_94 rfl ?_
          refine z_sipush (v := 756) C dX13_orders_95 (by decide) ?_
          refine z_iload_n C dX13_orders_98 rfl ?_
          obtain ⟨x16, S16, h16, hF⟩ := bI_some hF
          refine f_cV (st2 := [.int x16]) C dX13_orders_99 zyX13_walks zvX13_walks lkRX13_330 (K_X13_walks (l := zXl X) hT15 hpv0 hkv0   h16) hpv0 hkv0 rfl (by omega) rfl rfl (Nat.le_of_ble_eq_true rfl) rfl (fun hT16 => ?_)
          refine z_pop C dX13_orders_102 rfl ?_
          refine z_aload_n C dX13_orders_103 rfl ?_
          refine f_getr C dX13_orders_104 zfRX13_135 hpv0 hkv0 rfl ?_
          obtain ⟨hp17, hk17⟩ := hT16.1 v0 11 31 (.inr (0, 6)) hpv0 hkv0 rfl
          refine z_iload_n C dX13_orders_107 rfl ?_
          refine z_iload_n C dX13_orders_108 rfl ?_
          obtain ⟨hi18, hF⟩ := bX_some hF
          obtain ⟨q18, eq18⟩ : ∃ q : Nat, q = Int32.toNatClampNeg v1 := ⟨_, rfl⟩
          rw [← eq18] at hF
          refine f_iast C dX13_orders_109 hp17 hk17 hi18 ?_
          rw [← eq18]
          have hT19 : zT0 kd N0 (sI S16 (gR S16 v0 31) q18 v3) := zT0_sI hT16
          replace hF := fS_e hF
          generalize sI S16 (gR S16 v0 31) q18 v3 = S19 at hF hT19 ⊢
          refine z_aload_n C dX13_orders_110 rfl ?_
          refine z_iload_n C dX13_orders_111 rfl ?_
          refine z_iconst (v := 1) C dX13_orders_112 (by decide) ?_
          refine z_iadd C dX13_orders_113 ?_
          refine z_iload_n C dX13_orders_114 rfl ?_
          refine z_iconst (v := 1) C dX13_orders_115 (by decide) ?_
          refine z_iload_n C dX13_orders_116 rfl ?_
          refine z_ishl C dX13_orders_117 ?_
          refine z_ior C dX13_orders_118 ?_
          obtain ⟨S20, h20, hF⟩ := bV_some hF
          have hM20 : zM G (zXl X) (4 + e1) 0 0 yX13_orders cX13_orders 5 none [.ref (zB G + v0), .int (v1 + (1 : Int32)), .int (v2 ||| ((1 : Int32) <<< (v3 &&& 31)))] (cn G kd N0 S19) (zPo G kd N0 (none, S20)) := zM.of (by decide) rfl (Nat.le_of_ble_eq_true rfl) (fun X9 _ C9 hr9 _ => ih0 e1 X9 C9 hr9 S19 v0 (v1 + (1 : Int32)) (v2 ||| ((1 : Int32) <<< (v3 &&& 31))) _ hT19 hpv0 hkv0   h20)
          refine f_cV (st2 := []) C dX13_orders_119 zyX13_orders zvX13_orders lkRX13_379 hM20 hpv0 hkv0 rfl (by omega) rfl rfl (Nat.le_of_ble_eq_true rfl) rfl (fun hT20 => ?_)
          exact ih4 (e1 + 1) X C hr S20 v0 v1 v2 v3 res hT20 hpv0 hkv0    hF
    · intro e X C hr S v0 v1 v2 res hT hpv0 hkv0 hF
      replace hF : F_gMod_2 f (F_gMod f) e v0 v1 v2 S = some res := hF
      unfold F_gMod_2 at hF
      refine z_aload_n C dX13_orders_31 rfl ?_
      refine z_iload_n C dX13_orders_32 rfl ?_
      refine f_puti C dX13_orders_33 zfRX13_370 fw11_33 hpv0 hkv0 rfl rfl rfl ?_
      have hT21 : zT0 kd N0 (sI S v0 33 v2) := zT0_sI hT
      replace hF := fS_e hF
      generalize sI S v0 33 v2 = S21 at hF hT21 ⊢
      refine z_iconst (v := 0) C dX13_orders_36 (by decide) ?_
      refine z_istore (lv2 := [some (.ref (zB G + v0)), some (.int v1), none, some (.int v2), some (.int 0)]) C dX13_orders_37 (by decide) rfl ?_
      refine z_mask [true, true, true, false, true] ?_ rfl
      exact ih5 e X C hr S21 v0 v1 0 res hT21 hpv0 hkv0   hF
    · intro e X C hr S  res hT  hF
      replace hF : F_gMod_3 f (F_gMod f) e  S = some res := hF
      unfold F_gMod_3 at hF
      cases hF
      exact z_vret C hr dX13_orders_65 ⟨rfl, rfl, hT⟩
    · intro e X C hr S v0 v1 v2 v3 res hT hpv0 hkv0 hF
      replace hF : F_gMod_4 f (F_gMod f) e v0 v1 v2 v3 S = some res := hF
      unfold F_gMod_4 at hF
      refine z_iinc (v := v3 + 1) (lv2 := [some (.ref (zB G + v0)), some (.int v1), some (.int v2), some (.int (v3 + 1)), none]) C dX13_orders_122 rfl (by rw [show Int32.ofInt 1 = (1 : Int32) from by decide]) rfl ?_
      refine z_goto C 73 dX13_orders_125 (by decide) ?_
      exact ih1 e X C hr S v0 v1 v2 (v3 + 1) res hT hpv0 hkv0    hF
    · intro e X C hr S v0 v1 v2 res hT hpv0 hkv0 hF
      replace hF : F_gMod_5 f (F_gMod f) e v0 v1 v2 S = some res := hF
      unfold F_gMod_5 at hF
      refine z_iload C dX13_orders_39 rfl ?_
      refine z_iload_n C dX13_orders_41 rfl ?_
      refine z_icmp_ge C 65 dX13_orders_42 (by decide) (fun c25 => ?_) (fun c25 => ?_)
      · replace hF := ip hF c25
        refine z_mask [false, false, true, true, false] ?_ rfl
        exact ih3 e X C hr S  res hT  hF
      · replace hF := im hF c25
        refine z_aload_n C dX13_orders_45 rfl ?_
        refine f_getr C dX13_orders_46 zfRX13_138 hpv0 hkv0 rfl ?_
        obtain ⟨hp26, hk26⟩ := hT.1 v0 11 32 (.inr (0, 6)) hpv0 hkv0 rfl
        refine z_iload C dX13_orders_49 rfl ?_
        refine z_aload_n C dX13_orders_51 rfl ?_
        refine f_getr C dX13_orders_52 zfRX13_135 hpv0 hkv0 rfl ?_
        obtain ⟨hp27, hk27⟩ := hT.1 v0 11 31 (.inr (0, 6)) hpv0 hkv0 rfl
        refine z_iload C dX13_orders_55 rfl ?_
        obtain ⟨hi28, hF⟩ := bX_some hF
        obtain ⟨q28, eq28⟩ : ∃ q : Nat, q = Int32.toNatClampNeg v2 := ⟨_, rfl⟩
        rw [← eq28] at hF
        refine f_iald C dX13_orders_57 hp27 hk27 hi28 ?_
        rw [← eq28]
        obtain ⟨hi29, hF⟩ := bX_some hF
        obtain ⟨q29, eq29⟩ : ∃ q : Nat, q = Int32.toNatClampNeg v2 := ⟨_, rfl⟩
        rw [← eq29] at hF
        refine f_iast C dX13_orders_58 hp26 hk26 hi29 ?_
        rw [← eq29]
        have hT30 : zT0 kd N0 (sI S (gR S v0 32) q29 (gI S (gR S v0 31) q28)) := zT0_sI hT
        replace hF := fS_e hF
        generalize sI S (gR S v0 32) q29 (gI S (gR S v0 31) q28) = S30 at hF hT30 ⊢
        refine z_iinc (v := v2 + 1) (lv2 := [some (.ref (zB G + v0)), some (.int v1), none, none, some (.int (v2 + 1))]) C dX13_orders_59 rfl (by rw [show Int32.ofInt 1 = (1 : Int32) from by decide]) rfl ?_
        refine z_goto C 39 dX13_orders_62 (by decide) ?_
        exact ih5 e X C hr S30 v0 v1 (v2 + 1) res hT30 hpv0 hkv0   hF
def F_X13_orders (f : Nat) (_ : Nat) (vs : List Value) (S : aS) : aR := F_gMod f 10 0 vs S
theorem K_X13_orders {G : zG} {l : Launch} {kd : kD} {N0 f : Nat} {S : aS} {v0 : Nat} {v1 : Int32} {v2 : Int32} {res : Option Value × aS} (hT : zT0 kd N0 S) (hpv0 : v0 < N0) (hkv0 : kd v0 = .inl 11) (hF : F_X13_orders f 0 [.ref v0, .int v1, .int v2] S = some res) : zM G l 14 0 0 yX13_orders cX13_orders 5 none [.ref (zB G + v0), .int v1, .int v2] (cn G kd N0 S) (zPo G kd N0 res) := zM.of (by decide) rfl (Nat.le_of_ble_eq_true rfl) (fun X _ C hr _ => (B_gMod f).1 10 X C hr S v0 v1 v2 res hT hpv0 hkv0 hF)
def F_X8_advance_0 (f : Nat) (rc : Nat → List Value → aS → aR) (v0 : Nat) (S : aS) : aR :=
  fS (sR S v0 6 0) fun S1 => fS (sI S1 v0 8 ((-1))) fun S2 => fS (sI S2 v0 9 ((-1))) fun S3 => rc 1 [.ref v0] S3
def F_X8_advance_1 (f : Nat) (rc : Nat → List Value → aS → aR) (v0 : Nat) (S : aS) : aR :=
  if (gI S v0 1) ≤ (gI S v0 3) then rc 2 [.ref v0] S else bX (gI S v0 3) 1000 fun q8 => if (gI S (gR S v0 0) q8) = (10 : Int32) then rc 3 [.ref v0] S else bX (gI S v0 3) 1000 fun q12 => if (gI S (gR S v0 0) q12) = (32 : Int32) then rc 3 [.ref v0] S else rc 2 [.ref v0] S
def F_X8_advance_2 (f : Nat) (rc : Nat → List Value → aS → aR) (v0 : Nat) (S : aS) : aR :=
  fS (sI S v0 4 (gI S v0 3)) fun S15 => bZ (if (gI S15 v0 3) < (gI S15 v0 1) then (0 : Int32) else (1 : Int32)) (fS (sI S15 v0 5 (if (gI S15 v0 3) < (gI S15 v0 1) then (0 : Int32) else (1 : Int32))) fun S19 => if (gI S19 v0 5) = (0 : Int32) then bX (gI S19 v0 3) 1000 fun q22 => bI (F_X8_isLetter f 0 [.int (gI S19 (gR S19 v0 0) q22)] S19) fun x23 S23 => if x23 = (0 : Int32) then bX (gI S23 v0 3) 1000 fun q28 => bI (F_X8_isDigit f 0 [.int (gI S23 (gR S23 v0 0) q28)] S23) fun x29 S29 => if x29 = (0 : Int32) then bX (gI S29 v0 3) 1000 fun q34 => fS (sI S29 v0 9 (gI S29 (gR S29 v0 0) q34)) fun S35 => fS (sI S35 v0 3 ((gI S35 v0 3) + (1 : Int32))) fun S36 => rc 4 [] S36 else bV (F_X8_readNumber f 0 [.ref v0] S29) fun S37 => rc 4 [] S37 else bV (F_X8_readWord f 0 [.ref v0] S23) fun S38 => rc 4 [] S38 else some (none, S19))
def F_X8_advance_3 (f : Nat) (rc : Nat → List Value → aS → aR) (v0 : Nat) (S : aS) : aR :=
  fS (sI S v0 3 ((gI S v0 3) + (1 : Int32))) fun S39 => rc 1 [.ref v0] S39
def F_X8_advance_4 (f : Nat) (rc : Nat → List Value → aS → aR)  (S : aS) : aR :=
  some (none, S)
def F_X8_advance : Nat → Nat → List Value → aS → aR
  | 0, _, _, _ => none
  | f + 1, 0, vs, S => F_X8_advance_0 f (F_X8_advance f) (vR vs 0) S
  | f + 1, 1, vs, S => F_X8_advance_1 f (F_X8_advance f) (vR vs 0) S
  | f + 1, 2, vs, S => F_X8_advance_2 f (F_X8_advance f) (vR vs 0) S
  | f + 1, 3, vs, S => F_X8_advance_3 f (F_X8_advance f) (vR vs 0) S
  | f + 1, 4, vs, S => F_X8_advance_4 f (F_X8_advance f)  S
  | _ + 1, _, _, _ => none
theorem dX8_advance_0 : decode cX8_advance 0 = .ok (.aload_n 0, 1) := by decide +kernel
theorem dX8_advance_1 : decode cX8_advance 1 = .ok (.getstatic 15, 3) := by decide +kernel
theorem dX8_advance_4 : decode cX8_advance 4 = .ok (.putfield 21, 3) := by decide +kernel
theorem dX8_advance_7 : decode cX8_advance 7 = .ok (.aload_n 0, 1) := by decide +kernel
theorem dX8_advance_8 : decode cX8_advance 8 = .ok (.iconst (-1), 1) := by decide +kernel
theorem dX8_advance_9 : decode cX8_advance 9 = .ok (.putfield 41, 3) := by decide +kernel
theorem dX8_advance_12 : decode cX8_advance 12 = .ok (.aload_n 0, 1) := by decide +kernel
theorem dX8_advance_13 : decode cX8_advance 13 = .ok (.iconst (-1), 1) := by decide +kernel
theorem dX8_advance_14 : decode cX8_advance 14 = .ok (.putfield 44, 3) := by decide +kernel
theorem dX8_advance_17 : decode cX8_advance 17 = .ok (.aload_n 0, 1) := by decide +kernel
theorem dX8_advance_18 : decode cX8_advance 18 = .ok (.getfield 32, 3) := by decide +kernel
theorem dX8_advance_21 : decode cX8_advance 21 = .ok (.aload_n 0, 1) := by decide +kernel
theorem dX8_advance_22 : decode cX8_advance 22 = .ok (.getfield 24, 3) := by decide +kernel
theorem dX8_advance_25 : decode cX8_advance 25 = .ok (.if_icmp .ge 44, 3) := by decide +kernel
theorem dX8_advance_28 : decode cX8_advance 28 = .ok (.aload_n 0, 1) := by decide +kernel
theorem dX8_advance_29 : decode cX8_advance 29 = .ok (.getfield 11, 3) := by decide +kernel
theorem dX8_advance_32 : decode cX8_advance 32 = .ok (.aload_n 0, 1) := by decide +kernel
theorem dX8_advance_33 : decode cX8_advance 33 = .ok (.getfield 32, 3) := by decide +kernel
theorem dX8_advance_36 : decode cX8_advance 36 = .ok (.caload, 1) := by decide +kernel
theorem dX8_advance_37 : decode cX8_advance 37 = .ok (.bipush 10, 2) := by decide +kernel
theorem dX8_advance_39 : decode cX8_advance 39 = .ok (.if_icmp .eq 17, 3) := by decide +kernel
theorem dX8_advance_42 : decode cX8_advance 42 = .ok (.aload_n 0, 1) := by decide +kernel
theorem dX8_advance_43 : decode cX8_advance 43 = .ok (.getfield 11, 3) := by decide +kernel
theorem dX8_advance_46 : decode cX8_advance 46 = .ok (.aload_n 0, 1) := by decide +kernel
theorem dX8_advance_47 : decode cX8_advance 47 = .ok (.getfield 32, 3) := by decide +kernel
theorem dX8_advance_50 : decode cX8_advance 50 = .ok (.caload, 1) := by decide +kernel
theorem dX8_advance_51 : decode cX8_advance 51 = .ok (.bipush 32, 2) := by decide +kernel
theorem dX8_advance_53 : decode cX8_advance 53 = .ok (.if_icmp .ne 16, 3) := by decide +kernel
theorem dX8_advance_56 : decode cX8_advance 56 = .ok (.aload_n 0, 1) := by decide +kernel
theorem dX8_advance_57 : decode cX8_advance 57 = .ok (.dup, 1) := by decide +kernel
theorem dX8_advance_58 : decode cX8_advance 58 = .ok (.getfield 32, 3) := by decide +kernel
theorem dX8_advance_61 : decode cX8_advance 61 = .ok (.iconst 1, 1) := by decide +kernel
theorem dX8_advance_62 : decode cX8_advance 62 = .ok (.iadd, 1) := by decide +kernel
theorem dX8_advance_63 : decode cX8_advance 63 = .ok (.putfield 32, 3) := by decide +kernel
theorem dX8_advance_66 : decode cX8_advance 66 = .ok (.goto (-49), 3) := by decide +kernel
theorem dX8_advance_69 : decode cX8_advance 69 = .ok (.aload_n 0, 1) := by decide +kernel
theorem dX8_advance_70 : decode cX8_advance 70 = .ok (.aload_n 0, 1) := by decide +kernel
theorem dX8_advance_71 : decode cX8_advance 71 = .ok (.getfield 32, 3) := by decide +kernel
theorem dX8_advance_74 : decode cX8_advance 74 = .ok (.putfield 47, 3) := by decide +kernel
theorem dX8_advance_77 : decode cX8_advance 77 = .ok (.aload_n 0, 1) := by decide +kernel
theorem dX8_advance_78 : decode cX8_advance 78 = .ok (.aload_n 0, 1) := by decide +kernel
theorem dX8_advance_79 : decode cX8_advance 79 = .ok (.getfield 32, 3) := by decide +kernel
theorem dX8_advance_82 : decode cX8_advance 82 = .ok (.aload_n 0, 1) := by decide +kernel
theorem dX8_advance_83 : decode cX8_advance 83 = .ok (.getfield 24, 3) := by decide +kernel
theorem dX8_advance_86 : decode cX8_advance 86 = .ok (.if_icmp .lt 7, 3) := by decide +kernel
theorem dX8_advance_89 : decode cX8_advance 89 = .ok (.iconst 1, 1) := by decide +kernel
theorem dX8_advance_90 : decode cX8_advance 90 = .ok (.goto 4, 3) := by decide +kernel
theorem dX8_advance_93 : decode cX8_advance 93 = .ok (.iconst 0, 1) := by decide +kernel
theorem dX8_advance_94 : decode cX8_advance 94 = .ok (.putfield 50, 3) := by decide +kernel
theorem dX8_advance_97 : decode cX8_advance 97 = .ok (.aload_n 0, 1) := by decide +kernel
theorem dX8_advance_98 : decode cX8_advance 98 = .ok (.getfield 50, 3) := by decide +kernel
theorem dX8_advance_101 : decode cX8_advance 101 = .ok (.ifCond .eq 4, 3) := by decide +kernel
theorem dX8_advance_104 : decode cX8_advance 104 = .ok (.return_, 1) := by decide +kernel
theorem dX8_advance_105 : decode cX8_advance 105 = .ok (.aload_n 0, 1) := by decide +kernel
theorem dX8_advance_106 : decode cX8_advance 106 = .ok (.getfield 11, 3) := by decide +kernel
theorem dX8_advance_109 : decode cX8_advance 109 = .ok (.aload_n 0, 1) := by decide +kernel
theorem dX8_advance_110 : decode cX8_advance 110 = .ok (.getfield 32, 3) := by decide +kernel
theorem dX8_advance_113 : decode cX8_advance 113 = .ok (.caload, 1) := by decide +kernel
theorem dX8_advance_114 : decode cX8_advance 114 = .ok (.invokestatic 54, 3) := by decide +kernel
theorem dX8_advance_117 : decode cX8_advance 117 = .ok (.ifCond .eq 10, 3) := by decide +kernel
theorem dX8_advance_120 : decode cX8_advance 120 = .ok (.aload_n 0, 1) := by decide +kernel
theorem dX8_advance_121 : decode cX8_advance 121 = .ok (.invokevirtual 58, 3) := by decide +kernel
theorem dX8_advance_124 : decode cX8_advance 124 = .ok (.goto 48, 3) := by decide +kernel
theorem dX8_advance_127 : decode cX8_advance 127 = .ok (.aload_n 0, 1) := by decide +kernel
theorem dX8_advance_128 : decode cX8_advance 128 = .ok (.getfield 11, 3) := by decide +kernel
theorem dX8_advance_131 : decode cX8_advance 131 = .ok (.aload_n 0, 1) := by decide +kernel
theorem dX8_advance_132 : decode cX8_advance 132 = .ok (.getfield 32, 3) := by decide +kernel
theorem dX8_advance_135 : decode cX8_advance 135 = .ok (.caload, 1) := by decide +kernel
theorem dX8_advance_136 : decode cX8_advance 136 = .ok (.invokestatic 61, 3) := by decide +kernel
theorem dX8_advance_139 : decode cX8_advance 139 = .ok (.ifCond .eq 10, 3) := by decide +kernel
theorem dX8_advance_142 : decode cX8_advance 142 = .ok (.aload_n 0, 1) := by decide +kernel
theorem dX8_advance_143 : decode cX8_advance 143 = .ok (.invokevirtual 64, 3) := by decide +kernel
theorem dX8_advance_146 : decode cX8_advance 146 = .ok (.goto 26, 3) := by decide +kernel
theorem dX8_advance_149 : decode cX8_advance 149 = .ok (.aload_n 0, 1) := by decide +kernel
theorem dX8_advance_150 : decode cX8_advance 150 = .ok (.aload_n 0, 1) := by decide +kernel
theorem dX8_advance_151 : decode cX8_advance 151 = .ok (.getfield 11, 3) := by decide +kernel
theorem dX8_advance_154 : decode cX8_advance 154 = .ok (.aload_n 0, 1) := by decide +kernel
theorem dX8_advance_155 : decode cX8_advance 155 = .ok (.getfield 32, 3) := by decide +kernel
theorem dX8_advance_158 : decode cX8_advance 158 = .ok (.caload, 1) := by decide +kernel
theorem dX8_advance_159 : decode cX8_advance 159 = .ok (.putfield 44, 3) := by decide +kernel
theorem dX8_advance_162 : decode cX8_advance 162 = .ok (.aload_n 0, 1) := by decide +kernel
theorem dX8_advance_163 : decode cX8_advance 163 = .ok (.dup, 1) := by decide +kernel
theorem dX8_advance_164 : decode cX8_advance 164 = .ok (.getfield 32, 3) := by decide +kernel
theorem dX8_advance_167 : decode cX8_advance 167 = .ok (.iconst 1, 1) := by decide +kernel
theorem dX8_advance_168 : decode cX8_advance 168 = .ok (.iadd, 1) := by decide +kernel
theorem dX8_advance_169 : decode cX8_advance 169 = .ok (.putfield 32, 3) := by decide +kernel
theorem dX8_advance_172 : decode cX8_advance 172 = .ok (.return_, 1) := by decide +kernel
set_option maxHeartbeats 4000000 in
set_option maxRecDepth 100000 in
theorem B_X8_advance {G : zG} {X : zX} {kd : kD} {N0 : Nat} (C : zCt G X 2 0 0 RX8 cX8_advance 1) (hr : (zXh X).sig.returnType = none) : ∀ f : Nat,
    (∀ (S : aS) (v0 : Nat) (res : Option Value × aS), zT0 kd N0 S → v0 < N0 → kd v0 = .inl 7 → F_X8_advance f 0 [.ref v0] S = some res → zV G X (zQX G X (zPo G kd N0 res) 0 0) 1 [some (.ref (zB G + v0))] [] (cn G kd N0 S) 0 0 0) ∧
    (∀ (S : aS) (v0 : Nat) (res : Option Value × aS), zT0 kd N0 S → v0 < N0 → kd v0 = .inl 7 → F_X8_advance f 1 [.ref v0] S = some res → zV G X (zQX G X (zPo G kd N0 res) 0 0) 1 [some (.ref (zB G + v0))] [] (cn G kd N0 S) 17 0 0) ∧
    (∀ (S : aS) (v0 : Nat) (res : Option Value × aS), zT0 kd N0 S → v0 < N0 → kd v0 = .inl 7 → F_X8_advance f 2 [.ref v0] S = some res → zV G X (zQX G X (zPo G kd N0 res) 0 0) 1 [some (.ref (zB G + v0))] [] (cn G kd N0 S) 69 0 0) ∧
    (∀ (S : aS) (v0 : Nat) (res : Option Value × aS), zT0 kd N0 S → v0 < N0 → kd v0 = .inl 7 → F_X8_advance f 3 [.ref v0] S = some res → zV G X (zQX G X (zPo G kd N0 res) 0 0) 1 [some (.ref (zB G + v0))] [] (cn G kd N0 S) 56 0 0) ∧
    (∀ (S : aS)  (res : Option Value × aS), zT0 kd N0 S → F_X8_advance f 4 [] S = some res → zV G X (zQX G X (zPo G kd N0 res) 0 0) 1 [none] [] (cn G kd N0 S) 172 0 0) := by
  intro f
  induction f with
  | zero => exact ⟨(fun _ _ _ _ _ _ h => by cases h), (fun _ _ _ _ _ _ h => by cases h), (fun _ _ _ _ _ _ h => by cases h), (fun _ _ _ _ _ _ h => by cases h), (fun _ _ _ h => by cases h)⟩
  | succ f ih =>
    obtain ⟨ih0, ih1, ih2, ih3, ih4⟩ := ih
    refine ⟨?_, ?_, ?_, ?_, ?_⟩
    · intro S v0 res hT hpv0 hkv0 hF
      replace hF : F_X8_advance_0 f (F_X8_advance f) v0 S = some res := hF
      unfold F_X8_advance_0 at hF
      refine z_aload_n C dX8_advance_0 rfl ?_
      refine f_gets C dX8_advance_1 fkRX8_15 (C.2.2.2.2.2.1.2.2.1 0 (by decide)).1 ?_
      refine f_putw C dX8_advance_4 zfRX8_21 fw7_6 hpv0 hkv0 rfl rfl rfl ?_
      have hT1 : zT0 kd N0 (sR S v0 6 0) := zT0_sR hT hkv0 (fun q hq => by cases hq) (fun _ _ => (by decide))
      replace hF := fS_e hF
      generalize sR S v0 6 0 = S1 at hF hT1 ⊢
      refine z_aload_n C dX8_advance_7 rfl ?_
      refine z_iconst (v := (-1)) C dX8_advance_8 (by decide) ?_
      refine f_puti C dX8_advance_9 zfRX8_41 fw7_8 hpv0 hkv0 rfl rfl rfl ?_
      have hT2 : zT0 kd N0 (sI S1 v0 8 ((-1))) := zT0_sI hT1
      replace hF := fS_e hF
      generalize sI S1 v0 8 ((-1)) = S2 at hF hT2 ⊢
      refine z_aload_n C dX8_advance_12 rfl ?_
      refine z_iconst (v := (-1)) C dX8_advance_13 (by decide) ?_
      refine f_puti C dX8_advance_14 zfRX8_44 fw7_9 hpv0 hkv0 rfl rfl rfl ?_
      have hT3 : zT0 kd N0 (sI S2 v0 9 ((-1))) := zT0_sI hT2
      replace hF := fS_e hF
      generalize sI S2 v0 9 ((-1)) = S3 at hF hT3 ⊢
      exact ih1 S3 v0 res hT3 hpv0 hkv0 hF
    · intro S v0 res hT hpv0 hkv0 hF
      replace hF : F_X8_advance_1 f (F_X8_advance f) v0 S = some res := hF
      unfold F_X8_advance_1 at hF
      refine z_aload_n C dX8_advance_17 rfl ?_
      refine f_geti C dX8_advance_18 zfRX8_32 hpv0 hkv0 rfl ?_
      refine z_aload_n C dX8_advance_21 rfl ?_
      refine f_geti C dX8_advance_22 zfRX8_24 hpv0 hkv0 rfl ?_
      refine z_icmp_ge C 69 dX8_advance_25 (by decide) (fun c6 => ?_) (fun c6 => ?_)
      · replace hF := ip hF c6
        exact ih2 S v0 res hT hpv0 hkv0 hF
      · replace hF := im hF c6
        refine z_aload_n C dX8_advance_28 rfl ?_
        refine f_getr C dX8_advance_29 zfRX8_11 hpv0 hkv0 rfl ?_
        obtain ⟨hp7, hk7⟩ := hT.1 v0 7 0 (.inr (2, 1000)) hpv0 hkv0 rfl
        refine z_aload_n C dX8_advance_32 rfl ?_
        refine f_geti C dX8_advance_33 zfRX8_32 hpv0 hkv0 rfl ?_
        obtain ⟨hi8, hF⟩ := bX_some hF
        obtain ⟨q8, eq8⟩ : ∃ q : Nat, q = Int32.toNatClampNeg (gI S v0 3) := ⟨_, rfl⟩
        rw [← eq8] at hF
        refine f_cald C dX8_advance_36 hp7 hk7 hi8 ?_
        rw [← eq8]
        refine z_bipush (v := 10) C dX8_advance_37 (by decide) ?_
        refine z_icmp_eq C 56 dX8_advance_39 (by decide) (fun c10 => ?_) (fun c10 => ?_)
        · replace hF := ip hF c10
          exact ih3 S v0 res hT hpv0 hkv0 hF
        · replace hF := im hF c10
          refine z_aload_n C dX8_advance_42 rfl ?_
          refine f_getr C dX8_advance_43 zfRX8_11 hpv0 hkv0 rfl ?_
          obtain ⟨hp11, hk11⟩ := hT.1 v0 7 0 (.inr (2, 1000)) hpv0 hkv0 rfl
          refine z_aload_n C dX8_advance_46 rfl ?_
          refine f_geti C dX8_advance_47 zfRX8_32 hpv0 hkv0 rfl ?_
          obtain ⟨hi12, hF⟩ := bX_some hF
          obtain ⟨q12, eq12⟩ : ∃ q : Nat, q = Int32.toNatClampNeg (gI S v0 3) := ⟨_, rfl⟩
          rw [← eq12] at hF
          refine f_cald C dX8_advance_50 hp11 hk11 hi12 ?_
          rw [← eq12]
          refine z_bipush (v := 32) C dX8_advance_51 (by decide) ?_
          refine z_icmp_ne C 69 dX8_advance_53 (by decide) (fun c14 => ?_) (fun c14 => ?_)
          · replace hF := im hF c14
            exact ih2 S v0 res hT hpv0 hkv0 hF
          · replace hF := ip hF c14
            exact ih3 S v0 res hT hpv0 hkv0 hF
    · intro S v0 res hT hpv0 hkv0 hF
      replace hF : F_X8_advance_2 f (F_X8_advance f) v0 S = some res := hF
      unfold F_X8_advance_2 at hF
      refine z_aload_n C dX8_advance_69 rfl ?_
      refine z_aload_n C dX8_advance_70 rfl ?_
      refine f_geti C dX8_advance_71 zfRX8_32 hpv0 hkv0 rfl ?_
      refine f_puti C dX8_advance_74 zfRX8_47 fw7_4 hpv0 hkv0 rfl rfl rfl ?_
      have hT15 : zT0 kd N0 (sI S v0 4 (gI S v0 3)) := zT0_sI hT
      replace hF := fS_e hF
      generalize sI S v0 4 (gI S v0 3) = S15 at hF hT15 ⊢
      refine z_aload_n C dX8_advance_77 rfl ?_
      refine z_aload_n C dX8_advance_78 rfl ?_
      refine f_geti C dX8_advance_79 zfRX8_32 hpv0 hkv0 rfl ?_
      refine z_aload_n C dX8_advance_82 rfl ?_
      refine f_geti C dX8_advance_83 zfRX8_24 hpv0 hkv0 rfl ?_
      have hJ17 : zV G X (zQX G X (zPo G kd N0 res) 0 0) 1 [some (.ref (zB G + v0))] [.int (if (gI S15 v0 3) < (gI S15 v0 1) then (0 : Int32) else (1 : Int32)), .ref (zB G + v0)] (cn G kd N0 S15) 94 0 0 := by
        obtain ⟨hz18, hF⟩ := bZ_some hF
        refine f_puti C dX8_advance_94 zfRX8_50 fw7_5 hpv0 hkv0 rfl hz18.1 hz18.2 ?_
        have hT19 : zT0 kd N0 (sI S15 v0 5 (if (gI S15 v0 3) < (gI S15 v0 1) then (0 : Int32) else (1 : Int32))) := zT0_sI hT15
        replace hF := fS_e hF
        generalize sI S15 v0 5 (if (gI S15 v0 3) < (gI S15 v0 1) then (0 : Int32) else (1 : Int32)) = S19 at hF hT19 ⊢
        refine z_aload_n C dX8_advance_97 rfl ?_
        refine f_geti C dX8_advance_98 zfRX8_50 hpv0 hkv0 rfl ?_
        refine z_if_eq C 105 dX8_advance_101 (by decide) (fun c20 => ?_) (fun c20 => ?_)
        · replace hF := ip hF c20
          refine z_aload_n C dX8_advance_105 rfl ?_
          refine f_getr C dX8_advance_106 zfRX8_11 hpv0 hkv0 rfl ?_
          obtain ⟨hp21, hk21⟩ := hT19.1 v0 7 0 (.inr (2, 1000)) hpv0 hkv0 rfl
          refine z_aload_n C dX8_advance_109 rfl ?_
          refine f_geti C dX8_advance_110 zfRX8_32 hpv0 hkv0 rfl ?_
          obtain ⟨hi22, hF⟩ := bX_some hF
          obtain ⟨q22, eq22⟩ : ∃ q : Nat, q = Int32.toNatClampNeg (gI S19 v0 3) := ⟨_, rfl⟩
          rw [← eq22] at hF
          refine f_cald C dX8_advance_113 hp21 hk21 hi22 ?_
          rw [← eq22]
          obtain ⟨x23, S23, h23, hF⟩ := bI_some hF
          refine f_cS (st2 := [.int x23]) C dX8_advance_114 zyX8_isLetter zsX8_isLetter lkRX8_54 (K_X8_isLetter (l := zXl X) hT19  h23) (by decide) rfl rfl (Nat.le_of_ble_eq_true rfl) rfl (fun hT23 => ?_)
          refine z_if_eq C 127 dX8_advance_117 (by decide) (fun c26 => ?_) (fun c26 => ?_)
          · replace hF := ip hF c26
            refine z_aload_n C dX8_advance_127 rfl ?_
            refine f_getr C dX8_advance_128 zfRX8_11 hpv0 hkv0 rfl ?_
            obtain ⟨hp27, hk27⟩ := hT23.1 v0 7 0 (.inr (2, 1000)) hpv0 hkv0 rfl
            refine z_aload_n C dX8_advance_131 rfl ?_
            refine f_geti C dX8_advance_132 zfRX8_32 hpv0 hkv0 rfl ?_
            obtain ⟨hi28, hF⟩ := bX_some hF
            obtain ⟨q28, eq28⟩ : ∃ q : Nat, q = Int32.toNatClampNeg (gI S23 v0 3) := ⟨_, rfl⟩
            rw [← eq28] at hF
            refine f_cald C dX8_advance_135 hp27 hk27 hi28 ?_
            rw [← eq28]
            obtain ⟨x29, S29, h29, hF⟩ := bI_some hF
            refine f_cS (st2 := [.int x29]) C dX8_advance_136 zyX8_isDigit zsX8_isDigit lkRX8_61 (K_X8_isDigit (l := zXl X) hT23  h29) (by decide) rfl rfl (Nat.le_of_ble_eq_true rfl) rfl (fun hT29 => ?_)
            refine z_if_eq C 149 dX8_advance_139 (by decide) (fun c32 => ?_) (fun c32 => ?_)
            · replace hF := ip hF c32
              refine z_aload_n C dX8_advance_149 rfl ?_
              refine z_aload_n C dX8_advance_150 rfl ?_
              refine f_getr C dX8_advance_151 zfRX8_11 hpv0 hkv0 rfl ?_
              obtain ⟨hp33, hk33⟩ := hT29.1 v0 7 0 (.inr (2, 1000)) hpv0 hkv0 rfl
              refine z_aload_n C dX8_advance_154 rfl ?_
              refine f_geti C dX8_advance_155 zfRX8_32 hpv0 hkv0 rfl ?_
              obtain ⟨hi34, hF⟩ := bX_some hF
              obtain ⟨q34, eq34⟩ : ∃ q : Nat, q = Int32.toNatClampNeg (gI S29 v0 3) := ⟨_, rfl⟩
              rw [← eq34] at hF
              refine f_cald C dX8_advance_158 hp33 hk33 hi34 ?_
              rw [← eq34]
              refine f_puti C dX8_advance_159 zfRX8_44 fw7_9 hpv0 hkv0 rfl rfl rfl ?_
              have hT35 : zT0 kd N0 (sI S29 v0 9 (gI S29 (gR S29 v0 0) q34)) := zT0_sI hT29
              replace hF := fS_e hF
              generalize sI S29 v0 9 (gI S29 (gR S29 v0 0) q34) = S35 at hF hT35 ⊢
              refine z_aload_n C dX8_advance_162 rfl ?_
              refine z_dup C dX8_advance_163 rfl ?_
              refine f_geti C dX8_advance_164 zfRX8_32 hpv0 hkv0 rfl ?_
              refine z_iconst (v := 1) C dX8_advance_167 (by decide) ?_
              refine z_iadd C dX8_advance_168 ?_
              refine f_puti C dX8_advance_169 zfRX8_32 fw7_3 hpv0 hkv0 rfl rfl rfl ?_
              have hT36 : zT0 kd N0 (sI S35 v0 3 ((gI S35 v0 3) + (1 : Int32))) := zT0_sI hT35
              replace hF := fS_e hF
              generalize sI S35 v0 3 ((gI S35 v0 3) + (1 : Int32)) = S36 at hF hT36 ⊢
              refine z_mask [false] ?_ rfl
              exact ih4 S36  res hT36  hF
            · replace hF := im hF c32
              refine z_aload_n C dX8_advance_142 rfl ?_
              obtain ⟨S37, h37, hF⟩ := bV_some hF
              refine f_cV (st2 := []) C dX8_advance_143 zyX8_readNumber zvX8_readNumber lkRX8_64 (K_X8_readNumber (l := zXl X) hT29 hpv0 hkv0 h37) hpv0 hkv0 rfl (by decide) rfl rfl (Nat.le_of_ble_eq_true rfl) rfl (fun hT37 => ?_)
              refine z_goto C 172 dX8_advance_146 (by decide) ?_
              refine z_mask [false] ?_ rfl
              exact ih4 S37  res hT37  hF
          · replace hF := im hF c26
            refine z_aload_n C dX8_advance_120 rfl ?_
            obtain ⟨S38, h38, hF⟩ := bV_some hF
            refine f_cV (st2 := []) C dX8_advance_121 zyX8_readWord zvX8_readWord lkRX8_58 (K_X8_readWord (l := zXl X) hT23 hpv0 hkv0 h38) hpv0 hkv0 rfl (by decide) rfl rfl (Nat.le_of_ble_eq_true rfl) rfl (fun hT38 => ?_)
            refine z_goto C 172 dX8_advance_124 (by decide) ?_
            refine z_mask [false] ?_ rfl
            exact ih4 S38  res hT38  hF
        · replace hF := im hF c20
          cases hF
          exact z_vret C hr dX8_advance_104 ⟨rfl, rfl, hT19⟩
      refine z_icmp_lt C 93 dX8_advance_86 (by decide) (fun c16 => ?_) (fun c16 => ?_)
      · refine z_iconst (v := 0) C dX8_advance_93 (by decide) ?_
        exact zV.at hJ17 (by first | rfl | contradiction | (simp only [if_pos c16]; done)) (by first | rfl | contradiction | (simp only [if_pos c16]; done)) rfl rfl
      · refine z_iconst (v := 1) C dX8_advance_89 (by decide) ?_
        refine z_goto C 94 dX8_advance_90 (by decide) ?_
        exact zV.at hJ17 (by first | rfl | contradiction | (simp only [if_neg c16]; done)) (by first | rfl | contradiction | (simp only [if_neg c16]; done)) rfl rfl
    · intro S v0 res hT hpv0 hkv0 hF
      replace hF : F_X8_advance_3 f (F_X8_advance f) v0 S = some res := hF
      unfold F_X8_advance_3 at hF
      refine z_aload_n C dX8_advance_56 rfl ?_
      refine z_dup C dX8_advance_57 rfl ?_
      refine f_geti C dX8_advance_58 zfRX8_32 hpv0 hkv0 rfl ?_
      refine z_iconst (v := 1) C dX8_advance_61 (by decide) ?_
      refine z_iadd C dX8_advance_62 ?_
      refine f_puti C dX8_advance_63 zfRX8_32 fw7_3 hpv0 hkv0 rfl rfl rfl ?_
      have hT39 : zT0 kd N0 (sI S v0 3 ((gI S v0 3) + (1 : Int32))) := zT0_sI hT
      replace hF := fS_e hF
      generalize sI S v0 3 ((gI S v0 3) + (1 : Int32)) = S39 at hF hT39 ⊢
      refine z_goto C 17 dX8_advance_66 (by decide) ?_
      exact ih1 S39 v0 res hT39 hpv0 hkv0 hF
    · intro S  res hT  hF
      replace hF : F_X8_advance_4 f (F_X8_advance f)  S = some res := hF
      unfold F_X8_advance_4 at hF
      cases hF
      exact z_vret C hr dX8_advance_172 ⟨rfl, rfl, hT⟩
theorem K_X8_advance {G : zG} {l : Launch} {kd : kD} {N0 f : Nat} {S : aS} {v0 : Nat} {res : Option Value × aS} (hT : zT0 kd N0 S) (hpv0 : v0 < N0) (hkv0 : kd v0 = .inl 7) (hF : F_X8_advance f 0 [.ref v0] S = some res) : zM G l 2 0 0 yX8_advance cX8_advance 1 none [.ref (zB G + v0)] (cn G kd N0 S) (zPo G kd N0 res) := zM.of (by decide) rfl (Nat.le_of_ble_eq_true rfl) (fun X _ C hr _ => (B_X8_advance C hr f).1 S v0 res hT hpv0 hkv0 hF)
def F_X8_pass_0 (f : Nat) (rc : Nat → List Value → aS → aR) (v0 : Nat) (v1 : Nat) (S : aS) : aR :=
  if (gR S v0 6) = v1 then bV (F_X8_advance f 0 [.ref v0] S) fun S3 => bZ 1 (some (some (.int 1), S3)) else bI (F_X8_fail f 0 [.ref v0, .int 1] S) fun x4 S4 => bZ x4 (some (some (.int x4), S4))
def F_X8_pass : Nat → Nat → List Value → aS → aR
  | 0, _, _, _ => none
  | f + 1, 0, vs, S => F_X8_pass_0 f (F_X8_pass f) (vR vs 0) (vR vs 1) S
  | _ + 1, _, _, _ => none
theorem dX8_pass_0 : decode cX8_pass 0 = .ok (.aload_n 0, 1) := by decide +kernel
theorem dX8_pass_1 : decode cX8_pass 1 = .ok (.getfield 21, 3) := by decide +kernel
theorem dX8_pass_4 : decode cX8_pass 4 = .ok (.aload_n 1, 1) := by decide +kernel
theorem dX8_pass_5 : decode cX8_pass 5 = .ok (.if_acmp .eq 9, 3) := by decide +kernel
theorem dX8_pass_8 : decode cX8_pass 8 = .ok (.aload_n 0, 1) := by decide +kernel
theorem dX8_pass_9 : decode cX8_pass 9 = .ok (.iconst 1, 1) := by decide +kernel
theorem dX8_pass_10 : decode cX8_pass 10 = .ok (.invokevirtual 79, 3) := by decide +kernel
theorem dX8_pass_13 : decode cX8_pass 13 = .ok (.ireturn, 1) := by decide +kernel
theorem dX8_pass_14 : decode cX8_pass 14 = .ok (.aload_n 0, 1) := by decide +kernel
theorem dX8_pass_15 : decode cX8_pass 15 = .ok (.invokevirtual 38, 3) := by decide +kernel
theorem dX8_pass_18 : decode cX8_pass 18 = .ok (.iconst 1, 1) := by decide +kernel
theorem dX8_pass_19 : decode cX8_pass 19 = .ok (.ireturn, 1) := by decide +kernel
set_option maxHeartbeats 4000000 in
set_option maxRecDepth 100000 in
theorem B_X8_pass {G : zG} {X : zX} {kd : kD} {N0 : Nat} (C : zCt G X 3 0 0 RX8 cX8_pass 2) (hr : (zXh X).sig.returnType = (some .boolean)) : ∀ f : Nat,
    (∀ (S : aS) (v0 : Nat) (v1 : Nat) (res : Option Value × aS), zT0 kd N0 S → v0 < N0 → kd v0 = .inl 7 → v1 < 31 → F_X8_pass f 0 [.ref v0, .ref v1] S = some res → zV G X (zQX G X (zPo G kd N0 res) 0 0) 2 [some (.ref (zB G + v0)), some (.ref (zC G v1))] [] (cn G kd N0 S) 0 0 0) := by
  intro f
  induction f with
  | zero => exact (fun _ _ _ _ _ _ _ _ h => by cases h)
  | succ f ih =>
    have ih0 := ih
    intro S v0 v1 res hT hpv0 hkv0 hwv1 hF
    replace hF : F_X8_pass_0 f (F_X8_pass f) v0 v1 S = some res := hF
    unfold F_X8_pass_0 at hF
    refine z_aload_n C dX8_pass_0 rfl ?_
    refine f_getw C dX8_pass_1 zfRX8_21 hpv0 hkv0 rfl ?_
    have hw1 := hT.2.2 v0 hpv0 hkv0
    refine z_aload_n C dX8_pass_4 rfl ?_
    refine z_acmp_eq C 14 dX8_pass_5 (by decide) (fun c2 => ?_) (fun c2 => ?_)
    · replace c2 := C.2.2.2.2.2.1.2.2.2.1 (gR S v0 6) v1 hw1 hwv1 c2
      replace hF := ip hF c2
      refine z_aload_n C dX8_pass_14 rfl ?_
      obtain ⟨S3, h3, hF⟩ := bV_some hF
      refine f_cV (st2 := []) C dX8_pass_15 zyX8_advance zvX8_advance lkRX8_38 (K_X8_advance (l := zXl X) hT hpv0 hkv0 h3) hpv0 hkv0 rfl (by decide) rfl rfl (Nat.le_of_ble_eq_true rfl) rfl (fun hT3 => ?_)
      refine z_iconst (v := 1) C dX8_pass_18 (by decide) ?_
      obtain ⟨hz, hF⟩ := bZ_some hF
      cases hF
      exact z_zret C hr hz.1 dX8_pass_19 ⟨rfl, rfl, hT3⟩
    · replace c2 : ¬ (gR S v0 6) = v1 := fun e => c2 (by rw [e])
      replace hF := im hF c2
      refine z_aload_n C dX8_pass_8 rfl ?_
      refine z_iconst (v := 1) C dX8_pass_9 (by decide) ?_
      obtain ⟨x4, S4, h4, hF⟩ := bI_some hF
      refine f_cV (st2 := [.int x4]) C dX8_pass_10 zyX8_fail zvX8_fail lkRX8_79 (K_X8_fail (l := zXl X) hT hpv0 hkv0  h4) hpv0 hkv0 rfl (by decide) rfl rfl (Nat.le_of_ble_eq_true rfl) rfl (fun hT4 => ?_)
      obtain ⟨hz, hF⟩ := bZ_some hF
      cases hF
      exact z_zret C hr hz.1 dX8_pass_13 ⟨rfl, rfl, hT4⟩
theorem K_X8_pass {G : zG} {l : Launch} {kd : kD} {N0 f : Nat} {S : aS} {v0 : Nat} {v1 : Nat} {res : Option Value × aS} (hT : zT0 kd N0 S) (hpv0 : v0 < N0) (hkv0 : kd v0 = .inl 7) (hwv1 : v1 < 31) (hF : F_X8_pass f 0 [.ref v0, .ref v1] S = some res) : zM G l 3 0 0 yX8_pass cX8_pass 2 (some .boolean) [.ref (zB G + v0), .ref (zC G v1)] (cn G kd N0 S) (zPo G kd N0 res) := zM.of (by decide) rfl (Nat.le_of_ble_eq_true rfl) (fun X _ C hr _ => (B_X8_pass C hr f) S v0 v1 res hT hpv0 hkv0 hwv1 hF)
def F_X8_pass__0 (f : Nat) (rc : Nat → List Value → aS → aR) (v0 : Nat) (v1 : Int32) (S : aS) : aR :=
  if (gI S v0 9) = v1 then bV (F_X8_advance f 0 [.ref v0] S) fun S2 => bZ 1 (some (some (.int 1), S2)) else bI (F_X8_fail f 0 [.ref v0, .int 1] S) fun x3 S3 => bZ x3 (some (some (.int x3), S3))
def F_X8_pass_ : Nat → Nat → List Value → aS → aR
  | 0, _, _, _ => none
  | f + 1, 0, vs, S => F_X8_pass__0 f (F_X8_pass_ f) (vR vs 0) (vI vs 1) S
  | _ + 1, _, _, _ => none
theorem dX8_pass__0 : decode cX8_pass_ 0 = .ok (.aload_n 0, 1) := by decide +kernel
theorem dX8_pass__1 : decode cX8_pass_ 1 = .ok (.getfield 44, 3) := by decide +kernel
theorem dX8_pass__4 : decode cX8_pass_ 4 = .ok (.iload_n 1, 1) := by decide +kernel
theorem dX8_pass__5 : decode cX8_pass_ 5 = .ok (.if_icmp .eq 9, 3) := by decide +kernel
theorem dX8_pass__8 : decode cX8_pass_ 8 = .ok (.aload_n 0, 1) := by decide +kernel
theorem dX8_pass__9 : decode cX8_pass_ 9 = .ok (.iconst 1, 1) := by decide +kernel
theorem dX8_pass__10 : decode cX8_pass_ 10 = .ok (.invokevirtual 79, 3) := by decide +kernel
theorem dX8_pass__13 : decode cX8_pass_ 13 = .ok (.ireturn, 1) := by decide +kernel
theorem dX8_pass__14 : decode cX8_pass_ 14 = .ok (.aload_n 0, 1) := by decide +kernel
theorem dX8_pass__15 : decode cX8_pass_ 15 = .ok (.invokevirtual 38, 3) := by decide +kernel
theorem dX8_pass__18 : decode cX8_pass_ 18 = .ok (.iconst 1, 1) := by decide +kernel
theorem dX8_pass__19 : decode cX8_pass_ 19 = .ok (.ireturn, 1) := by decide +kernel
set_option maxHeartbeats 4000000 in
set_option maxRecDepth 100000 in
theorem B_X8_pass_ {G : zG} {X : zX} {kd : kD} {N0 : Nat} (C : zCt G X 3 0 0 RX8 cX8_pass_ 2) (hr : (zXh X).sig.returnType = (some .boolean)) : ∀ f : Nat,
    (∀ (S : aS) (v0 : Nat) (v1 : Int32) (res : Option Value × aS), zT0 kd N0 S → v0 < N0 → kd v0 = .inl 7 → F_X8_pass_ f 0 [.ref v0, .int v1] S = some res → zV G X (zQX G X (zPo G kd N0 res) 0 0) 2 [some (.ref (zB G + v0)), some (.int v1)] [] (cn G kd N0 S) 0 0 0) := by
  intro f
  induction f with
  | zero => exact (fun _ _ _ _ _ _ _ h => by cases h)
  | succ f ih =>
    have ih0 := ih
    intro S v0 v1 res hT hpv0 hkv0 hF
    replace hF : F_X8_pass__0 f (F_X8_pass_ f) v0 v1 S = some res := hF
    unfold F_X8_pass__0 at hF
    refine z_aload_n C dX8_pass__0 rfl ?_
    refine f_geti C dX8_pass__1 zfRX8_44 hpv0 hkv0 rfl ?_
    refine z_iload_n C dX8_pass__4 rfl ?_
    refine z_icmp_eq C 14 dX8_pass__5 (by decide) (fun c1 => ?_) (fun c1 => ?_)
    · replace hF := ip hF c1
      refine z_aload_n C dX8_pass__14 rfl ?_
      obtain ⟨S2, h2, hF⟩ := bV_some hF
      refine f_cV (st2 := []) C dX8_pass__15 zyX8_advance zvX8_advance lkRX8_38 (K_X8_advance (l := zXl X) hT hpv0 hkv0 h2) hpv0 hkv0 rfl (by decide) rfl rfl (Nat.le_of_ble_eq_true rfl) rfl (fun hT2 => ?_)
      refine z_iconst (v := 1) C dX8_pass__18 (by decide) ?_
      obtain ⟨hz, hF⟩ := bZ_some hF
      cases hF
      exact z_zret C hr hz.1 dX8_pass__19 ⟨rfl, rfl, hT2⟩
    · replace hF := im hF c1
      refine z_aload_n C dX8_pass__8 rfl ?_
      refine z_iconst (v := 1) C dX8_pass__9 (by decide) ?_
      obtain ⟨x3, S3, h3, hF⟩ := bI_some hF
      refine f_cV (st2 := [.int x3]) C dX8_pass__10 zyX8_fail zvX8_fail lkRX8_79 (K_X8_fail (l := zXl X) hT hpv0 hkv0  h3) hpv0 hkv0 rfl (by decide) rfl rfl (Nat.le_of_ble_eq_true rfl) rfl (fun hT3 => ?_)
      obtain ⟨hz, hF⟩ := bZ_some hF
      cases hF
      exact z_zret C hr hz.1 dX8_pass__13 ⟨rfl, rfl, hT3⟩
theorem K_X8_pass_ {G : zG} {l : Launch} {kd : kD} {N0 f : Nat} {S : aS} {v0 : Nat} {v1 : Int32} {res : Option Value × aS} (hT : zT0 kd N0 S) (hpv0 : v0 < N0) (hkv0 : kd v0 = .inl 7) (hF : F_X8_pass_ f 0 [.ref v0, .int v1] S = some res) : zM G l 3 0 0 yX8_pass_ cX8_pass_ 2 (some .boolean) [.ref (zB G + v0), .int v1] (cn G kd N0 S) (zPo G kd N0 res) := zM.of (by decide) rfl (Nat.le_of_ble_eq_true rfl) (fun X _ C hr _ => (B_X8_pass_ C hr f) S v0 v1 res hT hpv0 hkv0 hF)
def F_X9_walkOf_0 (f : Nat) (rc : Nat → List Value → aS → aR) (v0 : Nat) (v1 : Int32) (v2 : Nat) (S : aS) : aR :=
  bV (F_X10_go f 0 [.ref (gR S v0 2), .ref (gR S v0 3), .ref v2, .int v1] S) fun S3 => some (some (.int (gI S3 (gR S3 v0 2) 0)), S3)
def F_X9_walkOf : Nat → Nat → List Value → aS → aR
  | 0, _, _, _ => none
  | f + 1, 0, vs, S => F_X9_walkOf_0 f (F_X9_walkOf f) (vR vs 0) (vI vs 1) (vR vs 2) S
  | _ + 1, _, _, _ => none
theorem dX9_walkOf_0 : decode cX9_walkOf 0 = .ok (.aload_n 0, 1) := by decide +kernel
theorem dX9_walkOf_1 : decode cX9_walkOf 1 = .ok (.getfield 21, 3) := by decide +kernel
theorem dX9_walkOf_4 : decode cX9_walkOf 4 = .ok (.aload_n 0, 1) := by decide +kernel
theorem dX9_walkOf_5 : decode cX9_walkOf 5 = .ok (.getfield 28, 3) := by decide +kernel
theorem dX9_walkOf_8 : decode cX9_walkOf 8 = .ok (.aload_n 2, 1) := by decide +kernel
theorem dX9_walkOf_9 : decode cX9_walkOf 9 = .ok (.iload_n 1, 1) := by decide +kernel
theorem dX9_walkOf_10 : decode cX9_walkOf 10 = .ok (.invokevirtual 32, 3) := by decide +kernel
theorem dX9_walkOf_13 : decode cX9_walkOf 13 = .ok (.aload_n 0, 1) := by decide +kernel
theorem dX9_walkOf_14 : decode cX9_walkOf 14 = .ok (.getfield 21, 3) := by decide +kernel
theorem dX9_walkOf_17 : decode cX9_walkOf 17 = .ok (.getfield 36, 3) := by decide +kernel
theorem dX9_walkOf_20 : decode cX9_walkOf 20 = .ok (.ireturn, 1) := by decide +kernel
set_option maxHeartbeats 4000000 in
set_option maxRecDepth 100000 in
theorem B_X9_walkOf {G : zG} {X : zX} {kd : kD} {N0 : Nat} (C : zCt G X 4 0 0 RX9 cX9_walkOf 3) (hr : (zXh X).sig.returnType = (some .int)) : ∀ f : Nat,
    (∀ (S : aS) (v0 : Nat) (v1 : Int32) (v2 : Nat) (res : Option Value × aS), zT0 kd N0 S → v0 < N0 → kd v0 = .inl 8 → v2 < N0 → kd v2 = .inl 3 → F_X9_walkOf f 0 [.ref v0, .int v1, .ref v2] S = some res → zV G X (zQX G X (zPo G kd N0 res) 0 0) 3 [some (.ref (zB G + v0)), some (.int v1), some (.ref (zB G + v2))] [] (cn G kd N0 S) 0 0 0) := by
  intro f
  induction f with
  | zero => exact (fun _ _ _ _ _ _ _ _ _ _ h => by cases h)
  | succ f ih =>
    have ih0 := ih
    intro S v0 v1 v2 res hT hpv0 hkv0 hpv2 hkv2 hF
    replace hF : F_X9_walkOf_0 f (F_X9_walkOf f) v0 v1 v2 S = some res := hF
    unfold F_X9_walkOf_0 at hF
    refine z_aload_n C dX9_walkOf_0 rfl ?_
    refine f_getr C dX9_walkOf_1 zfRX9_21 hpv0 hkv0 rfl ?_
    obtain ⟨hp1, hk1⟩ := hT.1 v0 8 2 (.inl 9) hpv0 hkv0 rfl
    refine z_aload_n C dX9_walkOf_4 rfl ?_
    refine f_getr C dX9_walkOf_5 zfRX9_28 hpv0 hkv0 rfl ?_
    obtain ⟨hp2, hk2⟩ := hT.1 v0 8 3 (.inl 5) hpv0 hkv0 rfl
    refine z_aload_n C dX9_walkOf_8 rfl ?_
    refine z_iload_n C dX9_walkOf_9 rfl ?_
    obtain ⟨S3, h3, hF⟩ := bV_some hF
    refine f_cV (st2 := []) C dX9_walkOf_10 zyX10_go zvX10_go lkRX9_32 (K_X10_go (l := zXl X) hT hp1 hk1 hp2 hk2 hpv2 hkv2  h3) hp1 hk1 rfl (by decide) rfl rfl (Nat.le_of_ble_eq_true rfl) rfl (fun hT3 => ?_)
    refine z_aload_n C dX9_walkOf_13 rfl ?_
    refine f_getr C dX9_walkOf_14 zfRX9_21 hpv0 hkv0 rfl ?_
    obtain ⟨hp4, hk4⟩ := hT3.1 v0 8 2 (.inl 9) hpv0 hkv0 rfl
    refine f_geti C dX9_walkOf_17 zfRX9_36 hp4 hk4 rfl ?_
    cases hF
    exact z_iret C hr dX9_walkOf_20 ⟨rfl, rfl, hT3⟩
theorem K_X9_walkOf {G : zG} {l : Launch} {kd : kD} {N0 f : Nat} {S : aS} {v0 : Nat} {v1 : Int32} {v2 : Nat} {res : Option Value × aS} (hT : zT0 kd N0 S) (hpv0 : v0 < N0) (hkv0 : kd v0 = .inl 8) (hpv2 : v2 < N0) (hkv2 : kd v2 = .inl 3) (hF : F_X9_walkOf f 0 [.ref v0, .int v1, .ref v2] S = some res) : zM G l 4 0 0 yX9_walkOf cX9_walkOf 3 (some .int) [.ref (zB G + v0), .int v1, .ref (zB G + v2)] (cn G kd N0 S) (zPo G kd N0 res) := zM.of (by decide) rfl (Nat.le_of_ble_eq_true rfl) (fun X _ C hr _ => (B_X9_walkOf C hr f) S v0 v1 v2 res hT hpv0 hkv0 hpv2 hkv2 hF)
def F_X9_allWalkBut_0 (f : Nat) (rc : Nat → List Value → aS → aR) (v0 : Nat) (v1 : Int32) (v2 : Nat) (S : aS) : aR :=
  rc 1 [.ref v0, .int v1, .ref v2, .int 0] S
def F_X9_allWalkBut_1 (f : Nat) (rc : Nat → List Value → aS → aR) (v0 : Nat) (v1 : Int32) (v2 : Nat) (v3 : Int32) (S : aS) : aR :=
  if (gI S (gR S v0 3) 1) ≤ v3 then some (none, S) else if v3 = v1 then rc 2 [.ref v0, .int v1, .ref v2, .int v3] S else bV (F_X10_go f 0 [.ref (gR S v0 2), .ref (gR S v0 3), .ref v2, .int v3] S) fun S11 => rc 2 [.ref v0, .int v1, .ref v2, .int v3] S11
def F_X9_allWalkBut_2 (f : Nat) (rc : Nat → List Value → aS → aR) (v0 : Nat) (v1 : Int32) (v2 : Nat) (v3 : Int32) (S : aS) : aR :=
  rc 1 [.ref v0, .int v1, .ref v2, .int (v3 + 1)] S
def F_X9_allWalkBut : Nat → Nat → List Value → aS → aR
  | 0, _, _, _ => none
  | f + 1, 0, vs, S => F_X9_allWalkBut_0 f (F_X9_allWalkBut f) (vR vs 0) (vI vs 1) (vR vs 2) S
  | f + 1, 1, vs, S => F_X9_allWalkBut_1 f (F_X9_allWalkBut f) (vR vs 0) (vI vs 1) (vR vs 2) (vI vs 3) S
  | f + 1, 2, vs, S => F_X9_allWalkBut_2 f (F_X9_allWalkBut f) (vR vs 0) (vI vs 1) (vR vs 2) (vI vs 3) S
  | _ + 1, _, _, _ => none
theorem dX9_allWalkBut_0 : decode cX9_allWalkBut 0 = .ok (.iconst 0, 1) := by decide +kernel
theorem dX9_allWalkBut_1 : decode cX9_allWalkBut 1 = .ok (.istore_n 3, 1) := by decide +kernel
theorem dX9_allWalkBut_2 : decode cX9_allWalkBut 2 = .ok (.iload_n 3, 1) := by decide +kernel
theorem dX9_allWalkBut_3 : decode cX9_allWalkBut 3 = .ok (.aload_n 0, 1) := by decide +kernel
theorem dX9_allWalkBut_4 : decode cX9_allWalkBut 4 = .ok (.getfield 28, 3) := by decide +kernel
theorem dX9_allWalkBut_7 : decode cX9_allWalkBut 7 = .ok (.getfield 40, 3) := by decide +kernel
theorem dX9_allWalkBut_10 : decode cX9_allWalkBut 10 = .ok (.if_icmp .ge 27, 3) := by decide +kernel
theorem dX9_allWalkBut_13 : decode cX9_allWalkBut 13 = .ok (.iload_n 3, 1) := by decide +kernel
theorem dX9_allWalkBut_14 : decode cX9_allWalkBut 14 = .ok (.iload_n 1, 1) := by decide +kernel
theorem dX9_allWalkBut_15 : decode cX9_allWalkBut 15 = .ok (.if_icmp .eq 16, 3) := by decide +kernel
theorem dX9_allWalkBut_18 : decode cX9_allWalkBut 18 = .ok (.aload_n 0, 1) := by decide +kernel
theorem dX9_allWalkBut_19 : decode cX9_allWalkBut 19 = .ok (.getfield 21, 3) := by decide +kernel
theorem dX9_allWalkBut_22 : decode cX9_allWalkBut 22 = .ok (.aload_n 0, 1) := by decide +kernel
theorem dX9_allWalkBut_23 : decode cX9_allWalkBut 23 = .ok (.getfield 28, 3) := by decide +kernel
theorem dX9_allWalkBut_26 : decode cX9_allWalkBut 26 = .ok (.aload_n 2, 1) := by decide +kernel
theorem dX9_allWalkBut_27 : decode cX9_allWalkBut 27 = .ok (.iload_n 3, 1) := by decide +kernel
theorem dX9_allWalkBut_28 : decode cX9_allWalkBut 28 = .ok (.invokevirtual 32, 3) := by decide +kernel
theorem dX9_allWalkBut_31 : decode cX9_allWalkBut 31 = .ok (.iinc 3 1, 3) := by decide +kernel
theorem dX9_allWalkBut_34 : decode cX9_allWalkBut 34 = .ok (.goto (-32), 3) := by decide +kernel
theorem dX9_allWalkBut_37 : decode cX9_allWalkBut 37 = .ok (.return_, 1) := by decide +kernel
set_option maxHeartbeats 4000000 in
set_option maxRecDepth 100000 in
theorem B_X9_allWalkBut {G : zG} {X : zX} {kd : kD} {N0 : Nat} (C : zCt G X 4 0 0 RX9 cX9_allWalkBut 4) (hr : (zXh X).sig.returnType = none) : ∀ f : Nat,
    (∀ (S : aS) (v0 : Nat) (v1 : Int32) (v2 : Nat) (res : Option Value × aS), zT0 kd N0 S → v0 < N0 → kd v0 = .inl 8 → v2 < N0 → kd v2 = .inl 3 → F_X9_allWalkBut f 0 [.ref v0, .int v1, .ref v2] S = some res → zV G X (zQX G X (zPo G kd N0 res) 0 0) 4 [some (.ref (zB G + v0)), some (.int v1), some (.ref (zB G + v2)), none] [] (cn G kd N0 S) 0 0 0) ∧
    (∀ (S : aS) (v0 : Nat) (v1 : Int32) (v2 : Nat) (v3 : Int32) (res : Option Value × aS), zT0 kd N0 S → v0 < N0 → kd v0 = .inl 8 → v2 < N0 → kd v2 = .inl 3 → F_X9_allWalkBut f 1 [.ref v0, .int v1, .ref v2, .int v3] S = some res → zV G X (zQX G X (zPo G kd N0 res) 0 0) 4 [some (.ref (zB G + v0)), some (.int v1), some (.ref (zB G + v2)), some (.int v3)] [] (cn G kd N0 S) 2 0 0) ∧
    (∀ (S : aS) (v0 : Nat) (v1 : Int32) (v2 : Nat) (v3 : Int32) (res : Option Value × aS), zT0 kd N0 S → v0 < N0 → kd v0 = .inl 8 → v2 < N0 → kd v2 = .inl 3 → F_X9_allWalkBut f 2 [.ref v0, .int v1, .ref v2, .int v3] S = some res → zV G X (zQX G X (zPo G kd N0 res) 0 0) 4 [some (.ref (zB G + v0)), some (.int v1), some (.ref (zB G + v2)), some (.int v3)] [] (cn G kd N0 S) 31 0 0) := by
  intro f
  induction f with
  | zero => exact ⟨(fun _ _ _ _ _ _ _ _ _ _ h => by cases h), (fun _ _ _ _ _ _ _ _ _ _ _ h => by cases h), (fun _ _ _ _ _ _ _ _ _ _ _ h => by cases h)⟩
  | succ f ih =>
    obtain ⟨ih0, ih1, ih2⟩ := ih
    refine ⟨?_, ?_, ?_⟩
    · intro S v0 v1 v2 res hT hpv0 hkv0 hpv2 hkv2 hF
      replace hF : F_X9_allWalkBut_0 f (F_X9_allWalkBut f) v0 v1 v2 S = some res := hF
      unfold F_X9_allWalkBut_0 at hF
      refine z_iconst (v := 0) C dX9_allWalkBut_0 (by decide) ?_
      refine z_istore_n (lv2 := [some (.ref (zB G + v0)), some (.int v1), some (.ref (zB G + v2)), some (.int 0)]) C dX9_allWalkBut_1 (by decide) rfl ?_
      exact ih1 S v0 v1 v2 0 res hT hpv0 hkv0  hpv2 hkv2  hF
    · intro S v0 v1 v2 v3 res hT hpv0 hkv0 hpv2 hkv2 hF
      replace hF : F_X9_allWalkBut_1 f (F_X9_allWalkBut f) v0 v1 v2 v3 S = some res := hF
      unfold F_X9_allWalkBut_1 at hF
      refine z_iload_n C dX9_allWalkBut_2 rfl ?_
      refine z_aload_n C dX9_allWalkBut_3 rfl ?_
      refine f_getr C dX9_allWalkBut_4 zfRX9_28 hpv0 hkv0 rfl ?_
      obtain ⟨hp1, hk1⟩ := hT.1 v0 8 3 (.inl 5) hpv0 hkv0 rfl
      refine f_geti C dX9_allWalkBut_7 zfRX9_40 hp1 hk1 rfl ?_
      refine z_icmp_ge C 37 dX9_allWalkBut_10 (by decide) (fun c4 => ?_) (fun c4 => ?_)
      · replace hF := ip hF c4
        cases hF
        exact z_vret C hr dX9_allWalkBut_37 ⟨rfl, rfl, hT⟩
      · replace hF := im hF c4
        refine z_iload_n C dX9_allWalkBut_13 rfl ?_
        refine z_iload_n C dX9_allWalkBut_14 rfl ?_
        refine z_icmp_eq C 31 dX9_allWalkBut_15 (by decide) (fun c8 => ?_) (fun c8 => ?_)
        · replace hF := ip hF c8
          exact ih2 S v0 v1 v2 v3 res hT hpv0 hkv0  hpv2 hkv2  hF
        · replace hF := im hF c8
          refine z_aload_n C dX9_allWalkBut_18 rfl ?_
          refine f_getr C dX9_allWalkBut_19 zfRX9_21 hpv0 hkv0 rfl ?_
          obtain ⟨hp9, hk9⟩ := hT.1 v0 8 2 (.inl 9) hpv0 hkv0 rfl
          refine z_aload_n C dX9_allWalkBut_22 rfl ?_
          refine f_getr C dX9_allWalkBut_23 zfRX9_28 hpv0 hkv0 rfl ?_
          obtain ⟨hp10, hk10⟩ := hT.1 v0 8 3 (.inl 5) hpv0 hkv0 rfl
          refine z_aload_n C dX9_allWalkBut_26 rfl ?_
          refine z_iload_n C dX9_allWalkBut_27 rfl ?_
          obtain ⟨S11, h11, hF⟩ := bV_some hF
          refine f_cV (st2 := []) C dX9_allWalkBut_28 zyX10_go zvX10_go lkRX9_32 (K_X10_go (l := zXl X) hT hp9 hk9 hp10 hk10 hpv2 hkv2  h11) hp9 hk9 rfl (by decide) rfl rfl (Nat.le_of_ble_eq_true rfl) rfl (fun hT11 => ?_)
          exact ih2 S11 v0 v1 v2 v3 res hT11 hpv0 hkv0  hpv2 hkv2  hF
    · intro S v0 v1 v2 v3 res hT hpv0 hkv0 hpv2 hkv2 hF
      replace hF : F_X9_allWalkBut_2 f (F_X9_allWalkBut f) v0 v1 v2 v3 S = some res := hF
      unfold F_X9_allWalkBut_2 at hF
      refine z_iinc (v := v3 + 1) (lv2 := [some (.ref (zB G + v0)), some (.int v1), some (.ref (zB G + v2)), some (.int (v3 + 1))]) C dX9_allWalkBut_31 rfl (by rw [show Int32.ofInt 1 = (1 : Int32) from by decide]) rfl ?_
      refine z_goto C 2 dX9_allWalkBut_34 (by decide) ?_
      exact ih1 S v0 v1 v2 (v3 + 1) res hT hpv0 hkv0  hpv2 hkv2  hF
theorem K_X9_allWalkBut {G : zG} {l : Launch} {kd : kD} {N0 f : Nat} {S : aS} {v0 : Nat} {v1 : Int32} {v2 : Nat} {res : Option Value × aS} (hT : zT0 kd N0 S) (hpv0 : v0 < N0) (hkv0 : kd v0 = .inl 8) (hpv2 : v2 < N0) (hkv2 : kd v2 = .inl 3) (hF : F_X9_allWalkBut f 0 [.ref v0, .int v1, .ref v2] S = some res) : zM G l 4 0 0 yX9_allWalkBut cX9_allWalkBut 4 none [.ref (zB G + v0), .int v1, .ref (zB G + v2)] (cn G kd N0 S) (zPo G kd N0 res) := zM.of (by decide) rfl (Nat.le_of_ble_eq_true rfl) (fun X _ C hr _ => (B_X9_allWalkBut C hr f).1 S v0 v1 v2 res hT hpv0 hkv0 hpv2 hkv2 hF)
def F_X9_liesAfterAll_0 (f : Nat) (rc : Nat → List Value → aS → aR) (v0 : Nat) (v1 : Int32) (S : aS) : aR :=
  bV (F_X4_become f 0 [.ref (gR S v0 1), .ref (gR S v0 0)] S) fun S3 => bV (F_X9_allWalkBut f 0 [.ref v0, .int v1, .ref (gR S3 v0 1)] S3) fun S5 => bI (F_X4_total f 0 [.ref (gR S5 v0 1)] S5) fun x7 S7 => some (some (.int x7), S7)
def F_X9_liesAfterAll : Nat → Nat → List Value → aS → aR
  | 0, _, _, _ => none
  | f + 1, 0, vs, S => F_X9_liesAfterAll_0 f (F_X9_liesAfterAll f) (vR vs 0) (vI vs 1) S
  | _ + 1, _, _, _ => none
theorem dX9_liesAfterAll_0 : decode cX9_liesAfterAll 0 = .ok (.aload_n 0, 1) := by decide +kernel
theorem dX9_liesAfterAll_1 : decode cX9_liesAfterAll 1 = .ok (.getfield 12, 3) := by decide +kernel
theorem dX9_liesAfterAll_4 : decode cX9_liesAfterAll 4 = .ok (.aload_n 0, 1) := by decide +kernel
theorem dX9_liesAfterAll_5 : decode cX9_liesAfterAll 5 = .ok (.getfield 25, 3) := by decide +kernel
theorem dX9_liesAfterAll_8 : decode cX9_liesAfterAll 8 = .ok (.invokevirtual 45, 3) := by decide +kernel
theorem dX9_liesAfterAll_11 : decode cX9_liesAfterAll 11 = .ok (.aload_n 0, 1) := by decide +kernel
theorem dX9_liesAfterAll_12 : decode cX9_liesAfterAll 12 = .ok (.iload_n 1, 1) := by decide +kernel
theorem dX9_liesAfterAll_13 : decode cX9_liesAfterAll 13 = .ok (.aload_n 0, 1) := by decide +kernel
theorem dX9_liesAfterAll_14 : decode cX9_liesAfterAll 14 = .ok (.getfield 12, 3) := by decide +kernel
theorem dX9_liesAfterAll_17 : decode cX9_liesAfterAll 17 = .ok (.invokevirtual 49, 3) := by decide +kernel
theorem dX9_liesAfterAll_20 : decode cX9_liesAfterAll 20 = .ok (.aload_n 0, 1) := by decide +kernel
theorem dX9_liesAfterAll_21 : decode cX9_liesAfterAll 21 = .ok (.getfield 12, 3) := by decide +kernel
theorem dX9_liesAfterAll_24 : decode cX9_liesAfterAll 24 = .ok (.invokevirtual 53, 3) := by decide +kernel
theorem dX9_liesAfterAll_27 : decode cX9_liesAfterAll 27 = .ok (.ireturn, 1) := by decide +kernel
set_option maxHeartbeats 4000000 in
set_option maxRecDepth 100000 in
theorem B_X9_liesAfterAll {G : zG} {X : zX} {kd : kD} {N0 : Nat} (C : zCt G X 5 0 0 RX9 cX9_liesAfterAll 2) (hr : (zXh X).sig.returnType = (some .int)) : ∀ f : Nat,
    (∀ (S : aS) (v0 : Nat) (v1 : Int32) (res : Option Value × aS), zT0 kd N0 S → v0 < N0 → kd v0 = .inl 8 → F_X9_liesAfterAll f 0 [.ref v0, .int v1] S = some res → zV G X (zQX G X (zPo G kd N0 res) 0 0) 2 [some (.ref (zB G + v0)), some (.int v1)] [] (cn G kd N0 S) 0 0 0) := by
  intro f
  induction f with
  | zero => exact (fun _ _ _ _ _ _ _ h => by cases h)
  | succ f ih =>
    have ih0 := ih
    intro S v0 v1 res hT hpv0 hkv0 hF
    replace hF : F_X9_liesAfterAll_0 f (F_X9_liesAfterAll f) v0 v1 S = some res := hF
    unfold F_X9_liesAfterAll_0 at hF
    refine z_aload_n C dX9_liesAfterAll_0 rfl ?_
    refine f_getr C dX9_liesAfterAll_1 zfRX9_12 hpv0 hkv0 rfl ?_
    obtain ⟨hp1, hk1⟩ := hT.1 v0 8 1 (.inl 3) hpv0 hkv0 rfl
    refine z_aload_n C dX9_liesAfterAll_4 rfl ?_
    refine f_getr C dX9_liesAfterAll_5 zfRX9_25 hpv0 hkv0 rfl ?_
    obtain ⟨hp2, hk2⟩ := hT.1 v0 8 0 (.inl 3) hpv0 hkv0 rfl
    obtain ⟨S3, h3, hF⟩ := bV_some hF
    refine f_cV (st2 := []) C dX9_liesAfterAll_8 zyX4_become zvX4_become lkRX9_45 (K_X4_become (l := zXl X) hT hp1 hk1 hp2 hk2 h3) hp1 hk1 rfl (by decide) rfl rfl (Nat.le_of_ble_eq_true rfl) rfl (fun hT3 => ?_)
    refine z_aload_n C dX9_liesAfterAll_11 rfl ?_
    refine z_iload_n C dX9_liesAfterAll_12 rfl ?_
    refine z_aload_n C dX9_liesAfterAll_13 rfl ?_
    refine f_getr C dX9_liesAfterAll_14 zfRX9_12 hpv0 hkv0 rfl ?_
    obtain ⟨hp4, hk4⟩ := hT3.1 v0 8 1 (.inl 3) hpv0 hkv0 rfl
    obtain ⟨S5, h5, hF⟩ := bV_some hF
    refine f_cV (st2 := []) C dX9_liesAfterAll_17 zyX9_allWalkBut zvX9_allWalkBut lkRX9_49 (K_X9_allWalkBut (l := zXl X) hT3 hpv0 hkv0  hp4 hk4 h5) hpv0 hkv0 rfl (by decide) rfl rfl (Nat.le_of_ble_eq_true rfl) rfl (fun hT5 => ?_)
    refine z_aload_n C dX9_liesAfterAll_20 rfl ?_
    refine f_getr C dX9_liesAfterAll_21 zfRX9_12 hpv0 hkv0 rfl ?_
    obtain ⟨hp6, hk6⟩ := hT5.1 v0 8 1 (.inl 3) hpv0 hkv0 rfl
    obtain ⟨x7, S7, h7, hF⟩ := bI_some hF
    refine f_cV (st2 := [.int x7]) C dX9_liesAfterAll_24 zyX4_total zvX4_total lkRX9_53 (K_X4_total (l := zXl X) hT5 hp6 hk6 h7) hp6 hk6 rfl (by decide) rfl rfl (Nat.le_of_ble_eq_true rfl) rfl (fun hT7 => ?_)
    cases hF
    exact z_iret C hr dX9_liesAfterAll_27 ⟨rfl, rfl, hT7⟩
theorem K_X9_liesAfterAll {G : zG} {l : Launch} {kd : kD} {N0 f : Nat} {S : aS} {v0 : Nat} {v1 : Int32} {res : Option Value × aS} (hT : zT0 kd N0 S) (hpv0 : v0 < N0) (hkv0 : kd v0 = .inl 8) (hF : F_X9_liesAfterAll f 0 [.ref v0, .int v1] S = some res) : zM G l 5 0 0 yX9_liesAfterAll cX9_liesAfterAll 2 (some .int) [.ref (zB G + v0), .int v1] (cn G kd N0 S) (zPo G kd N0 res) := zM.of (by decide) rfl (Nat.le_of_ble_eq_true rfl) (fun X _ C hr _ => (B_X9_liesAfterAll C hr f) S v0 v1 res hT hpv0 hkv0 hF)
def F_X9_changeBy_0 (f : Nat) (rc : Nat → List Value → aS → aR) (v0 : Nat) (v1 : Int32) (v2 : Int32) (S : aS) : aR :=
  bV (F_X4_become f 0 [.ref (gR S v0 1), .ref (gR S v0 0)] S) fun S3 => bI (F_X9_walkOf f 0 [.ref v0, .int v1, .ref (gR S3 v0 1)] S3) fun x5 S5 => if v2 = 8 then bI (F_X4_total f 0 [.ref (gR S5 v0 1)] S5) fun x8 S8 => bI (F_X4_total f 0 [.ref (gR S8 v0 0)] S8) fun x10 S10 => some (some (.int (x8 - x10)), S10) else if v2 = 9 then some (some (.int (gI S5 (gR S5 v0 2) 0)), S5) else if v2 = 10 then some (some (.int (gI S5 (gR S5 v0 2) 1)), S5) else if v2 = 11 then some (some (.int (gI S5 (gR S5 v0 2) 2)), S5) else bI (F_X4_hasYard f 0 [.ref (gR S5 v0 0), .int v2] S5) fun x19 S19 => if x19 = (0 : Int32) then rc 1 [.int 0] S19 else bX v2 8 fun q26 => bX v2 8 fun q29 => rc 1 [.int ((gI S19 (gR S19 (gR S19 v0 1) 1) q26) - (gI S19 (gR S19 (gR S19 v0 0) 1) q29))] S19
def F_X9_changeBy_1 (f : Nat) (rc : Nat → List Value → aS → aR) (w0 : Int32) (S : aS) : aR :=
  some (some (.int w0), S)
def F_X9_changeBy : Nat → Nat → List Value → aS → aR
  | 0, _, _, _ => none
  | f + 1, 0, vs, S => F_X9_changeBy_0 f (F_X9_changeBy f) (vR vs 0) (vI vs 1) (vI vs 2) S
  | f + 1, 1, vs, S => F_X9_changeBy_1 f (F_X9_changeBy f) (vI vs 0) S
  | _ + 1, _, _, _ => none
theorem dX9_changeBy_0 : decode cX9_changeBy 0 = .ok (.aload_n 0, 1) := by decide +kernel
theorem dX9_changeBy_1 : decode cX9_changeBy 1 = .ok (.getfield 12, 3) := by decide +kernel
theorem dX9_changeBy_4 : decode cX9_changeBy 4 = .ok (.aload_n 0, 1) := by decide +kernel
theorem dX9_changeBy_5 : decode cX9_changeBy 5 = .ok (.getfield 25, 3) := by decide +kernel
theorem dX9_changeBy_8 : decode cX9_changeBy 8 = .ok (.invokevirtual 45, 3) := by decide +kernel
theorem dX9_changeBy_11 : decode cX9_changeBy 11 = .ok (.aload_n 0, 1) := by decide +kernel
theorem dX9_changeBy_12 : decode cX9_changeBy 12 = .ok (.iload_n 1, 1) := by decide +kernel
theorem dX9_changeBy_13 : decode cX9_changeBy 13 = .ok (.aload_n 0, 1) := by decide +kernel
theorem dX9_changeBy_14 : decode cX9_changeBy 14 = .ok (.getfield 12, 3) := by decide +kernel
theorem dX9_changeBy_17 : decode cX9_changeBy 17 = .ok (.invokevirtual 57, 3) := by decide +kernel
theorem dX9_changeBy_20 : decode cX9_changeBy 20 = .ok (.pop, 1) := by decide +kernel
theorem dX9_changeBy_21 : decode cX9_changeBy 21 = .ok (.iload_n 2, 1) := by decide +kernel
theorem dX9_changeBy_22 : decode cX9_changeBy 22 = .ok (.tableswitch 70 8 11 #[30, 46, 54, 62], 30) := by decide +kernel
theorem dX9_changeBy_52 : decode cX9_changeBy 52 = .ok (.aload_n 0, 1) := by decide +kernel
theorem dX9_changeBy_53 : decode cX9_changeBy 53 = .ok (.getfield 12, 3) := by decide +kernel
theorem dX9_changeBy_56 : decode cX9_changeBy 56 = .ok (.invokevirtual 53, 3) := by decide +kernel
theorem dX9_changeBy_59 : decode cX9_changeBy 59 = .ok (.aload_n 0, 1) := by decide +kernel
theorem dX9_changeBy_60 : decode cX9_changeBy 60 = .ok (.getfield 25, 3) := by decide +kernel
theorem dX9_changeBy_63 : decode cX9_changeBy 63 = .ok (.invokevirtual 53, 3) := by decide +kernel
theorem dX9_changeBy_66 : decode cX9_changeBy 66 = .ok (.isub, 1) := by decide +kernel
theorem dX9_changeBy_67 : decode cX9_changeBy 67 = .ok (.ireturn, 1) := by decide +kernel
theorem dX9_changeBy_68 : decode cX9_changeBy 68 = .ok (.aload_n 0, 1) := by decide +kernel
theorem dX9_changeBy_69 : decode cX9_changeBy 69 = .ok (.getfield 21, 3) := by decide +kernel
theorem dX9_changeBy_72 : decode cX9_changeBy 72 = .ok (.getfield 36, 3) := by decide +kernel
theorem dX9_changeBy_75 : decode cX9_changeBy 75 = .ok (.ireturn, 1) := by decide +kernel
theorem dX9_changeBy_76 : decode cX9_changeBy 76 = .ok (.aload_n 0, 1) := by decide +kernel
theorem dX9_changeBy_77 : decode cX9_changeBy 77 = .ok (.getfield 21, 3) := by decide +kernel
theorem dX9_changeBy_80 : decode cX9_changeBy 80 = .ok (.getfield 61, 3) := by decide +kernel
theorem dX9_changeBy_83 : decode cX9_changeBy 83 = .ok (.ireturn, 1) := by decide +kernel
theorem dX9_changeBy_84 : decode cX9_changeBy 84 = .ok (.aload_n 0, 1) := by decide +kernel
theorem dX9_changeBy_85 : decode cX9_changeBy 85 = .ok (.getfield 21, 3) := by decide +kernel
theorem dX9_changeBy_88 : decode cX9_changeBy 88 = .ok (.getfield 64, 3) := by decide +kernel
theorem dX9_changeBy_91 : decode cX9_changeBy 91 = .ok (.ireturn, 1) := by decide +kernel
theorem dX9_changeBy_92 : decode cX9_changeBy 92 = .ok (.aload_n 0, 1) := by decide +kernel
theorem dX9_changeBy_93 : decode cX9_changeBy 93 = .ok (.getfield 25, 3) := by decide +kernel
theorem dX9_changeBy_96 : decode cX9_changeBy 96 = .ok (.iload_n 2, 1) := by decide +kernel
theorem dX9_changeBy_97 : decode cX9_changeBy 97 = .ok (.invokevirtual 67, 3) := by decide +kernel
theorem dX9_changeBy_100 : decode cX9_changeBy 100 = .ok (.ifCond .eq 25, 3) := by decide +kernel
theorem dX9_changeBy_103 : decode cX9_changeBy 103 = .ok (.aload_n 0, 1) := by decide +kernel
theorem dX9_changeBy_104 : decode cX9_changeBy 104 = .ok (.getfield 12, 3) := by decide +kernel
theorem dX9_changeBy_107 : decode cX9_changeBy 107 = .ok (.getfield 71, 3) := by decide +kernel
theorem dX9_changeBy_110 : decode cX9_changeBy 110 = .ok (.iload_n 2, 1) := by decide +kernel
theorem dX9_changeBy_111 : decode cX9_changeBy 111 = .ok (.iaload, 1) := by decide +kernel
theorem dX9_changeBy_112 : decode cX9_changeBy 112 = .ok (.aload_n 0, 1) := by decide +kernel
theorem dX9_changeBy_113 : decode cX9_changeBy 113 = .ok (.getfield 25, 3) := by decide +kernel
theorem dX9_changeBy_116 : decode cX9_changeBy 116 = .ok (.getfield 71, 3) := by decide +kernel
theorem dX9_changeBy_119 : decode cX9_changeBy 119 = .ok (.iload_n 2, 1) := by decide +kernel
theorem dX9_changeBy_120 : decode cX9_changeBy 120 = .ok (.iaload, 1) := by decide +kernel
theorem dX9_changeBy_121 : decode cX9_changeBy 121 = .ok (.isub, 1) := by decide +kernel
theorem dX9_changeBy_122 : decode cX9_changeBy 122 = .ok (.goto 4, 3) := by decide +kernel
theorem dX9_changeBy_125 : decode cX9_changeBy 125 = .ok (.iconst 0, 1) := by decide +kernel
theorem dX9_changeBy_126 : decode cX9_changeBy 126 = .ok (.ireturn, 1) := by decide +kernel
set_option maxHeartbeats 4000000 in
set_option maxRecDepth 100000 in
theorem B_X9_changeBy {G : zG} {X : zX} {kd : kD} {N0 : Nat} (C : zCt G X 5 0 0 RX9 cX9_changeBy 3) (hr : (zXh X).sig.returnType = (some .int)) : ∀ f : Nat,
    (∀ (S : aS) (v0 : Nat) (v1 : Int32) (v2 : Int32) (res : Option Value × aS), zT0 kd N0 S → v0 < N0 → kd v0 = .inl 8 → F_X9_changeBy f 0 [.ref v0, .int v1, .int v2] S = some res → zV G X (zQX G X (zPo G kd N0 res) 0 0) 3 [some (.ref (zB G + v0)), some (.int v1), some (.int v2)] [] (cn G kd N0 S) 0 0 0) ∧
    (∀ (S : aS) (w0 : Int32) (res : Option Value × aS), zT0 kd N0 S → F_X9_changeBy f 1 [.int w0] S = some res → zV G X (zQX G X (zPo G kd N0 res) 0 0) 3 [none, none, none] [.int w0] (cn G kd N0 S) 126 0 0) := by
  intro f
  induction f with
  | zero => exact ⟨(fun _ _ _ _ _ _ _ _ h => by cases h), (fun _ _ _ _ h => by cases h)⟩
  | succ f ih =>
    obtain ⟨ih0, ih1⟩ := ih
    refine ⟨?_, ?_⟩
    · intro S v0 v1 v2 res hT hpv0 hkv0 hF
      replace hF : F_X9_changeBy_0 f (F_X9_changeBy f) v0 v1 v2 S = some res := hF
      unfold F_X9_changeBy_0 at hF
      refine z_aload_n C dX9_changeBy_0 rfl ?_
      refine f_getr C dX9_changeBy_1 zfRX9_12 hpv0 hkv0 rfl ?_
      obtain ⟨hp1, hk1⟩ := hT.1 v0 8 1 (.inl 3) hpv0 hkv0 rfl
      refine z_aload_n C dX9_changeBy_4 rfl ?_
      refine f_getr C dX9_changeBy_5 zfRX9_25 hpv0 hkv0 rfl ?_
      obtain ⟨hp2, hk2⟩ := hT.1 v0 8 0 (.inl 3) hpv0 hkv0 rfl
      obtain ⟨S3, h3, hF⟩ := bV_some hF
      refine f_cV (st2 := []) C dX9_changeBy_8 zyX4_become zvX4_become lkRX9_45 (K_X4_become (l := zXl X) hT hp1 hk1 hp2 hk2 h3) hp1 hk1 rfl (by decide) rfl rfl (Nat.le_of_ble_eq_true rfl) rfl (fun hT3 => ?_)
      refine z_aload_n C dX9_changeBy_11 rfl ?_
      refine z_iload_n C dX9_changeBy_12 rfl ?_
      refine z_aload_n C dX9_changeBy_13 rfl ?_
      refine f_getr C dX9_changeBy_14 zfRX9_12 hpv0 hkv0 rfl ?_
      obtain ⟨hp4, hk4⟩ := hT3.1 v0 8 1 (.inl 3) hpv0 hkv0 rfl
      obtain ⟨x5, S5, h5, hF⟩ := bI_some hF
      refine f_cV (st2 := [.int x5]) C dX9_changeBy_17 zyX9_walkOf zvX9_walkOf lkRX9_57 (K_X9_walkOf (l := zXl X) hT3 hpv0 hkv0  hp4 hk4 h5) hpv0 hkv0 rfl (by decide) rfl rfl (Nat.le_of_ble_eq_true rfl) rfl (fun hT5 => ?_)
      refine z_pop C dX9_changeBy_20 rfl ?_
      refine z_iload_n C dX9_changeBy_21 rfl ?_
      by_cases c11 : v2 = 8
      · replace hF := ip hF c11
        refine z_tabIn C 52 dX9_changeBy_22 (by rw [c11]; decide) (by rw [c11]; decide) (off := 30) (by rw [c11]; rfl) (by decide) ?_
        refine z_aload_n C dX9_changeBy_52 rfl ?_
        refine f_getr C dX9_changeBy_53 zfRX9_12 hpv0 hkv0 rfl ?_
        obtain ⟨hp7, hk7⟩ := hT5.1 v0 8 1 (.inl 3) hpv0 hkv0 rfl
        obtain ⟨x8, S8, h8, hF⟩ := bI_some hF
        refine f_cV (st2 := [.int x8]) C dX9_changeBy_56 zyX4_total zvX4_total lkRX9_53 (K_X4_total (l := zXl X) hT5 hp7 hk7 h8) hp7 hk7 rfl (by decide) rfl rfl (Nat.le_of_ble_eq_true rfl) rfl (fun hT8 => ?_)
        refine z_aload_n C dX9_changeBy_59 rfl ?_
        refine f_getr C dX9_changeBy_60 zfRX9_25 hpv0 hkv0 rfl ?_
        obtain ⟨hp9, hk9⟩ := hT8.1 v0 8 0 (.inl 3) hpv0 hkv0 rfl
        obtain ⟨x10, S10, h10, hF⟩ := bI_some hF
        refine f_cV (st2 := [.int x10, .int x8]) C dX9_changeBy_63 zyX4_total zvX4_total lkRX9_53 (K_X4_total (l := zXl X) hT8 hp9 hk9 h10) hp9 hk9 rfl (by decide) rfl rfl (Nat.le_of_ble_eq_true rfl) rfl (fun hT10 => ?_)
        refine z_isub C dX9_changeBy_66 ?_
        cases hF
        exact z_iret C hr dX9_changeBy_67 ⟨rfl, rfl, hT10⟩
      replace hF := im hF c11
      by_cases c13 : v2 = 9
      · replace hF := ip hF c13
        refine z_tabIn C 68 dX9_changeBy_22 (by rw [c13]; decide) (by rw [c13]; decide) (off := 46) (by rw [c13]; rfl) (by decide) ?_
        refine z_aload_n C dX9_changeBy_68 rfl ?_
        refine f_getr C dX9_changeBy_69 zfRX9_21 hpv0 hkv0 rfl ?_
        obtain ⟨hp12, hk12⟩ := hT5.1 v0 8 2 (.inl 9) hpv0 hkv0 rfl
        refine f_geti C dX9_changeBy_72 zfRX9_36 hp12 hk12 rfl ?_
        cases hF
        exact z_iret C hr dX9_changeBy_75 ⟨rfl, rfl, hT5⟩
      replace hF := im hF c13
      by_cases c15 : v2 = 10
      · replace hF := ip hF c15
        refine z_tabIn C 76 dX9_changeBy_22 (by rw [c15]; decide) (by rw [c15]; decide) (off := 54) (by rw [c15]; rfl) (by decide) ?_
        refine z_aload_n C dX9_changeBy_76 rfl ?_
        refine f_getr C dX9_changeBy_77 zfRX9_21 hpv0 hkv0 rfl ?_
        obtain ⟨hp14, hk14⟩ := hT5.1 v0 8 2 (.inl 9) hpv0 hkv0 rfl
        refine f_geti C dX9_changeBy_80 zfRX9_61 hp14 hk14 rfl ?_
        cases hF
        exact z_iret C hr dX9_changeBy_83 ⟨rfl, rfl, hT5⟩
      replace hF := im hF c15
      by_cases c17 : v2 = 11
      · replace hF := ip hF c17
        refine z_tabIn C 84 dX9_changeBy_22 (by rw [c17]; decide) (by rw [c17]; decide) (off := 62) (by rw [c17]; rfl) (by decide) ?_
        refine z_aload_n C dX9_changeBy_84 rfl ?_
        refine f_getr C dX9_changeBy_85 zfRX9_21 hpv0 hkv0 rfl ?_
        obtain ⟨hp16, hk16⟩ := hT5.1 v0 8 2 (.inl 9) hpv0 hkv0 rfl
        refine f_geti C dX9_changeBy_88 zfRX9_64 hp16 hk16 rfl ?_
        cases hF
        exact z_iret C hr dX9_changeBy_91 ⟨rfl, rfl, hT5⟩
      replace hF := im hF c17
      refine z_tabOut C 92 dX9_changeBy_22 (f_tabOut (fun v h1 h2 e => by
        rcases (show v = 8 ∨ v = 9 ∨ v = 10 ∨ v = 11 by omega) with rfl | rfl | rfl | rfl
        · exact c11 (Int32.toInt_inj.mp (e.trans (by decide)))
        · exact c13 (Int32.toInt_inj.mp (e.trans (by decide)))
        · exact c15 (Int32.toInt_inj.mp (e.trans (by decide)))
        · exact c17 (Int32.toInt_inj.mp (e.trans (by decide))))) (by decide) ?_
      refine z_aload_n C dX9_changeBy_92 rfl ?_
      refine f_getr C dX9_changeBy_93 zfRX9_25 hpv0 hkv0 rfl ?_
      obtain ⟨hp18, hk18⟩ := hT5.1 v0 8 0 (.inl 3) hpv0 hkv0 rfl
      refine z_iload_n C dX9_changeBy_96 rfl ?_
      obtain ⟨x19, S19, h19, hF⟩ := bI_some hF
      refine f_cV (st2 := [.int x19]) C dX9_changeBy_97 zyX4_hasYard zvX4_hasYard lkRX9_67 (K_X4_hasYard (l := zXl X) hT5 hp18 hk18  h19) hp18 hk18 rfl (by decide) rfl rfl (Nat.le_of_ble_eq_true rfl) rfl (fun hT19 => ?_)
      refine z_if_eq C 125 dX9_changeBy_100 (by decide) (fun c23 => ?_) (fun c23 => ?_)
      · replace hF := ip hF c23
        refine z_iconst (v := 0) C dX9_changeBy_125 (by decide) ?_
        refine z_mask [false, false, false] ?_ rfl
        exact ih1 S19 0 res hT19  hF
      · replace hF := im hF c23
        refine z_aload_n C dX9_changeBy_103 rfl ?_
        refine f_getr C dX9_changeBy_104 zfRX9_12 hpv0 hkv0 rfl ?_
        obtain ⟨hp24, hk24⟩ := hT19.1 v0 8 1 (.inl 3) hpv0 hkv0 rfl
        refine f_getr C dX9_changeBy_107 zfRX9_71 hp24 hk24 rfl ?_
        obtain ⟨hp25, hk25⟩ := hT19.1 (gR S19 v0 1) 3 1 (.inr (0, 8)) hp24 hk24 rfl
        refine z_iload_n C dX9_changeBy_110 rfl ?_
        obtain ⟨hi26, hF⟩ := bX_some hF
        obtain ⟨q26, eq26⟩ : ∃ q : Nat, q = Int32.toNatClampNeg v2 := ⟨_, rfl⟩
        rw [← eq26] at hF
        refine f_iald C dX9_changeBy_111 hp25 hk25 hi26 ?_
        rw [← eq26]
        refine z_aload_n C dX9_changeBy_112 rfl ?_
        refine f_getr C dX9_changeBy_113 zfRX9_25 hpv0 hkv0 rfl ?_
        obtain ⟨hp27, hk27⟩ := hT19.1 v0 8 0 (.inl 3) hpv0 hkv0 rfl
        refine f_getr C dX9_changeBy_116 zfRX9_71 hp27 hk27 rfl ?_
        obtain ⟨hp28, hk28⟩ := hT19.1 (gR S19 v0 0) 3 1 (.inr (0, 8)) hp27 hk27 rfl
        refine z_iload_n C dX9_changeBy_119 rfl ?_
        obtain ⟨hi29, hF⟩ := bX_some hF
        obtain ⟨q29, eq29⟩ : ∃ q : Nat, q = Int32.toNatClampNeg v2 := ⟨_, rfl⟩
        rw [← eq29] at hF
        refine f_iald C dX9_changeBy_120 hp28 hk28 hi29 ?_
        rw [← eq29]
        refine z_isub C dX9_changeBy_121 ?_
        refine z_goto C 126 dX9_changeBy_122 (by decide) ?_
        refine z_mask [false, false, false] ?_ rfl
        exact ih1 S19 ((gI S19 (gR S19 (gR S19 v0 1) 1) q26) - (gI S19 (gR S19 (gR S19 v0 0) 1) q29)) res hT19  hF
    · intro S w0 res hT  hF
      replace hF : F_X9_changeBy_1 f (F_X9_changeBy f) w0 S = some res := hF
      unfold F_X9_changeBy_1 at hF
      cases hF
      exact z_iret C hr dX9_changeBy_126 ⟨rfl, rfl, hT⟩
theorem K_X9_changeBy {G : zG} {l : Launch} {kd : kD} {N0 f : Nat} {S : aS} {v0 : Nat} {v1 : Int32} {v2 : Int32} {res : Option Value × aS} (hT : zT0 kd N0 S) (hpv0 : v0 < N0) (hkv0 : kd v0 = .inl 8) (hF : F_X9_changeBy f 0 [.ref v0, .int v1, .int v2] S = some res) : zM G l 5 0 0 yX9_changeBy cX9_changeBy 3 (some .int) [.ref (zB G + v0), .int v1, .int v2] (cn G kd N0 S) (zPo G kd N0 res) := zM.of (by decide) rfl (Nat.le_of_ble_eq_true rfl) (fun X _ C hr _ => (B_X9_changeBy C hr f).1 S v0 v1 v2 res hT hpv0 hkv0 hF)
def F_X9_yardsWithFullHands_0 (f : Nat) (rc : Nat → List Value → aS → aR) (v0 : Nat) (v1 : Int32) (S : aS) : aR :=
  bV (F_X4_become f 0 [.ref (gR S v0 1), .ref (gR S v0 0)] S) fun S3 => bI (F_X9_walkOf f 0 [.ref v0, .int v1, .ref (gR S3 v0 1)] S3) fun x5 S5 => some (some (.int (gI S5 (gR S5 v0 2) 4)), S5)
def F_X9_yardsWithFullHands : Nat → Nat → List Value → aS → aR
  | 0, _, _, _ => none
  | f + 1, 0, vs, S => F_X9_yardsWithFullHands_0 f (F_X9_yardsWithFullHands f) (vR vs 0) (vI vs 1) S
  | _ + 1, _, _, _ => none
theorem dX9_yardsWithFullHands_0 : decode cX9_yardsWithFullHands 0 = .ok (.aload_n 0, 1) := by decide +kernel
theorem dX9_yardsWithFullHands_1 : decode cX9_yardsWithFullHands 1 = .ok (.getfield 12, 3) := by decide +kernel
theorem dX9_yardsWithFullHands_4 : decode cX9_yardsWithFullHands 4 = .ok (.aload_n 0, 1) := by decide +kernel
theorem dX9_yardsWithFullHands_5 : decode cX9_yardsWithFullHands 5 = .ok (.getfield 25, 3) := by decide +kernel
theorem dX9_yardsWithFullHands_8 : decode cX9_yardsWithFullHands 8 = .ok (.invokevirtual 45, 3) := by decide +kernel
theorem dX9_yardsWithFullHands_11 : decode cX9_yardsWithFullHands 11 = .ok (.aload_n 0, 1) := by decide +kernel
theorem dX9_yardsWithFullHands_12 : decode cX9_yardsWithFullHands 12 = .ok (.iload_n 1, 1) := by decide +kernel
theorem dX9_yardsWithFullHands_13 : decode cX9_yardsWithFullHands 13 = .ok (.aload_n 0, 1) := by decide +kernel
theorem dX9_yardsWithFullHands_14 : decode cX9_yardsWithFullHands 14 = .ok (.getfield 12, 3) := by decide +kernel
theorem dX9_yardsWithFullHands_17 : decode cX9_yardsWithFullHands 17 = .ok (.invokevirtual 57, 3) := by decide +kernel
theorem dX9_yardsWithFullHands_20 : decode cX9_yardsWithFullHands 20 = .ok (.pop, 1) := by decide +kernel
theorem dX9_yardsWithFullHands_21 : decode cX9_yardsWithFullHands 21 = .ok (.aload_n 0, 1) := by decide +kernel
theorem dX9_yardsWithFullHands_22 : decode cX9_yardsWithFullHands 22 = .ok (.getfield 21, 3) := by decide +kernel
theorem dX9_yardsWithFullHands_25 : decode cX9_yardsWithFullHands 25 = .ok (.getfield 75, 3) := by decide +kernel
theorem dX9_yardsWithFullHands_28 : decode cX9_yardsWithFullHands 28 = .ok (.ireturn, 1) := by decide +kernel
set_option maxHeartbeats 4000000 in
set_option maxRecDepth 100000 in
theorem B_X9_yardsWithFullHands {G : zG} {X : zX} {kd : kD} {N0 : Nat} (C : zCt G X 5 0 0 RX9 cX9_yardsWithFullHands 2) (hr : (zXh X).sig.returnType = (some .int)) : ∀ f : Nat,
    (∀ (S : aS) (v0 : Nat) (v1 : Int32) (res : Option Value × aS), zT0 kd N0 S → v0 < N0 → kd v0 = .inl 8 → F_X9_yardsWithFullHands f 0 [.ref v0, .int v1] S = some res → zV G X (zQX G X (zPo G kd N0 res) 0 0) 2 [some (.ref (zB G + v0)), some (.int v1)] [] (cn G kd N0 S) 0 0 0) := by
  intro f
  induction f with
  | zero => exact (fun _ _ _ _ _ _ _ h => by cases h)
  | succ f ih =>
    have ih0 := ih
    intro S v0 v1 res hT hpv0 hkv0 hF
    replace hF : F_X9_yardsWithFullHands_0 f (F_X9_yardsWithFullHands f) v0 v1 S = some res := hF
    unfold F_X9_yardsWithFullHands_0 at hF
    refine z_aload_n C dX9_yardsWithFullHands_0 rfl ?_
    refine f_getr C dX9_yardsWithFullHands_1 zfRX9_12 hpv0 hkv0 rfl ?_
    obtain ⟨hp1, hk1⟩ := hT.1 v0 8 1 (.inl 3) hpv0 hkv0 rfl
    refine z_aload_n C dX9_yardsWithFullHands_4 rfl ?_
    refine f_getr C dX9_yardsWithFullHands_5 zfRX9_25 hpv0 hkv0 rfl ?_
    obtain ⟨hp2, hk2⟩ := hT.1 v0 8 0 (.inl 3) hpv0 hkv0 rfl
    obtain ⟨S3, h3, hF⟩ := bV_some hF
    refine f_cV (st2 := []) C dX9_yardsWithFullHands_8 zyX4_become zvX4_become lkRX9_45 (K_X4_become (l := zXl X) hT hp1 hk1 hp2 hk2 h3) hp1 hk1 rfl (by decide) rfl rfl (Nat.le_of_ble_eq_true rfl) rfl (fun hT3 => ?_)
    refine z_aload_n C dX9_yardsWithFullHands_11 rfl ?_
    refine z_iload_n C dX9_yardsWithFullHands_12 rfl ?_
    refine z_aload_n C dX9_yardsWithFullHands_13 rfl ?_
    refine f_getr C dX9_yardsWithFullHands_14 zfRX9_12 hpv0 hkv0 rfl ?_
    obtain ⟨hp4, hk4⟩ := hT3.1 v0 8 1 (.inl 3) hpv0 hkv0 rfl
    obtain ⟨x5, S5, h5, hF⟩ := bI_some hF
    refine f_cV (st2 := [.int x5]) C dX9_yardsWithFullHands_17 zyX9_walkOf zvX9_walkOf lkRX9_57 (K_X9_walkOf (l := zXl X) hT3 hpv0 hkv0  hp4 hk4 h5) hpv0 hkv0 rfl (by decide) rfl rfl (Nat.le_of_ble_eq_true rfl) rfl (fun hT5 => ?_)
    refine z_pop C dX9_yardsWithFullHands_20 rfl ?_
    refine z_aload_n C dX9_yardsWithFullHands_21 rfl ?_
    refine f_getr C dX9_yardsWithFullHands_22 zfRX9_21 hpv0 hkv0 rfl ?_
    obtain ⟨hp6, hk6⟩ := hT5.1 v0 8 2 (.inl 9) hpv0 hkv0 rfl
    refine f_geti C dX9_yardsWithFullHands_25 zfRX9_75 hp6 hk6 rfl ?_
    cases hF
    exact z_iret C hr dX9_yardsWithFullHands_28 ⟨rfl, rfl, hT5⟩
theorem K_X9_yardsWithFullHands {G : zG} {l : Launch} {kd : kD} {N0 f : Nat} {S : aS} {v0 : Nat} {v1 : Int32} {res : Option Value × aS} (hT : zT0 kd N0 S) (hpv0 : v0 < N0) (hkv0 : kd v0 = .inl 8) (hF : F_X9_yardsWithFullHands f 0 [.ref v0, .int v1] S = some res) : zM G l 5 0 0 yX9_yardsWithFullHands cX9_yardsWithFullHands 2 (some .int) [.ref (zB G + v0), .int v1] (cn G kd N0 S) (zPo G kd N0 res) := zM.of (by decide) rfl (Nat.le_of_ble_eq_true rfl) (fun X _ C hr _ => (B_X9_yardsWithFullHands C hr f) S v0 v1 res hT hpv0 hkv0 hF)
def F_X9_growthOf_0 (f : Nat) (rc : Nat → List Value → aS → aR) (v0 : Nat) (v1 : Int32) (v2 : Int32) (S : aS) : aR :=
  bV (F_X4_become f 0 [.ref (gR S v0 1), .ref (gR S v0 0)] S) fun S3 => bX v1 8 fun q6 => fS (sI S3 (gR S3 (gR S3 v0 1) 1) q6 v2) fun S7 => bV (F_X9_allWalkBut f 0 [.ref v0, .int ((-1)), .ref (gR S7 v0 1)] S7) fun S9 => bX v1 8 fun q12 => some (some (.int ((gI S9 (gR S9 (gR S9 v0 1) 1) q12) - v2)), S9)
def F_X9_growthOf : Nat → Nat → List Value → aS → aR
  | 0, _, _, _ => none
  | f + 1, 0, vs, S => F_X9_growthOf_0 f (F_X9_growthOf f) (vR vs 0) (vI vs 1) (vI vs 2) S
  | _ + 1, _, _, _ => none
theorem dX9_growthOf_0 : decode cX9_growthOf 0 = .ok (.aload_n 0, 1) := by decide +kernel
theorem dX9_growthOf_1 : decode cX9_growthOf 1 = .ok (.getfield 12, 3) := by decide +kernel
theorem dX9_growthOf_4 : decode cX9_growthOf 4 = .ok (.aload_n 0, 1) := by decide +kernel
theorem dX9_growthOf_5 : decode cX9_growthOf 5 = .ok (.getfield 25, 3) := by decide +kernel
theorem dX9_growthOf_8 : decode cX9_growthOf 8 = .ok (.invokevirtual 45, 3) := by decide +kernel
theorem dX9_growthOf_11 : decode cX9_growthOf 11 = .ok (.aload_n 0, 1) := by decide +kernel
theorem dX9_growthOf_12 : decode cX9_growthOf 12 = .ok (.getfield 12, 3) := by decide +kernel
theorem dX9_growthOf_15 : decode cX9_growthOf 15 = .ok (.getfield 71, 3) := by decide +kernel
theorem dX9_growthOf_18 : decode cX9_growthOf 18 = .ok (.iload_n 1, 1) := by decide +kernel
theorem dX9_growthOf_19 : decode cX9_growthOf 19 = .ok (.iload_n 2, 1) := by decide +kernel
theorem dX9_growthOf_20 : decode cX9_growthOf 20 = .ok (.iastore, 1) := by decide +kernel
theorem dX9_growthOf_21 : decode cX9_growthOf 21 = .ok (.aload_n 0, 1) := by decide +kernel
theorem dX9_growthOf_22 : decode cX9_growthOf 22 = .ok (.iconst (-1), 1) := by decide +kernel
theorem dX9_growthOf_23 : decode cX9_growthOf 23 = .ok (.aload_n 0, 1) := by decide +kernel
theorem dX9_growthOf_24 : decode cX9_growthOf 24 = .ok (.getfield 12, 3) := by decide +kernel
theorem dX9_growthOf_27 : decode cX9_growthOf 27 = .ok (.invokevirtual 49, 3) := by decide +kernel
theorem dX9_growthOf_30 : decode cX9_growthOf 30 = .ok (.aload_n 0, 1) := by decide +kernel
theorem dX9_growthOf_31 : decode cX9_growthOf 31 = .ok (.getfield 12, 3) := by decide +kernel
theorem dX9_growthOf_34 : decode cX9_growthOf 34 = .ok (.getfield 71, 3) := by decide +kernel
theorem dX9_growthOf_37 : decode cX9_growthOf 37 = .ok (.iload_n 1, 1) := by decide +kernel
theorem dX9_growthOf_38 : decode cX9_growthOf 38 = .ok (.iaload, 1) := by decide +kernel
theorem dX9_growthOf_39 : decode cX9_growthOf 39 = .ok (.iload_n 2, 1) := by decide +kernel
theorem dX9_growthOf_40 : decode cX9_growthOf 40 = .ok (.isub, 1) := by decide +kernel
theorem dX9_growthOf_41 : decode cX9_growthOf 41 = .ok (.ireturn, 1) := by decide +kernel
set_option maxHeartbeats 4000000 in
set_option maxRecDepth 100000 in
theorem B_X9_growthOf {G : zG} {X : zX} {kd : kD} {N0 : Nat} (C : zCt G X 5 0 0 RX9 cX9_growthOf 3) (hr : (zXh X).sig.returnType = (some .int)) : ∀ f : Nat,
    (∀ (S : aS) (v0 : Nat) (v1 : Int32) (v2 : Int32) (res : Option Value × aS), zT0 kd N0 S → v0 < N0 → kd v0 = .inl 8 → F_X9_growthOf f 0 [.ref v0, .int v1, .int v2] S = some res → zV G X (zQX G X (zPo G kd N0 res) 0 0) 3 [some (.ref (zB G + v0)), some (.int v1), some (.int v2)] [] (cn G kd N0 S) 0 0 0) := by
  intro f
  induction f with
  | zero => exact (fun _ _ _ _ _ _ _ _ h => by cases h)
  | succ f ih =>
    have ih0 := ih
    intro S v0 v1 v2 res hT hpv0 hkv0 hF
    replace hF : F_X9_growthOf_0 f (F_X9_growthOf f) v0 v1 v2 S = some res := hF
    unfold F_X9_growthOf_0 at hF
    refine z_aload_n C dX9_growthOf_0 rfl ?_
    refine f_getr C dX9_growthOf_1 zfRX9_12 hpv0 hkv0 rfl ?_
    obtain ⟨hp1, hk1⟩ := hT.1 v0 8 1 (.inl 3) hpv0 hkv0 rfl
    refine z_aload_n C dX9_growthOf_4 rfl ?_
    refine f_getr C dX9_growthOf_5 zfRX9_25 hpv0 hkv0 rfl ?_
    obtain ⟨hp2, hk2⟩ := hT.1 v0 8 0 (.inl 3) hpv0 hkv0 rfl
    obtain ⟨S3, h3, hF⟩ := bV_some hF
    refine f_cV (st2 := []) C dX9_growthOf_8 zyX4_become zvX4_become lkRX9_45 (K_X4_become (l := zXl X) hT hp1 hk1 hp2 hk2 h3) hp1 hk1 rfl (by decide) rfl rfl (Nat.le_of_ble_eq_true rfl) rfl (fun hT3 => ?_)
    refine z_aload_n C dX9_growthOf_11 rfl ?_
    refine f_getr C dX9_growthOf_12 zfRX9_12 hpv0 hkv0 rfl ?_
    obtain ⟨hp4, hk4⟩ := hT3.1 v0 8 1 (.inl 3) hpv0 hkv0 rfl
    refine f_getr C dX9_growthOf_15 zfRX9_71 hp4 hk4 rfl ?_
    obtain ⟨hp5, hk5⟩ := hT3.1 (gR S3 v0 1) 3 1 (.inr (0, 8)) hp4 hk4 rfl
    refine z_iload_n C dX9_growthOf_18 rfl ?_
    refine z_iload_n C dX9_growthOf_19 rfl ?_
    obtain ⟨hi6, hF⟩ := bX_some hF
    obtain ⟨q6, eq6⟩ : ∃ q : Nat, q = Int32.toNatClampNeg v1 := ⟨_, rfl⟩
    rw [← eq6] at hF
    refine f_iast C dX9_growthOf_20 hp5 hk5 hi6 ?_
    rw [← eq6]
    have hT7 : zT0 kd N0 (sI S3 (gR S3 (gR S3 v0 1) 1) q6 v2) := zT0_sI hT3
    replace hF := fS_e hF
    generalize sI S3 (gR S3 (gR S3 v0 1) 1) q6 v2 = S7 at hF hT7 ⊢
    refine z_aload_n C dX9_growthOf_21 rfl ?_
    refine z_iconst (v := (-1)) C dX9_growthOf_22 (by decide) ?_
    refine z_aload_n C dX9_growthOf_23 rfl ?_
    refine f_getr C dX9_growthOf_24 zfRX9_12 hpv0 hkv0 rfl ?_
    obtain ⟨hp8, hk8⟩ := hT7.1 v0 8 1 (.inl 3) hpv0 hkv0 rfl
    obtain ⟨S9, h9, hF⟩ := bV_some hF
    refine f_cV (st2 := []) C dX9_growthOf_27 zyX9_allWalkBut zvX9_allWalkBut lkRX9_49 (K_X9_allWalkBut (l := zXl X) hT7 hpv0 hkv0  hp8 hk8 h9) hpv0 hkv0 rfl (by decide) rfl rfl (Nat.le_of_ble_eq_true rfl) rfl (fun hT9 => ?_)
    refine z_aload_n C dX9_growthOf_30 rfl ?_
    refine f_getr C dX9_growthOf_31 zfRX9_12 hpv0 hkv0 rfl ?_
    obtain ⟨hp10, hk10⟩ := hT9.1 v0 8 1 (.inl 3) hpv0 hkv0 rfl
    refine f_getr C dX9_growthOf_34 zfRX9_71 hp10 hk10 rfl ?_
    obtain ⟨hp11, hk11⟩ := hT9.1 (gR S9 v0 1) 3 1 (.inr (0, 8)) hp10 hk10 rfl
    refine z_iload_n C dX9_growthOf_37 rfl ?_
    obtain ⟨hi12, hF⟩ := bX_some hF
    obtain ⟨q12, eq12⟩ : ∃ q : Nat, q = Int32.toNatClampNeg v1 := ⟨_, rfl⟩
    rw [← eq12] at hF
    refine f_iald C dX9_growthOf_38 hp11 hk11 hi12 ?_
    rw [← eq12]
    refine z_iload_n C dX9_growthOf_39 rfl ?_
    refine z_isub C dX9_growthOf_40 ?_
    cases hF
    exact z_iret C hr dX9_growthOf_41 ⟨rfl, rfl, hT9⟩
theorem K_X9_growthOf {G : zG} {l : Launch} {kd : kD} {N0 f : Nat} {S : aS} {v0 : Nat} {v1 : Int32} {v2 : Int32} {res : Option Value × aS} (hT : zT0 kd N0 S) (hpv0 : v0 < N0) (hkv0 : kd v0 = .inl 8) (hF : F_X9_growthOf f 0 [.ref v0, .int v1, .int v2] S = some res) : zM G l 5 0 0 yX9_growthOf cX9_growthOf 3 (some .int) [.ref (zB G + v0), .int v1, .int v2] (cn G kd N0 S) (zPo G kd N0 res) := zM.of (by decide) rfl (Nat.le_of_ble_eq_true rfl) (fun X _ C hr _ => (B_X9_growthOf C hr f) S v0 v1 v2 res hT hpv0 hkv0 hF)
def F_X9_hoursTillFull_0 (f : Nat) (rc : Nat → List Value → aS → aR) (v0 : Nat) (S : aS) : aR :=
  bV (F_X4_become f 0 [.ref (gR S v0 1), .ref (gR S v0 0)] S) fun S3 => rc 1 [.ref v0, .int 1] S3
def F_X9_hoursTillFull_1 (f : Nat) (rc : Nat → List Value → aS → aR) (v0 : Nat) (v1 : Int32) (S : aS) : aR :=
  if (40 : Int32) < v1 then some (some (.int ((-1))), S) else bV (F_X9_allWalkBut f 0 [.ref v0, .int ((-1)), .ref (gR S v0 1)] S) fun S6 => bI (F_X4_yardsToOpen f 0 [.ref (gR S6 v0 1), .int 0] S6) fun x8 S8 => if x8 = (9 : Int32) then some (some (.int v1), S8) else bI (F_X4_passHour f 0 [.ref (gR S8 v0 1), .ref (gR S8 v0 3)] S8) fun x12 S12 => rc 1 [.ref v0, .int (v1 + 1)] S12
def F_X9_hoursTillFull : Nat → Nat → List Value → aS → aR
  | 0, _, _, _ => none
  | f + 1, 0, vs, S => F_X9_hoursTillFull_0 f (F_X9_hoursTillFull f) (vR vs 0) S
  | f + 1, 1, vs, S => F_X9_hoursTillFull_1 f (F_X9_hoursTillFull f) (vR vs 0) (vI vs 1) S
  | _ + 1, _, _, _ => none
theorem dX9_hoursTillFull_0 : decode cX9_hoursTillFull 0 = .ok (.aload_n 0, 1) := by decide +kernel
theorem dX9_hoursTillFull_1 : decode cX9_hoursTillFull 1 = .ok (.getfield 12, 3) := by decide +kernel
theorem dX9_hoursTillFull_4 : decode cX9_hoursTillFull 4 = .ok (.aload_n 0, 1) := by decide +kernel
theorem dX9_hoursTillFull_5 : decode cX9_hoursTillFull 5 = .ok (.getfield 25, 3) := by decide +kernel
theorem dX9_hoursTillFull_8 : decode cX9_hoursTillFull 8 = .ok (.invokevirtual 45, 3) := by decide +kernel
theorem dX9_hoursTillFull_11 : decode cX9_hoursTillFull 11 = .ok (.iconst 1, 1) := by decide +kernel
theorem dX9_hoursTillFull_12 : decode cX9_hoursTillFull 12 = .ok (.istore_n 1, 1) := by decide +kernel
theorem dX9_hoursTillFull_13 : decode cX9_hoursTillFull 13 = .ok (.iload_n 1, 1) := by decide +kernel
theorem dX9_hoursTillFull_14 : decode cX9_hoursTillFull 14 = .ok (.bipush 40, 2) := by decide +kernel
theorem dX9_hoursTillFull_16 : decode cX9_hoursTillFull 16 = .ok (.if_icmp .gt 45, 3) := by decide +kernel
theorem dX9_hoursTillFull_19 : decode cX9_hoursTillFull 19 = .ok (.aload_n 0, 1) := by decide +kernel
theorem dX9_hoursTillFull_20 : decode cX9_hoursTillFull 20 = .ok (.iconst (-1), 1) := by decide +kernel
theorem dX9_hoursTillFull_21 : decode cX9_hoursTillFull 21 = .ok (.aload_n 0, 1) := by decide +kernel
theorem dX9_hoursTillFull_22 : decode cX9_hoursTillFull 22 = .ok (.getfield 12, 3) := by decide +kernel
theorem dX9_hoursTillFull_25 : decode cX9_hoursTillFull 25 = .ok (.invokevirtual 49, 3) := by decide +kernel
theorem dX9_hoursTillFull_28 : decode cX9_hoursTillFull 28 = .ok (.aload_n 0, 1) := by decide +kernel
theorem dX9_hoursTillFull_29 : decode cX9_hoursTillFull 29 = .ok (.getfield 12, 3) := by decide +kernel
theorem dX9_hoursTillFull_32 : decode cX9_hoursTillFull 32 = .ok (.iconst 0, 1) := by decide +kernel
theorem dX9_hoursTillFull_33 : decode cX9_hoursTillFull 33 = .ok (.invokevirtual 89, 3) := by decide +kernel
theorem dX9_hoursTillFull_36 : decode cX9_hoursTillFull 36 = .ok (.bipush 9, 2) := by decide +kernel
theorem dX9_hoursTillFull_38 : decode cX9_hoursTillFull 38 = .ok (.if_icmp .ne 5, 3) := by decide +kernel
theorem dX9_hoursTillFull_41 : decode cX9_hoursTillFull 41 = .ok (.iload_n 1, 1) := by decide +kernel
theorem dX9_hoursTillFull_42 : decode cX9_hoursTillFull 42 = .ok (.ireturn, 1) := by decide +kernel
theorem dX9_hoursTillFull_43 : decode cX9_hoursTillFull 43 = .ok (.aload_n 0, 1) := by decide +kernel
theorem dX9_hoursTillFull_44 : decode cX9_hoursTillFull 44 = .ok (.getfield 12, 3) := by decide +kernel
theorem dX9_hoursTillFull_47 : decode cX9_hoursTillFull 47 = .ok (.aload_n 0, 1) := by decide +kernel
theorem dX9_hoursTillFull_48 : decode cX9_hoursTillFull 48 = .ok (.getfield 28, 3) := by decide +kernel
theorem dX9_hoursTillFull_51 : decode cX9_hoursTillFull 51 = .ok (.invokevirtual 92, 3) := by decide +kernel
theorem dX9_hoursTillFull_54 : decode cX9_hoursTillFull 54 = .ok (.pop, 1) := by decide +kernel
theorem dX9_hoursTillFull_55 : decode cX9_hoursTillFull 55 = .ok (.iinc 1 1, 3) := by decide +kernel
theorem dX9_hoursTillFull_58 : decode cX9_hoursTillFull 58 = .ok (.goto (-45), 3) := by decide +kernel
theorem dX9_hoursTillFull_61 : decode cX9_hoursTillFull 61 = .ok (.iconst (-1), 1) := by decide +kernel
theorem dX9_hoursTillFull_62 : decode cX9_hoursTillFull 62 = .ok (.ireturn, 1) := by decide +kernel
set_option maxHeartbeats 4000000 in
set_option maxRecDepth 100000 in
theorem B_X9_hoursTillFull {G : zG} {X : zX} {kd : kD} {N0 : Nat} (C : zCt G X 5 0 0 RX9 cX9_hoursTillFull 2) (hr : (zXh X).sig.returnType = (some .int)) : ∀ f : Nat,
    (∀ (S : aS) (v0 : Nat) (res : Option Value × aS), zT0 kd N0 S → v0 < N0 → kd v0 = .inl 8 → F_X9_hoursTillFull f 0 [.ref v0] S = some res → zV G X (zQX G X (zPo G kd N0 res) 0 0) 2 [some (.ref (zB G + v0)), none] [] (cn G kd N0 S) 0 0 0) ∧
    (∀ (S : aS) (v0 : Nat) (v1 : Int32) (res : Option Value × aS), zT0 kd N0 S → v0 < N0 → kd v0 = .inl 8 → F_X9_hoursTillFull f 1 [.ref v0, .int v1] S = some res → zV G X (zQX G X (zPo G kd N0 res) 0 0) 2 [some (.ref (zB G + v0)), some (.int v1)] [] (cn G kd N0 S) 13 0 0) := by
  intro f
  induction f with
  | zero => exact ⟨(fun _ _ _ _ _ _ h => by cases h), (fun _ _ _ _ _ _ _ h => by cases h)⟩
  | succ f ih =>
    obtain ⟨ih0, ih1⟩ := ih
    refine ⟨?_, ?_⟩
    · intro S v0 res hT hpv0 hkv0 hF
      replace hF : F_X9_hoursTillFull_0 f (F_X9_hoursTillFull f) v0 S = some res := hF
      unfold F_X9_hoursTillFull_0 at hF
      refine z_aload_n C dX9_hoursTillFull_0 rfl ?_
      refine f_getr C dX9_hoursTillFull_1 zfRX9_12 hpv0 hkv0 rfl ?_
      obtain ⟨hp1, hk1⟩ := hT.1 v0 8 1 (.inl 3) hpv0 hkv0 rfl
      refine z_aload_n C dX9_hoursTillFull_4 rfl ?_
      refine f_getr C dX9_hoursTillFull_5 zfRX9_25 hpv0 hkv0 rfl ?_
      obtain ⟨hp2, hk2⟩ := hT.1 v0 8 0 (.inl 3) hpv0 hkv0 rfl
      obtain ⟨S3, h3, hF⟩ := bV_some hF
      refine f_cV (st2 := []) C dX9_hoursTillFull_8 zyX4_become zvX4_become lkRX9_45 (K_X4_become (l := zXl X) hT hp1 hk1 hp2 hk2 h3) hp1 hk1 rfl (by decide) rfl rfl (Nat.le_of_ble_eq_true rfl) rfl (fun hT3 => ?_)
      refine z_iconst (v := 1) C dX9_hoursTillFull_11 (by decide) ?_
      refine z_istore_n (lv2 := [some (.ref (zB G + v0)), some (.int 1)]) C dX9_hoursTillFull_12 (by decide) rfl ?_
      exact ih1 S3 v0 1 res hT3 hpv0 hkv0  hF
    · intro S v0 v1 res hT hpv0 hkv0 hF
      replace hF : F_X9_hoursTillFull_1 f (F_X9_hoursTillFull f) v0 v1 S = some res := hF
      unfold F_X9_hoursTillFull_1 at hF
      refine z_iload_n C dX9_hoursTillFull_13 rfl ?_
      refine z_bipush (v := 40) C dX9_hoursTillFull_14 (by decide) ?_
      refine z_icmp_gt C 61 dX9_hoursTillFull_16 (by decide) (fun c4 => ?_) (fun c4 => ?_)
      · replace hF := ip hF c4
        refine z_iconst (v := (-1)) C dX9_hoursTillFull_61 (by decide) ?_
        cases hF
        exact z_iret C hr dX9_hoursTillFull_62 ⟨rfl, rfl, hT⟩
      · replace hF := im hF c4
        refine z_aload_n C dX9_hoursTillFull_19 rfl ?_
        refine z_iconst (v := (-1)) C dX9_hoursTillFull_20 (by decide) ?_
        refine z_aload_n C dX9_hoursTillFull_21 rfl ?_
        refine f_getr C dX9_hoursTillFull_22 zfRX9_12 hpv0 hkv0 rfl ?_
        obtain ⟨hp5, hk5⟩ := hT.1 v0 8 1 (.inl 3) hpv0 hkv0 rfl
        obtain ⟨S6, h6, hF⟩ := bV_some hF
        refine f_cV (st2 := []) C dX9_hoursTillFull_25 zyX9_allWalkBut zvX9_allWalkBut lkRX9_49 (K_X9_allWalkBut (l := zXl X) hT hpv0 hkv0  hp5 hk5 h6) hpv0 hkv0 rfl (by decide) rfl rfl (Nat.le_of_ble_eq_true rfl) rfl (fun hT6 => ?_)
        refine z_aload_n C dX9_hoursTillFull_28 rfl ?_
        refine f_getr C dX9_hoursTillFull_29 zfRX9_12 hpv0 hkv0 rfl ?_
        obtain ⟨hp7, hk7⟩ := hT6.1 v0 8 1 (.inl 3) hpv0 hkv0 rfl
        refine z_iconst (v := 0) C dX9_hoursTillFull_32 (by decide) ?_
        obtain ⟨x8, S8, h8, hF⟩ := bI_some hF
        refine f_cV (st2 := [.int x8]) C dX9_hoursTillFull_33 zyX4_yardsToOpen zvX4_yardsToOpen lkRX9_89 (K_X4_yardsToOpen (l := zXl X) hT6 hp7 hk7  h8) hp7 hk7 rfl (by decide) rfl rfl (Nat.le_of_ble_eq_true rfl) rfl (fun hT8 => ?_)
        refine z_bipush (v := 9) C dX9_hoursTillFull_36 (by decide) ?_
        refine z_icmp_ne C 43 dX9_hoursTillFull_38 (by decide) (fun c9 => ?_) (fun c9 => ?_)
        · replace hF := im hF c9
          refine z_aload_n C dX9_hoursTillFull_43 rfl ?_
          refine f_getr C dX9_hoursTillFull_44 zfRX9_12 hpv0 hkv0 rfl ?_
          obtain ⟨hp10, hk10⟩ := hT8.1 v0 8 1 (.inl 3) hpv0 hkv0 rfl
          refine z_aload_n C dX9_hoursTillFull_47 rfl ?_
          refine f_getr C dX9_hoursTillFull_48 zfRX9_28 hpv0 hkv0 rfl ?_
          obtain ⟨hp11, hk11⟩ := hT8.1 v0 8 3 (.inl 5) hpv0 hkv0 rfl
          obtain ⟨x12, S12, h12, hF⟩ := bI_some hF
          refine f_cV (st2 := [.int x12]) C dX9_hoursTillFull_51 zyX4_passHour zvX4_passHour lkRX9_92 (K_X4_passHour (l := zXl X) hT8 hp10 hk10 hp11 hk11 h12) hp10 hk10 rfl (by decide) rfl rfl (Nat.le_of_ble_eq_true rfl) rfl (fun hT12 => ?_)
          refine z_pop C dX9_hoursTillFull_54 rfl ?_
          refine z_iinc (v := v1 + 1) (lv2 := [some (.ref (zB G + v0)), some (.int (v1 + 1))]) C dX9_hoursTillFull_55 rfl (by rw [show Int32.ofInt 1 = (1 : Int32) from by decide]) rfl ?_
          refine z_goto C 13 dX9_hoursTillFull_58 (by decide) ?_
          exact ih1 S12 v0 (v1 + 1) res hT12 hpv0 hkv0  hF
        · replace hF := ip hF c9
          refine z_iload_n C dX9_hoursTillFull_41 rfl ?_
          cases hF
          exact z_iret C hr dX9_hoursTillFull_42 ⟨rfl, rfl, hT8⟩
theorem K_X9_hoursTillFull {G : zG} {l : Launch} {kd : kD} {N0 f : Nat} {S : aS} {v0 : Nat} {res : Option Value × aS} (hT : zT0 kd N0 S) (hpv0 : v0 < N0) (hkv0 : kd v0 = .inl 8) (hF : F_X9_hoursTillFull f 0 [.ref v0] S = some res) : zM G l 5 0 0 yX9_hoursTillFull cX9_hoursTillFull 2 (some .int) [.ref (zB G + v0)] (cn G kd N0 S) (zPo G kd N0 res) := zM.of (by decide) rfl (Nat.le_of_ble_eq_true rfl) (fun X _ C hr _ => (B_X9_hoursTillFull C hr f).1 S v0 res hT hpv0 hkv0 hF)
def F_X9_hoursTillLittered_0 (f : Nat) (rc : Nat → List Value → aS → aR) (v0 : Nat) (v1 : Int32) (S : aS) : aR :=
  bV (F_X4_become f 0 [.ref (gR S v0 1), .ref (gR S v0 0)] S) fun S3 => rc 1 [.ref v0, .int v1, .int 1] S3
def F_X9_hoursTillLittered_1 (f : Nat) (rc : Nat → List Value → aS → aR) (v0 : Nat) (v1 : Int32) (v2 : Int32) (S : aS) : aR :=
  if (40 : Int32) < v2 then some (some (.int ((-1))), S) else bV (F_X9_allWalkBut f 0 [.ref v0, .int ((-1)), .ref (gR S v0 1)] S) fun S6 => bI (F_X4_passHour f 0 [.ref (gR S6 v0 1), .ref (gR S6 v0 3)] S6) fun x9 S9 => bX v1 8 fun q12 => if (gI S9 (gR S9 (gR S9 v0 1) 1) q12) ≤ (0 : Int32) then rc 1 [.ref v0, .int v1, .int (v2 + 1)] S9 else some (some (.int v2), S9)
def F_X9_hoursTillLittered : Nat → Nat → List Value → aS → aR
  | 0, _, _, _ => none
  | f + 1, 0, vs, S => F_X9_hoursTillLittered_0 f (F_X9_hoursTillLittered f) (vR vs 0) (vI vs 1) S
  | f + 1, 1, vs, S => F_X9_hoursTillLittered_1 f (F_X9_hoursTillLittered f) (vR vs 0) (vI vs 1) (vI vs 2) S
  | _ + 1, _, _, _ => none
theorem dX9_hoursTillLittered_0 : decode cX9_hoursTillLittered 0 = .ok (.aload_n 0, 1) := by decide +kernel
theorem dX9_hoursTillLittered_1 : decode cX9_hoursTillLittered 1 = .ok (.getfield 12, 3) := by decide +kernel
theorem dX9_hoursTillLittered_4 : decode cX9_hoursTillLittered 4 = .ok (.aload_n 0, 1) := by decide +kernel
theorem dX9_hoursTillLittered_5 : decode cX9_hoursTillLittered 5 = .ok (.getfield 25, 3) := by decide +kernel
theorem dX9_hoursTillLittered_8 : decode cX9_hoursTillLittered 8 = .ok (.invokevirtual 45, 3) := by decide +kernel
theorem dX9_hoursTillLittered_11 : decode cX9_hoursTillLittered 11 = .ok (.iconst 1, 1) := by decide +kernel
theorem dX9_hoursTillLittered_12 : decode cX9_hoursTillLittered 12 = .ok (.istore_n 2, 1) := by decide +kernel
theorem dX9_hoursTillLittered_13 : decode cX9_hoursTillLittered 13 = .ok (.iload_n 2, 1) := by decide +kernel
theorem dX9_hoursTillLittered_14 : decode cX9_hoursTillLittered 14 = .ok (.bipush 40, 2) := by decide +kernel
theorem dX9_hoursTillLittered_16 : decode cX9_hoursTillLittered 16 = .ok (.if_icmp .gt 44, 3) := by decide +kernel
theorem dX9_hoursTillLittered_19 : decode cX9_hoursTillLittered 19 = .ok (.aload_n 0, 1) := by decide +kernel
theorem dX9_hoursTillLittered_20 : decode cX9_hoursTillLittered 20 = .ok (.iconst (-1), 1) := by decide +kernel
theorem dX9_hoursTillLittered_21 : decode cX9_hoursTillLittered 21 = .ok (.aload_n 0, 1) := by decide +kernel
theorem dX9_hoursTillLittered_22 : decode cX9_hoursTillLittered 22 = .ok (.getfield 12, 3) := by decide +kernel
theorem dX9_hoursTillLittered_25 : decode cX9_hoursTillLittered 25 = .ok (.invokevirtual 49, 3) := by decide +kernel
theorem dX9_hoursTillLittered_28 : decode cX9_hoursTillLittered 28 = .ok (.aload_n 0, 1) := by decide +kernel
theorem dX9_hoursTillLittered_29 : decode cX9_hoursTillLittered 29 = .ok (.getfield 12, 3) := by decide +kernel
theorem dX9_hoursTillLittered_32 : decode cX9_hoursTillLittered 32 = .ok (.aload_n 0, 1) := by decide +kernel
theorem dX9_hoursTillLittered_33 : decode cX9_hoursTillLittered 33 = .ok (.getfield 28, 3) := by decide +kernel
theorem dX9_hoursTillLittered_36 : decode cX9_hoursTillLittered 36 = .ok (.invokevirtual 92, 3) := by decide +kernel
theorem dX9_hoursTillLittered_39 : decode cX9_hoursTillLittered 39 = .ok (.pop, 1) := by decide +kernel
theorem dX9_hoursTillLittered_40 : decode cX9_hoursTillLittered 40 = .ok (.aload_n 0, 1) := by decide +kernel
theorem dX9_hoursTillLittered_41 : decode cX9_hoursTillLittered 41 = .ok (.getfield 12, 3) := by decide +kernel
theorem dX9_hoursTillLittered_44 : decode cX9_hoursTillLittered 44 = .ok (.getfield 71, 3) := by decide +kernel
theorem dX9_hoursTillLittered_47 : decode cX9_hoursTillLittered 47 = .ok (.iload_n 1, 1) := by decide +kernel
theorem dX9_hoursTillLittered_48 : decode cX9_hoursTillLittered 48 = .ok (.iaload, 1) := by decide +kernel
theorem dX9_hoursTillLittered_49 : decode cX9_hoursTillLittered 49 = .ok (.ifCond .le 5, 3) := by decide +kernel
theorem dX9_hoursTillLittered_52 : decode cX9_hoursTillLittered 52 = .ok (.iload_n 2, 1) := by decide +kernel
theorem dX9_hoursTillLittered_53 : decode cX9_hoursTillLittered 53 = .ok (.ireturn, 1) := by decide +kernel
theorem dX9_hoursTillLittered_54 : decode cX9_hoursTillLittered 54 = .ok (.iinc 2 1, 3) := by decide +kernel
theorem dX9_hoursTillLittered_57 : decode cX9_hoursTillLittered 57 = .ok (.goto (-44), 3) := by decide +kernel
theorem dX9_hoursTillLittered_60 : decode cX9_hoursTillLittered 60 = .ok (.iconst (-1), 1) := by decide +kernel
theorem dX9_hoursTillLittered_61 : decode cX9_hoursTillLittered 61 = .ok (.ireturn, 1) := by decide +kernel
set_option maxHeartbeats 4000000 in
set_option maxRecDepth 100000 in
theorem B_X9_hoursTillLittered {G : zG} {X : zX} {kd : kD} {N0 : Nat} (C : zCt G X 5 0 0 RX9 cX9_hoursTillLittered 3) (hr : (zXh X).sig.returnType = (some .int)) : ∀ f : Nat,
    (∀ (S : aS) (v0 : Nat) (v1 : Int32) (res : Option Value × aS), zT0 kd N0 S → v0 < N0 → kd v0 = .inl 8 → F_X9_hoursTillLittered f 0 [.ref v0, .int v1] S = some res → zV G X (zQX G X (zPo G kd N0 res) 0 0) 3 [some (.ref (zB G + v0)), some (.int v1), none] [] (cn G kd N0 S) 0 0 0) ∧
    (∀ (S : aS) (v0 : Nat) (v1 : Int32) (v2 : Int32) (res : Option Value × aS), zT0 kd N0 S → v0 < N0 → kd v0 = .inl 8 → F_X9_hoursTillLittered f 1 [.ref v0, .int v1, .int v2] S = some res → zV G X (zQX G X (zPo G kd N0 res) 0 0) 3 [some (.ref (zB G + v0)), some (.int v1), some (.int v2)] [] (cn G kd N0 S) 13 0 0) := by
  intro f
  induction f with
  | zero => exact ⟨(fun _ _ _ _ _ _ _ h => by cases h), (fun _ _ _ _ _ _ _ _ h => by cases h)⟩
  | succ f ih =>
    obtain ⟨ih0, ih1⟩ := ih
    refine ⟨?_, ?_⟩
    · intro S v0 v1 res hT hpv0 hkv0 hF
      replace hF : F_X9_hoursTillLittered_0 f (F_X9_hoursTillLittered f) v0 v1 S = some res := hF
      unfold F_X9_hoursTillLittered_0 at hF
      refine z_aload_n C dX9_hoursTillLittered_0 rfl ?_
      refine f_getr C dX9_hoursTillLittered_1 zfRX9_12 hpv0 hkv0 rfl ?_
      obtain ⟨hp1, hk1⟩ := hT.1 v0 8 1 (.inl 3) hpv0 hkv0 rfl
      refine z_aload_n C dX9_hoursTillLittered_4 rfl ?_
      refine f_getr C dX9_hoursTillLittered_5 zfRX9_25 hpv0 hkv0 rfl ?_
      obtain ⟨hp2, hk2⟩ := hT.1 v0 8 0 (.inl 3) hpv0 hkv0 rfl
      obtain ⟨S3, h3, hF⟩ := bV_some hF
      refine f_cV (st2 := []) C dX9_hoursTillLittered_8 zyX4_become zvX4_become lkRX9_45 (K_X4_become (l := zXl X) hT hp1 hk1 hp2 hk2 h3) hp1 hk1 rfl (by decide) rfl rfl (Nat.le_of_ble_eq_true rfl) rfl (fun hT3 => ?_)
      refine z_iconst (v := 1) C dX9_hoursTillLittered_11 (by decide) ?_
      refine z_istore_n (lv2 := [some (.ref (zB G + v0)), some (.int v1), some (.int 1)]) C dX9_hoursTillLittered_12 (by decide) rfl ?_
      exact ih1 S3 v0 v1 1 res hT3 hpv0 hkv0   hF
    · intro S v0 v1 v2 res hT hpv0 hkv0 hF
      replace hF : F_X9_hoursTillLittered_1 f (F_X9_hoursTillLittered f) v0 v1 v2 S = some res := hF
      unfold F_X9_hoursTillLittered_1 at hF
      refine z_iload_n C dX9_hoursTillLittered_13 rfl ?_
      refine z_bipush (v := 40) C dX9_hoursTillLittered_14 (by decide) ?_
      refine z_icmp_gt C 60 dX9_hoursTillLittered_16 (by decide) (fun c4 => ?_) (fun c4 => ?_)
      · replace hF := ip hF c4
        refine z_iconst (v := (-1)) C dX9_hoursTillLittered_60 (by decide) ?_
        cases hF
        exact z_iret C hr dX9_hoursTillLittered_61 ⟨rfl, rfl, hT⟩
      · replace hF := im hF c4
        refine z_aload_n C dX9_hoursTillLittered_19 rfl ?_
        refine z_iconst (v := (-1)) C dX9_hoursTillLittered_20 (by decide) ?_
        refine z_aload_n C dX9_hoursTillLittered_21 rfl ?_
        refine f_getr C dX9_hoursTillLittered_22 zfRX9_12 hpv0 hkv0 rfl ?_
        obtain ⟨hp5, hk5⟩ := hT.1 v0 8 1 (.inl 3) hpv0 hkv0 rfl
        obtain ⟨S6, h6, hF⟩ := bV_some hF
        refine f_cV (st2 := []) C dX9_hoursTillLittered_25 zyX9_allWalkBut zvX9_allWalkBut lkRX9_49 (K_X9_allWalkBut (l := zXl X) hT hpv0 hkv0  hp5 hk5 h6) hpv0 hkv0 rfl (by decide) rfl rfl (Nat.le_of_ble_eq_true rfl) rfl (fun hT6 => ?_)
        refine z_aload_n C dX9_hoursTillLittered_28 rfl ?_
        refine f_getr C dX9_hoursTillLittered_29 zfRX9_12 hpv0 hkv0 rfl ?_
        obtain ⟨hp7, hk7⟩ := hT6.1 v0 8 1 (.inl 3) hpv0 hkv0 rfl
        refine z_aload_n C dX9_hoursTillLittered_32 rfl ?_
        refine f_getr C dX9_hoursTillLittered_33 zfRX9_28 hpv0 hkv0 rfl ?_
        obtain ⟨hp8, hk8⟩ := hT6.1 v0 8 3 (.inl 5) hpv0 hkv0 rfl
        obtain ⟨x9, S9, h9, hF⟩ := bI_some hF
        refine f_cV (st2 := [.int x9]) C dX9_hoursTillLittered_36 zyX4_passHour zvX4_passHour lkRX9_92 (K_X4_passHour (l := zXl X) hT6 hp7 hk7 hp8 hk8 h9) hp7 hk7 rfl (by decide) rfl rfl (Nat.le_of_ble_eq_true rfl) rfl (fun hT9 => ?_)
        refine z_pop C dX9_hoursTillLittered_39 rfl ?_
        refine z_aload_n C dX9_hoursTillLittered_40 rfl ?_
        refine f_getr C dX9_hoursTillLittered_41 zfRX9_12 hpv0 hkv0 rfl ?_
        obtain ⟨hp10, hk10⟩ := hT9.1 v0 8 1 (.inl 3) hpv0 hkv0 rfl
        refine f_getr C dX9_hoursTillLittered_44 zfRX9_71 hp10 hk10 rfl ?_
        obtain ⟨hp11, hk11⟩ := hT9.1 (gR S9 v0 1) 3 1 (.inr (0, 8)) hp10 hk10 rfl
        refine z_iload_n C dX9_hoursTillLittered_47 rfl ?_
        obtain ⟨hi12, hF⟩ := bX_some hF
        obtain ⟨q12, eq12⟩ : ∃ q : Nat, q = Int32.toNatClampNeg v1 := ⟨_, rfl⟩
        rw [← eq12] at hF
        refine f_iald C dX9_hoursTillLittered_48 hp11 hk11 hi12 ?_
        rw [← eq12]
        refine z_if_le C 54 dX9_hoursTillLittered_49 (by decide) (fun c13 => ?_) (fun c13 => ?_)
        · replace hF := ip hF c13
          refine z_iinc (v := v2 + 1) (lv2 := [some (.ref (zB G + v0)), some (.int v1), some (.int (v2 + 1))]) C dX9_hoursTillLittered_54 rfl (by rw [show Int32.ofInt 1 = (1 : Int32) from by decide]) rfl ?_
          refine z_goto C 13 dX9_hoursTillLittered_57 (by decide) ?_
          exact ih1 S9 v0 v1 (v2 + 1) res hT9 hpv0 hkv0   hF
        · replace hF := im hF c13
          refine z_iload_n C dX9_hoursTillLittered_52 rfl ?_
          cases hF
          exact z_iret C hr dX9_hoursTillLittered_53 ⟨rfl, rfl, hT9⟩
theorem K_X9_hoursTillLittered {G : zG} {l : Launch} {kd : kD} {N0 f : Nat} {S : aS} {v0 : Nat} {v1 : Int32} {res : Option Value × aS} (hT : zT0 kd N0 S) (hpv0 : v0 < N0) (hkv0 : kd v0 = .inl 8) (hF : F_X9_hoursTillLittered f 0 [.ref v0, .int v1] S = some res) : zM G l 5 0 0 yX9_hoursTillLittered cX9_hoursTillLittered 3 (some .int) [.ref (zB G + v0), .int v1] (cn G kd N0 S) (zPo G kd N0 res) := zM.of (by decide) rfl (Nat.le_of_ble_eq_true rfl) (fun X _ C hr _ => (B_X9_hoursTillLittered C hr f).1 S v0 v1 res hT hpv0 hkv0 hF)
def F_X9_leastDeposit_0 (f : Nat) (rc : Nat → List Value → aS → aR) (v0 : Nat) (v1 : Int32) (S : aS) : aR :=
  rc 1 [.ref v0, .int v1, .int 0] S
def F_X9_leastDeposit_1 (f : Nat) (rc : Nat → List Value → aS → aR) (v0 : Nat) (v1 : Int32) (v2 : Int32) (S : aS) : aR :=
  if (9 : Int32) < v2 then some (some (.int ((-1))), S) else bV (F_X4_become f 0 [.ref (gR S v0 1), .ref (gR S v0 0)] S) fun S4 => fS (sI S4 (gR S4 v0 1) 8 v2) fun S6 => bV (F_X9_allWalkBut f 0 [.ref v0, .int ((-1)), .ref (gR S6 v0 1)] S6) fun S8 => bI (F_X4_total f 0 [.ref (gR S8 v0 1)] S8) fun x10 S10 => if v1 < x10 then rc 1 [.ref v0, .int v1, .int (v2 + 1)] S10 else some (some (.int v2), S10)
def F_X9_leastDeposit : Nat → Nat → List Value → aS → aR
  | 0, _, _, _ => none
  | f + 1, 0, vs, S => F_X9_leastDeposit_0 f (F_X9_leastDeposit f) (vR vs 0) (vI vs 1) S
  | f + 1, 1, vs, S => F_X9_leastDeposit_1 f (F_X9_leastDeposit f) (vR vs 0) (vI vs 1) (vI vs 2) S
  | _ + 1, _, _, _ => none
theorem dX9_leastDeposit_0 : decode cX9_leastDeposit 0 = .ok (.iconst 0, 1) := by decide +kernel
theorem dX9_leastDeposit_1 : decode cX9_leastDeposit 1 = .ok (.istore_n 2, 1) := by decide +kernel
theorem dX9_leastDeposit_2 : decode cX9_leastDeposit 2 = .ok (.iload_n 2, 1) := by decide +kernel
theorem dX9_leastDeposit_3 : decode cX9_leastDeposit 3 = .ok (.bipush 9, 2) := by decide +kernel
theorem dX9_leastDeposit_5 : decode cX9_leastDeposit 5 = .ok (.if_icmp .gt 50, 3) := by decide +kernel
theorem dX9_leastDeposit_8 : decode cX9_leastDeposit 8 = .ok (.aload_n 0, 1) := by decide +kernel
theorem dX9_leastDeposit_9 : decode cX9_leastDeposit 9 = .ok (.getfield 12, 3) := by decide +kernel
theorem dX9_leastDeposit_12 : decode cX9_leastDeposit 12 = .ok (.aload_n 0, 1) := by decide +kernel
theorem dX9_leastDeposit_13 : decode cX9_leastDeposit 13 = .ok (.getfield 25, 3) := by decide +kernel
theorem dX9_leastDeposit_16 : decode cX9_leastDeposit 16 = .ok (.invokevirtual 45, 3) := by decide +kernel
theorem dX9_leastDeposit_19 : decode cX9_leastDeposit 19 = .ok (.aload_n 0, 1) := by decide +kernel
theorem dX9_leastDeposit_20 : decode cX9_leastDeposit 20 = .ok (.getfield 12, 3) := by decide +kernel
theorem dX9_leastDeposit_23 : decode cX9_leastDeposit 23 = .ok (.iload_n 2, 1) := by decide +kernel
theorem dX9_leastDeposit_24 : decode cX9_leastDeposit 24 = .ok (.putfield 96, 3) := by decide +kernel
theorem dX9_leastDeposit_27 : decode cX9_leastDeposit 27 = .ok (.aload_n 0, 1) := by decide +kernel
theorem dX9_leastDeposit_28 : decode cX9_leastDeposit 28 = .ok (.iconst (-1), 1) := by decide +kernel
theorem dX9_leastDeposit_29 : decode cX9_leastDeposit 29 = .ok (.aload_n 0, 1) := by decide +kernel
theorem dX9_leastDeposit_30 : decode cX9_leastDeposit 30 = .ok (.getfield 12, 3) := by decide +kernel
theorem dX9_leastDeposit_33 : decode cX9_leastDeposit 33 = .ok (.invokevirtual 49, 3) := by decide +kernel
theorem dX9_leastDeposit_36 : decode cX9_leastDeposit 36 = .ok (.aload_n 0, 1) := by decide +kernel
theorem dX9_leastDeposit_37 : decode cX9_leastDeposit 37 = .ok (.getfield 12, 3) := by decide +kernel
theorem dX9_leastDeposit_40 : decode cX9_leastDeposit 40 = .ok (.invokevirtual 53, 3) := by decide +kernel
theorem dX9_leastDeposit_43 : decode cX9_leastDeposit 43 = .ok (.iload_n 1, 1) := by decide +kernel
theorem dX9_leastDeposit_44 : decode cX9_leastDeposit 44 = .ok (.if_icmp .gt 5, 3) := by decide +kernel
theorem dX9_leastDeposit_47 : decode cX9_leastDeposit 47 = .ok (.iload_n 2, 1) := by decide +kernel
theorem dX9_leastDeposit_48 : decode cX9_leastDeposit 48 = .ok (.ireturn, 1) := by decide +kernel
theorem dX9_leastDeposit_49 : decode cX9_leastDeposit 49 = .ok (.iinc 2 1, 3) := by decide +kernel
theorem dX9_leastDeposit_52 : decode cX9_leastDeposit 52 = .ok (.goto (-50), 3) := by decide +kernel
theorem dX9_leastDeposit_55 : decode cX9_leastDeposit 55 = .ok (.iconst (-1), 1) := by decide +kernel
theorem dX9_leastDeposit_56 : decode cX9_leastDeposit 56 = .ok (.ireturn, 1) := by decide +kernel
set_option maxHeartbeats 4000000 in
set_option maxRecDepth 100000 in
theorem B_X9_leastDeposit {G : zG} {X : zX} {kd : kD} {N0 : Nat} (C : zCt G X 5 0 0 RX9 cX9_leastDeposit 3) (hr : (zXh X).sig.returnType = (some .int)) : ∀ f : Nat,
    (∀ (S : aS) (v0 : Nat) (v1 : Int32) (res : Option Value × aS), zT0 kd N0 S → v0 < N0 → kd v0 = .inl 8 → F_X9_leastDeposit f 0 [.ref v0, .int v1] S = some res → zV G X (zQX G X (zPo G kd N0 res) 0 0) 3 [some (.ref (zB G + v0)), some (.int v1), none] [] (cn G kd N0 S) 0 0 0) ∧
    (∀ (S : aS) (v0 : Nat) (v1 : Int32) (v2 : Int32) (res : Option Value × aS), zT0 kd N0 S → v0 < N0 → kd v0 = .inl 8 → F_X9_leastDeposit f 1 [.ref v0, .int v1, .int v2] S = some res → zV G X (zQX G X (zPo G kd N0 res) 0 0) 3 [some (.ref (zB G + v0)), some (.int v1), some (.int v2)] [] (cn G kd N0 S) 2 0 0) := by
  intro f
  induction f with
  | zero => exact ⟨(fun _ _ _ _ _ _ _ h => by cases h), (fun _ _ _ _ _ _ _ _ h => by cases h)⟩
  | succ f ih =>
    obtain ⟨ih0, ih1⟩ := ih
    refine ⟨?_, ?_⟩
    · intro S v0 v1 res hT hpv0 hkv0 hF
      replace hF : F_X9_leastDeposit_0 f (F_X9_leastDeposit f) v0 v1 S = some res := hF
      unfold F_X9_leastDeposit_0 at hF
      refine z_iconst (v := 0) C dX9_leastDeposit_0 (by decide) ?_
      refine z_istore_n (lv2 := [some (.ref (zB G + v0)), some (.int v1), some (.int 0)]) C dX9_leastDeposit_1 (by decide) rfl ?_
      exact ih1 S v0 v1 0 res hT hpv0 hkv0   hF
    · intro S v0 v1 v2 res hT hpv0 hkv0 hF
      replace hF : F_X9_leastDeposit_1 f (F_X9_leastDeposit f) v0 v1 v2 S = some res := hF
      unfold F_X9_leastDeposit_1 at hF
      refine z_iload_n C dX9_leastDeposit_2 rfl ?_
      refine z_bipush (v := 9) C dX9_leastDeposit_3 (by decide) ?_
      refine z_icmp_gt C 55 dX9_leastDeposit_5 (by decide) (fun c1 => ?_) (fun c1 => ?_)
      · replace hF := ip hF c1
        refine z_iconst (v := (-1)) C dX9_leastDeposit_55 (by decide) ?_
        cases hF
        exact z_iret C hr dX9_leastDeposit_56 ⟨rfl, rfl, hT⟩
      · replace hF := im hF c1
        refine z_aload_n C dX9_leastDeposit_8 rfl ?_
        refine f_getr C dX9_leastDeposit_9 zfRX9_12 hpv0 hkv0 rfl ?_
        obtain ⟨hp2, hk2⟩ := hT.1 v0 8 1 (.inl 3) hpv0 hkv0 rfl
        refine z_aload_n C dX9_leastDeposit_12 rfl ?_
        refine f_getr C dX9_leastDeposit_13 zfRX9_25 hpv0 hkv0 rfl ?_
        obtain ⟨hp3, hk3⟩ := hT.1 v0 8 0 (.inl 3) hpv0 hkv0 rfl
        obtain ⟨S4, h4, hF⟩ := bV_some hF
        refine f_cV (st2 := []) C dX9_leastDeposit_16 zyX4_become zvX4_become lkRX9_45 (K_X4_become (l := zXl X) hT hp2 hk2 hp3 hk3 h4) hp2 hk2 rfl (by decide) rfl rfl (Nat.le_of_ble_eq_true rfl) rfl (fun hT4 => ?_)
        refine z_aload_n C dX9_leastDeposit_19 rfl ?_
        refine f_getr C dX9_leastDeposit_20 zfRX9_12 hpv0 hkv0 rfl ?_
        obtain ⟨hp5, hk5⟩ := hT4.1 v0 8 1 (.inl 3) hpv0 hkv0 rfl
        refine z_iload_n C dX9_leastDeposit_23 rfl ?_
        refine f_puti C dX9_leastDeposit_24 zfRX9_96 fw3_8 hp5 hk5 rfl rfl rfl ?_
        have hT6 : zT0 kd N0 (sI S4 (gR S4 v0 1) 8 v2) := zT0_sI hT4
        replace hF := fS_e hF
        generalize sI S4 (gR S4 v0 1) 8 v2 = S6 at hF hT6 ⊢
        refine z_aload_n C dX9_leastDeposit_27 rfl ?_
        refine z_iconst (v := (-1)) C dX9_leastDeposit_28 (by decide) ?_
        refine z_aload_n C dX9_leastDeposit_29 rfl ?_
        refine f_getr C dX9_leastDeposit_30 zfRX9_12 hpv0 hkv0 rfl ?_
        obtain ⟨hp7, hk7⟩ := hT6.1 v0 8 1 (.inl 3) hpv0 hkv0 rfl
        obtain ⟨S8, h8, hF⟩ := bV_some hF
        refine f_cV (st2 := []) C dX9_leastDeposit_33 zyX9_allWalkBut zvX9_allWalkBut lkRX9_49 (K_X9_allWalkBut (l := zXl X) hT6 hpv0 hkv0  hp7 hk7 h8) hpv0 hkv0 rfl (by decide) rfl rfl (Nat.le_of_ble_eq_true rfl) rfl (fun hT8 => ?_)
        refine z_aload_n C dX9_leastDeposit_36 rfl ?_
        refine f_getr C dX9_leastDeposit_37 zfRX9_12 hpv0 hkv0 rfl ?_
        obtain ⟨hp9, hk9⟩ := hT8.1 v0 8 1 (.inl 3) hpv0 hkv0 rfl
        obtain ⟨x10, S10, h10, hF⟩ := bI_some hF
        refine f_cV (st2 := [.int x10]) C dX9_leastDeposit_40 zyX4_total zvX4_total lkRX9_53 (K_X4_total (l := zXl X) hT8 hp9 hk9 h10) hp9 hk9 rfl (by decide) rfl rfl (Nat.le_of_ble_eq_true rfl) rfl (fun hT10 => ?_)
        refine z_iload_n C dX9_leastDeposit_43 rfl ?_
        refine z_icmp_gt C 49 dX9_leastDeposit_44 (by decide) (fun c11 => ?_) (fun c11 => ?_)
        · replace hF := ip hF c11
          refine z_iinc (v := v2 + 1) (lv2 := [some (.ref (zB G + v0)), some (.int v1), some (.int (v2 + 1))]) C dX9_leastDeposit_49 rfl (by rw [show Int32.ofInt 1 = (1 : Int32) from by decide]) rfl ?_
          refine z_goto C 2 dX9_leastDeposit_52 (by decide) ?_
          exact ih1 S10 v0 v1 (v2 + 1) res hT10 hpv0 hkv0   hF
        · replace hF := im hF c11
          refine z_iload_n C dX9_leastDeposit_47 rfl ?_
          cases hF
          exact z_iret C hr dX9_leastDeposit_48 ⟨rfl, rfl, hT10⟩
theorem K_X9_leastDeposit {G : zG} {l : Launch} {kd : kD} {N0 f : Nat} {S : aS} {v0 : Nat} {v1 : Int32} {res : Option Value × aS} (hT : zT0 kd N0 S) (hpv0 : v0 < N0) (hkv0 : kd v0 = .inl 8) (hF : F_X9_leastDeposit f 0 [.ref v0, .int v1] S = some res) : zM G l 5 0 0 yX9_leastDeposit cX9_leastDeposit 3 (some .int) [.ref (zB G + v0), .int v1] (cn G kd N0 S) (zPo G kd N0 res) := zM.of (by decide) rfl (Nat.le_of_ble_eq_true rfl) (fun X _ C hr _ => (B_X9_leastDeposit C hr f).1 S v0 v1 res hT hpv0 hkv0 hF)
def F_X9_act_0 (f : Nat) (rc : Nat → List Value → aS → aR) (v0 : Nat) (v1 : Nat) (v2 : Int32) (S : aS) : aR :=
  bX v2 40 fun q2 => bX v2 40 fun q4 => if (gI S (gR S v1 0) q4) = 0 then bI (F_X9_walkOf f 0 [.ref v0, .int (gI S (gR S v1 1) q2), .ref (gR S v0 1)] S) fun x7 S7 => rc 1 [] S7 else if (gI S (gR S v1 0) q4) = 1 then bI (F_X4_emptyBin f 0 [.ref (gR S v0 1), .int (gI S (gR S v1 1) q2), .int (gI S (gR S v0 3) 10)] S) fun x11 S11 => rc 1 [] S11 else if (gI S (gR S v1 0) q4) = 2 then bX v2 40 fun q15 => bV (F_X4_setBin f 0 [.ref (gR S v0 1), .int (gI S (gR S v1 1) q2), .int (gI S (gR S v1 2) q15)] S) fun S16 => rc 1 [] S16 else if (gI S (gR S v1 0) q4) = 3 then bI (F_X4_takeBin f 0 [.ref (gR S v0 1), .int (gI S (gR S v1 1) q2)] S) fun x19 S19 => rc 1 [] S19 else if (gI S (gR S v1 0) q4) = 4 then bI (F_X4_sweepYard f 0 [.ref (gR S v0 1), .int (gI S (gR S v1 1) q2)] S) fun x22 S22 => rc 1 [] S22 else bI (F_X4_passHour f 0 [.ref (gR S v0 1), .ref (gR S v0 3)] S) fun x26 S26 => rc 1 [] S26
def F_X9_act_1 (f : Nat) (rc : Nat → List Value → aS → aR)  (S : aS) : aR :=
  some (none, S)
def F_X9_act : Nat → Nat → List Value → aS → aR
  | 0, _, _, _ => none
  | f + 1, 0, vs, S => F_X9_act_0 f (F_X9_act f) (vR vs 0) (vR vs 1) (vI vs 2) S
  | f + 1, 1, vs, S => F_X9_act_1 f (F_X9_act f)  S
  | _ + 1, _, _, _ => none
theorem dX9_act_0 : decode cX9_act 0 = .ok (.aload_n 1, 1) := by decide +kernel
theorem dX9_act_1 : decode cX9_act 1 = .ok (.getfield 131, 3) := by decide +kernel
theorem dX9_act_4 : decode cX9_act 4 = .ok (.iload_n 2, 1) := by decide +kernel
theorem dX9_act_5 : decode cX9_act 5 = .ok (.iaload, 1) := by decide +kernel
theorem dX9_act_6 : decode cX9_act 6 = .ok (.istore_n 3, 1) := by decide +kernel
theorem dX9_act_7 : decode cX9_act 7 = .ok (.aload_n 1, 1) := by decide +kernel
theorem dX9_act_8 : decode cX9_act 8 = .ok (.getfield 122, 3) := by decide +kernel
theorem dX9_act_11 : decode cX9_act 11 = .ok (.iload_n 2, 1) := by decide +kernel
theorem dX9_act_12 : decode cX9_act 12 = .ok (.iaload, 1) := by decide +kernel
theorem dX9_act_13 : decode cX9_act 13 = .ok (.tableswitch 108 0 4 #[35, 48, 67, 84, 96], 35) := by decide +kernel
theorem dX9_act_48 : decode cX9_act 48 = .ok (.aload_n 0, 1) := by decide +kernel
theorem dX9_act_49 : decode cX9_act 49 = .ok (.iload_n 3, 1) := by decide +kernel
theorem dX9_act_50 : decode cX9_act 50 = .ok (.aload_n 0, 1) := by decide +kernel
theorem dX9_act_51 : decode cX9_act 51 = .ok (.getfield 12, 3) := by decide +kernel
theorem dX9_act_54 : decode cX9_act 54 = .ok (.invokevirtual 57, 3) := by decide +kernel
theorem dX9_act_57 : decode cX9_act 57 = .ok (.pop, 1) := by decide +kernel
theorem dX9_act_58 : decode cX9_act 58 = .ok (.goto 75, 3) := by decide +kernel
theorem dX9_act_61 : decode cX9_act 61 = .ok (.aload_n 0, 1) := by decide +kernel
theorem dX9_act_62 : decode cX9_act 62 = .ok (.getfield 12, 3) := by decide +kernel
theorem dX9_act_65 : decode cX9_act 65 = .ok (.iload_n 3, 1) := by decide +kernel
theorem dX9_act_66 : decode cX9_act 66 = .ok (.aload_n 0, 1) := by decide +kernel
theorem dX9_act_67 : decode cX9_act 67 = .ok (.getfield 28, 3) := by decide +kernel
theorem dX9_act_70 : decode cX9_act 70 = .ok (.getfield 137, 3) := by decide +kernel
theorem dX9_act_73 : decode cX9_act 73 = .ok (.invokevirtual 140, 3) := by decide +kernel
theorem dX9_act_76 : decode cX9_act 76 = .ok (.pop, 1) := by decide +kernel
theorem dX9_act_77 : decode cX9_act 77 = .ok (.goto 56, 3) := by decide +kernel
theorem dX9_act_80 : decode cX9_act 80 = .ok (.aload_n 0, 1) := by decide +kernel
theorem dX9_act_81 : decode cX9_act 81 = .ok (.getfield 12, 3) := by decide +kernel
theorem dX9_act_84 : decode cX9_act 84 = .ok (.iload_n 3, 1) := by decide +kernel
theorem dX9_act_85 : decode cX9_act 85 = .ok (.aload_n 1, 1) := by decide +kernel
theorem dX9_act_86 : decode cX9_act 86 = .ok (.getfield 144, 3) := by decide +kernel
theorem dX9_act_89 : decode cX9_act 89 = .ok (.iload_n 2, 1) := by decide +kernel
theorem dX9_act_90 : decode cX9_act 90 = .ok (.iaload, 1) := by decide +kernel
theorem dX9_act_91 : decode cX9_act 91 = .ok (.invokevirtual 147, 3) := by decide +kernel
theorem dX9_act_94 : decode cX9_act 94 = .ok (.goto 39, 3) := by decide +kernel
theorem dX9_act_97 : decode cX9_act 97 = .ok (.aload_n 0, 1) := by decide +kernel
theorem dX9_act_98 : decode cX9_act 98 = .ok (.getfield 12, 3) := by decide +kernel
theorem dX9_act_101 : decode cX9_act 101 = .ok (.iload_n 3, 1) := by decide +kernel
theorem dX9_act_102 : decode cX9_act 102 = .ok (.invokevirtual 151, 3) := by decide +kernel
theorem dX9_act_105 : decode cX9_act 105 = .ok (.pop, 1) := by decide +kernel
theorem dX9_act_106 : decode cX9_act 106 = .ok (.goto 27, 3) := by decide +kernel
theorem dX9_act_109 : decode cX9_act 109 = .ok (.aload_n 0, 1) := by decide +kernel
theorem dX9_act_110 : decode cX9_act 110 = .ok (.getfield 12, 3) := by decide +kernel
theorem dX9_act_113 : decode cX9_act 113 = .ok (.iload_n 3, 1) := by decide +kernel
theorem dX9_act_114 : decode cX9_act 114 = .ok (.invokevirtual 154, 3) := by decide +kernel
theorem dX9_act_117 : decode cX9_act 117 = .ok (.pop, 1) := by decide +kernel
theorem dX9_act_118 : decode cX9_act 118 = .ok (.goto 15, 3) := by decide +kernel
theorem dX9_act_121 : decode cX9_act 121 = .ok (.aload_n 0, 1) := by decide +kernel
theorem dX9_act_122 : decode cX9_act 122 = .ok (.getfield 12, 3) := by decide +kernel
theorem dX9_act_125 : decode cX9_act 125 = .ok (.aload_n 0, 1) := by decide +kernel
theorem dX9_act_126 : decode cX9_act 126 = .ok (.getfield 28, 3) := by decide +kernel
theorem dX9_act_129 : decode cX9_act 129 = .ok (.invokevirtual 92, 3) := by decide +kernel
theorem dX9_act_132 : decode cX9_act 132 = .ok (.pop, 1) := by decide +kernel
theorem dX9_act_133 : decode cX9_act 133 = .ok (.return_, 1) := by decide +kernel
set_option maxHeartbeats 4000000 in
set_option maxRecDepth 100000 in
theorem B_X9_act {G : zG} {X : zX} {kd : kD} {N0 : Nat} (C : zCt G X 5 0 0 RX9 cX9_act 4) (hr : (zXh X).sig.returnType = none) : ∀ f : Nat,
    (∀ (S : aS) (v0 : Nat) (v1 : Nat) (v2 : Int32) (res : Option Value × aS), zT0 kd N0 S → v0 < N0 → kd v0 = .inl 8 → v1 < N0 → kd v1 = .inl 0 → F_X9_act f 0 [.ref v0, .ref v1, .int v2] S = some res → zV G X (zQX G X (zPo G kd N0 res) 0 0) 4 [some (.ref (zB G + v0)), some (.ref (zB G + v1)), some (.int v2), none] [] (cn G kd N0 S) 0 0 0) ∧
    (∀ (S : aS)  (res : Option Value × aS), zT0 kd N0 S → F_X9_act f 1 [] S = some res → zV G X (zQX G X (zPo G kd N0 res) 0 0) 4 [none, none, none, none] [] (cn G kd N0 S) 133 0 0) := by
  intro f
  induction f with
  | zero => exact ⟨(fun _ _ _ _ _ _ _ _ _ _ h => by cases h), (fun _ _ _ h => by cases h)⟩
  | succ f ih =>
    obtain ⟨ih0, ih1⟩ := ih
    refine ⟨?_, ?_⟩
    · intro S v0 v1 v2 res hT hpv0 hkv0 hpv1 hkv1 hF
      replace hF : F_X9_act_0 f (F_X9_act f) v0 v1 v2 S = some res := hF
      unfold F_X9_act_0 at hF
      refine z_aload_n C dX9_act_0 rfl ?_
      refine f_getr C dX9_act_1 zfRX9_131 hpv1 hkv1 rfl ?_
      obtain ⟨hp1, hk1⟩ := hT.1 v1 0 1 (.inr (0, 40)) hpv1 hkv1 rfl
      refine z_iload_n C dX9_act_4 rfl ?_
      obtain ⟨hi2, hF⟩ := bX_some hF
      obtain ⟨q2, eq2⟩ : ∃ q : Nat, q = Int32.toNatClampNeg v2 := ⟨_, rfl⟩
      rw [← eq2] at hF
      refine f_iald C dX9_act_5 hp1 hk1 hi2 ?_
      rw [← eq2]
      refine z_istore_n (lv2 := [some (.ref (zB G + v0)), some (.ref (zB G + v1)), some (.int v2), some (.int (gI S (gR S v1 1) q2))]) C dX9_act_6 (by decide) rfl ?_
      refine z_aload_n C dX9_act_7 rfl ?_
      refine f_getr C dX9_act_8 zfRX9_122 hpv1 hkv1 rfl ?_
      obtain ⟨hp3, hk3⟩ := hT.1 v1 0 0 (.inr (0, 40)) hpv1 hkv1 rfl
      refine z_iload_n C dX9_act_11 rfl ?_
      obtain ⟨hi4, hF⟩ := bX_some hF
      obtain ⟨q4, eq4⟩ : ∃ q : Nat, q = Int32.toNatClampNeg v2 := ⟨_, rfl⟩
      rw [← eq4] at hF
      refine f_iald C dX9_act_12 hp3 hk3 hi4 ?_
      rw [← eq4]
      by_cases c8 : (gI S (gR S v1 0) q4) = 0
      · replace hF := ip hF c8
        refine z_tabIn C 48 dX9_act_13 (by rw [c8]; decide) (by rw [c8]; decide) (off := 35) (by rw [c8]; rfl) (by decide) ?_
        refine z_aload_n C dX9_act_48 rfl ?_
        refine z_iload_n C dX9_act_49 rfl ?_
        refine z_aload_n C dX9_act_50 rfl ?_
        refine f_getr C dX9_act_51 zfRX9_12 hpv0 hkv0 rfl ?_
        obtain ⟨hp6, hk6⟩ := hT.1 v0 8 1 (.inl 3) hpv0 hkv0 rfl
        obtain ⟨x7, S7, h7, hF⟩ := bI_some hF
        refine f_cV (st2 := [.int x7]) C dX9_act_54 zyX9_walkOf zvX9_walkOf lkRX9_57 (K_X9_walkOf (l := zXl X) hT hpv0 hkv0  hp6 hk6 h7) hpv0 hkv0 rfl (by decide) rfl rfl (Nat.le_of_ble_eq_true rfl) rfl (fun hT7 => ?_)
        refine z_pop C dX9_act_57 rfl ?_
        refine z_goto C 133 dX9_act_58 (by decide) ?_
        refine z_mask [false, false, false, false] ?_ rfl
        exact ih1 S7  res hT7  hF
      replace hF := im hF c8
      by_cases c12 : (gI S (gR S v1 0) q4) = 1
      · replace hF := ip hF c12
        refine z_tabIn C 61 dX9_act_13 (by rw [c12]; decide) (by rw [c12]; decide) (off := 48) (by rw [c12]; rfl) (by decide) ?_
        refine z_aload_n C dX9_act_61 rfl ?_
        refine f_getr C dX9_act_62 zfRX9_12 hpv0 hkv0 rfl ?_
        obtain ⟨hp9, hk9⟩ := hT.1 v0 8 1 (.inl 3) hpv0 hkv0 rfl
        refine z_iload_n C dX9_act_65 rfl ?_
        refine z_aload_n C dX9_act_66 rfl ?_
        refine f_getr C dX9_act_67 zfRX9_28 hpv0 hkv0 rfl ?_
        obtain ⟨hp10, hk10⟩ := hT.1 v0 8 3 (.inl 5) hpv0 hkv0 rfl
        refine f_geti C dX9_act_70 zfRX9_137 hp10 hk10 rfl ?_
        obtain ⟨x11, S11, h11, hF⟩ := bI_some hF
        refine f_cV (st2 := [.int x11]) C dX9_act_73 zyX4_emptyBin zvX4_emptyBin lkRX9_140 (K_X4_emptyBin (l := zXl X) hT hp9 hk9   h11) hp9 hk9 rfl (by decide) rfl rfl (Nat.le_of_ble_eq_true rfl) rfl (fun hT11 => ?_)
        refine z_pop C dX9_act_76 rfl ?_
        refine z_goto C 133 dX9_act_77 (by decide) ?_
        refine z_mask [false, false, false, false] ?_ rfl
        exact ih1 S11  res hT11  hF
      replace hF := im hF c12
      by_cases c17 : (gI S (gR S v1 0) q4) = 2
      · replace hF := ip hF c17
        refine z_tabIn C 80 dX9_act_13 (by rw [c17]; decide) (by rw [c17]; decide) (off := 67) (by rw [c17]; rfl) (by decide) ?_
        refine z_aload_n C dX9_act_80 rfl ?_
        refine f_getr C dX9_act_81 zfRX9_12 hpv0 hkv0 rfl ?_
        obtain ⟨hp13, hk13⟩ := hT.1 v0 8 1 (.inl 3) hpv0 hkv0 rfl
        refine z_iload_n C dX9_act_84 rfl ?_
        refine z_aload_n C dX9_act_85 rfl ?_
        refine f_getr C dX9_act_86 zfRX9_144 hpv1 hkv1 rfl ?_
        obtain ⟨hp14, hk14⟩ := hT.1 v1 0 2 (.inr (0, 40)) hpv1 hkv1 rfl
        refine z_iload_n C dX9_act_89 rfl ?_
        obtain ⟨hi15, hF⟩ := bX_some hF
        obtain ⟨q15, eq15⟩ : ∃ q : Nat, q = Int32.toNatClampNeg v2 := ⟨_, rfl⟩
        rw [← eq15] at hF
        refine f_iald C dX9_act_90 hp14 hk14 hi15 ?_
        rw [← eq15]
        obtain ⟨S16, h16, hF⟩ := bV_some hF
        refine f_cV (st2 := []) C dX9_act_91 zyX4_setBin zvX4_setBin lkRX9_147 (K_X4_setBin (l := zXl X) hT hp13 hk13   h16) hp13 hk13 rfl (by decide) rfl rfl (Nat.le_of_ble_eq_true rfl) rfl (fun hT16 => ?_)
        refine z_goto C 133 dX9_act_94 (by decide) ?_
        refine z_mask [false, false, false, false] ?_ rfl
        exact ih1 S16  res hT16  hF
      replace hF := im hF c17
      by_cases c20 : (gI S (gR S v1 0) q4) = 3
      · replace hF := ip hF c20
        refine z_tabIn C 97 dX9_act_13 (by rw [c20]; decide) (by rw [c20]; decide) (off := 84) (by rw [c20]; rfl) (by decide) ?_
        refine z_aload_n C dX9_act_97 rfl ?_
        refine f_getr C dX9_act_98 zfRX9_12 hpv0 hkv0 rfl ?_
        obtain ⟨hp18, hk18⟩ := hT.1 v0 8 1 (.inl 3) hpv0 hkv0 rfl
        refine z_iload_n C dX9_act_101 rfl ?_
        obtain ⟨x19, S19, h19, hF⟩ := bI_some hF
        refine f_cV (st2 := [.int x19]) C dX9_act_102 zyX4_takeBin zvX4_takeBin lkRX9_151 (K_X4_takeBin (l := zXl X) hT hp18 hk18  h19) hp18 hk18 rfl (by decide) rfl rfl (Nat.le_of_ble_eq_true rfl) rfl (fun hT19 => ?_)
        refine z_pop C dX9_act_105 rfl ?_
        refine z_goto C 133 dX9_act_106 (by decide) ?_
        refine z_mask [false, false, false, false] ?_ rfl
        exact ih1 S19  res hT19  hF
      replace hF := im hF c20
      by_cases c23 : (gI S (gR S v1 0) q4) = 4
      · replace hF := ip hF c23
        refine z_tabIn C 109 dX9_act_13 (by rw [c23]; decide) (by rw [c23]; decide) (off := 96) (by rw [c23]; rfl) (by decide) ?_
        refine z_aload_n C dX9_act_109 rfl ?_
        refine f_getr C dX9_act_110 zfRX9_12 hpv0 hkv0 rfl ?_
        obtain ⟨hp21, hk21⟩ := hT.1 v0 8 1 (.inl 3) hpv0 hkv0 rfl
        refine z_iload_n C dX9_act_113 rfl ?_
        obtain ⟨x22, S22, h22, hF⟩ := bI_some hF
        refine f_cV (st2 := [.int x22]) C dX9_act_114 zyX4_sweepYard zvX4_sweepYard lkRX9_154 (K_X4_sweepYard (l := zXl X) hT hp21 hk21  h22) hp21 hk21 rfl (by decide) rfl rfl (Nat.le_of_ble_eq_true rfl) rfl (fun hT22 => ?_)
        refine z_pop C dX9_act_117 rfl ?_
        refine z_goto C 133 dX9_act_118 (by decide) ?_
        refine z_mask [false, false, false, false] ?_ rfl
        exact ih1 S22  res hT22  hF
      replace hF := im hF c23
      refine z_tabOut C 121 dX9_act_13 (f_tabOut (fun v h1 h2 e => by
        rcases (show v = 0 ∨ v = 1 ∨ v = 2 ∨ v = 3 ∨ v = 4 by omega) with rfl | rfl | rfl | rfl | rfl
        · exact c8 (Int32.toInt_inj.mp (e.trans (by decide)))
        · exact c12 (Int32.toInt_inj.mp (e.trans (by decide)))
        · exact c17 (Int32.toInt_inj.mp (e.trans (by decide)))
        · exact c20 (Int32.toInt_inj.mp (e.trans (by decide)))
        · exact c23 (Int32.toInt_inj.mp (e.trans (by decide))))) (by decide) ?_
      refine z_aload_n C dX9_act_121 rfl ?_
      refine f_getr C dX9_act_122 zfRX9_12 hpv0 hkv0 rfl ?_
      obtain ⟨hp24, hk24⟩ := hT.1 v0 8 1 (.inl 3) hpv0 hkv0 rfl
      refine z_aload_n C dX9_act_125 rfl ?_
      refine f_getr C dX9_act_126 zfRX9_28 hpv0 hkv0 rfl ?_
      obtain ⟨hp25, hk25⟩ := hT.1 v0 8 3 (.inl 5) hpv0 hkv0 rfl
      obtain ⟨x26, S26, h26, hF⟩ := bI_some hF
      refine f_cV (st2 := [.int x26]) C dX9_act_129 zyX4_passHour zvX4_passHour lkRX9_92 (K_X4_passHour (l := zXl X) hT hp24 hk24 hp25 hk25 h26) hp24 hk24 rfl (by decide) rfl rfl (Nat.le_of_ble_eq_true rfl) rfl (fun hT26 => ?_)
      refine z_pop C dX9_act_132 rfl ?_
      refine z_mask [false, false, false, false] ?_ rfl
      exact ih1 S26  res hT26  hF
    · intro S  res hT  hF
      replace hF : F_X9_act_1 f (F_X9_act f)  S = some res := hF
      unfold F_X9_act_1 at hF
      cases hF
      exact z_vret C hr dX9_act_133 ⟨rfl, rfl, hT⟩
theorem K_X9_act {G : zG} {l : Launch} {kd : kD} {N0 f : Nat} {S : aS} {v0 : Nat} {v1 : Nat} {v2 : Int32} {res : Option Value × aS} (hT : zT0 kd N0 S) (hpv0 : v0 < N0) (hkv0 : kd v0 = .inl 8) (hpv1 : v1 < N0) (hkv1 : kd v1 = .inl 0) (hF : F_X9_act f 0 [.ref v0, .ref v1, .int v2] S = some res) : zM G l 5 0 0 yX9_act cX9_act 4 none [.ref (zB G + v0), .ref (zB G + v1), .int v2] (cn G kd N0 S) (zPo G kd N0 res) := zM.of (by decide) rfl (Nat.le_of_ble_eq_true rfl) (fun X _ C hr _ => (B_X9_act C hr f).1 S v0 v1 v2 res hT hpv0 hkv0 hpv1 hkv1 hF)
def F_X9_afterWeeks_0 (f : Nat) (rc : Nat → List Value → aS → aR) (v0 : Nat) (v1 : Int32) (v2 : Int32) (S : aS) : aR :=
  bV (F_X4_become f 0 [.ref (gR S v0 1), .ref (gR S v0 0)] S) fun S3 => fS (sJ S3 v0 4 (Int32.toInt64 v1)) fun S4 => rc 1 [.ref v0, .int v2, .int 0] S4
def F_X9_afterWeeks_1 (f : Nat) (rc : Nat → List Value → aS → aR) (v0 : Nat) (v1 : Int32) (v2 : Int32) (S : aS) : aR :=
  if v1 ≤ v2 then some (some (.ref (gR S v0 1)), S) else if (gI S (gR S v0 3) 1) ≤ (0 : Int32) then rc 2 [.ref v0, .int v1, .int v2] S else rc 3 [.ref v0, .int v1, .int v2, .int 0] S
def F_X9_afterWeeks_2 (f : Nat) (rc : Nat → List Value → aS → aR) (v0 : Nat) (v1 : Int32) (v2 : Int32) (S : aS) : aR :=
  bI (F_X9_draw f 0 [.ref v0, .int 5] S) fun x15 S15 => if x15 = (0 : Int32) then bV (F_X4_emptyBins f 0 [.ref (gR S15 v0 1), .int (gI S15 (gR S15 v0 3) 10)] S15) fun S22 => rc 4 [.ref v0, .int v1, .int v2] S22 else rc 4 [.ref v0, .int v1, .int v2] S15
def F_X9_afterWeeks_3 (f : Nat) (rc : Nat → List Value → aS → aR) (v0 : Nat) (v1 : Int32) (v2 : Int32) (v3 : Int32) (S : aS) : aR :=
  if (3 : Int32) ≤ v3 then rc 2 [.ref v0, .int v1, .int v2] S else bI (F_X9_draw f 0 [.ref v0, .int (gI S (gR S v0 3) 1)] S) fun x27 S27 => bI (F_X9_walkOf f 0 [.ref v0, .int x27, .ref (gR S27 v0 1)] S27) fun x29 S29 => rc 3 [.ref v0, .int v1, .int v2, .int (v3 + 1)] S29
def F_X9_afterWeeks_4 (f : Nat) (rc : Nat → List Value → aS → aR) (v0 : Nat) (v1 : Int32) (v2 : Int32) (S : aS) : aR :=
  bI (F_X4_passHour f 0 [.ref (gR S v0 1), .ref (gR S v0 3)] S) fun x32 S32 => rc 1 [.ref v0, .int v1, .int (v2 + 1)] S32
def F_X9_afterWeeks : Nat → Nat → List Value → aS → aR
  | 0, _, _, _ => none
  | f + 1, 0, vs, S => F_X9_afterWeeks_0 f (F_X9_afterWeeks f) (vR vs 0) (vI vs 1) (vI vs 2) S
  | f + 1, 1, vs, S => F_X9_afterWeeks_1 f (F_X9_afterWeeks f) (vR vs 0) (vI vs 1) (vI vs 2) S
  | f + 1, 2, vs, S => F_X9_afterWeeks_2 f (F_X9_afterWeeks f) (vR vs 0) (vI vs 1) (vI vs 2) S
  | f + 1, 3, vs, S => F_X9_afterWeeks_3 f (F_X9_afterWeeks f) (vR vs 0) (vI vs 1) (vI vs 2) (vI vs 3) S
  | f + 1, 4, vs, S => F_X9_afterWeeks_4 f (F_X9_afterWeeks f) (vR vs 0) (vI vs 1) (vI vs 2) S
  | _ + 1, _, _, _ => none
theorem dX9_afterWeeks_0 : decode cX9_afterWeeks 0 = .ok (.aload_n 0, 1) := by decide +kernel
theorem dX9_afterWeeks_1 : decode cX9_afterWeeks 1 = .ok (.getfield 12, 3) := by decide +kernel
theorem dX9_afterWeeks_4 : decode cX9_afterWeeks 4 = .ok (.aload_n 0, 1) := by decide +kernel
theorem dX9_afterWeeks_5 : decode cX9_afterWeeks 5 = .ok (.getfield 25, 3) := by decide +kernel
theorem dX9_afterWeeks_8 : decode cX9_afterWeeks 8 = .ok (.invokevirtual 45, 3) := by decide +kernel
theorem dX9_afterWeeks_11 : decode cX9_afterWeeks 11 = .ok (.aload_n 0, 1) := by decide +kernel
theorem dX9_afterWeeks_12 : decode cX9_afterWeeks 12 = .ok (.iload_n 1, 1) := by decide +kernel
theorem dX9_afterWeeks_13 : decode cX9_afterWeeks 13 = .ok (.i2l, 1) := by decide +kernel
theorem dX9_afterWeeks_14 : decode cX9_afterWeeks 14 = .ok (.putfield 157, 3) := by decide +kernel
theorem dX9_afterWeeks_17 : decode cX9_afterWeeks 17 = .ok (.iconst 0, 1) := by decide +kernel
theorem dX9_afterWeeks_18 : decode cX9_afterWeeks 18 = .ok (.istore_n 3, 1) := by decide +kernel
theorem dX9_afterWeeks_19 : decode cX9_afterWeeks 19 = .ok (.iload_n 3, 1) := by decide +kernel
theorem dX9_afterWeeks_20 : decode cX9_afterWeeks 20 = .ok (.iload_n 2, 1) := by decide +kernel
theorem dX9_afterWeeks_21 : decode cX9_afterWeeks 21 = .ok (.if_icmp .ge 88, 3) := by decide +kernel
theorem dX9_afterWeeks_24 : decode cX9_afterWeeks 24 = .ok (.aload_n 0, 1) := by decide +kernel
theorem dX9_afterWeeks_25 : decode cX9_afterWeeks 25 = .ok (.getfield 28, 3) := by decide +kernel
theorem dX9_afterWeeks_28 : decode cX9_afterWeeks 28 = .ok (.getfield 40, 3) := by decide +kernel
theorem dX9_afterWeeks_31 : decode cX9_afterWeeks 31 = .ok (.ifCond .le 38, 3) := by decide +kernel
theorem dX9_afterWeeks_34 : decode cX9_afterWeeks 34 = .ok (.iconst 0, 1) := by decide +kernel
theorem dX9_afterWeeks_35 : decode cX9_afterWeeks 35 = .ok (.istore 4, 2) := by decide +kernel
theorem dX9_afterWeeks_37 : decode cX9_afterWeeks 37 = .ok (.iload 4, 2) := by decide +kernel
theorem dX9_afterWeeks_39 : decode cX9_afterWeeks 39 = .ok (.iconst 3, 1) := by decide +kernel
theorem dX9_afterWeeks_40 : decode cX9_afterWeeks 40 = .ok (.if_icmp .ge 29, 3) := by decide +kernel
theorem dX9_afterWeeks_43 : decode cX9_afterWeeks 43 = .ok (.aload_n 0, 1) := by decide +kernel
theorem dX9_afterWeeks_44 : decode cX9_afterWeeks 44 = .ok (.aload_n 0, 1) := by decide +kernel
theorem dX9_afterWeeks_45 : decode cX9_afterWeeks 45 = .ok (.aload_n 0, 1) := by decide +kernel
theorem dX9_afterWeeks_46 : decode cX9_afterWeeks 46 = .ok (.getfield 28, 3) := by decide +kernel
theorem dX9_afterWeeks_49 : decode cX9_afterWeeks 49 = .ok (.getfield 40, 3) := by decide +kernel
theorem dX9_afterWeeks_52 : decode cX9_afterWeeks 52 = .ok (.invokevirtual 161, 3) := by decide +kernel
theorem dX9_afterWeeks_55 : decode cX9_afterWeeks 55 = .ok (.aload_n 0, 1) := by decide +kernel
theorem dX9_afterWeeks_56 : decode cX9_afterWeeks 56 = .ok (.getfield 12, 3) := by decide +kernel
theorem dX9_afterWeeks_59 : decode cX9_afterWeeks 59 = .ok (.invokevirtual 57, 3) := by decide +kernel
theorem dX9_afterWeeks_62 : decode cX9_afterWeeks 62 = .ok (.pop, 1) := by decide +kernel
theorem dX9_afterWeeks_63 : decode cX9_afterWeeks 63 = .ok (.iinc 4 1, 3) := by decide +kernel
theorem dX9_afterWeeks_66 : decode cX9_afterWeeks 66 = .ok (.goto (-29), 3) := by decide +kernel
theorem dX9_afterWeeks_69 : decode cX9_afterWeeks 69 = .ok (.aload_n 0, 1) := by decide +kernel
theorem dX9_afterWeeks_70 : decode cX9_afterWeeks 70 = .ok (.iconst 5, 1) := by decide +kernel
theorem dX9_afterWeeks_71 : decode cX9_afterWeeks 71 = .ok (.invokevirtual 161, 3) := by decide +kernel
theorem dX9_afterWeeks_74 : decode cX9_afterWeeks 74 = .ok (.ifCond .ne 17, 3) := by decide +kernel
theorem dX9_afterWeeks_77 : decode cX9_afterWeeks 77 = .ok (.aload_n 0, 1) := by decide +kernel
theorem dX9_afterWeeks_78 : decode cX9_afterWeeks 78 = .ok (.getfield 12, 3) := by decide +kernel
theorem dX9_afterWeeks_81 : decode cX9_afterWeeks 81 = .ok (.aload_n 0, 1) := by decide +kernel
theorem dX9_afterWeeks_82 : decode cX9_afterWeeks 82 = .ok (.getfield 28, 3) := by decide +kernel
theorem dX9_afterWeeks_85 : decode cX9_afterWeeks 85 = .ok (.getfield 137, 3) := by decide +kernel
theorem dX9_afterWeeks_88 : decode cX9_afterWeeks 88 = .ok (.invokevirtual 164, 3) := by decide +kernel
theorem dX9_afterWeeks_91 : decode cX9_afterWeeks 91 = .ok (.aload_n 0, 1) := by decide +kernel
theorem dX9_afterWeeks_92 : decode cX9_afterWeeks 92 = .ok (.getfield 12, 3) := by decide +kernel
theorem dX9_afterWeeks_95 : decode cX9_afterWeeks 95 = .ok (.aload_n 0, 1) := by decide +kernel
theorem dX9_afterWeeks_96 : decode cX9_afterWeeks 96 = .ok (.getfield 28, 3) := by decide +kernel
theorem dX9_afterWeeks_99 : decode cX9_afterWeeks 99 = .ok (.invokevirtual 92, 3) := by decide +kernel
theorem dX9_afterWeeks_102 : decode cX9_afterWeeks 102 = .ok (.pop, 1) := by decide +kernel
theorem dX9_afterWeeks_103 : decode cX9_afterWeeks 103 = .ok (.iinc 3 1, 3) := by decide +kernel
theorem dX9_afterWeeks_106 : decode cX9_afterWeeks 106 = .ok (.goto (-87), 3) := by decide +kernel
theorem dX9_afterWeeks_109 : decode cX9_afterWeeks 109 = .ok (.aload_n 0, 1) := by decide +kernel
theorem dX9_afterWeeks_110 : decode cX9_afterWeeks 110 = .ok (.getfield 12, 3) := by decide +kernel
theorem dX9_afterWeeks_113 : decode cX9_afterWeeks 113 = .ok (.areturn, 1) := by decide +kernel
set_option maxHeartbeats 4000000 in
set_option maxRecDepth 100000 in
theorem B_X9_afterWeeks {G : zG} {X : zX} {kd : kD} {N0 : Nat} (C : zCt G X 5 0 0 RX9 cX9_afterWeeks 5) (hr : (zXh X).sig.returnType = (some (.object "LakeBins$Lake"))) : ∀ f : Nat,
    (∀ (S : aS) (v0 : Nat) (v1 : Int32) (v2 : Int32) (res : Option Value × aS), zT0 kd N0 S → v0 < N0 → kd v0 = .inl 8 → F_X9_afterWeeks f 0 [.ref v0, .int v1, .int v2] S = some res → zV G X (zQX G X (zPr G kd N0 (.inl 3) res) 0 0) 5 [some (.ref (zB G + v0)), some (.int v1), some (.int v2), none, none] [] (cn G kd N0 S) 0 0 0) ∧
    (∀ (S : aS) (v0 : Nat) (v1 : Int32) (v2 : Int32) (res : Option Value × aS), zT0 kd N0 S → v0 < N0 → kd v0 = .inl 8 → F_X9_afterWeeks f 1 [.ref v0, .int v1, .int v2] S = some res → zV G X (zQX G X (zPr G kd N0 (.inl 3) res) 0 0) 5 [some (.ref (zB G + v0)), none, some (.int v1), some (.int v2), none] [] (cn G kd N0 S) 19 0 0) ∧
    (∀ (S : aS) (v0 : Nat) (v1 : Int32) (v2 : Int32) (res : Option Value × aS), zT0 kd N0 S → v0 < N0 → kd v0 = .inl 8 → F_X9_afterWeeks f 2 [.ref v0, .int v1, .int v2] S = some res → zV G X (zQX G X (zPr G kd N0 (.inl 3) res) 0 0) 5 [some (.ref (zB G + v0)), none, some (.int v1), some (.int v2), none] [] (cn G kd N0 S) 69 0 0) ∧
    (∀ (S : aS) (v0 : Nat) (v1 : Int32) (v2 : Int32) (v3 : Int32) (res : Option Value × aS), zT0 kd N0 S → v0 < N0 → kd v0 = .inl 8 → F_X9_afterWeeks f 3 [.ref v0, .int v1, .int v2, .int v3] S = some res → zV G X (zQX G X (zPr G kd N0 (.inl 3) res) 0 0) 5 [some (.ref (zB G + v0)), none, some (.int v1), some (.int v2), some (.int v3)] [] (cn G kd N0 S) 37 0 0) ∧
    (∀ (S : aS) (v0 : Nat) (v1 : Int32) (v2 : Int32) (res : Option Value × aS), zT0 kd N0 S → v0 < N0 → kd v0 = .inl 8 → F_X9_afterWeeks f 4 [.ref v0, .int v1, .int v2] S = some res → zV G X (zQX G X (zPr G kd N0 (.inl 3) res) 0 0) 5 [some (.ref (zB G + v0)), none, some (.int v1), some (.int v2), none] [] (cn G kd N0 S) 91 0 0) := by
  intro f
  induction f with
  | zero => exact ⟨(fun _ _ _ _ _ _ _ _ h => by cases h), (fun _ _ _ _ _ _ _ _ h => by cases h), (fun _ _ _ _ _ _ _ _ h => by cases h), (fun _ _ _ _ _ _ _ _ _ h => by cases h), (fun _ _ _ _ _ _ _ _ h => by cases h)⟩
  | succ f ih =>
    obtain ⟨ih0, ih1, ih2, ih3, ih4⟩ := ih
    refine ⟨?_, ?_, ?_, ?_, ?_⟩
    · intro S v0 v1 v2 res hT hpv0 hkv0 hF
      replace hF : F_X9_afterWeeks_0 f (F_X9_afterWeeks f) v0 v1 v2 S = some res := hF
      unfold F_X9_afterWeeks_0 at hF
      refine z_aload_n C dX9_afterWeeks_0 rfl ?_
      refine f_getr C dX9_afterWeeks_1 zfRX9_12 hpv0 hkv0 rfl ?_
      obtain ⟨hp1, hk1⟩ := hT.1 v0 8 1 (.inl 3) hpv0 hkv0 rfl
      refine z_aload_n C dX9_afterWeeks_4 rfl ?_
      refine f_getr C dX9_afterWeeks_5 zfRX9_25 hpv0 hkv0 rfl ?_
      obtain ⟨hp2, hk2⟩ := hT.1 v0 8 0 (.inl 3) hpv0 hkv0 rfl
      obtain ⟨S3, h3, hF⟩ := bV_some hF
      refine f_cV (st2 := []) C dX9_afterWeeks_8 zyX4_become zvX4_become lkRX9_45 (K_X4_become (l := zXl X) hT hp1 hk1 hp2 hk2 h3) hp1 hk1 rfl (by decide) rfl rfl (Nat.le_of_ble_eq_true rfl) rfl (fun hT3 => ?_)
      refine z_aload_n C dX9_afterWeeks_11 rfl ?_
      refine z_iload_n C dX9_afterWeeks_12 rfl ?_
      refine z_i2l C dX9_afterWeeks_13 ?_
      refine f_putj C dX9_afterWeeks_14 zfRX9_157 fw8_4 hpv0 hkv0 rfl rfl rfl ?_
      have hT4 : zT0 kd N0 (sJ S3 v0 4 (Int32.toInt64 v1)) := zT0_sJ hT3
      replace hF := fS_e hF
      generalize sJ S3 v0 4 (Int32.toInt64 v1) = S4 at hF hT4 ⊢
      refine z_iconst (v := 0) C dX9_afterWeeks_17 (by decide) ?_
      refine z_istore_n (lv2 := [some (.ref (zB G + v0)), some (.int v1), some (.int v2), some (.int 0), none]) C dX9_afterWeeks_18 (by decide) rfl ?_
      refine z_mask [true, false, true, true, true] ?_ rfl
      exact ih1 S4 v0 v2 0 res hT4 hpv0 hkv0   hF
    · intro S v0 v1 v2 res hT hpv0 hkv0 hF
      replace hF : F_X9_afterWeeks_1 f (F_X9_afterWeeks f) v0 v1 v2 S = some res := hF
      unfold F_X9_afterWeeks_1 at hF
      refine z_iload_n C dX9_afterWeeks_19 rfl ?_
      refine z_iload_n C dX9_afterWeeks_20 rfl ?_
      refine z_icmp_ge C 109 dX9_afterWeeks_21 (by decide) (fun c8 => ?_) (fun c8 => ?_)
      · replace hF := ip hF c8
        refine z_aload_n C dX9_afterWeeks_109 rfl ?_
        refine f_getr C dX9_afterWeeks_110 zfRX9_12 hpv0 hkv0 rfl ?_
        obtain ⟨hp9, hk9⟩ := hT.1 v0 8 1 (.inl 3) hpv0 hkv0 rfl
        cases hF
        exact z_aret C hr (Or.inl ⟨_, rfl⟩) dX9_afterWeeks_113 ⟨(gR S v0 1), rfl, hp9, hk9, rfl, rfl, hT⟩
      · replace hF := im hF c8
        refine z_aload_n C dX9_afterWeeks_24 rfl ?_
        refine f_getr C dX9_afterWeeks_25 zfRX9_28 hpv0 hkv0 rfl ?_
        obtain ⟨hp10, hk10⟩ := hT.1 v0 8 3 (.inl 5) hpv0 hkv0 rfl
        refine f_geti C dX9_afterWeeks_28 zfRX9_40 hp10 hk10 rfl ?_
        refine z_if_le C 69 dX9_afterWeeks_31 (by decide) (fun c14 => ?_) (fun c14 => ?_)
        · replace hF := ip hF c14
          exact ih2 S v0 v1 v2 res hT hpv0 hkv0   hF
        · replace hF := im hF c14
          refine z_iconst (v := 0) C dX9_afterWeeks_34 (by decide) ?_
          refine z_istore (lv2 := [some (.ref (zB G + v0)), none, some (.int v1), some (.int v2), some (.int 0)]) C dX9_afterWeeks_35 (by decide) rfl ?_
          exact ih3 S v0 v1 v2 0 res hT hpv0 hkv0    hF
    · intro S v0 v1 v2 res hT hpv0 hkv0 hF
      replace hF : F_X9_afterWeeks_2 f (F_X9_afterWeeks f) v0 v1 v2 S = some res := hF
      unfold F_X9_afterWeeks_2 at hF
      refine z_aload_n C dX9_afterWeeks_69 rfl ?_
      refine z_iconst (v := 5) C dX9_afterWeeks_70 (by decide) ?_
      obtain ⟨x15, S15, h15, hF⟩ := bI_some hF
      refine f_cV (st2 := [.int x15]) C dX9_afterWeeks_71 zyX9_draw zvX9_draw lkRX9_161 (K_X9_draw (l := zXl X) hT hpv0 hkv0  h15) hpv0 hkv0 rfl (by decide) rfl rfl (Nat.le_of_ble_eq_true rfl) rfl (fun hT15 => ?_)
      refine z_if_ne C 91 dX9_afterWeeks_74 (by decide) (fun c19 => ?_) (fun c19 => ?_)
      · replace hF := im hF c19
        exact ih4 S15 v0 v1 v2 res hT15 hpv0 hkv0   hF
      · replace hF := ip hF c19
        refine z_aload_n C dX9_afterWeeks_77 rfl ?_
        refine f_getr C dX9_afterWeeks_78 zfRX9_12 hpv0 hkv0 rfl ?_
        obtain ⟨hp20, hk20⟩ := hT15.1 v0 8 1 (.inl 3) hpv0 hkv0 rfl
        refine z_aload_n C dX9_afterWeeks_81 rfl ?_
        refine f_getr C dX9_afterWeeks_82 zfRX9_28 hpv0 hkv0 rfl ?_
        obtain ⟨hp21, hk21⟩ := hT15.1 v0 8 3 (.inl 5) hpv0 hkv0 rfl
        refine f_geti C dX9_afterWeeks_85 zfRX9_137 hp21 hk21 rfl ?_
        obtain ⟨S22, h22, hF⟩ := bV_some hF
        refine f_cV (st2 := []) C dX9_afterWeeks_88 zyX4_emptyBins zvX4_emptyBins lkRX9_164 (K_X4_emptyBins (l := zXl X) hT15 hp20 hk20  h22) hp20 hk20 rfl (by decide) rfl rfl (Nat.le_of_ble_eq_true rfl) rfl (fun hT22 => ?_)
        exact ih4 S22 v0 v1 v2 res hT22 hpv0 hkv0   hF
    · intro S v0 v1 v2 v3 res hT hpv0 hkv0 hF
      replace hF : F_X9_afterWeeks_3 f (F_X9_afterWeeks f) v0 v1 v2 v3 S = some res := hF
      unfold F_X9_afterWeeks_3 at hF
      refine z_iload C dX9_afterWeeks_37 rfl ?_
      refine z_iconst (v := 3) C dX9_afterWeeks_39 (by decide) ?_
      refine z_icmp_ge C 69 dX9_afterWeeks_40 (by decide) (fun c25 => ?_) (fun c25 => ?_)
      · replace hF := ip hF c25
        refine z_mask [true, true, true, true, false] ?_ rfl
        exact ih2 S v0 v1 v2 res hT hpv0 hkv0   hF
      · replace hF := im hF c25
        refine z_aload_n C dX9_afterWeeks_43 rfl ?_
        refine z_aload_n C dX9_afterWeeks_44 rfl ?_
        refine z_aload_n C dX9_afterWeeks_45 rfl ?_
        refine f_getr C dX9_afterWeeks_46 zfRX9_28 hpv0 hkv0 rfl ?_
        obtain ⟨hp26, hk26⟩ := hT.1 v0 8 3 (.inl 5) hpv0 hkv0 rfl
        refine f_geti C dX9_afterWeeks_49 zfRX9_40 hp26 hk26 rfl ?_
        obtain ⟨x27, S27, h27, hF⟩ := bI_some hF
        refine f_cV (st2 := [.int x27, .ref (zB G + v0)]) C dX9_afterWeeks_52 zyX9_draw zvX9_draw lkRX9_161 (K_X9_draw (l := zXl X) hT hpv0 hkv0  h27) hpv0 hkv0 rfl (by decide) rfl rfl (Nat.le_of_ble_eq_true rfl) rfl (fun hT27 => ?_)
        refine z_aload_n C dX9_afterWeeks_55 rfl ?_
        refine f_getr C dX9_afterWeeks_56 zfRX9_12 hpv0 hkv0 rfl ?_
        obtain ⟨hp28, hk28⟩ := hT27.1 v0 8 1 (.inl 3) hpv0 hkv0 rfl
        obtain ⟨x29, S29, h29, hF⟩ := bI_some hF
        refine f_cV (st2 := [.int x29]) C dX9_afterWeeks_59 zyX9_walkOf zvX9_walkOf lkRX9_57 (K_X9_walkOf (l := zXl X) hT27 hpv0 hkv0  hp28 hk28 h29) hpv0 hkv0 rfl (by decide) rfl rfl (Nat.le_of_ble_eq_true rfl) rfl (fun hT29 => ?_)
        refine z_pop C dX9_afterWeeks_62 rfl ?_
        refine z_iinc (v := v3 + 1) (lv2 := [some (.ref (zB G + v0)), none, some (.int v1), some (.int v2), some (.int (v3 + 1))]) C dX9_afterWeeks_63 rfl (by rw [show Int32.ofInt 1 = (1 : Int32) from by decide]) rfl ?_
        refine z_goto C 37 dX9_afterWeeks_66 (by decide) ?_
        exact ih3 S29 v0 v1 v2 (v3 + 1) res hT29 hpv0 hkv0    hF
    · intro S v0 v1 v2 res hT hpv0 hkv0 hF
      replace hF : F_X9_afterWeeks_4 f (F_X9_afterWeeks f) v0 v1 v2 S = some res := hF
      unfold F_X9_afterWeeks_4 at hF
      refine z_aload_n C dX9_afterWeeks_91 rfl ?_
      refine f_getr C dX9_afterWeeks_92 zfRX9_12 hpv0 hkv0 rfl ?_
      obtain ⟨hp30, hk30⟩ := hT.1 v0 8 1 (.inl 3) hpv0 hkv0 rfl
      refine z_aload_n C dX9_afterWeeks_95 rfl ?_
      refine f_getr C dX9_afterWeeks_96 zfRX9_28 hpv0 hkv0 rfl ?_
      obtain ⟨hp31, hk31⟩ := hT.1 v0 8 3 (.inl 5) hpv0 hkv0 rfl
      obtain ⟨x32, S32, h32, hF⟩ := bI_some hF
      refine f_cV (st2 := [.int x32]) C dX9_afterWeeks_99 zyX4_passHour zvX4_passHour lkRX9_92 (K_X4_passHour (l := zXl X) hT hp30 hk30 hp31 hk31 h32) hp30 hk30 rfl (by decide) rfl rfl (Nat.le_of_ble_eq_true rfl) rfl (fun hT32 => ?_)
      refine z_pop C dX9_afterWeeks_102 rfl ?_
      refine z_iinc (v := v2 + 1) (lv2 := [some (.ref (zB G + v0)), none, some (.int v1), some (.int (v2 + 1)), none]) C dX9_afterWeeks_103 rfl (by rw [show Int32.ofInt 1 = (1 : Int32) from by decide]) rfl ?_
      refine z_goto C 19 dX9_afterWeeks_106 (by decide) ?_
      exact ih1 S32 v0 v1 (v2 + 1) res hT32 hpv0 hkv0   hF
theorem K_X9_afterWeeks {G : zG} {l : Launch} {kd : kD} {N0 f : Nat} {S : aS} {v0 : Nat} {v1 : Int32} {v2 : Int32} {res : Option Value × aS} (hT : zT0 kd N0 S) (hpv0 : v0 < N0) (hkv0 : kd v0 = .inl 8) (hF : F_X9_afterWeeks f 0 [.ref v0, .int v1, .int v2] S = some res) : zM G l 5 0 0 yX9_afterWeeks cX9_afterWeeks 5 (some (.object "LakeBins$Lake")) [.ref (zB G + v0), .int v1, .int v2] (cn G kd N0 S) (zPr G kd N0 (.inl 3) res) := zM.of (by decide) rfl (Nat.le_of_ble_eq_true rfl) (fun X _ C hr _ => (B_X9_afterWeeks C hr f).1 S v0 v1 v2 res hT hpv0 hkv0 hF)
def F_X12_walk_0 (f : Nat) (rc : Nat → List Value → aS → aR) (v0 : Nat) (v1 : Int32) (S : aS) : aR :=
  bI (F_X6_hasPerson f 0 [.ref (gR S v0 1), .int v1] S) fun x2 S2 => if x2 = (0 : Int32) then some (some (.int ((-1))), S2) else bV (F_X3_push f 0 [.ref (gR S2 v0 7), .ref (gR S2 v0 5)] S2) fun S6 => bI (F_X9_walkOf f 0 [.ref (gR S6 v0 11), .int v1, .ref (gR S6 v0 5)] S6) fun x9 S9 => some (some (.int x9), S9)
def F_X12_walk : Nat → Nat → List Value → aS → aR
  | 0, _, _, _ => none
  | f + 1, 0, vs, S => F_X12_walk_0 f (F_X12_walk f) (vR vs 0) (vI vs 1) S
  | _ + 1, _, _, _ => none
theorem dX12_walk_0 : decode cX12_walk 0 = .ok (.aload_n 0, 1) := by decide +kernel
theorem dX12_walk_1 : decode cX12_walk 1 = .ok (.getfield 19, 3) := by decide +kernel
theorem dX12_walk_4 : decode cX12_walk 4 = .ok (.iload_n 1, 1) := by decide +kernel
theorem dX12_walk_5 : decode cX12_walk 5 = .ok (.invokevirtual 135, 3) := by decide +kernel
theorem dX12_walk_8 : decode cX12_walk 8 = .ok (.ifCond .ne 5, 3) := by decide +kernel
theorem dX12_walk_11 : decode cX12_walk 11 = .ok (.iconst (-1), 1) := by decide +kernel
theorem dX12_walk_12 : decode cX12_walk 12 = .ok (.ireturn, 1) := by decide +kernel
theorem dX12_walk_13 : decode cX12_walk 13 = .ok (.aload_n 0, 1) := by decide +kernel
theorem dX12_walk_14 : decode cX12_walk 14 = .ok (.getfield 53, 3) := by decide +kernel
theorem dX12_walk_17 : decode cX12_walk 17 = .ok (.aload_n 0, 1) := by decide +kernel
theorem dX12_walk_18 : decode cX12_walk 18 = .ok (.getfield 39, 3) := by decide +kernel
theorem dX12_walk_21 : decode cX12_walk 21 = .ok (.invokevirtual 161, 3) := by decide +kernel
theorem dX12_walk_24 : decode cX12_walk 24 = .ok (.aload_n 0, 1) := by decide +kernel
theorem dX12_walk_25 : decode cX12_walk 25 = .ok (.getfield 70, 3) := by decide +kernel
theorem dX12_walk_28 : decode cX12_walk 28 = .ok (.iload_n 1, 1) := by decide +kernel
theorem dX12_walk_29 : decode cX12_walk 29 = .ok (.aload_n 0, 1) := by decide +kernel
theorem dX12_walk_30 : decode cX12_walk 30 = .ok (.getfield 39, 3) := by decide +kernel
theorem dX12_walk_33 : decode cX12_walk 33 = .ok (.invokevirtual 165, 3) := by decide +kernel
theorem dX12_walk_36 : decode cX12_walk 36 = .ok (.ireturn, 1) := by decide +kernel
set_option maxHeartbeats 4000000 in
set_option maxRecDepth 100000 in
theorem B_X12_walk {G : zG} {X : zX} {kd : kD} {N0 : Nat} (C : zCt G X 5 0 0 RX12 cX12_walk 2) (hr : (zXh X).sig.returnType = (some .int)) : ∀ f : Nat,
    (∀ (S : aS) (v0 : Nat) (v1 : Int32) (res : Option Value × aS), zT0 kd N0 S → v0 < N0 → kd v0 = .inl 10 → F_X12_walk f 0 [.ref v0, .int v1] S = some res → zV G X (zQX G X (zPo G kd N0 res) 0 0) 2 [some (.ref (zB G + v0)), some (.int v1)] [] (cn G kd N0 S) 0 0 0) := by
  intro f
  induction f with
  | zero => exact (fun _ _ _ _ _ _ _ h => by cases h)
  | succ f ih =>
    have ih0 := ih
    intro S v0 v1 res hT hpv0 hkv0 hF
    replace hF : F_X12_walk_0 f (F_X12_walk f) v0 v1 S = some res := hF
    unfold F_X12_walk_0 at hF
    refine z_aload_n C dX12_walk_0 rfl ?_
    refine f_getr C dX12_walk_1 zfRX12_19 hpv0 hkv0 rfl ?_
    obtain ⟨hp1, hk1⟩ := hT.1 v0 10 1 (.inl 5) hpv0 hkv0 rfl
    refine z_iload_n C dX12_walk_4 rfl ?_
    obtain ⟨x2, S2, h2, hF⟩ := bI_some hF
    refine f_cV (st2 := [.int x2]) C dX12_walk_5 zyX6_hasPerson zvX6_hasPerson lkRX12_135 (K_X6_hasPerson (l := zXl X) hT hp1 hk1  h2) hp1 hk1 rfl (by decide) rfl rfl (Nat.le_of_ble_eq_true rfl) rfl (fun hT2 => ?_)
    refine z_if_ne C 13 dX12_walk_8 (by decide) (fun c3 => ?_) (fun c3 => ?_)
    · replace hF := im hF c3
      refine z_aload_n C dX12_walk_13 rfl ?_
      refine f_getr C dX12_walk_14 zfRX12_53 hpv0 hkv0 rfl ?_
      obtain ⟨hp4, hk4⟩ := hT2.1 v0 10 7 (.inl 2) hpv0 hkv0 rfl
      refine z_aload_n C dX12_walk_17 rfl ?_
      refine f_getr C dX12_walk_18 zfRX12_39 hpv0 hkv0 rfl ?_
      obtain ⟨hp5, hk5⟩ := hT2.1 v0 10 5 (.inl 3) hpv0 hkv0 rfl
      obtain ⟨S6, h6, hF⟩ := bV_some hF
      refine f_cV (st2 := []) C dX12_walk_21 zyX3_push zvX3_push lkRX12_161 (K_X3_push (l := zXl X) hT2 hp4 hk4 hp5 hk5 h6) hp4 hk4 rfl (by decide) rfl rfl (Nat.le_of_ble_eq_true rfl) rfl (fun hT6 => ?_)
      refine z_aload_n C dX12_walk_24 rfl ?_
      refine f_getr C dX12_walk_25 zfRX12_70 hpv0 hkv0 rfl ?_
      obtain ⟨hp7, hk7⟩ := hT6.1 v0 10 11 (.inl 8) hpv0 hkv0 rfl
      refine z_iload_n C dX12_walk_28 rfl ?_
      refine z_aload_n C dX12_walk_29 rfl ?_
      refine f_getr C dX12_walk_30 zfRX12_39 hpv0 hkv0 rfl ?_
      obtain ⟨hp8, hk8⟩ := hT6.1 v0 10 5 (.inl 3) hpv0 hkv0 rfl
      obtain ⟨x9, S9, h9, hF⟩ := bI_some hF
      refine f_cV (st2 := [.int x9]) C dX12_walk_33 zyX9_walkOf zvX9_walkOf lkRX12_165 (K_X9_walkOf (l := zXl X) hT6 hp7 hk7  hp8 hk8 h9) hp7 hk7 rfl (by decide) rfl rfl (Nat.le_of_ble_eq_true rfl) rfl (fun hT9 => ?_)
      cases hF
      exact z_iret C hr dX12_walk_36 ⟨rfl, rfl, hT9⟩
    · replace hF := ip hF c3
      refine z_iconst (v := (-1)) C dX12_walk_11 (by decide) ?_
      cases hF
      exact z_iret C hr dX12_walk_12 ⟨rfl, rfl, hT2⟩
theorem K_X12_walk {G : zG} {l : Launch} {kd : kD} {N0 f : Nat} {S : aS} {v0 : Nat} {v1 : Int32} {res : Option Value × aS} (hT : zT0 kd N0 S) (hpv0 : v0 < N0) (hkv0 : kd v0 = .inl 10) (hF : F_X12_walk f 0 [.ref v0, .int v1] S = some res) : zM G l 5 0 0 yX12_walk cX12_walk 2 (some .int) [.ref (zB G + v0), .int v1] (cn G kd N0 S) (zPo G kd N0 res) := zM.of (by decide) rfl (Nat.le_of_ble_eq_true rfl) (fun X _ C hr _ => (B_X12_walk C hr f) S v0 v1 res hT hpv0 hkv0 hF)
def F_X12_leaves_0 (f : Nat) (rc : Nat → List Value → aS → aR) (v0 : Nat) (v1 : Int32) (v2 : Int32) (S : aS) : aR :=
  bI (F_X6_hasPerson f 0 [.ref (gR S v0 1), .int v1] S) fun x2 S2 => if x2 = (0 : Int32) then rc 1 [] S2 else bI (F_X12_isWithin f 0 [.int v2, .int 0, .int 11] S2) fun x4 S4 => if x4 = (0 : Int32) then rc 1 [] S4 else bI (F_X9_changeBy f 0 [.ref (gR S4 v0 11), .int v1, .int v2] S4) fun x7 S7 => some (some (.int x7), S7)
def F_X12_leaves_1 (f : Nat) (rc : Nat → List Value → aS → aR)  (S : aS) : aR :=
  some (some (.int ((-1000))), S)
def F_X12_leaves : Nat → Nat → List Value → aS → aR
  | 0, _, _, _ => none
  | f + 1, 0, vs, S => F_X12_leaves_0 f (F_X12_leaves f) (vR vs 0) (vI vs 1) (vI vs 2) S
  | f + 1, 1, vs, S => F_X12_leaves_1 f (F_X12_leaves f)  S
  | _ + 1, _, _, _ => none
theorem dX12_leaves_0 : decode cX12_leaves 0 = .ok (.aload_n 0, 1) := by decide +kernel
theorem dX12_leaves_1 : decode cX12_leaves 1 = .ok (.getfield 19, 3) := by decide +kernel
theorem dX12_leaves_4 : decode cX12_leaves 4 = .ok (.iload_n 1, 1) := by decide +kernel
theorem dX12_leaves_5 : decode cX12_leaves 5 = .ok (.invokevirtual 135, 3) := by decide +kernel
theorem dX12_leaves_8 : decode cX12_leaves 8 = .ok (.ifCond .eq 13, 3) := by decide +kernel
theorem dX12_leaves_11 : decode cX12_leaves 11 = .ok (.iload_n 2, 1) := by decide +kernel
theorem dX12_leaves_12 : decode cX12_leaves 12 = .ok (.iconst 0, 1) := by decide +kernel
theorem dX12_leaves_13 : decode cX12_leaves 13 = .ok (.bipush 11, 2) := by decide +kernel
theorem dX12_leaves_15 : decode cX12_leaves 15 = .ok (.invokestatic 178, 3) := by decide +kernel
theorem dX12_leaves_18 : decode cX12_leaves 18 = .ok (.ifCond .ne 7, 3) := by decide +kernel
theorem dX12_leaves_21 : decode cX12_leaves 21 = .ok (.sipush (-1000), 3) := by decide +kernel
theorem dX12_leaves_24 : decode cX12_leaves 24 = .ok (.ireturn, 1) := by decide +kernel
theorem dX12_leaves_25 : decode cX12_leaves 25 = .ok (.aload_n 0, 1) := by decide +kernel
theorem dX12_leaves_26 : decode cX12_leaves 26 = .ok (.getfield 70, 3) := by decide +kernel
theorem dX12_leaves_29 : decode cX12_leaves 29 = .ok (.iload_n 1, 1) := by decide +kernel
theorem dX12_leaves_30 : decode cX12_leaves 30 = .ok (.iload_n 2, 1) := by decide +kernel
theorem dX12_leaves_31 : decode cX12_leaves 31 = .ok (.invokevirtual 213, 3) := by decide +kernel
theorem dX12_leaves_34 : decode cX12_leaves 34 = .ok (.ireturn, 1) := by decide +kernel
set_option maxHeartbeats 4000000 in
set_option maxRecDepth 100000 in
theorem B_X12_leaves {G : zG} {X : zX} {kd : kD} {N0 : Nat} (C : zCt G X 6 0 0 RX12 cX12_leaves 3) (hr : (zXh X).sig.returnType = (some .int)) : ∀ f : Nat,
    (∀ (S : aS) (v0 : Nat) (v1 : Int32) (v2 : Int32) (res : Option Value × aS), zT0 kd N0 S → v0 < N0 → kd v0 = .inl 10 → F_X12_leaves f 0 [.ref v0, .int v1, .int v2] S = some res → zV G X (zQX G X (zPo G kd N0 res) 0 0) 3 [some (.ref (zB G + v0)), some (.int v1), some (.int v2)] [] (cn G kd N0 S) 0 0 0) ∧
    (∀ (S : aS)  (res : Option Value × aS), zT0 kd N0 S → F_X12_leaves f 1 [] S = some res → zV G X (zQX G X (zPo G kd N0 res) 0 0) 3 [none, none, none] [] (cn G kd N0 S) 21 0 0) := by
  intro f
  induction f with
  | zero => exact ⟨(fun _ _ _ _ _ _ _ _ h => by cases h), (fun _ _ _ h => by cases h)⟩
  | succ f ih =>
    obtain ⟨ih0, ih1⟩ := ih
    refine ⟨?_, ?_⟩
    · intro S v0 v1 v2 res hT hpv0 hkv0 hF
      replace hF : F_X12_leaves_0 f (F_X12_leaves f) v0 v1 v2 S = some res := hF
      unfold F_X12_leaves_0 at hF
      refine z_aload_n C dX12_leaves_0 rfl ?_
      refine f_getr C dX12_leaves_1 zfRX12_19 hpv0 hkv0 rfl ?_
      obtain ⟨hp1, hk1⟩ := hT.1 v0 10 1 (.inl 5) hpv0 hkv0 rfl
      refine z_iload_n C dX12_leaves_4 rfl ?_
      obtain ⟨x2, S2, h2, hF⟩ := bI_some hF
      refine f_cV (st2 := [.int x2]) C dX12_leaves_5 zyX6_hasPerson zvX6_hasPerson lkRX12_135 (K_X6_hasPerson (l := zXl X) hT hp1 hk1  h2) hp1 hk1 rfl (by decide) rfl rfl (Nat.le_of_ble_eq_true rfl) rfl (fun hT2 => ?_)
      refine z_if_eq C 21 dX12_leaves_8 (by decide) (fun c3 => ?_) (fun c3 => ?_)
      · replace hF := ip hF c3
        refine z_mask [false, false, false] ?_ rfl
        exact ih1 S2  res hT2  hF
      · replace hF := im hF c3
        refine z_iload_n C dX12_leaves_11 rfl ?_
        refine z_iconst (v := 0) C dX12_leaves_12 (by decide) ?_
        refine z_bipush (v := 11) C dX12_leaves_13 (by decide) ?_
        obtain ⟨x4, S4, h4, hF⟩ := bI_some hF
        refine f_cS (st2 := [.int x4]) C dX12_leaves_15 zyX12_isWithin zsX12_isWithin lkRX12_178 (K_X12_isWithin (l := zXl X) hT2    h4) (by decide) rfl rfl (Nat.le_of_ble_eq_true rfl) rfl (fun hT4 => ?_)
        refine z_if_ne C 25 dX12_leaves_18 (by decide) (fun c5 => ?_) (fun c5 => ?_)
        · replace hF := im hF c5
          refine z_aload_n C dX12_leaves_25 rfl ?_
          refine f_getr C dX12_leaves_26 zfRX12_70 hpv0 hkv0 rfl ?_
          obtain ⟨hp6, hk6⟩ := hT4.1 v0 10 11 (.inl 8) hpv0 hkv0 rfl
          refine z_iload_n C dX12_leaves_29 rfl ?_
          refine z_iload_n C dX12_leaves_30 rfl ?_
          obtain ⟨x7, S7, h7, hF⟩ := bI_some hF
          refine f_cV (st2 := [.int x7]) C dX12_leaves_31 zyX9_changeBy zvX9_changeBy lkRX12_213 (K_X9_changeBy (l := zXl X) hT4 hp6 hk6   h7) hp6 hk6 rfl (by decide) rfl rfl (Nat.le_of_ble_eq_true rfl) rfl (fun hT7 => ?_)
          cases hF
          exact z_iret C hr dX12_leaves_34 ⟨rfl, rfl, hT7⟩
        · replace hF := ip hF c5
          refine z_mask [false, false, false] ?_ rfl
          exact ih1 S4  res hT4  hF
    · intro S  res hT  hF
      replace hF : F_X12_leaves_1 f (F_X12_leaves f)  S = some res := hF
      unfold F_X12_leaves_1 at hF
      refine z_sipush (v := (-1000)) C dX12_leaves_21 (by decide) ?_
      cases hF
      exact z_iret C hr dX12_leaves_24 ⟨rfl, rfl, hT⟩
theorem K_X12_leaves {G : zG} {l : Launch} {kd : kD} {N0 f : Nat} {S : aS} {v0 : Nat} {v1 : Int32} {v2 : Int32} {res : Option Value × aS} (hT : zT0 kd N0 S) (hpv0 : v0 < N0) (hkv0 : kd v0 = .inl 10) (hF : F_X12_leaves f 0 [.ref v0, .int v1, .int v2] S = some res) : zM G l 6 0 0 yX12_leaves cX12_leaves 3 (some .int) [.ref (zB G + v0), .int v1, .int v2] (cn G kd N0 S) (zPo G kd N0 res) := zM.of (by decide) rfl (Nat.le_of_ble_eq_true rfl) (fun X _ C hr _ => (B_X12_leaves C hr f).1 S v0 v1 v2 res hT hpv0 hkv0 hF)
def F_X12_all_0 (f : Nat) (rc : Nat → List Value → aS → aR) (v0 : Nat) (S : aS) : aR :=
  bI (F_X9_liesAfterAll f 0 [.ref (gR S v0 11), .int ((-1))] S) fun x2 S2 => some (some (.int x2), S2)
def F_X12_all : Nat → Nat → List Value → aS → aR
  | 0, _, _, _ => none
  | f + 1, 0, vs, S => F_X12_all_0 f (F_X12_all f) (vR vs 0) S
  | _ + 1, _, _, _ => none
theorem dX12_all_0 : decode cX12_all 0 = .ok (.aload_n 0, 1) := by decide +kernel
theorem dX12_all_1 : decode cX12_all 1 = .ok (.getfield 70, 3) := by decide +kernel
theorem dX12_all_4 : decode cX12_all 4 = .ok (.iconst (-1), 1) := by decide +kernel
theorem dX12_all_5 : decode cX12_all 5 = .ok (.invokevirtual 216, 3) := by decide +kernel
theorem dX12_all_8 : decode cX12_all 8 = .ok (.ireturn, 1) := by decide +kernel
set_option maxHeartbeats 4000000 in
set_option maxRecDepth 100000 in
theorem B_X12_all {G : zG} {X : zX} {kd : kD} {N0 : Nat} (C : zCt G X 6 0 0 RX12 cX12_all 1) (hr : (zXh X).sig.returnType = (some .int)) : ∀ f : Nat,
    (∀ (S : aS) (v0 : Nat) (res : Option Value × aS), zT0 kd N0 S → v0 < N0 → kd v0 = .inl 10 → F_X12_all f 0 [.ref v0] S = some res → zV G X (zQX G X (zPo G kd N0 res) 0 0) 1 [some (.ref (zB G + v0))] [] (cn G kd N0 S) 0 0 0) := by
  intro f
  induction f with
  | zero => exact (fun _ _ _ _ _ _ h => by cases h)
  | succ f ih =>
    have ih0 := ih
    intro S v0 res hT hpv0 hkv0 hF
    replace hF : F_X12_all_0 f (F_X12_all f) v0 S = some res := hF
    unfold F_X12_all_0 at hF
    refine z_aload_n C dX12_all_0 rfl ?_
    refine f_getr C dX12_all_1 zfRX12_70 hpv0 hkv0 rfl ?_
    obtain ⟨hp1, hk1⟩ := hT.1 v0 10 11 (.inl 8) hpv0 hkv0 rfl
    refine z_iconst (v := (-1)) C dX12_all_4 (by decide) ?_
    obtain ⟨x2, S2, h2, hF⟩ := bI_some hF
    refine f_cV (st2 := [.int x2]) C dX12_all_5 zyX9_liesAfterAll zvX9_liesAfterAll lkRX12_216 (K_X9_liesAfterAll (l := zXl X) hT hp1 hk1  h2) hp1 hk1 rfl (by decide) rfl rfl (Nat.le_of_ble_eq_true rfl) rfl (fun hT2 => ?_)
    cases hF
    exact z_iret C hr dX12_all_8 ⟨rfl, rfl, hT2⟩
theorem K_X12_all {G : zG} {l : Launch} {kd : kD} {N0 f : Nat} {S : aS} {v0 : Nat} {res : Option Value × aS} (hT : zT0 kd N0 S) (hpv0 : v0 < N0) (hkv0 : kd v0 = .inl 10) (hF : F_X12_all f 0 [.ref v0] S = some res) : zM G l 6 0 0 yX12_all cX12_all 1 (some .int) [.ref (zB G + v0)] (cn G kd N0 S) (zPo G kd N0 res) := zM.of (by decide) rfl (Nat.le_of_ble_eq_true rfl) (fun X _ C hr _ => (B_X12_all C hr f) S v0 res hT hpv0 hkv0 hF)
def F_X12_full_0 (f : Nat) (rc : Nat → List Value → aS → aR) (v0 : Nat) (S : aS) : aR :=
  bI (F_X9_hoursTillFull f 0 [.ref (gR S v0 11)] S) fun x2 S2 => some (some (.int x2), S2)
def F_X12_full : Nat → Nat → List Value → aS → aR
  | 0, _, _, _ => none
  | f + 1, 0, vs, S => F_X12_full_0 f (F_X12_full f) (vR vs 0) S
  | _ + 1, _, _, _ => none
theorem dX12_full_0 : decode cX12_full 0 = .ok (.aload_n 0, 1) := by decide +kernel
theorem dX12_full_1 : decode cX12_full 1 = .ok (.getfield 70, 3) := by decide +kernel
theorem dX12_full_4 : decode cX12_full 4 = .ok (.invokevirtual 234, 3) := by decide +kernel
theorem dX12_full_7 : decode cX12_full 7 = .ok (.ireturn, 1) := by decide +kernel
set_option maxHeartbeats 4000000 in
set_option maxRecDepth 100000 in
theorem B_X12_full {G : zG} {X : zX} {kd : kD} {N0 : Nat} (C : zCt G X 6 0 0 RX12 cX12_full 1) (hr : (zXh X).sig.returnType = (some .int)) : ∀ f : Nat,
    (∀ (S : aS) (v0 : Nat) (res : Option Value × aS), zT0 kd N0 S → v0 < N0 → kd v0 = .inl 10 → F_X12_full f 0 [.ref v0] S = some res → zV G X (zQX G X (zPo G kd N0 res) 0 0) 1 [some (.ref (zB G + v0))] [] (cn G kd N0 S) 0 0 0) := by
  intro f
  induction f with
  | zero => exact (fun _ _ _ _ _ _ h => by cases h)
  | succ f ih =>
    have ih0 := ih
    intro S v0 res hT hpv0 hkv0 hF
    replace hF : F_X12_full_0 f (F_X12_full f) v0 S = some res := hF
    unfold F_X12_full_0 at hF
    refine z_aload_n C dX12_full_0 rfl ?_
    refine f_getr C dX12_full_1 zfRX12_70 hpv0 hkv0 rfl ?_
    obtain ⟨hp1, hk1⟩ := hT.1 v0 10 11 (.inl 8) hpv0 hkv0 rfl
    obtain ⟨x2, S2, h2, hF⟩ := bI_some hF
    refine f_cV (st2 := [.int x2]) C dX12_full_4 zyX9_hoursTillFull zvX9_hoursTillFull lkRX12_234 (K_X9_hoursTillFull (l := zXl X) hT hp1 hk1 h2) hp1 hk1 rfl (by decide) rfl rfl (Nat.le_of_ble_eq_true rfl) rfl (fun hT2 => ?_)
    cases hF
    exact z_iret C hr dX12_full_7 ⟨rfl, rfl, hT2⟩
theorem K_X12_full {G : zG} {l : Launch} {kd : kD} {N0 f : Nat} {S : aS} {v0 : Nat} {res : Option Value × aS} (hT : zT0 kd N0 S) (hpv0 : v0 < N0) (hkv0 : kd v0 = .inl 10) (hF : F_X12_full f 0 [.ref v0] S = some res) : zM G l 6 0 0 yX12_full cX12_full 1 (some .int) [.ref (zB G + v0)] (cn G kd N0 S) (zPo G kd N0 res) := zM.of (by decide) rfl (Nat.le_of_ble_eq_true rfl) (fun X _ C hr _ => (B_X12_full C hr f) S v0 res hT hpv0 hkv0 hF)
def F_X12_without_0 (f : Nat) (rc : Nat → List Value → aS → aR) (v0 : Nat) (v1 : Int32) (S : aS) : aR :=
  bI (F_X6_hasPerson f 0 [.ref (gR S v0 1), .int v1] S) fun x2 S2 => if x2 = (0 : Int32) then rc 1 [.int ((-1))] S2 else bI (F_X9_liesAfterAll f 0 [.ref (gR S2 v0 11), .int v1] S2) fun x7 S7 => rc 1 [.int x7] S7
def F_X12_without_1 (f : Nat) (rc : Nat → List Value → aS → aR) (w0 : Int32) (S : aS) : aR :=
  some (some (.int w0), S)
def F_X12_without : Nat → Nat → List Value → aS → aR
  | 0, _, _, _ => none
  | f + 1, 0, vs, S => F_X12_without_0 f (F_X12_without f) (vR vs 0) (vI vs 1) S
  | f + 1, 1, vs, S => F_X12_without_1 f (F_X12_without f) (vI vs 0) S
  | _ + 1, _, _, _ => none
theorem dX12_without_0 : decode cX12_without 0 = .ok (.aload_n 0, 1) := by decide +kernel
theorem dX12_without_1 : decode cX12_without 1 = .ok (.getfield 19, 3) := by decide +kernel
theorem dX12_without_4 : decode cX12_without 4 = .ok (.iload_n 1, 1) := by decide +kernel
theorem dX12_without_5 : decode cX12_without 5 = .ok (.invokevirtual 135, 3) := by decide +kernel
theorem dX12_without_8 : decode cX12_without 8 = .ok (.ifCond .eq 14, 3) := by decide +kernel
theorem dX12_without_11 : decode cX12_without 11 = .ok (.aload_n 0, 1) := by decide +kernel
theorem dX12_without_12 : decode cX12_without 12 = .ok (.getfield 70, 3) := by decide +kernel
theorem dX12_without_15 : decode cX12_without 15 = .ok (.iload_n 1, 1) := by decide +kernel
theorem dX12_without_16 : decode cX12_without 16 = .ok (.invokevirtual 216, 3) := by decide +kernel
theorem dX12_without_19 : decode cX12_without 19 = .ok (.goto 4, 3) := by decide +kernel
theorem dX12_without_22 : decode cX12_without 22 = .ok (.iconst (-1), 1) := by decide +kernel
theorem dX12_without_23 : decode cX12_without 23 = .ok (.ireturn, 1) := by decide +kernel
set_option maxHeartbeats 4000000 in
set_option maxRecDepth 100000 in
theorem B_X12_without {G : zG} {X : zX} {kd : kD} {N0 : Nat} (C : zCt G X 6 0 0 RX12 cX12_without 2) (hr : (zXh X).sig.returnType = (some .int)) : ∀ f : Nat,
    (∀ (S : aS) (v0 : Nat) (v1 : Int32) (res : Option Value × aS), zT0 kd N0 S → v0 < N0 → kd v0 = .inl 10 → F_X12_without f 0 [.ref v0, .int v1] S = some res → zV G X (zQX G X (zPo G kd N0 res) 0 0) 2 [some (.ref (zB G + v0)), some (.int v1)] [] (cn G kd N0 S) 0 0 0) ∧
    (∀ (S : aS) (w0 : Int32) (res : Option Value × aS), zT0 kd N0 S → F_X12_without f 1 [.int w0] S = some res → zV G X (zQX G X (zPo G kd N0 res) 0 0) 2 [none, none] [.int w0] (cn G kd N0 S) 23 0 0) := by
  intro f
  induction f with
  | zero => exact ⟨(fun _ _ _ _ _ _ _ h => by cases h), (fun _ _ _ _ h => by cases h)⟩
  | succ f ih =>
    obtain ⟨ih0, ih1⟩ := ih
    refine ⟨?_, ?_⟩
    · intro S v0 v1 res hT hpv0 hkv0 hF
      replace hF : F_X12_without_0 f (F_X12_without f) v0 v1 S = some res := hF
      unfold F_X12_without_0 at hF
      refine z_aload_n C dX12_without_0 rfl ?_
      refine f_getr C dX12_without_1 zfRX12_19 hpv0 hkv0 rfl ?_
      obtain ⟨hp1, hk1⟩ := hT.1 v0 10 1 (.inl 5) hpv0 hkv0 rfl
      refine z_iload_n C dX12_without_4 rfl ?_
      obtain ⟨x2, S2, h2, hF⟩ := bI_some hF
      refine f_cV (st2 := [.int x2]) C dX12_without_5 zyX6_hasPerson zvX6_hasPerson lkRX12_135 (K_X6_hasPerson (l := zXl X) hT hp1 hk1  h2) hp1 hk1 rfl (by decide) rfl rfl (Nat.le_of_ble_eq_true rfl) rfl (fun hT2 => ?_)
      refine z_if_eq C 22 dX12_without_8 (by decide) (fun c5 => ?_) (fun c5 => ?_)
      · replace hF := ip hF c5
        refine z_iconst (v := (-1)) C dX12_without_22 (by decide) ?_
        refine z_mask [false, false] ?_ rfl
        exact ih1 S2 ((-1)) res hT2  hF
      · replace hF := im hF c5
        refine z_aload_n C dX12_without_11 rfl ?_
        refine f_getr C dX12_without_12 zfRX12_70 hpv0 hkv0 rfl ?_
        obtain ⟨hp6, hk6⟩ := hT2.1 v0 10 11 (.inl 8) hpv0 hkv0 rfl
        refine z_iload_n C dX12_without_15 rfl ?_
        obtain ⟨x7, S7, h7, hF⟩ := bI_some hF
        refine f_cV (st2 := [.int x7]) C dX12_without_16 zyX9_liesAfterAll zvX9_liesAfterAll lkRX12_216 (K_X9_liesAfterAll (l := zXl X) hT2 hp6 hk6  h7) hp6 hk6 rfl (by decide) rfl rfl (Nat.le_of_ble_eq_true rfl) rfl (fun hT7 => ?_)
        refine z_goto C 23 dX12_without_19 (by decide) ?_
        refine z_mask [false, false] ?_ rfl
        exact ih1 S7 x7 res hT7  hF
    · intro S w0 res hT  hF
      replace hF : F_X12_without_1 f (F_X12_without f) w0 S = some res := hF
      unfold F_X12_without_1 at hF
      cases hF
      exact z_iret C hr dX12_without_23 ⟨rfl, rfl, hT⟩
theorem K_X12_without {G : zG} {l : Launch} {kd : kD} {N0 f : Nat} {S : aS} {v0 : Nat} {v1 : Int32} {res : Option Value × aS} (hT : zT0 kd N0 S) (hpv0 : v0 < N0) (hkv0 : kd v0 = .inl 10) (hF : F_X12_without f 0 [.ref v0, .int v1] S = some res) : zM G l 6 0 0 yX12_without cX12_without 2 (some .int) [.ref (zB G + v0), .int v1] (cn G kd N0 S) (zPo G kd N0 res) := zM.of (by decide) rfl (Nat.le_of_ble_eq_true rfl) (fun X _ C hr _ => (B_X12_without C hr f).1 S v0 v1 res hT hpv0 hkv0 hF)
def F_X12_hands_0 (f : Nat) (rc : Nat → List Value → aS → aR) (v0 : Nat) (v1 : Int32) (S : aS) : aR :=
  bI (F_X6_hasPerson f 0 [.ref (gR S v0 1), .int v1] S) fun x2 S2 => if x2 = (0 : Int32) then rc 1 [.int ((-1))] S2 else bI (F_X9_yardsWithFullHands f 0 [.ref (gR S2 v0 11), .int v1] S2) fun x7 S7 => rc 1 [.int x7] S7
def F_X12_hands_1 (f : Nat) (rc : Nat → List Value → aS → aR) (w0 : Int32) (S : aS) : aR :=
  some (some (.int w0), S)
def F_X12_hands : Nat → Nat → List Value → aS → aR
  | 0, _, _, _ => none
  | f + 1, 0, vs, S => F_X12_hands_0 f (F_X12_hands f) (vR vs 0) (vI vs 1) S
  | f + 1, 1, vs, S => F_X12_hands_1 f (F_X12_hands f) (vI vs 0) S
  | _ + 1, _, _, _ => none
theorem dX12_hands_0 : decode cX12_hands 0 = .ok (.aload_n 0, 1) := by decide +kernel
theorem dX12_hands_1 : decode cX12_hands 1 = .ok (.getfield 19, 3) := by decide +kernel
theorem dX12_hands_4 : decode cX12_hands 4 = .ok (.iload_n 1, 1) := by decide +kernel
theorem dX12_hands_5 : decode cX12_hands 5 = .ok (.invokevirtual 135, 3) := by decide +kernel
theorem dX12_hands_8 : decode cX12_hands 8 = .ok (.ifCond .eq 14, 3) := by decide +kernel
theorem dX12_hands_11 : decode cX12_hands 11 = .ok (.aload_n 0, 1) := by decide +kernel
theorem dX12_hands_12 : decode cX12_hands 12 = .ok (.getfield 70, 3) := by decide +kernel
theorem dX12_hands_15 : decode cX12_hands 15 = .ok (.iload_n 1, 1) := by decide +kernel
theorem dX12_hands_16 : decode cX12_hands 16 = .ok (.invokevirtual 237, 3) := by decide +kernel
theorem dX12_hands_19 : decode cX12_hands 19 = .ok (.goto 4, 3) := by decide +kernel
theorem dX12_hands_22 : decode cX12_hands 22 = .ok (.iconst (-1), 1) := by decide +kernel
theorem dX12_hands_23 : decode cX12_hands 23 = .ok (.ireturn, 1) := by decide +kernel
set_option maxHeartbeats 4000000 in
set_option maxRecDepth 100000 in
theorem B_X12_hands {G : zG} {X : zX} {kd : kD} {N0 : Nat} (C : zCt G X 6 0 0 RX12 cX12_hands 2) (hr : (zXh X).sig.returnType = (some .int)) : ∀ f : Nat,
    (∀ (S : aS) (v0 : Nat) (v1 : Int32) (res : Option Value × aS), zT0 kd N0 S → v0 < N0 → kd v0 = .inl 10 → F_X12_hands f 0 [.ref v0, .int v1] S = some res → zV G X (zQX G X (zPo G kd N0 res) 0 0) 2 [some (.ref (zB G + v0)), some (.int v1)] [] (cn G kd N0 S) 0 0 0) ∧
    (∀ (S : aS) (w0 : Int32) (res : Option Value × aS), zT0 kd N0 S → F_X12_hands f 1 [.int w0] S = some res → zV G X (zQX G X (zPo G kd N0 res) 0 0) 2 [none, none] [.int w0] (cn G kd N0 S) 23 0 0) := by
  intro f
  induction f with
  | zero => exact ⟨(fun _ _ _ _ _ _ _ h => by cases h), (fun _ _ _ _ h => by cases h)⟩
  | succ f ih =>
    obtain ⟨ih0, ih1⟩ := ih
    refine ⟨?_, ?_⟩
    · intro S v0 v1 res hT hpv0 hkv0 hF
      replace hF : F_X12_hands_0 f (F_X12_hands f) v0 v1 S = some res := hF
      unfold F_X12_hands_0 at hF
      refine z_aload_n C dX12_hands_0 rfl ?_
      refine f_getr C dX12_hands_1 zfRX12_19 hpv0 hkv0 rfl ?_
      obtain ⟨hp1, hk1⟩ := hT.1 v0 10 1 (.inl 5) hpv0 hkv0 rfl
      refine z_iload_n C dX12_hands_4 rfl ?_
      obtain ⟨x2, S2, h2, hF⟩ := bI_some hF
      refine f_cV (st2 := [.int x2]) C dX12_hands_5 zyX6_hasPerson zvX6_hasPerson lkRX12_135 (K_X6_hasPerson (l := zXl X) hT hp1 hk1  h2) hp1 hk1 rfl (by decide) rfl rfl (Nat.le_of_ble_eq_true rfl) rfl (fun hT2 => ?_)
      refine z_if_eq C 22 dX12_hands_8 (by decide) (fun c5 => ?_) (fun c5 => ?_)
      · replace hF := ip hF c5
        refine z_iconst (v := (-1)) C dX12_hands_22 (by decide) ?_
        refine z_mask [false, false] ?_ rfl
        exact ih1 S2 ((-1)) res hT2  hF
      · replace hF := im hF c5
        refine z_aload_n C dX12_hands_11 rfl ?_
        refine f_getr C dX12_hands_12 zfRX12_70 hpv0 hkv0 rfl ?_
        obtain ⟨hp6, hk6⟩ := hT2.1 v0 10 11 (.inl 8) hpv0 hkv0 rfl
        refine z_iload_n C dX12_hands_15 rfl ?_
        obtain ⟨x7, S7, h7, hF⟩ := bI_some hF
        refine f_cV (st2 := [.int x7]) C dX12_hands_16 zyX9_yardsWithFullHands zvX9_yardsWithFullHands lkRX12_237 (K_X9_yardsWithFullHands (l := zXl X) hT2 hp6 hk6  h7) hp6 hk6 rfl (by decide) rfl rfl (Nat.le_of_ble_eq_true rfl) rfl (fun hT7 => ?_)
        refine z_goto C 23 dX12_hands_19 (by decide) ?_
        refine z_mask [false, false] ?_ rfl
        exact ih1 S7 x7 res hT7  hF
    · intro S w0 res hT  hF
      replace hF : F_X12_hands_1 f (F_X12_hands f) w0 S = some res := hF
      unfold F_X12_hands_1 at hF
      cases hF
      exact z_iret C hr dX12_hands_23 ⟨rfl, rfl, hT⟩
theorem K_X12_hands {G : zG} {l : Launch} {kd : kD} {N0 f : Nat} {S : aS} {v0 : Nat} {v1 : Int32} {res : Option Value × aS} (hT : zT0 kd N0 S) (hpv0 : v0 < N0) (hkv0 : kd v0 = .inl 10) (hF : F_X12_hands f 0 [.ref v0, .int v1] S = some res) : zM G l 6 0 0 yX12_hands cX12_hands 2 (some .int) [.ref (zB G + v0), .int v1] (cn G kd N0 S) (zPo G kd N0 res) := zM.of (by decide) rfl (Nat.le_of_ble_eq_true rfl) (fun X _ C hr _ => (B_X12_hands C hr f).1 S v0 v1 res hT hpv0 hkv0 hF)
def F_X12_grows_0 (f : Nat) (rc : Nat → List Value → aS → aR) (v0 : Nat) (v1 : Int32) (v2 : Int32) (S : aS) : aR :=
  bI (F_X4_hasYard f 0 [.ref (gR S v0 5), .int v1] S) fun x2 S2 => if x2 = (0 : Int32) then rc 1 [] S2 else bI (F_X12_isWithin f 0 [.int v2, .int 0, .int 99] S2) fun x4 S4 => if x4 = (0 : Int32) then rc 1 [] S4 else bI (F_X9_growthOf f 0 [.ref (gR S4 v0 11), .int v1, .int v2] S4) fun x7 S7 => some (some (.int x7), S7)
def F_X12_grows_1 (f : Nat) (rc : Nat → List Value → aS → aR)  (S : aS) : aR :=
  some (some (.int ((-1000))), S)
def F_X12_grows : Nat → Nat → List Value → aS → aR
  | 0, _, _, _ => none
  | f + 1, 0, vs, S => F_X12_grows_0 f (F_X12_grows f) (vR vs 0) (vI vs 1) (vI vs 2) S
  | f + 1, 1, vs, S => F_X12_grows_1 f (F_X12_grows f)  S
  | _ + 1, _, _, _ => none
theorem dX12_grows_0 : decode cX12_grows 0 = .ok (.aload_n 0, 1) := by decide +kernel
theorem dX12_grows_1 : decode cX12_grows 1 = .ok (.getfield 39, 3) := by decide +kernel
theorem dX12_grows_4 : decode cX12_grows 4 = .ok (.iload_n 1, 1) := by decide +kernel
theorem dX12_grows_5 : decode cX12_grows 5 = .ok (.invokevirtual 117, 3) := by decide +kernel
theorem dX12_grows_8 : decode cX12_grows 8 = .ok (.ifCond .eq 13, 3) := by decide +kernel
theorem dX12_grows_11 : decode cX12_grows 11 = .ok (.iload_n 2, 1) := by decide +kernel
theorem dX12_grows_12 : decode cX12_grows 12 = .ok (.iconst 0, 1) := by decide +kernel
theorem dX12_grows_13 : decode cX12_grows 13 = .ok (.bipush 99, 2) := by decide +kernel
theorem dX12_grows_15 : decode cX12_grows 15 = .ok (.invokestatic 178, 3) := by decide +kernel
theorem dX12_grows_18 : decode cX12_grows 18 = .ok (.ifCond .ne 7, 3) := by decide +kernel
theorem dX12_grows_21 : decode cX12_grows 21 = .ok (.sipush (-1000), 3) := by decide +kernel
theorem dX12_grows_24 : decode cX12_grows 24 = .ok (.ireturn, 1) := by decide +kernel
theorem dX12_grows_25 : decode cX12_grows 25 = .ok (.aload_n 0, 1) := by decide +kernel
theorem dX12_grows_26 : decode cX12_grows 26 = .ok (.getfield 70, 3) := by decide +kernel
theorem dX12_grows_29 : decode cX12_grows 29 = .ok (.iload_n 1, 1) := by decide +kernel
theorem dX12_grows_30 : decode cX12_grows 30 = .ok (.iload_n 2, 1) := by decide +kernel
theorem dX12_grows_31 : decode cX12_grows 31 = .ok (.invokevirtual 240, 3) := by decide +kernel
theorem dX12_grows_34 : decode cX12_grows 34 = .ok (.ireturn, 1) := by decide +kernel
set_option maxHeartbeats 4000000 in
set_option maxRecDepth 100000 in
theorem B_X12_grows {G : zG} {X : zX} {kd : kD} {N0 : Nat} (C : zCt G X 6 0 0 RX12 cX12_grows 3) (hr : (zXh X).sig.returnType = (some .int)) : ∀ f : Nat,
    (∀ (S : aS) (v0 : Nat) (v1 : Int32) (v2 : Int32) (res : Option Value × aS), zT0 kd N0 S → v0 < N0 → kd v0 = .inl 10 → F_X12_grows f 0 [.ref v0, .int v1, .int v2] S = some res → zV G X (zQX G X (zPo G kd N0 res) 0 0) 3 [some (.ref (zB G + v0)), some (.int v1), some (.int v2)] [] (cn G kd N0 S) 0 0 0) ∧
    (∀ (S : aS)  (res : Option Value × aS), zT0 kd N0 S → F_X12_grows f 1 [] S = some res → zV G X (zQX G X (zPo G kd N0 res) 0 0) 3 [none, none, none] [] (cn G kd N0 S) 21 0 0) := by
  intro f
  induction f with
  | zero => exact ⟨(fun _ _ _ _ _ _ _ _ h => by cases h), (fun _ _ _ h => by cases h)⟩
  | succ f ih =>
    obtain ⟨ih0, ih1⟩ := ih
    refine ⟨?_, ?_⟩
    · intro S v0 v1 v2 res hT hpv0 hkv0 hF
      replace hF : F_X12_grows_0 f (F_X12_grows f) v0 v1 v2 S = some res := hF
      unfold F_X12_grows_0 at hF
      refine z_aload_n C dX12_grows_0 rfl ?_
      refine f_getr C dX12_grows_1 zfRX12_39 hpv0 hkv0 rfl ?_
      obtain ⟨hp1, hk1⟩ := hT.1 v0 10 5 (.inl 3) hpv0 hkv0 rfl
      refine z_iload_n C dX12_grows_4 rfl ?_
      obtain ⟨x2, S2, h2, hF⟩ := bI_some hF
      refine f_cV (st2 := [.int x2]) C dX12_grows_5 zyX4_hasYard zvX4_hasYard lkRX12_117 (K_X4_hasYard (l := zXl X) hT hp1 hk1  h2) hp1 hk1 rfl (by decide) rfl rfl (Nat.le_of_ble_eq_true rfl) rfl (fun hT2 => ?_)
      refine z_if_eq C 21 dX12_grows_8 (by decide) (fun c3 => ?_) (fun c3 => ?_)
      · replace hF := ip hF c3
        refine z_mask [false, false, false] ?_ rfl
        exact ih1 S2  res hT2  hF
      · replace hF := im hF c3
        refine z_iload_n C dX12_grows_11 rfl ?_
        refine z_iconst (v := 0) C dX12_grows_12 (by decide) ?_
        refine z_bipush (v := 99) C dX12_grows_13 (by decide) ?_
        obtain ⟨x4, S4, h4, hF⟩ := bI_some hF
        refine f_cS (st2 := [.int x4]) C dX12_grows_15 zyX12_isWithin zsX12_isWithin lkRX12_178 (K_X12_isWithin (l := zXl X) hT2    h4) (by decide) rfl rfl (Nat.le_of_ble_eq_true rfl) rfl (fun hT4 => ?_)
        refine z_if_ne C 25 dX12_grows_18 (by decide) (fun c5 => ?_) (fun c5 => ?_)
        · replace hF := im hF c5
          refine z_aload_n C dX12_grows_25 rfl ?_
          refine f_getr C dX12_grows_26 zfRX12_70 hpv0 hkv0 rfl ?_
          obtain ⟨hp6, hk6⟩ := hT4.1 v0 10 11 (.inl 8) hpv0 hkv0 rfl
          refine z_iload_n C dX12_grows_29 rfl ?_
          refine z_iload_n C dX12_grows_30 rfl ?_
          obtain ⟨x7, S7, h7, hF⟩ := bI_some hF
          refine f_cV (st2 := [.int x7]) C dX12_grows_31 zyX9_growthOf zvX9_growthOf lkRX12_240 (K_X9_growthOf (l := zXl X) hT4 hp6 hk6   h7) hp6 hk6 rfl (by decide) rfl rfl (Nat.le_of_ble_eq_true rfl) rfl (fun hT7 => ?_)
          cases hF
          exact z_iret C hr dX12_grows_34 ⟨rfl, rfl, hT7⟩
        · replace hF := ip hF c5
          refine z_mask [false, false, false] ?_ rfl
          exact ih1 S4  res hT4  hF
    · intro S  res hT  hF
      replace hF : F_X12_grows_1 f (F_X12_grows f)  S = some res := hF
      unfold F_X12_grows_1 at hF
      refine z_sipush (v := (-1000)) C dX12_grows_21 (by decide) ?_
      cases hF
      exact z_iret C hr dX12_grows_24 ⟨rfl, rfl, hT⟩
theorem K_X12_grows {G : zG} {l : Launch} {kd : kD} {N0 f : Nat} {S : aS} {v0 : Nat} {v1 : Int32} {v2 : Int32} {res : Option Value × aS} (hT : zT0 kd N0 S) (hpv0 : v0 < N0) (hkv0 : kd v0 = .inl 10) (hF : F_X12_grows f 0 [.ref v0, .int v1, .int v2] S = some res) : zM G l 6 0 0 yX12_grows cX12_grows 3 (some .int) [.ref (zB G + v0), .int v1, .int v2] (cn G kd N0 S) (zPo G kd N0 res) := zM.of (by decide) rfl (Nat.le_of_ble_eq_true rfl) (fun X _ C hr _ => (B_X12_grows C hr f).1 S v0 v1 v2 res hT hpv0 hkv0 hF)
def F_X12_bare_0 (f : Nat) (rc : Nat → List Value → aS → aR) (v0 : Nat) (v1 : Int32) (S : aS) : aR :=
  bI (F_X4_hasYard f 0 [.ref (gR S v0 5), .int v1] S) fun x2 S2 => if x2 = (0 : Int32) then rc 1 [] S2 else bX v1 8 fun q6 => if (gI S2 (gR S2 (gR S2 v0 5) 1) q6) ≤ (0 : Int32) then bI (F_X9_hoursTillLittered f 0 [.ref (gR S2 v0 11), .int v1] S2) fun x9 S9 => some (some (.int x9), S9) else rc 1 [] S2
def F_X12_bare_1 (f : Nat) (rc : Nat → List Value → aS → aR)  (S : aS) : aR :=
  some (some (.int ((-1))), S)
def F_X12_bare : Nat → Nat → List Value → aS → aR
  | 0, _, _, _ => none
  | f + 1, 0, vs, S => F_X12_bare_0 f (F_X12_bare f) (vR vs 0) (vI vs 1) S
  | f + 1, 1, vs, S => F_X12_bare_1 f (F_X12_bare f)  S
  | _ + 1, _, _, _ => none
theorem dX12_bare_0 : decode cX12_bare 0 = .ok (.aload_n 0, 1) := by decide +kernel
theorem dX12_bare_1 : decode cX12_bare 1 = .ok (.getfield 39, 3) := by decide +kernel
theorem dX12_bare_4 : decode cX12_bare 4 = .ok (.iload_n 1, 1) := by decide +kernel
theorem dX12_bare_5 : decode cX12_bare 5 = .ok (.invokevirtual 117, 3) := by decide +kernel
theorem dX12_bare_8 : decode cX12_bare 8 = .ok (.ifCond .eq 15, 3) := by decide +kernel
theorem dX12_bare_11 : decode cX12_bare 11 = .ok (.aload_n 0, 1) := by decide +kernel
theorem dX12_bare_12 : decode cX12_bare 12 = .ok (.getfield 39, 3) := by decide +kernel
theorem dX12_bare_15 : decode cX12_bare 15 = .ok (.getfield 121, 3) := by decide +kernel
theorem dX12_bare_18 : decode cX12_bare 18 = .ok (.iload_n 1, 1) := by decide +kernel
theorem dX12_bare_19 : decode cX12_bare 19 = .ok (.iaload, 1) := by decide +kernel
theorem dX12_bare_20 : decode cX12_bare 20 = .ok (.ifCond .le 5, 3) := by decide +kernel
theorem dX12_bare_23 : decode cX12_bare 23 = .ok (.iconst (-1), 1) := by decide +kernel
theorem dX12_bare_24 : decode cX12_bare 24 = .ok (.ireturn, 1) := by decide +kernel
theorem dX12_bare_25 : decode cX12_bare 25 = .ok (.aload_n 0, 1) := by decide +kernel
theorem dX12_bare_26 : decode cX12_bare 26 = .ok (.getfield 70, 3) := by decide +kernel
theorem dX12_bare_29 : decode cX12_bare 29 = .ok (.iload_n 1, 1) := by decide +kernel
theorem dX12_bare_30 : decode cX12_bare 30 = .ok (.invokevirtual 256, 3) := by decide +kernel
theorem dX12_bare_33 : decode cX12_bare 33 = .ok (.ireturn, 1) := by decide +kernel
set_option maxHeartbeats 4000000 in
set_option maxRecDepth 100000 in
theorem B_X12_bare {G : zG} {X : zX} {kd : kD} {N0 : Nat} (C : zCt G X 6 0 0 RX12 cX12_bare 2) (hr : (zXh X).sig.returnType = (some .int)) : ∀ f : Nat,
    (∀ (S : aS) (v0 : Nat) (v1 : Int32) (res : Option Value × aS), zT0 kd N0 S → v0 < N0 → kd v0 = .inl 10 → F_X12_bare f 0 [.ref v0, .int v1] S = some res → zV G X (zQX G X (zPo G kd N0 res) 0 0) 2 [some (.ref (zB G + v0)), some (.int v1)] [] (cn G kd N0 S) 0 0 0) ∧
    (∀ (S : aS)  (res : Option Value × aS), zT0 kd N0 S → F_X12_bare f 1 [] S = some res → zV G X (zQX G X (zPo G kd N0 res) 0 0) 2 [none, none] [] (cn G kd N0 S) 23 0 0) := by
  intro f
  induction f with
  | zero => exact ⟨(fun _ _ _ _ _ _ _ h => by cases h), (fun _ _ _ h => by cases h)⟩
  | succ f ih =>
    obtain ⟨ih0, ih1⟩ := ih
    refine ⟨?_, ?_⟩
    · intro S v0 v1 res hT hpv0 hkv0 hF
      replace hF : F_X12_bare_0 f (F_X12_bare f) v0 v1 S = some res := hF
      unfold F_X12_bare_0 at hF
      refine z_aload_n C dX12_bare_0 rfl ?_
      refine f_getr C dX12_bare_1 zfRX12_39 hpv0 hkv0 rfl ?_
      obtain ⟨hp1, hk1⟩ := hT.1 v0 10 5 (.inl 3) hpv0 hkv0 rfl
      refine z_iload_n C dX12_bare_4 rfl ?_
      obtain ⟨x2, S2, h2, hF⟩ := bI_some hF
      refine f_cV (st2 := [.int x2]) C dX12_bare_5 zyX4_hasYard zvX4_hasYard lkRX12_117 (K_X4_hasYard (l := zXl X) hT hp1 hk1  h2) hp1 hk1 rfl (by decide) rfl rfl (Nat.le_of_ble_eq_true rfl) rfl (fun hT2 => ?_)
      refine z_if_eq C 23 dX12_bare_8 (by decide) (fun c3 => ?_) (fun c3 => ?_)
      · replace hF := ip hF c3
        refine z_mask [false, false] ?_ rfl
        exact ih1 S2  res hT2  hF
      · replace hF := im hF c3
        refine z_aload_n C dX12_bare_11 rfl ?_
        refine f_getr C dX12_bare_12 zfRX12_39 hpv0 hkv0 rfl ?_
        obtain ⟨hp4, hk4⟩ := hT2.1 v0 10 5 (.inl 3) hpv0 hkv0 rfl
        refine f_getr C dX12_bare_15 zfRX12_121 hp4 hk4 rfl ?_
        obtain ⟨hp5, hk5⟩ := hT2.1 (gR S2 v0 5) 3 1 (.inr (0, 8)) hp4 hk4 rfl
        refine z_iload_n C dX12_bare_18 rfl ?_
        obtain ⟨hi6, hF⟩ := bX_some hF
        obtain ⟨q6, eq6⟩ : ∃ q : Nat, q = Int32.toNatClampNeg v1 := ⟨_, rfl⟩
        rw [← eq6] at hF
        refine f_iald C dX12_bare_19 hp5 hk5 hi6 ?_
        rw [← eq6]
        refine z_if_le C 25 dX12_bare_20 (by decide) (fun c7 => ?_) (fun c7 => ?_)
        · replace hF := ip hF c7
          refine z_aload_n C dX12_bare_25 rfl ?_
          refine f_getr C dX12_bare_26 zfRX12_70 hpv0 hkv0 rfl ?_
          obtain ⟨hp8, hk8⟩ := hT2.1 v0 10 11 (.inl 8) hpv0 hkv0 rfl
          refine z_iload_n C dX12_bare_29 rfl ?_
          obtain ⟨x9, S9, h9, hF⟩ := bI_some hF
          refine f_cV (st2 := [.int x9]) C dX12_bare_30 zyX9_hoursTillLittered zvX9_hoursTillLittered lkRX12_256 (K_X9_hoursTillLittered (l := zXl X) hT2 hp8 hk8  h9) hp8 hk8 rfl (by decide) rfl rfl (Nat.le_of_ble_eq_true rfl) rfl (fun hT9 => ?_)
          cases hF
          exact z_iret C hr dX12_bare_33 ⟨rfl, rfl, hT9⟩
        · replace hF := im hF c7
          refine z_mask [false, false] ?_ rfl
          exact ih1 S2  res hT2  hF
    · intro S  res hT  hF
      replace hF : F_X12_bare_1 f (F_X12_bare f)  S = some res := hF
      unfold F_X12_bare_1 at hF
      refine z_iconst (v := (-1)) C dX12_bare_23 (by decide) ?_
      cases hF
      exact z_iret C hr dX12_bare_24 ⟨rfl, rfl, hT⟩
theorem K_X12_bare {G : zG} {l : Launch} {kd : kD} {N0 f : Nat} {S : aS} {v0 : Nat} {v1 : Int32} {res : Option Value × aS} (hT : zT0 kd N0 S) (hpv0 : v0 < N0) (hkv0 : kd v0 = .inl 10) (hF : F_X12_bare f 0 [.ref v0, .int v1] S = some res) : zM G l 6 0 0 yX12_bare cX12_bare 2 (some .int) [.ref (zB G + v0), .int v1] (cn G kd N0 S) (zPo G kd N0 res) := zM.of (by decide) rfl (Nat.le_of_ble_eq_true rfl) (fun X _ C hr _ => (B_X12_bare C hr f).1 S v0 v1 res hT hpv0 hkv0 hF)
def F_X12_deposit_0 (f : Nat) (rc : Nat → List Value → aS → aR) (v0 : Nat) (v1 : Int32) (S : aS) : aR :=
  bI (F_X12_isWithin f 0 [.int v1, .int 0, .int 999] S) fun x1 S1 => if x1 = (0 : Int32) then rc 1 [.int ((-1))] S1 else bI (F_X9_leastDeposit f 0 [.ref (gR S1 v0 11), .int v1] S1) fun x6 S6 => rc 1 [.int x6] S6
def F_X12_deposit_1 (f : Nat) (rc : Nat → List Value → aS → aR) (w0 : Int32) (S : aS) : aR :=
  some (some (.int w0), S)
def F_X12_deposit : Nat → Nat → List Value → aS → aR
  | 0, _, _, _ => none
  | f + 1, 0, vs, S => F_X12_deposit_0 f (F_X12_deposit f) (vR vs 0) (vI vs 1) S
  | f + 1, 1, vs, S => F_X12_deposit_1 f (F_X12_deposit f) (vI vs 0) S
  | _ + 1, _, _, _ => none
theorem dX12_deposit_0 : decode cX12_deposit 0 = .ok (.iload_n 1, 1) := by decide +kernel
theorem dX12_deposit_1 : decode cX12_deposit 1 = .ok (.iconst 0, 1) := by decide +kernel
theorem dX12_deposit_2 : decode cX12_deposit 2 = .ok (.sipush 999, 3) := by decide +kernel
theorem dX12_deposit_5 : decode cX12_deposit 5 = .ok (.invokestatic 178, 3) := by decide +kernel
theorem dX12_deposit_8 : decode cX12_deposit 8 = .ok (.ifCond .eq 14, 3) := by decide +kernel
theorem dX12_deposit_11 : decode cX12_deposit 11 = .ok (.aload_n 0, 1) := by decide +kernel
theorem dX12_deposit_12 : decode cX12_deposit 12 = .ok (.getfield 70, 3) := by decide +kernel
theorem dX12_deposit_15 : decode cX12_deposit 15 = .ok (.iload_n 1, 1) := by decide +kernel
theorem dX12_deposit_16 : decode cX12_deposit 16 = .ok (.invokevirtual 259, 3) := by decide +kernel
theorem dX12_deposit_19 : decode cX12_deposit 19 = .ok (.goto 4, 3) := by decide +kernel
theorem dX12_deposit_22 : decode cX12_deposit 22 = .ok (.iconst (-1), 1) := by decide +kernel
theorem dX12_deposit_23 : decode cX12_deposit 23 = .ok (.ireturn, 1) := by decide +kernel
set_option maxHeartbeats 4000000 in
set_option maxRecDepth 100000 in
theorem B_X12_deposit {G : zG} {X : zX} {kd : kD} {N0 : Nat} (C : zCt G X 6 0 0 RX12 cX12_deposit 2) (hr : (zXh X).sig.returnType = (some .int)) : ∀ f : Nat,
    (∀ (S : aS) (v0 : Nat) (v1 : Int32) (res : Option Value × aS), zT0 kd N0 S → v0 < N0 → kd v0 = .inl 10 → F_X12_deposit f 0 [.ref v0, .int v1] S = some res → zV G X (zQX G X (zPo G kd N0 res) 0 0) 2 [some (.ref (zB G + v0)), some (.int v1)] [] (cn G kd N0 S) 0 0 0) ∧
    (∀ (S : aS) (w0 : Int32) (res : Option Value × aS), zT0 kd N0 S → F_X12_deposit f 1 [.int w0] S = some res → zV G X (zQX G X (zPo G kd N0 res) 0 0) 2 [none, none] [.int w0] (cn G kd N0 S) 23 0 0) := by
  intro f
  induction f with
  | zero => exact ⟨(fun _ _ _ _ _ _ _ h => by cases h), (fun _ _ _ _ h => by cases h)⟩
  | succ f ih =>
    obtain ⟨ih0, ih1⟩ := ih
    refine ⟨?_, ?_⟩
    · intro S v0 v1 res hT hpv0 hkv0 hF
      replace hF : F_X12_deposit_0 f (F_X12_deposit f) v0 v1 S = some res := hF
      unfold F_X12_deposit_0 at hF
      refine z_iload_n C dX12_deposit_0 rfl ?_
      refine z_iconst (v := 0) C dX12_deposit_1 (by decide) ?_
      refine z_sipush (v := 999) C dX12_deposit_2 (by decide) ?_
      obtain ⟨x1, S1, h1, hF⟩ := bI_some hF
      refine f_cS (st2 := [.int x1]) C dX12_deposit_5 zyX12_isWithin zsX12_isWithin lkRX12_178 (K_X12_isWithin (l := zXl X) hT    h1) (by decide) rfl rfl (Nat.le_of_ble_eq_true rfl) rfl (fun hT1 => ?_)
      refine z_if_eq C 22 dX12_deposit_8 (by decide) (fun c4 => ?_) (fun c4 => ?_)
      · replace hF := ip hF c4
        refine z_iconst (v := (-1)) C dX12_deposit_22 (by decide) ?_
        refine z_mask [false, false] ?_ rfl
        exact ih1 S1 ((-1)) res hT1  hF
      · replace hF := im hF c4
        refine z_aload_n C dX12_deposit_11 rfl ?_
        refine f_getr C dX12_deposit_12 zfRX12_70 hpv0 hkv0 rfl ?_
        obtain ⟨hp5, hk5⟩ := hT1.1 v0 10 11 (.inl 8) hpv0 hkv0 rfl
        refine z_iload_n C dX12_deposit_15 rfl ?_
        obtain ⟨x6, S6, h6, hF⟩ := bI_some hF
        refine f_cV (st2 := [.int x6]) C dX12_deposit_16 zyX9_leastDeposit zvX9_leastDeposit lkRX12_259 (K_X9_leastDeposit (l := zXl X) hT1 hp5 hk5  h6) hp5 hk5 rfl (by decide) rfl rfl (Nat.le_of_ble_eq_true rfl) rfl (fun hT6 => ?_)
        refine z_goto C 23 dX12_deposit_19 (by decide) ?_
        refine z_mask [false, false] ?_ rfl
        exact ih1 S6 x6 res hT6  hF
    · intro S w0 res hT  hF
      replace hF : F_X12_deposit_1 f (F_X12_deposit f) w0 S = some res := hF
      unfold F_X12_deposit_1 at hF
      cases hF
      exact z_iret C hr dX12_deposit_23 ⟨rfl, rfl, hT⟩
theorem K_X12_deposit {G : zG} {l : Launch} {kd : kD} {N0 f : Nat} {S : aS} {v0 : Nat} {v1 : Int32} {res : Option Value × aS} (hT : zT0 kd N0 S) (hpv0 : v0 < N0) (hkv0 : kd v0 = .inl 10) (hF : F_X12_deposit f 0 [.ref v0, .int v1] S = some res) : zM G l 6 0 0 yX12_deposit cX12_deposit 2 (some .int) [.ref (zB G + v0), .int v1] (cn G kd N0 S) (zPo G kd N0 res) := zM.of (by decide) rfl (Nat.le_of_ble_eq_true rfl) (fun X _ C hr _ => (B_X12_deposit C hr f).1 S v0 v1 res hT hpv0 hkv0 hF)
def F_X12_weeks_0 (f : Nat) (rc : Nat → List Value → aS → aR) (v0 : Nat) (v1 : Int32) (v2 : Int32) (v3 : Int32) (S : aS) : aR :=
  bI (F_X12_isWithin f 0 [.int v1, .int 0, .int 9999] S) fun x1 S1 => if x1 = (0 : Int32) then rc 1 [] S1 else bI (F_X12_isWithin f 0 [.int v2, .int 1, .int 99] S1) fun x3 S3 => if x3 = (0 : Int32) then rc 1 [] S3 else bI (F_X12_isWithin f 0 [.int v3, .int 0, .int 2] S3) fun x5 S5 => if x5 = (0 : Int32) then rc 1 [] S5 else bR (F_X9_afterWeeks f 0 [.ref (gR S5 v0 11), .int v1, .int v2] S5) fun x8 S8 => if v3 = (0 : Int32) then bI (F_X4_total f 0 [.ref x8] S8) fun x14 S14 => some (some (.int x14), S14) else some (some (.int (if v3 = (1 : Int32) then ((gI S8 x8 5) - (gI S8 (gR S8 v0 5) 5)) else ((gI S8 x8 7) - (gI S8 (gR S8 v0 5) 7)))), S8)
def F_X12_weeks_1 (f : Nat) (rc : Nat → List Value → aS → aR)  (S : aS) : aR :=
  some (some (.int ((-1))), S)
def F_X12_weeks : Nat → Nat → List Value → aS → aR
  | 0, _, _, _ => none
  | f + 1, 0, vs, S => F_X12_weeks_0 f (F_X12_weeks f) (vR vs 0) (vI vs 1) (vI vs 2) (vI vs 3) S
  | f + 1, 1, vs, S => F_X12_weeks_1 f (F_X12_weeks f)  S
  | _ + 1, _, _, _ => none
theorem dX12_weeks_0 : decode cX12_weeks 0 = .ok (.iload_n 1, 1) := by decide +kernel
theorem dX12_weeks_1 : decode cX12_weeks 1 = .ok (.iconst 0, 1) := by decide +kernel
theorem dX12_weeks_2 : decode cX12_weeks 2 = .ok (.sipush 9999, 3) := by decide +kernel
theorem dX12_weeks_5 : decode cX12_weeks 5 = .ok (.invokestatic 178, 3) := by decide +kernel
theorem dX12_weeks_8 : decode cX12_weeks 8 = .ok (.ifCond .eq 22, 3) := by decide +kernel
theorem dX12_weeks_11 : decode cX12_weeks 11 = .ok (.iload_n 2, 1) := by decide +kernel
theorem dX12_weeks_12 : decode cX12_weeks 12 = .ok (.iconst 1, 1) := by decide +kernel
theorem dX12_weeks_13 : decode cX12_weeks 13 = .ok (.bipush 99, 2) := by decide +kernel
theorem dX12_weeks_15 : decode cX12_weeks 15 = .ok (.invokestatic 178, 3) := by decide +kernel
theorem dX12_weeks_18 : decode cX12_weeks 18 = .ok (.ifCond .eq 12, 3) := by decide +kernel
theorem dX12_weeks_21 : decode cX12_weeks 21 = .ok (.iload_n 3, 1) := by decide +kernel
theorem dX12_weeks_22 : decode cX12_weeks 22 = .ok (.iconst 0, 1) := by decide +kernel
theorem dX12_weeks_23 : decode cX12_weeks 23 = .ok (.iconst 2, 1) := by decide +kernel
theorem dX12_weeks_24 : decode cX12_weeks 24 = .ok (.invokestatic 178, 3) := by decide +kernel
theorem dX12_weeks_27 : decode cX12_weeks 27 = .ok (.ifCond .ne 5, 3) := by decide +kernel
theorem dX12_weeks_30 : decode cX12_weeks 30 = .ok (.iconst (-1), 1) := by decide +kernel
theorem dX12_weeks_31 : decode cX12_weeks 31 = .ok (.ireturn, 1) := by decide +kernel
theorem dX12_weeks_32 : decode cX12_weeks 32 = .ok (.aload_n 0, 1) := by decide +kernel
theorem dX12_weeks_33 : decode cX12_weeks 33 = .ok (.getfield 70, 3) := by decide +kernel
theorem dX12_weeks_36 : decode cX12_weeks 36 = .ok (.iload_n 1, 1) := by decide +kernel
theorem dX12_weeks_37 : decode cX12_weeks 37 = .ok (.iload_n 2, 1) := by decide +kernel
theorem dX12_weeks_38 : decode cX12_weeks 38 = .ok (.invokevirtual 286, 3) := by decide +kernel
theorem dX12_weeks_41 : decode cX12_weeks 41 = .ok (.astore 4, 2) := by decide +kernel
theorem dX12_weeks_43 : decode cX12_weeks 43 = .ok (.iload_n 3, 1) := by decide +kernel
theorem dX12_weeks_44 : decode cX12_weeks 44 = .ok (.ifCond .ne 9, 3) := by decide +kernel
theorem dX12_weeks_47 : decode cX12_weeks 47 = .ok (.aload 4, 2) := by decide +kernel
theorem dX12_weeks_49 : decode cX12_weeks 49 = .ok (.invokevirtual 158, 3) := by decide +kernel
theorem dX12_weeks_52 : decode cX12_weeks 52 = .ok (.ireturn, 1) := by decide +kernel
theorem dX12_weeks_53 : decode cX12_weeks 53 = .ok (.iload_n 3, 1) := by decide +kernel
theorem dX12_weeks_54 : decode cX12_weeks 54 = .ok (.iconst 1, 1) := by decide +kernel
theorem dX12_weeks_55 : decode cX12_weeks 55 = .ok (.if_icmp .ne 19, 3) := by decide +kernel
theorem dX12_weeks_58 : decode cX12_weeks 58 = .ok (.aload 4, 2) := by decide +kernel
theorem dX12_weeks_60 : decode cX12_weeks 60 = .ok (.getfield 290, 3) := by decide +kernel
theorem dX12_weeks_63 : decode cX12_weeks 63 = .ok (.aload_n 0, 1) := by decide +kernel
theorem dX12_weeks_64 : decode cX12_weeks 64 = .ok (.getfield 39, 3) := by decide +kernel
theorem dX12_weeks_67 : decode cX12_weeks 67 = .ok (.getfield 290, 3) := by decide +kernel
theorem dX12_weeks_70 : decode cX12_weeks 70 = .ok (.isub, 1) := by decide +kernel
theorem dX12_weeks_71 : decode cX12_weeks 71 = .ok (.goto 16, 3) := by decide +kernel
theorem dX12_weeks_74 : decode cX12_weeks 74 = .ok (.aload 4, 2) := by decide +kernel
theorem dX12_weeks_76 : decode cX12_weeks 76 = .ok (.getfield 293, 3) := by decide +kernel
theorem dX12_weeks_79 : decode cX12_weeks 79 = .ok (.aload_n 0, 1) := by decide +kernel
theorem dX12_weeks_80 : decode cX12_weeks 80 = .ok (.getfield 39, 3) := by decide +kernel
theorem dX12_weeks_83 : decode cX12_weeks 83 = .ok (.getfield 293, 3) := by decide +kernel
theorem dX12_weeks_86 : decode cX12_weeks 86 = .ok (.isub, 1) := by decide +kernel
theorem dX12_weeks_87 : decode cX12_weeks 87 = .ok (.ireturn, 1) := by decide +kernel
set_option maxHeartbeats 4000000 in
set_option maxRecDepth 100000 in
theorem B_X12_weeks {G : zG} {X : zX} {kd : kD} {N0 : Nat} (C : zCt G X 6 0 0 RX12 cX12_weeks 5) (hr : (zXh X).sig.returnType = (some .int)) : ∀ f : Nat,
    (∀ (S : aS) (v0 : Nat) (v1 : Int32) (v2 : Int32) (v3 : Int32) (res : Option Value × aS), zT0 kd N0 S → v0 < N0 → kd v0 = .inl 10 → F_X12_weeks f 0 [.ref v0, .int v1, .int v2, .int v3] S = some res → zV G X (zQX G X (zPo G kd N0 res) 0 0) 5 [some (.ref (zB G + v0)), some (.int v1), some (.int v2), some (.int v3), none] [] (cn G kd N0 S) 0 0 0) ∧
    (∀ (S : aS)  (res : Option Value × aS), zT0 kd N0 S → F_X12_weeks f 1 [] S = some res → zV G X (zQX G X (zPo G kd N0 res) 0 0) 5 [none, none, none, none, none] [] (cn G kd N0 S) 30 0 0) := by
  intro f
  induction f with
  | zero => exact ⟨(fun _ _ _ _ _ _ _ _ _ h => by cases h), (fun _ _ _ h => by cases h)⟩
  | succ f ih =>
    obtain ⟨ih0, ih1⟩ := ih
    refine ⟨?_, ?_⟩
    · intro S v0 v1 v2 v3 res hT hpv0 hkv0 hF
      replace hF : F_X12_weeks_0 f (F_X12_weeks f) v0 v1 v2 v3 S = some res := hF
      unfold F_X12_weeks_0 at hF
      refine z_iload_n C dX12_weeks_0 rfl ?_
      refine z_iconst (v := 0) C dX12_weeks_1 (by decide) ?_
      refine z_sipush (v := 9999) C dX12_weeks_2 (by decide) ?_
      obtain ⟨x1, S1, h1, hF⟩ := bI_some hF
      refine f_cS (st2 := [.int x1]) C dX12_weeks_5 zyX12_isWithin zsX12_isWithin lkRX12_178 (K_X12_isWithin (l := zXl X) hT    h1) (by decide) rfl rfl (Nat.le_of_ble_eq_true rfl) rfl (fun hT1 => ?_)
      refine z_if_eq C 30 dX12_weeks_8 (by decide) (fun c2 => ?_) (fun c2 => ?_)
      · replace hF := ip hF c2
        refine z_mask [false, false, false, false, true] ?_ rfl
        exact ih1 S1  res hT1  hF
      · replace hF := im hF c2
        refine z_iload_n C dX12_weeks_11 rfl ?_
        refine z_iconst (v := 1) C dX12_weeks_12 (by decide) ?_
        refine z_bipush (v := 99) C dX12_weeks_13 (by decide) ?_
        obtain ⟨x3, S3, h3, hF⟩ := bI_some hF
        refine f_cS (st2 := [.int x3]) C dX12_weeks_15 zyX12_isWithin zsX12_isWithin lkRX12_178 (K_X12_isWithin (l := zXl X) hT1    h3) (by decide) rfl rfl (Nat.le_of_ble_eq_true rfl) rfl (fun hT3 => ?_)
        refine z_if_eq C 30 dX12_weeks_18 (by decide) (fun c4 => ?_) (fun c4 => ?_)
        · replace hF := ip hF c4
          refine z_mask [false, false, false, false, true] ?_ rfl
          exact ih1 S3  res hT3  hF
        · replace hF := im hF c4
          refine z_iload_n C dX12_weeks_21 rfl ?_
          refine z_iconst (v := 0) C dX12_weeks_22 (by decide) ?_
          refine z_iconst (v := 2) C dX12_weeks_23 (by decide) ?_
          obtain ⟨x5, S5, h5, hF⟩ := bI_some hF
          refine f_cS (st2 := [.int x5]) C dX12_weeks_24 zyX12_isWithin zsX12_isWithin lkRX12_178 (K_X12_isWithin (l := zXl X) hT3    h5) (by decide) rfl rfl (Nat.le_of_ble_eq_true rfl) rfl (fun hT5 => ?_)
          refine z_if_ne C 32 dX12_weeks_27 (by decide) (fun c6 => ?_) (fun c6 => ?_)
          · replace hF := im hF c6
            refine z_aload_n C dX12_weeks_32 rfl ?_
            refine f_getr C dX12_weeks_33 zfRX12_70 hpv0 hkv0 rfl ?_
            obtain ⟨hp7, hk7⟩ := hT5.1 v0 10 11 (.inl 8) hpv0 hkv0 rfl
            refine z_iload_n C dX12_weeks_36 rfl ?_
            refine z_iload_n C dX12_weeks_37 rfl ?_
            obtain ⟨x8, S8, h8, hF⟩ := bR_some hF
            refine f_cVr C dX12_weeks_38 zyX9_afterWeeks zvX9_afterWeeks lkRX12_286 (K_X9_afterWeeks (l := zXl X) hT5 hp7 hk7   h8) hp7 hk7 rfl (by decide) rfl rfl (Nat.le_of_ble_eq_true rfl) (fun hT8 hp8 hk8 => ?_)
            refine z_astore (lv2 := [some (.ref (zB G + v0)), some (.int v1), some (.int v2), some (.int v3), some (.ref (zB G + x8))]) C dX12_weeks_41 (by decide) rfl ?_
            refine z_iload_n C dX12_weeks_43 rfl ?_
            refine z_if_ne C 53 dX12_weeks_44 (by decide) (fun c9 => ?_) (fun c9 => ?_)
            · replace hF := im hF c9
              refine z_iload_n C dX12_weeks_53 rfl ?_
              refine z_iconst (v := 1) C dX12_weeks_54 (by decide) ?_
              have hJ13 : zV G X (zQX G X (zPo G kd N0 res) 0 0) 5 [some (.ref (zB G + v0)), some (.int v1), some (.int v2), some (.int v3), some (.ref (zB G + x8))] [.int (if v3 = (1 : Int32) then ((gI S8 x8 5) - (gI S8 (gR S8 v0 5) 5)) else ((gI S8 x8 7) - (gI S8 (gR S8 v0 5) 7)))] (cn G kd N0 S8) 87 0 0 := by
                cases hF
                exact z_iret C hr dX12_weeks_87 ⟨rfl, rfl, hT8⟩
              refine z_icmp_ne C 74 dX12_weeks_55 (by decide) (fun c10 => ?_) (fun c10 => ?_)
              · refine z_aload C dX12_weeks_74 rfl ?_
                refine f_geti C dX12_weeks_76 zfRX12_293 hp8 hk8 rfl ?_
                refine z_aload_n C dX12_weeks_79 rfl ?_
                refine f_getr C dX12_weeks_80 zfRX12_39 hpv0 hkv0 rfl ?_
                obtain ⟨hp11, hk11⟩ := hT8.1 v0 10 5 (.inl 3) hpv0 hkv0 rfl
                refine f_geti C dX12_weeks_83 zfRX12_293 hp11 hk11 rfl ?_
                refine z_isub C dX12_weeks_86 ?_
                exact zV.at hJ13 (by first | rfl | contradiction | (simp only [if_neg c10]; done)) (by first | rfl | contradiction | (simp only [if_neg c10]; done)) rfl rfl
              · refine z_aload C dX12_weeks_58 rfl ?_
                refine f_geti C dX12_weeks_60 zfRX12_290 hp8 hk8 rfl ?_
                refine z_aload_n C dX12_weeks_63 rfl ?_
                refine f_getr C dX12_weeks_64 zfRX12_39 hpv0 hkv0 rfl ?_
                obtain ⟨hp12, hk12⟩ := hT8.1 v0 10 5 (.inl 3) hpv0 hkv0 rfl
                refine f_geti C dX12_weeks_67 zfRX12_290 hp12 hk12 rfl ?_
                refine z_isub C dX12_weeks_70 ?_
                refine z_goto C 87 dX12_weeks_71 (by decide) ?_
                exact zV.at hJ13 (by first | rfl | contradiction | (simp only [if_pos c10]; done)) (by first | rfl | contradiction | (simp only [if_pos c10]; done)) rfl rfl
            · replace hF := ip hF c9
              refine z_aload C dX12_weeks_47 rfl ?_
              obtain ⟨x14, S14, h14, hF⟩ := bI_some hF
              refine f_cV (st2 := [.int x14]) C dX12_weeks_49 zyX4_total zvX4_total lkRX12_158 (K_X4_total (l := zXl X) hT8 hp8 hk8 h14) hp8 hk8 rfl (by decide) rfl rfl (Nat.le_of_ble_eq_true rfl) rfl (fun hT14 => ?_)
              cases hF
              exact z_iret C hr dX12_weeks_52 ⟨rfl, rfl, hT14⟩
          · replace hF := ip hF c6
            refine z_mask [false, false, false, false, true] ?_ rfl
            exact ih1 S5  res hT5  hF
    · intro S  res hT  hF
      replace hF : F_X12_weeks_1 f (F_X12_weeks f)  S = some res := hF
      unfold F_X12_weeks_1 at hF
      refine z_iconst (v := (-1)) C dX12_weeks_30 (by decide) ?_
      cases hF
      exact z_iret C hr dX12_weeks_31 ⟨rfl, rfl, hT⟩
theorem K_X12_weeks {G : zG} {l : Launch} {kd : kD} {N0 f : Nat} {S : aS} {v0 : Nat} {v1 : Int32} {v2 : Int32} {v3 : Int32} {res : Option Value × aS} (hT : zT0 kd N0 S) (hpv0 : v0 < N0) (hkv0 : kd v0 = .inl 10) (hF : F_X12_weeks f 0 [.ref v0, .int v1, .int v2, .int v3] S = some res) : zM G l 6 0 0 yX12_weeks cX12_weeks 5 (some .int) [.ref (zB G + v0), .int v1, .int v2, .int v3] (cn G kd N0 S) (zPo G kd N0 res) := zM.of (by decide) rfl (Nat.le_of_ble_eq_true rfl) (fun X _ C hr _ => (B_X12_weeks C hr f).1 S v0 v1 v2 v3 res hT hpv0 hkv0 hF)
def F_X13_readLine_0 (f : Nat) (rc : Nat → List Value → aS → aR) (v0 : Nat) (S : aS) : aR :=
  bI (F_X13_isWord f 0 [.ref v0, .int 1] S) fun x1 S1 => if x1 = (0 : Int32) then bI (F_X13_isWord f 0 [.ref v0, .int 4] S1) fun x4 S4 => if x4 = (0 : Int32) then bI (F_X13_isWord f 0 [.ref v0, .int 6] S4) fun x7 S7 => if x7 = (0 : Int32) then bV (F_X13_readOnce f 0 [.ref v0] S7) fun S10 => rc 1 [] S10 else fS (sI S7 v0 7 ((gI S7 v0 7) + (1 : Int32))) fun S11 => bI (F_X13_yardHere f 0 [.ref v0, .int 34] S11) fun x12 S12 => bI (F_X13_takeNumber f 0 [.ref v0, .int 0, .int 99] S12) fun x13 S13 => bX ((104 : Int32) + x12) 140 fun q17 => fS (sI S13 (gR S13 v0 10) q17 (if (gI S13 v0 8) ≤ (0 : Int32) then (x13 + (1 : Int32)) else (0 : Int32))) fun S18 => rc 1 [] S18 else fS (sI S4 v0 7 ((gI S4 v0 7) + (1 : Int32))) fun S19 => bI (F_X13_yardHere f 0 [.ref v0, .int 26] S19) fun x20 S20 => bV (F_X13_takeWord f 0 [.ref v0, .int 5] S20) fun S21 => bI (F_X13_takeNumber f 0 [.ref v0, .int 1, .int 30] S21) fun x22 S22 => bX ((96 : Int32) + x20) 140 fun q26 => fS (sI S22 (gR S22 v0 10) q26 (if (gI S22 v0 8) ≤ (0 : Int32) then x22 else (0 : Int32))) fun S27 => rc 1 [] S27 else bV (F_X13_readPerson f 0 [.ref v0] S1) fun S28 => rc 1 [] S28
def F_X13_readLine_1 (f : Nat) (rc : Nat → List Value → aS → aR)  (S : aS) : aR :=
  some (none, S)
def F_X13_readLine : Nat → Nat → List Value → aS → aR
  | 0, _, _, _ => none
  | f + 1, 0, vs, S => F_X13_readLine_0 f (F_X13_readLine f) (vR vs 0) S
  | f + 1, 1, vs, S => F_X13_readLine_1 f (F_X13_readLine f)  S
  | _ + 1, _, _, _ => none
theorem dX13_readLine_0 : decode cX13_readLine 0 = .ok (.aload_n 0, 1) := by decide +kernel
theorem dX13_readLine_1 : decode cX13_readLine 1 = .ok (.iconst 1, 1) := by decide +kernel
theorem dX13_readLine_2 : decode cX13_readLine 2 = .ok (.invokevirtual 186, 3) := by decide +kernel
theorem dX13_readLine_5 : decode cX13_readLine 5 = .ok (.ifCond .eq 10, 3) := by decide +kernel
theorem dX13_readLine_8 : decode cX13_readLine 8 = .ok (.aload_n 0, 1) := by decide +kernel
theorem dX13_readLine_9 : decode cX13_readLine 9 = .ok (.invokevirtual 223, 3) := by decide +kernel
theorem dX13_readLine_12 : decode cX13_readLine 12 = .ok (.goto 129, 3) := by decide +kernel
theorem dX13_readLine_15 : decode cX13_readLine 15 = .ok (.aload_n 0, 1) := by decide +kernel
theorem dX13_readLine_16 : decode cX13_readLine 16 = .ok (.iconst 4, 1) := by decide +kernel
theorem dX13_readLine_17 : decode cX13_readLine 17 = .ok (.invokevirtual 186, 3) := by decide +kernel
theorem dX13_readLine_20 : decode cX13_readLine 20 = .ok (.ifCond .eq 57, 3) := by decide +kernel
theorem dX13_readLine_23 : decode cX13_readLine 23 = .ok (.aload_n 0, 1) := by decide +kernel
theorem dX13_readLine_24 : decode cX13_readLine 24 = .ok (.dup, 1) := by decide +kernel
theorem dX13_readLine_25 : decode cX13_readLine 25 = .ok (.getfield 174, 3) := by decide +kernel
theorem dX13_readLine_28 : decode cX13_readLine 28 = .ok (.iconst 1, 1) := by decide +kernel
theorem dX13_readLine_29 : decode cX13_readLine 29 = .ok (.iadd, 1) := by decide +kernel
theorem dX13_readLine_30 : decode cX13_readLine 30 = .ok (.putfield 174, 3) := by decide +kernel
theorem dX13_readLine_33 : decode cX13_readLine 33 = .ok (.aload_n 0, 1) := by decide +kernel
theorem dX13_readLine_34 : decode cX13_readLine 34 = .ok (.bipush 26, 2) := by decide +kernel
theorem dX13_readLine_36 : decode cX13_readLine 36 = .ok (.invokevirtual 226, 3) := by decide +kernel
theorem dX13_readLine_39 : decode cX13_readLine 39 = .ok (.istore_n 1, 1) := by decide +kernel
theorem dX13_readLine_40 : decode cX13_readLine 40 = .ok (.aload_n 0, 1) := by decide +kernel
theorem dX13_readLine_41 : decode cX13_readLine 41 = .ok (.iconst 5, 1) := by decide +kernel
theorem dX13_readLine_42 : decode cX13_readLine 42 = .ok (.invokevirtual 192, 3) := by decide +kernel
theorem dX13_readLine_45 : decode cX13_readLine 45 = .ok (.aload_n 0, 1) := by decide +kernel
theorem dX13_readLine_46 : decode cX13_readLine 46 = .ok (.iconst 1, 1) := by decide +kernel
theorem dX13_readLine_47 : decode cX13_readLine 47 = .ok (.bipush 30, 2) := by decide +kernel
theorem dX13_readLine_49 : decode cX13_readLine 49 = .ok (.invokevirtual 195, 3) := by decide +kernel
theorem dX13_readLine_52 : decode cX13_readLine 52 = .ok (.istore_n 2, 1) := by decide +kernel
theorem dX13_readLine_53 : decode cX13_readLine 53 = .ok (.aload_n 0, 1) := by decide +kernel
theorem dX13_readLine_54 : decode cX13_readLine 54 = .ok (.getfield 95, 3) := by decide +kernel
theorem dX13_readLine_57 : decode cX13_readLine 57 = .ok (.bipush 96, 2) := by decide +kernel
theorem dX13_readLine_59 : decode cX13_readLine 59 = .ok (.iload_n 1, 1) := by decide +kernel
theorem dX13_readLine_60 : decode cX13_readLine 60 = .ok (.iadd, 1) := by decide +kernel
theorem dX13_readLine_61 : decode cX13_readLine 61 = .ok (.aload_n 0, 1) := by decide +kernel
theorem dX13_readLine_62 : decode cX13_readLine 62 = .ok (.getfield 177, 3) := by decide +kernel
theorem dX13_readLine_65 : decode cX13_readLine 65 = .ok (.ifCond .le 7, 3) := by decide +kernel
theorem dX13_readLine_68 : decode cX13_readLine 68 = .ok (.iconst 0, 1) := by decide +kernel
theorem dX13_readLine_69 : decode cX13_readLine 69 = .ok (.goto 4, 3) := by decide +kernel
theorem dX13_readLine_72 : decode cX13_readLine 72 = .ok (.iload_n 2, 1) := by decide +kernel
theorem dX13_readLine_73 : decode cX13_readLine 73 = .ok (.iastore, 1) := by decide +kernel
theorem dX13_readLine_74 : decode cX13_readLine 74 = .ok (.goto 67, 3) := by decide +kernel
theorem dX13_readLine_77 : decode cX13_readLine 77 = .ok (.aload_n 0, 1) := by decide +kernel
theorem dX13_readLine_78 : decode cX13_readLine 78 = .ok (.bipush 6, 2) := by decide +kernel
theorem dX13_readLine_80 : decode cX13_readLine 80 = .ok (.invokevirtual 186, 3) := by decide +kernel
theorem dX13_readLine_83 : decode cX13_readLine 83 = .ok (.ifCond .eq 54, 3) := by decide +kernel
theorem dX13_readLine_86 : decode cX13_readLine 86 = .ok (.aload_n 0, 1) := by decide +kernel
theorem dX13_readLine_87 : decode cX13_readLine 87 = .ok (.dup, 1) := by decide +kernel
theorem dX13_readLine_88 : decode cX13_readLine 88 = .ok (.getfield 174, 3) := by decide +kernel
theorem dX13_readLine_91 : decode cX13_readLine 91 = .ok (.iconst 1, 1) := by decide +kernel
theorem dX13_readLine_92 : decode cX13_readLine 92 = .ok (.iadd, 1) := by decide +kernel
theorem dX13_readLine_93 : decode cX13_readLine 93 = .ok (.putfield 174, 3) := by decide +kernel
theorem dX13_readLine_96 : decode cX13_readLine 96 = .ok (.aload_n 0, 1) := by decide +kernel
theorem dX13_readLine_97 : decode cX13_readLine 97 = .ok (.bipush 34, 2) := by decide +kernel
theorem dX13_readLine_99 : decode cX13_readLine 99 = .ok (.invokevirtual 226, 3) := by decide +kernel
theorem dX13_readLine_102 : decode cX13_readLine 102 = .ok (.istore_n 1, 1) := by decide +kernel
theorem dX13_readLine_103 : decode cX13_readLine 103 = .ok (.aload_n 0, 1) := by decide +kernel
theorem dX13_readLine_104 : decode cX13_readLine 104 = .ok (.iconst 0, 1) := by decide +kernel
theorem dX13_readLine_105 : decode cX13_readLine 105 = .ok (.bipush 99, 2) := by decide +kernel
theorem dX13_readLine_107 : decode cX13_readLine 107 = .ok (.invokevirtual 195, 3) := by decide +kernel
theorem dX13_readLine_110 : decode cX13_readLine 110 = .ok (.istore_n 2, 1) := by decide +kernel
theorem dX13_readLine_111 : decode cX13_readLine 111 = .ok (.aload_n 0, 1) := by decide +kernel
theorem dX13_readLine_112 : decode cX13_readLine 112 = .ok (.getfield 95, 3) := by decide +kernel
theorem dX13_readLine_115 : decode cX13_readLine 115 = .ok (.bipush 104, 2) := by decide +kernel
theorem dX13_readLine_117 : decode cX13_readLine 117 = .ok (.iload_n 1, 1) := by decide +kernel
theorem dX13_readLine_118 : decode cX13_readLine 118 = .ok (.iadd, 1) := by decide +kernel
theorem dX13_readLine_119 : decode cX13_readLine 119 = .ok (.aload_n 0, 1) := by decide +kernel
theorem dX13_readLine_120 : decode cX13_readLine 120 = .ok (.getfield 177, 3) := by decide +kernel
theorem dX13_readLine_123 : decode cX13_readLine 123 = .ok (.ifCond .le 7, 3) := by decide +kernel
theorem dX13_readLine_126 : decode cX13_readLine 126 = .ok (.iconst 0, 1) := by decide +kernel
theorem dX13_readLine_127 : decode cX13_readLine 127 = .ok (.goto 6, 3) := by decide +kernel
theorem dX13_readLine_130 : decode cX13_readLine 130 = .ok (.iload_n 2, 1) := by decide +kernel
theorem dX13_readLine_131 : decode cX13_readLine 131 = .ok (.iconst 1, 1) := by decide +kernel
theorem dX13_readLine_132 : decode cX13_readLine 132 = .ok (.iadd, 1) := by decide +kernel
theorem dX13_readLine_133 : decode cX13_readLine 133 = .ok (.iastore, 1) := by decide +kernel
theorem dX13_readLine_134 : decode cX13_readLine 134 = .ok (.goto 7, 3) := by decide +kernel
theorem dX13_readLine_137 : decode cX13_readLine 137 = .ok (.aload_n 0, 1) := by decide +kernel
theorem dX13_readLine_138 : decode cX13_readLine 138 = .ok (.invokevirtual 229, 3) := by decide +kernel
theorem dX13_readLine_141 : decode cX13_readLine 141 = .ok (.return_, 1) := by decide +kernel
set_option maxHeartbeats 4000000 in
set_option maxRecDepth 100000 in
theorem B_X13_readLine {G : zG} {X : zX} {kd : kD} {N0 : Nat} (C : zCt G X 44 0 0 RX13 cX13_readLine 3) (hr : (zXh X).sig.returnType = none) : ∀ f : Nat,
    (∀ (S : aS) (v0 : Nat) (res : Option Value × aS), zT0 kd N0 S → v0 < N0 → kd v0 = .inl 11 → F_X13_readLine f 0 [.ref v0] S = some res → zV G X (zQX G X (zPo G kd N0 res) 0 0) 3 [some (.ref (zB G + v0)), none, none] [] (cn G kd N0 S) 0 0 0) ∧
    (∀ (S : aS)  (res : Option Value × aS), zT0 kd N0 S → F_X13_readLine f 1 [] S = some res → zV G X (zQX G X (zPo G kd N0 res) 0 0) 3 [none, none, none] [] (cn G kd N0 S) 141 0 0) := by
  intro f
  induction f with
  | zero => exact ⟨(fun _ _ _ _ _ _ h => by cases h), (fun _ _ _ h => by cases h)⟩
  | succ f ih =>
    obtain ⟨ih0, ih1⟩ := ih
    refine ⟨?_, ?_⟩
    · intro S v0 res hT hpv0 hkv0 hF
      replace hF : F_X13_readLine_0 f (F_X13_readLine f) v0 S = some res := hF
      unfold F_X13_readLine_0 at hF
      refine z_aload_n C dX13_readLine_0 rfl ?_
      refine z_iconst (v := 1) C dX13_readLine_1 (by decide) ?_
      obtain ⟨x1, S1, h1, hF⟩ := bI_some hF
      refine f_cV (st2 := [.int x1]) C dX13_readLine_2 zyX13_isWord zvX13_isWord lkRX13_186 (K_X13_isWord (l := zXl X) hT hpv0 hkv0  h1) hpv0 hkv0 rfl (by decide) rfl rfl (Nat.le_of_ble_eq_true rfl) rfl (fun hT1 => ?_)
      refine z_if_eq C 15 dX13_readLine_5 (by decide) (fun c3 => ?_) (fun c3 => ?_)
      · replace hF := ip hF c3
        refine z_aload_n C dX13_readLine_15 rfl ?_
        refine z_iconst (v := 4) C dX13_readLine_16 (by decide) ?_
        obtain ⟨x4, S4, h4, hF⟩ := bI_some hF
        refine f_cV (st2 := [.int x4]) C dX13_readLine_17 zyX13_isWord zvX13_isWord lkRX13_186 (K_X13_isWord (l := zXl X) hT1 hpv0 hkv0  h4) hpv0 hkv0 rfl (by decide) rfl rfl (Nat.le_of_ble_eq_true rfl) rfl (fun hT4 => ?_)
        refine z_if_eq C 77 dX13_readLine_20 (by decide) (fun c6 => ?_) (fun c6 => ?_)
        · replace hF := ip hF c6
          refine z_aload_n C dX13_readLine_77 rfl ?_
          refine z_bipush (v := 6) C dX13_readLine_78 (by decide) ?_
          obtain ⟨x7, S7, h7, hF⟩ := bI_some hF
          refine f_cV (st2 := [.int x7]) C dX13_readLine_80 zyX13_isWord zvX13_isWord lkRX13_186 (K_X13_isWord (l := zXl X) hT4 hpv0 hkv0  h7) hpv0 hkv0 rfl (by decide) rfl rfl (Nat.le_of_ble_eq_true rfl) rfl (fun hT7 => ?_)
          refine z_if_eq C 137 dX13_readLine_83 (by decide) (fun c9 => ?_) (fun c9 => ?_)
          · replace hF := ip hF c9
            refine z_aload_n C dX13_readLine_137 rfl ?_
            obtain ⟨S10, h10, hF⟩ := bV_some hF
            refine f_cV (st2 := []) C dX13_readLine_138 zyX13_readOnce zvX13_readOnce lkRX13_229 (K_X13_readOnce (l := zXl X) hT7 hpv0 hkv0 h10) hpv0 hkv0 rfl (by decide) rfl rfl (Nat.le_of_ble_eq_true rfl) rfl (fun hT10 => ?_)
            refine z_mask [false, true, true] ?_ rfl
            exact ih1 S10  res hT10  hF
          · replace hF := im hF c9
            refine z_aload_n C dX13_readLine_86 rfl ?_
            refine z_dup C dX13_readLine_87 rfl ?_
            refine f_geti C dX13_readLine_88 zfRX13_174 hpv0 hkv0 rfl ?_
            refine z_iconst (v := 1) C dX13_readLine_91 (by decide) ?_
            refine z_iadd C dX13_readLine_92 ?_
            refine f_puti C dX13_readLine_93 zfRX13_174 fw11_7 hpv0 hkv0 rfl rfl rfl ?_
            have hT11 : zT0 kd N0 (sI S7 v0 7 ((gI S7 v0 7) + (1 : Int32))) := zT0_sI hT7
            replace hF := fS_e hF
            generalize sI S7 v0 7 ((gI S7 v0 7) + (1 : Int32)) = S11 at hF hT11 ⊢
            refine z_aload_n C dX13_readLine_96 rfl ?_
            refine z_bipush (v := 34) C dX13_readLine_97 (by decide) ?_
            obtain ⟨x12, S12, h12, hF⟩ := bI_some hF
            refine f_cV (st2 := [.int x12]) C dX13_readLine_99 zyX13_yardHere zvX13_yardHere lkRX13_226 (K_X13_yardHere (l := zXl X) hT11 hpv0 hkv0  h12) hpv0 hkv0 rfl (by decide) rfl rfl (Nat.le_of_ble_eq_true rfl) rfl (fun hT12 => ?_)
            refine z_istore_n (lv2 := [some (.ref (zB G + v0)), some (.int x12), none]) C dX13_readLine_102 (by decide) rfl ?_
            refine z_aload_n C dX13_readLine_103 rfl ?_
            refine z_iconst (v := 0) C dX13_readLine_104 (by decide) ?_
            refine z_bipush (v := 99) C dX13_readLine_105 (by decide) ?_
            obtain ⟨x13, S13, h13, hF⟩ := bI_some hF
            refine f_cV (st2 := [.int x13]) C dX13_readLine_107 zyX13_takeNumber zvX13_takeNumber lkRX13_195 (K_X13_takeNumber (l := zXl X) hT12 hpv0 hkv0   h13) hpv0 hkv0 rfl (by decide) rfl rfl (Nat.le_of_ble_eq_true rfl) rfl (fun hT13 => ?_)
            refine z_istore_n (lv2 := [some (.ref (zB G + v0)), some (.int x12), some (.int x13)]) C dX13_readLine_110 (by decide) rfl ?_
            refine z_aload_n C dX13_readLine_111 rfl ?_
            refine f_getr C dX13_readLine_112 zfRX13_95 hpv0 hkv0 rfl ?_
            obtain ⟨hp14, hk14⟩ := hT13.1 v0 11 10 (.inr (0, 140)) hpv0 hkv0 rfl
            refine z_bipush (v := 104) C dX13_readLine_115 (by decide) ?_
            refine z_iload_n C dX13_readLine_117 rfl ?_
            refine z_iadd C dX13_readLine_118 ?_
            refine z_aload_n C dX13_readLine_119 rfl ?_
            refine f_geti C dX13_readLine_120 zfRX13_177 hpv0 hkv0 rfl ?_
            have hJ16 : zV G X (zQX G X (zPo G kd N0 res) 0 0) 3 [some (.ref (zB G + v0)), some (.int x12), some (.int x13)] [.int (if (gI S13 v0 8) ≤ (0 : Int32) then (x13 + (1 : Int32)) else (0 : Int32)), .int ((104 : Int32) + x12), .ref (zB G + (gR S13 v0 10))] (cn G kd N0 S13) 133 0 0 := by
              obtain ⟨hi17, hF⟩ := bX_some hF
              obtain ⟨q17, eq17⟩ : ∃ q : Nat, q = Int32.toNatClampNeg ((104 : Int32) + x12) := ⟨_, rfl⟩
              rw [← eq17] at hF
              refine f_iast C dX13_readLine_133 hp14 hk14 hi17 ?_
              rw [← eq17]
              have hT18 : zT0 kd N0 (sI S13 (gR S13 v0 10) q17 (if (gI S13 v0 8) ≤ (0 : Int32) then (x13 + (1 : Int32)) else (0 : Int32))) := zT0_sI hT13
              replace hF := fS_e hF
              generalize sI S13 (gR S13 v0 10) q17 (if (gI S13 v0 8) ≤ (0 : Int32) then (x13 + (1 : Int32)) else (0 : Int32)) = S18 at hF hT18 ⊢
              refine z_goto C 141 dX13_readLine_134 (by decide) ?_
              refine z_mask [false, false, false] ?_ rfl
              exact ih1 S18  res hT18  hF
            refine z_if_le C 130 dX13_readLine_123 (by decide) (fun c15 => ?_) (fun c15 => ?_)
            · refine z_iload_n C dX13_readLine_130 rfl ?_
              refine z_iconst (v := 1) C dX13_readLine_131 (by decide) ?_
              refine z_iadd C dX13_readLine_132 ?_
              exact zV.at hJ16 (by first | rfl | contradiction | (simp only [if_pos c15]; done)) (by first | rfl | contradiction | (simp only [if_pos c15]; done)) rfl rfl
            · refine z_iconst (v := 0) C dX13_readLine_126 (by decide) ?_
              refine z_goto C 133 dX13_readLine_127 (by decide) ?_
              exact zV.at hJ16 (by first | rfl | contradiction | (simp only [if_neg c15]; done)) (by first | rfl | contradiction | (simp only [if_neg c15]; done)) rfl rfl
        · replace hF := im hF c6
          refine z_aload_n C dX13_readLine_23 rfl ?_
          refine z_dup C dX13_readLine_24 rfl ?_
          refine f_geti C dX13_readLine_25 zfRX13_174 hpv0 hkv0 rfl ?_
          refine z_iconst (v := 1) C dX13_readLine_28 (by decide) ?_
          refine z_iadd C dX13_readLine_29 ?_
          refine f_puti C dX13_readLine_30 zfRX13_174 fw11_7 hpv0 hkv0 rfl rfl rfl ?_
          have hT19 : zT0 kd N0 (sI S4 v0 7 ((gI S4 v0 7) + (1 : Int32))) := zT0_sI hT4
          replace hF := fS_e hF
          generalize sI S4 v0 7 ((gI S4 v0 7) + (1 : Int32)) = S19 at hF hT19 ⊢
          refine z_aload_n C dX13_readLine_33 rfl ?_
          refine z_bipush (v := 26) C dX13_readLine_34 (by decide) ?_
          obtain ⟨x20, S20, h20, hF⟩ := bI_some hF
          refine f_cV (st2 := [.int x20]) C dX13_readLine_36 zyX13_yardHere zvX13_yardHere lkRX13_226 (K_X13_yardHere (l := zXl X) hT19 hpv0 hkv0  h20) hpv0 hkv0 rfl (by decide) rfl rfl (Nat.le_of_ble_eq_true rfl) rfl (fun hT20 => ?_)
          refine z_istore_n (lv2 := [some (.ref (zB G + v0)), some (.int x20), none]) C dX13_readLine_39 (by decide) rfl ?_
          refine z_aload_n C dX13_readLine_40 rfl ?_
          refine z_iconst (v := 5) C dX13_readLine_41 (by decide) ?_
          obtain ⟨S21, h21, hF⟩ := bV_some hF
          refine f_cV (st2 := []) C dX13_readLine_42 zyX13_takeWord zvX13_takeWord lkRX13_192 (K_X13_takeWord (l := zXl X) hT20 hpv0 hkv0  h21) hpv0 hkv0 rfl (by decide) rfl rfl (Nat.le_of_ble_eq_true rfl) rfl (fun hT21 => ?_)
          refine z_aload_n C dX13_readLine_45 rfl ?_
          refine z_iconst (v := 1) C dX13_readLine_46 (by decide) ?_
          refine z_bipush (v := 30) C dX13_readLine_47 (by decide) ?_
          obtain ⟨x22, S22, h22, hF⟩ := bI_some hF
          refine f_cV (st2 := [.int x22]) C dX13_readLine_49 zyX13_takeNumber zvX13_takeNumber lkRX13_195 (K_X13_takeNumber (l := zXl X) hT21 hpv0 hkv0   h22) hpv0 hkv0 rfl (by decide) rfl rfl (Nat.le_of_ble_eq_true rfl) rfl (fun hT22 => ?_)
          refine z_istore_n (lv2 := [some (.ref (zB G + v0)), some (.int x20), some (.int x22)]) C dX13_readLine_52 (by decide) rfl ?_
          refine z_aload_n C dX13_readLine_53 rfl ?_
          refine f_getr C dX13_readLine_54 zfRX13_95 hpv0 hkv0 rfl ?_
          obtain ⟨hp23, hk23⟩ := hT22.1 v0 11 10 (.inr (0, 140)) hpv0 hkv0 rfl
          refine z_bipush (v := 96) C dX13_readLine_57 (by decide) ?_
          refine z_iload_n C dX13_readLine_59 rfl ?_
          refine z_iadd C dX13_readLine_60 ?_
          refine z_aload_n C dX13_readLine_61 rfl ?_
          refine f_geti C dX13_readLine_62 zfRX13_177 hpv0 hkv0 rfl ?_
          have hJ25 : zV G X (zQX G X (zPo G kd N0 res) 0 0) 3 [some (.ref (zB G + v0)), some (.int x20), some (.int x22)] [.int (if (gI S22 v0 8) ≤ (0 : Int32) then x22 else (0 : Int32)), .int ((96 : Int32) + x20), .ref (zB G + (gR S22 v0 10))] (cn G kd N0 S22) 73 0 0 := by
            obtain ⟨hi26, hF⟩ := bX_some hF
            obtain ⟨q26, eq26⟩ : ∃ q : Nat, q = Int32.toNatClampNeg ((96 : Int32) + x20) := ⟨_, rfl⟩
            rw [← eq26] at hF
            refine f_iast C dX13_readLine_73 hp23 hk23 hi26 ?_
            rw [← eq26]
            have hT27 : zT0 kd N0 (sI S22 (gR S22 v0 10) q26 (if (gI S22 v0 8) ≤ (0 : Int32) then x22 else (0 : Int32))) := zT0_sI hT22
            replace hF := fS_e hF
            generalize sI S22 (gR S22 v0 10) q26 (if (gI S22 v0 8) ≤ (0 : Int32) then x22 else (0 : Int32)) = S27 at hF hT27 ⊢
            refine z_goto C 141 dX13_readLine_74 (by decide) ?_
            refine z_mask [false, false, false] ?_ rfl
            exact ih1 S27  res hT27  hF
          refine z_if_le C 72 dX13_readLine_65 (by decide) (fun c24 => ?_) (fun c24 => ?_)
          · refine z_iload_n C dX13_readLine_72 rfl ?_
            exact zV.at hJ25 (by first | rfl | contradiction | (simp only [if_pos c24]; done)) (by first | rfl | contradiction | (simp only [if_pos c24]; done)) rfl rfl
          · refine z_iconst (v := 0) C dX13_readLine_68 (by decide) ?_
            refine z_goto C 73 dX13_readLine_69 (by decide) ?_
            exact zV.at hJ25 (by first | rfl | contradiction | (simp only [if_neg c24]; done)) (by first | rfl | contradiction | (simp only [if_neg c24]; done)) rfl rfl
      · replace hF := im hF c3
        refine z_aload_n C dX13_readLine_8 rfl ?_
        obtain ⟨S28, h28, hF⟩ := bV_some hF
        refine f_cV (st2 := []) C dX13_readLine_9 zyX13_readPerson zvX13_readPerson lkRX13_223 (K_X13_readPerson (l := zXl X) hT1 hpv0 hkv0 h28) hpv0 hkv0 rfl (by decide) rfl rfl (Nat.le_of_ble_eq_true rfl) rfl (fun hT28 => ?_)
        refine z_goto C 141 dX13_readLine_12 (by decide) ?_
        refine z_mask [false, true, true] ?_ rfl
        exact ih1 S28  res hT28  hF
    · intro S  res hT  hF
      replace hF : F_X13_readLine_1 f (F_X13_readLine f)  S = some res := hF
      unfold F_X13_readLine_1 at hF
      cases hF
      exact z_vret C hr dX13_readLine_141 ⟨rfl, rfl, hT⟩
theorem K_X13_readLine {G : zG} {l : Launch} {kd : kD} {N0 f : Nat} {S : aS} {v0 : Nat} {res : Option Value × aS} (hT : zT0 kd N0 S) (hpv0 : v0 < N0) (hkv0 : kd v0 = .inl 11) (hF : F_X13_readLine f 0 [.ref v0] S = some res) : zM G l 44 0 0 yX13_readLine cX13_readLine 3 none [.ref (zB G + v0)] (cn G kd N0 S) (zPo G kd N0 res) := zM.of (by decide) rfl (Nat.le_of_ble_eq_true rfl) (fun X _ C hr _ => (B_X13_readLine C hr f).1 S v0 res hT hpv0 hkv0 hF)
def F_X13_order_0 (f : Nat) (rc : Nat → List Value → aS → aR) (v0 : Nat) (v1 : Int32) (S : aS) : aR :=
  fS (sI S v0 0 0) fun S1 => if v1 = (-1 : Int32) then rc 1 [.ref v0, .int v1] S1 else bI (F_X13_isPerson f 0 [.ref v0, .int v1] S1) fun x3 S3 => if x3 = (0 : Int32) then some (some (.int ((-2))), S3) else rc 1 [.ref v0, .int v1] S3
def F_X13_order_1 (f : Nat) (rc : Nat → List Value → aS → aR) (v0 : Nat) (v1 : Int32) (S : aS) : aR :=
  bV (F_X13_copies f 0 [.ref v0, .int 0, .int 756, .int 36] S) fun S5 => fS (sI S5 v0 33 ((-1))) fun S6 => bV (F_X13_orders f 0 [.ref v0, .int 0, .int 0] S6) fun S7 => if (0 : Int32) ≤ v1 then bX v1 6 fun q12 => rc 2 [.int (gI S7 (gR S7 v0 32) q12)] S7 else rc 2 [.int (gI S7 v0 33)] S7
def F_X13_order_2 (f : Nat) (rc : Nat → List Value → aS → aR) (w0 : Int32) (S : aS) : aR :=
  some (some (.int w0), S)
def F_X13_order : Nat → Nat → List Value → aS → aR
  | 0, _, _, _ => none
  | f + 1, 0, vs, S => F_X13_order_0 f (F_X13_order f) (vR vs 0) (vI vs 1) S
  | f + 1, 1, vs, S => F_X13_order_1 f (F_X13_order f) (vR vs 0) (vI vs 1) S
  | f + 1, 2, vs, S => F_X13_order_2 f (F_X13_order f) (vI vs 0) S
  | _ + 1, _, _, _ => none
theorem dX13_order_0 : decode cX13_order 0 = .ok (.aload_n 0, 1) := by decide +kernel
theorem dX13_order_1 : decode cX13_order 1 = .ok (.iconst 0, 1) := by decide +kernel
theorem dX13_order_2 : decode cX13_order 2 = .ok (.putfield 1, 3) := by decide +kernel
theorem dX13_order_5 : decode cX13_order 5 = .ok (.iload_n 1, 1) := by decide +kernel
theorem dX13_order_6 : decode cX13_order 6 = .ok (.iconst (-1), 1) := by decide +kernel
theorem dX13_order_7 : decode cX13_order 7 = .ok (.if_icmp .eq 14, 3) := by decide +kernel
theorem dX13_order_10 : decode cX13_order 10 = .ok (.aload_n 0, 1) := by decide +kernel
theorem dX13_order_11 : decode cX13_order 11 = .ok (.iload_n 1, 1) := by decide +kernel
theorem dX13_order_12 : decode cX13_order 12 = .ok (.invokevirtual 343, 3) := by decide +kernel
theorem dX13_order_15 : decode cX13_order 15 = .ok (.ifCond .ne 6, 3) := by decide +kernel
theorem dX13_order_18 : decode cX13_order 18 = .ok (.bipush (-2), 2) := by decide +kernel
theorem dX13_order_20 : decode cX13_order 20 = .ok (.ireturn, 1) := by decide +kernel
theorem dX13_order_21 : decode cX13_order 21 = .ok (.aload_n 0, 1) := by decide +kernel
theorem dX13_order_22 : decode cX13_order 22 = .ok (.iconst 0, 1) := by decide +kernel
theorem dX13_order_23 : decode cX13_order 23 = .ok (.sipush 756, 3) := by decide +kernel
theorem dX13_order_26 : decode cX13_order 26 = .ok (.bipush 36, 2) := by decide +kernel
theorem dX13_order_28 : decode cX13_order 28 = .ok (.invokevirtual 288, 3) := by decide +kernel
theorem dX13_order_31 : decode cX13_order 31 = .ok (.aload_n 0, 1) := by decide +kernel
theorem dX13_order_32 : decode cX13_order 32 = .ok (.iconst (-1), 1) := by decide +kernel
theorem dX13_order_33 : decode cX13_order 33 = .ok (.putfield 370, 3) := by decide +kernel
theorem dX13_order_36 : decode cX13_order 36 = .ok (.aload_n 0, 1) := by decide +kernel
theorem dX13_order_37 : decode cX13_order 37 = .ok (.iconst 0, 1) := by decide +kernel
theorem dX13_order_38 : decode cX13_order 38 = .ok (.iconst 0, 1) := by decide +kernel
theorem dX13_order_39 : decode cX13_order 39 = .ok (.invokevirtual 379, 3) := by decide +kernel
theorem dX13_order_42 : decode cX13_order 42 = .ok (.iload_n 1, 1) := by decide +kernel
theorem dX13_order_43 : decode cX13_order 43 = .ok (.ifCond .ge 10, 3) := by decide +kernel
theorem dX13_order_46 : decode cX13_order 46 = .ok (.aload_n 0, 1) := by decide +kernel
theorem dX13_order_47 : decode cX13_order 47 = .ok (.getfield 370, 3) := by decide +kernel
theorem dX13_order_50 : decode cX13_order 50 = .ok (.goto 9, 3) := by decide +kernel
theorem dX13_order_53 : decode cX13_order 53 = .ok (.aload_n 0, 1) := by decide +kernel
theorem dX13_order_54 : decode cX13_order 54 = .ok (.getfield 138, 3) := by decide +kernel
theorem dX13_order_57 : decode cX13_order 57 = .ok (.iload_n 1, 1) := by decide +kernel
theorem dX13_order_58 : decode cX13_order 58 = .ok (.iaload, 1) := by decide +kernel
theorem dX13_order_59 : decode cX13_order 59 = .ok (.ireturn, 1) := by decide +kernel
set_option maxHeartbeats 4000000 in
set_option maxRecDepth 100000 in
theorem B_X13_order {G : zG} {X : zX} {kd : kD} {N0 : Nat} (C : zCt G X 15 0 0 RX13 cX13_order 2) (hr : (zXh X).sig.returnType = (some .int)) : ∀ f : Nat,
    (∀ (S : aS) (v0 : Nat) (v1 : Int32) (res : Option Value × aS), zT0 kd N0 S → v0 < N0 → kd v0 = .inl 11 → F_X13_order f 0 [.ref v0, .int v1] S = some res → zV G X (zQX G X (zPo G kd N0 res) 0 0) 2 [some (.ref (zB G + v0)), some (.int v1)] [] (cn G kd N0 S) 0 0 0) ∧
    (∀ (S : aS) (v0 : Nat) (v1 : Int32) (res : Option Value × aS), zT0 kd N0 S → v0 < N0 → kd v0 = .inl 11 → F_X13_order f 1 [.ref v0, .int v1] S = some res → zV G X (zQX G X (zPo G kd N0 res) 0 0) 2 [some (.ref (zB G + v0)), some (.int v1)] [] (cn G kd N0 S) 21 0 0) ∧
    (∀ (S : aS) (w0 : Int32) (res : Option Value × aS), zT0 kd N0 S → F_X13_order f 2 [.int w0] S = some res → zV G X (zQX G X (zPo G kd N0 res) 0 0) 2 [none, none] [.int w0] (cn G kd N0 S) 59 0 0) := by
  intro f
  induction f with
  | zero => exact ⟨(fun _ _ _ _ _ _ _ h => by cases h), (fun _ _ _ _ _ _ _ h => by cases h), (fun _ _ _ _ h => by cases h)⟩
  | succ f ih =>
    obtain ⟨ih0, ih1, ih2⟩ := ih
    refine ⟨?_, ?_, ?_⟩
    · intro S v0 v1 res hT hpv0 hkv0 hF
      replace hF : F_X13_order_0 f (F_X13_order f) v0 v1 S = some res := hF
      unfold F_X13_order_0 at hF
      refine z_aload_n C dX13_order_0 rfl ?_
      refine z_iconst (v := 0) C dX13_order_1 (by decide) ?_
      refine f_puti C dX13_order_2 zfRX13_1 fw11_0 hpv0 hkv0 rfl rfl rfl ?_
      have hT1 : zT0 kd N0 (sI S v0 0 0) := zT0_sI hT
      replace hF := fS_e hF
      generalize sI S v0 0 0 = S1 at hF hT1 ⊢
      refine z_iload_n C dX13_order_5 rfl ?_
      refine z_iconst (v := (-1)) C dX13_order_6 (by decide) ?_
      refine z_icmp_eq C 21 dX13_order_7 (by decide) (fun c2 => ?_) (fun c2 => ?_)
      · replace hF := ip hF c2
        exact ih1 S1 v0 v1 res hT1 hpv0 hkv0  hF
      · replace hF := im hF c2
        refine z_aload_n C dX13_order_10 rfl ?_
        refine z_iload_n C dX13_order_11 rfl ?_
        obtain ⟨x3, S3, h3, hF⟩ := bI_some hF
        refine f_cV (st2 := [.int x3]) C dX13_order_12 zyX13_isPerson zvX13_isPerson lkRX13_343 (K_X13_isPerson (l := zXl X) hT1 hpv0 hkv0  h3) hpv0 hkv0 rfl (by decide) rfl rfl (Nat.le_of_ble_eq_true rfl) rfl (fun hT3 => ?_)
        refine z_if_ne C 21 dX13_order_15 (by decide) (fun c4 => ?_) (fun c4 => ?_)
        · replace hF := im hF c4
          exact ih1 S3 v0 v1 res hT3 hpv0 hkv0  hF
        · replace hF := ip hF c4
          refine z_bipush (v := (-2)) C dX13_order_18 (by decide) ?_
          cases hF
          exact z_iret C hr dX13_order_20 ⟨rfl, rfl, hT3⟩
    · intro S v0 v1 res hT hpv0 hkv0 hF
      replace hF : F_X13_order_1 f (F_X13_order f) v0 v1 S = some res := hF
      unfold F_X13_order_1 at hF
      refine z_aload_n C dX13_order_21 rfl ?_
      refine z_iconst (v := 0) C dX13_order_22 (by decide) ?_
      refine z_sipush (v := 756) C dX13_order_23 (by decide) ?_
      refine z_bipush (v := 36) C dX13_order_26 (by decide) ?_
      obtain ⟨S5, h5, hF⟩ := bV_some hF
      refine f_cV (st2 := []) C dX13_order_28 zyX13_copies zvX13_copies lkRX13_288 (K_X13_copies (l := zXl X) hT hpv0 hkv0    h5) hpv0 hkv0 rfl (by decide) rfl rfl (Nat.le_of_ble_eq_true rfl) rfl (fun hT5 => ?_)
      refine z_aload_n C dX13_order_31 rfl ?_
      refine z_iconst (v := (-1)) C dX13_order_32 (by decide) ?_
      refine f_puti C dX13_order_33 zfRX13_370 fw11_33 hpv0 hkv0 rfl rfl rfl ?_
      have hT6 : zT0 kd N0 (sI S5 v0 33 ((-1))) := zT0_sI hT5
      replace hF := fS_e hF
      generalize sI S5 v0 33 ((-1)) = S6 at hF hT6 ⊢
      refine z_aload_n C dX13_order_36 rfl ?_
      refine z_iconst (v := 0) C dX13_order_37 (by decide) ?_
      refine z_iconst (v := 0) C dX13_order_38 (by decide) ?_
      obtain ⟨S7, h7, hF⟩ := bV_some hF
      refine f_cV (st2 := []) C dX13_order_39 zyX13_orders zvX13_orders lkRX13_379 (K_X13_orders (l := zXl X) hT6 hpv0 hkv0   h7) hpv0 hkv0 rfl (by decide) rfl rfl (Nat.le_of_ble_eq_true rfl) rfl (fun hT7 => ?_)
      refine z_iload_n C dX13_order_42 rfl ?_
      refine z_if_ge C 53 dX13_order_43 (by decide) (fun c10 => ?_) (fun c10 => ?_)
      · replace hF := ip hF c10
        refine z_aload_n C dX13_order_53 rfl ?_
        refine f_getr C dX13_order_54 zfRX13_138 hpv0 hkv0 rfl ?_
        obtain ⟨hp11, hk11⟩ := hT7.1 v0 11 32 (.inr (0, 6)) hpv0 hkv0 rfl
        refine z_iload_n C dX13_order_57 rfl ?_
        obtain ⟨hi12, hF⟩ := bX_some hF
        obtain ⟨q12, eq12⟩ : ∃ q : Nat, q = Int32.toNatClampNeg v1 := ⟨_, rfl⟩
        rw [← eq12] at hF
        refine f_iald C dX13_order_58 hp11 hk11 hi12 ?_
        rw [← eq12]
        refine z_mask [false, false] ?_ rfl
        exact ih2 S7 (gI S7 (gR S7 v0 32) q12) res hT7  hF
      · replace hF := im hF c10
        refine z_aload_n C dX13_order_46 rfl ?_
        refine f_geti C dX13_order_47 zfRX13_370 hpv0 hkv0 rfl ?_
        refine z_goto C 59 dX13_order_50 (by decide) ?_
        refine z_mask [false, false] ?_ rfl
        exact ih2 S7 (gI S7 v0 33) res hT7  hF
    · intro S w0 res hT  hF
      replace hF : F_X13_order_2 f (F_X13_order f) w0 S = some res := hF
      unfold F_X13_order_2 at hF
      cases hF
      exact z_iret C hr dX13_order_59 ⟨rfl, rfl, hT⟩
theorem K_X13_order {G : zG} {l : Launch} {kd : kD} {N0 f : Nat} {S : aS} {v0 : Nat} {v1 : Int32} {res : Option Value × aS} (hT : zT0 kd N0 S) (hpv0 : v0 < N0) (hkv0 : kd v0 = .inl 11) (hF : F_X13_order f 0 [.ref v0, .int v1] S = some res) : zM G l 15 0 0 yX13_order cX13_order 2 (some .int) [.ref (zB G + v0), .int v1] (cn G kd N0 S) (zPo G kd N0 res) := zM.of (by decide) rfl (Nat.le_of_ble_eq_true rfl) (fun X _ C hr _ => (B_X13_order C hr f).1 S v0 v1 res hT hpv0 hkv0 hF)
def F_gLaw_0 (f : Nat) (rc : Nat → Nat → List Value → aS → aR) (e : Nat) (v0 : Nat) (v1 : Nat) (v2 : Int32) (S : aS) : aR :=
  dE e fun e1 => bI (rc e1 1 [.ref v0, .ref v1, .int v2] S) fun x1 S1 => if x1 = (0 : Int32) then bZ 0 (some (some (.int 0), S1)) else rc e 5 [.ref v0, .ref v1, .int v2, .int 0] S1
def F_gLaw_1 (f : Nat) (rc : Nat → Nat → List Value → aS → aR) (e : Nat) (v0 : Nat) (v1 : Nat) (v2 : Int32) (S : aS) : aR :=
  dE e fun e1 => bI (rc e1 2 [.ref v0, .ref v1, .int v2] S) fun x1 S1 => if x1 = (0 : Int32) then bZ 0 (some (some (.int 0), S1)) else if (gI S1 v1 9) = (60 : Int32) then rc e 8 [.ref v0, .ref v1, .int v2] S1 else if (gI S1 v1 9) = (61 : Int32) then rc e 8 [.ref v0, .ref v1, .int v2] S1 else bZ 1 (some (some (.int 1), S1))
def F_gLaw_2 (f : Nat) (rc : Nat → Nat → List Value → aS → aR) (e : Nat) (v0 : Nat) (v1 : Nat) (v2 : Int32) (S : aS) : aR :=
  dE e fun e1 => bI (rc e1 3 [.ref v0, .ref v1, .int v2] S) fun x1 S1 => if x1 = (0 : Int32) then bZ 0 (some (some (.int 0), S1)) else rc e 9 [.ref v0, .ref v1, .int v2, .int 0] S1
def F_gLaw_3 (f : Nat) (rc : Nat → Nat → List Value → aS → aR) (e : Nat) (v0 : Nat) (v1 : Nat) (v2 : Int32) (S : aS) : aR :=
  dE e fun e1 => bI (rc e1 4 [.ref v0, .ref v1, .int v2] S) fun x1 S1 => if x1 = (0 : Int32) then bZ 0 (some (some (.int 0), S1)) else rc e 12 [.ref v0, .ref v1, .int v2, .int 0] S1
def F_gLaw_4 (f : Nat) (rc : Nat → Nat → List Value → aS → aR) (e : Nat) (v0 : Nat) (v1 : Nat) (v2 : Int32) (S : aS) : aR :=
  if (gI S v1 8) = (-1 : Int32) then bI (F_X5_isFact f 0 [.ref (gR S v1 6)] S) fun x5 S5 => lI (if x5 = (0 : Int32) then (0 : Int32) else (1 : Int32)) fun y8 => if y8 = (0 : Int32) then if (gR S5 v1 6) = 24 then rc e 15 [.ref v0, .ref v1, .int v2, .int y8] S5 else if (gI S5 v1 9) = (40 : Int32) then rc e 15 [.ref v0, .ref v1, .int v2, .int y8] S5 else bI (F_X8_fail f 0 [.ref v1, .int 1] S5) fun x13 S13 => bZ x13 (some (some (.int x13), S13)) else rc e 15 [.ref v0, .ref v1, .int v2, .int y8] S5 else rc e 14 [.ref v0, .ref v1, .int v2] S
def F_gLaw_5 (f : Nat) (rc : Nat → Nat → List Value → aS → aR) (e : Nat) (v0 : Nat) (v1 : Nat) (v2 : Int32) (v3 : Int32) (S : aS) : aR :=
  if (1000 : Int32) ≤ v3 then rc e 6 [] S else if (gR S v1 6) = 25 then rc e 7 [.ref v0, .ref v1, .int v2, .int v3] S else if (gR S v1 6) = 26 then rc e 7 [.ref v0, .ref v1, .int v2, .int v3] S else rc e 6 [] S
def F_gLaw_6 (f : Nat) (rc : Nat → Nat → List Value → aS → aR) (e : Nat)  (S : aS) : aR :=
  bZ 1 (some (some (.int 1), S))
def F_gLaw_7 (f : Nat) (rc : Nat → Nat → List Value → aS → aR) (e : Nat) (v0 : Nat) (v1 : Nat) (v2 : Int32) (v3 : Int32) (S : aS) : aR :=
  dE e fun e1 => bV (F_X8_advance f 0 [.ref v1] S) fun S9 => bI (rc e1 1 [.ref v0, .ref v1, .int v2] S9) fun x10 S10 => if x10 = (0 : Int32) then bZ 0 (some (some (.int 0), S10)) else bV (F_X5_add f 0 [.ref v0, .int (zval (gR S v1 6))] S10) fun S12 => rc e 5 [.ref v0, .ref v1, .int v2, .int (v3 + 1)] S12
def F_gLaw_8 (f : Nat) (rc : Nat → Nat → List Value → aS → aR) (e : Nat) (v0 : Nat) (v1 : Nat) (v2 : Int32) (S : aS) : aR :=
  dE e fun e1 => lI (if (gI S v1 9) = (60 : Int32) then (-8 : Int32) else (-9 : Int32)) fun y7 => bV (F_X8_advance f 0 [.ref v1] S) fun S8 => bI (rc e1 2 [.ref v0, .ref v1, .int v2] S8) fun x9 S9 => if x9 = (0 : Int32) then bZ 0 (some (some (.int 0), S9)) else bV (F_X5_add f 0 [.ref v0, .int y7] S9) fun S11 => bZ 1 (some (some (.int 1), S11))
def F_gLaw_9 (f : Nat) (rc : Nat → Nat → List Value → aS → aR) (e : Nat) (v0 : Nat) (v1 : Nat) (v2 : Int32) (v3 : Int32) (S : aS) : aR :=
  if (1000 : Int32) ≤ v3 then rc e 10 [] S else if (gI S v1 9) = (43 : Int32) then rc e 11 [.ref v0, .ref v1, .int v2, .int v3] S else if (gI S v1 9) = (45 : Int32) then rc e 11 [.ref v0, .ref v1, .int v2, .int v3] S else rc e 10 [] S
def F_gLaw_10 (f : Nat) (rc : Nat → Nat → List Value → aS → aR) (e : Nat)  (S : aS) : aR :=
  bZ 1 (some (some (.int 1), S))
def F_gLaw_11 (f : Nat) (rc : Nat → Nat → List Value → aS → aR) (e : Nat) (v0 : Nat) (v1 : Nat) (v2 : Int32) (v3 : Int32) (S : aS) : aR :=
  dE e fun e1 => lI (if (gI S v1 9) = (43 : Int32) then (-10 : Int32) else (-11 : Int32)) fun y8 => bV (F_X8_advance f 0 [.ref v1] S) fun S9 => bI (rc e1 3 [.ref v0, .ref v1, .int v2] S9) fun x10 S10 => if x10 = (0 : Int32) then bZ 0 (some (some (.int 0), S10)) else bV (F_X5_add f 0 [.ref v0, .int y8] S10) fun S12 => rc e 9 [.ref v0, .ref v1, .int v2, .int (v3 + 1)] S12
def F_gLaw_12 (f : Nat) (rc : Nat → Nat → List Value → aS → aR) (e : Nat) (v0 : Nat) (v1 : Nat) (v2 : Int32) (v3 : Int32) (S : aS) : aR :=
  dE e fun e1 => if (1000 : Int32) ≤ v3 then rc e 13 [] S else if (gI S v1 9) = (42 : Int32) then bV (F_X8_advance f 0 [.ref v1] S) fun S5 => bI (rc e1 4 [.ref v0, .ref v1, .int v2] S5) fun x6 S6 => if x6 = (0 : Int32) then bZ 0 (some (some (.int 0), S6)) else bV (F_X5_add f 0 [.ref v0, .int ((-12))] S6) fun S8 => rc e 12 [.ref v0, .ref v1, .int v2, .int (v3 + 1)] S8 else rc e 13 [] S
def F_gLaw_13 (f : Nat) (rc : Nat → Nat → List Value → aS → aR) (e : Nat)  (S : aS) : aR :=
  bZ 1 (some (some (.int 1), S))
def F_gLaw_14 (f : Nat) (rc : Nat → Nat → List Value → aS → aR) (e : Nat) (v0 : Nat) (v1 : Nat) (v2 : Int32) (S : aS) : aR :=
  rc e 16 [.ref v0, .ref v1, .int v2, .int 1] S
def F_gLaw_15 (f : Nat) (rc : Nat → Nat → List Value → aS → aR) (e : Nat) (v0 : Nat) (v1 : Nat) (v2 : Int32) (v3 : Int32) (S : aS) : aR :=
  dE e fun e1 => if v2 < (5 : Int32) then if v3 = (0 : Int32) then if (gI S v1 9) = (40 : Int32) then bV (F_X8_advance f 0 [.ref v1] S) fun S21 => bI (rc e1 0 [.ref v0, .ref v1, .int (v2 + (1 : Int32))] S21) fun x22 S22 => if x22 = (0 : Int32) then rc e 17 [] S22 else bI (F_X8_pass_ f 0 [.ref v1, .int 41] S22) fun x25 S25 => bZ (if x25 = (0 : Int32) then (0 : Int32) else (1 : Int32)) (some (some (.int (if x25 = (0 : Int32) then (0 : Int32) else (1 : Int32))), S25)) else bV (F_X8_advance f 0 [.ref v1] S) fun S17 => bI (rc e1 4 [.ref v0, .ref v1, .int (v2 + (1 : Int32))] S17) fun x18 S18 => if x18 = (0 : Int32) then bZ 0 (some (some (.int 0), S18)) else bV (F_X5_add f 0 [.ref v0, .int ((-5))] S18) fun S20 => bZ 1 (some (some (.int 1), S20)) else bV (F_X5_add f 0 [.ref v0, .int (if (gI S v1 8) = (-1 : Int32) then (zval (gR S v1 6)) else (gI S v1 8))] S) fun S31 => bV (F_X8_advance f 0 [.ref v1] S31) fun S32 => bZ 1 (some (some (.int 1), S32)) else bI (F_X8_fail f 0 [.ref v1, .int 5] S) fun x33 S33 => bZ x33 (some (some (.int x33), S33))
def F_gLaw_16 (f : Nat) (rc : Nat → Nat → List Value → aS → aR) (e : Nat) (v0 : Nat) (v1 : Nat) (v2 : Int32) (w0 : Int32) (S : aS) : aR :=
  if w0 = (0 : Int32) then if (gR S v1 6) = 24 then rc e 15 [.ref v0, .ref v1, .int v2, .int w0] S else if (gI S v1 9) = (40 : Int32) then rc e 15 [.ref v0, .ref v1, .int v2, .int w0] S else bI (F_X8_fail f 0 [.ref v1, .int 1] S) fun x38 S38 => bZ x38 (some (some (.int x38), S38)) else rc e 15 [.ref v0, .ref v1, .int v2, .int w0] S
def F_gLaw_17 (f : Nat) (rc : Nat → Nat → List Value → aS → aR) (e : Nat)  (S : aS) : aR :=
  rc e 18 [.int 0] S
def F_gLaw_18 (f : Nat) (rc : Nat → Nat → List Value → aS → aR) (e : Nat) (w0 : Int32) (S : aS) : aR :=
  bZ w0 (some (some (.int w0), S))
def F_gLaw : Nat → Nat → Nat → List Value → aS → aR
  | 0, _, _, _, _ => none
  | f + 1, e, 0, vs, S => F_gLaw_0 f (F_gLaw f) e (vR vs 0) (vR vs 1) (vI vs 2) S
  | f + 1, e, 1, vs, S => F_gLaw_1 f (F_gLaw f) e (vR vs 0) (vR vs 1) (vI vs 2) S
  | f + 1, e, 2, vs, S => F_gLaw_2 f (F_gLaw f) e (vR vs 0) (vR vs 1) (vI vs 2) S
  | f + 1, e, 3, vs, S => F_gLaw_3 f (F_gLaw f) e (vR vs 0) (vR vs 1) (vI vs 2) S
  | f + 1, e, 4, vs, S => F_gLaw_4 f (F_gLaw f) e (vR vs 0) (vR vs 1) (vI vs 2) S
  | f + 1, e, 5, vs, S => F_gLaw_5 f (F_gLaw f) e (vR vs 0) (vR vs 1) (vI vs 2) (vI vs 3) S
  | f + 1, e, 6, vs, S => F_gLaw_6 f (F_gLaw f) e  S
  | f + 1, e, 7, vs, S => F_gLaw_7 f (F_gLaw f) e (vR vs 0) (vR vs 1) (vI vs 2) (vI vs 3) S
  | f + 1, e, 8, vs, S => F_gLaw_8 f (F_gLaw f) e (vR vs 0) (vR vs 1) (vI vs 2) S
  | f + 1, e, 9, vs, S => F_gLaw_9 f (F_gLaw f) e (vR vs 0) (vR vs 1) (vI vs 2) (vI vs 3) S
  | f + 1, e, 10, vs, S => F_gLaw_10 f (F_gLaw f) e  S
  | f + 1, e, 11, vs, S => F_gLaw_11 f (F_gLaw f) e (vR vs 0) (vR vs 1) (vI vs 2) (vI vs 3) S
  | f + 1, e, 12, vs, S => F_gLaw_12 f (F_gLaw f) e (vR vs 0) (vR vs 1) (vI vs 2) (vI vs 3) S
  | f + 1, e, 13, vs, S => F_gLaw_13 f (F_gLaw f) e  S
  | f + 1, e, 14, vs, S => F_gLaw_14 f (F_gLaw f) e (vR vs 0) (vR vs 1) (vI vs 2) S
  | f + 1, e, 15, vs, S => F_gLaw_15 f (F_gLaw f) e (vR vs 0) (vR vs 1) (vI vs 2) (vI vs 3) S
  | f + 1, e, 16, vs, S => F_gLaw_16 f (F_gLaw f) e (vR vs 0) (vR vs 1) (vI vs 2) (vI vs 3) S
  | f + 1, e, 17, vs, S => F_gLaw_17 f (F_gLaw f) e  S
  | f + 1, e, 18, vs, S => F_gLaw_18 f (F_gLaw f) e (vI vs 0) S
  | _ + 1, _, _, _, _ => none
theorem dX5_readTests_0 : decode cX5_readTests 0 = .ok (.aload_n 0, 1) := by decide +kernel
theorem dX5_readTests_1 : decode cX5_readTests 1 = .ok (.aload_n 1, 1) := by decide +kernel
theorem dX5_readTests_2 : decode cX5_readTests 2 = .ok (.iload_n 2, 1) := by decide +kernel
theorem dX5_readTests_3 : decode cX5_readTests 3 = .ok (.invokevirtual 27, 3) := by decide +kernel
theorem dX5_readTests_6 : decode cX5_readTests 6 = .ok (.ifCond .ne 5, 3) := by decide +kernel
theorem dX5_readTests_9 : decode cX5_readTests 9 = .ok (.iconst 0, 1) := by decide +kernel
theorem dX5_readTests_10 : decode cX5_readTests 10 = .ok (.ireturn, 1) := by decide +kernel
theorem dX5_readTests_11 : decode cX5_readTests 11 = .ok (.iconst 0, 1) := by decide +kernel
theorem dX5_readTests_12 : decode cX5_readTests 12 = .ok (.istore_n 3, 1) := by decide +kernel
theorem dX5_readTests_13 : decode cX5_readTests 13 = .ok (.iload_n 3, 1) := by decide +kernel
theorem dX5_readTests_14 : decode cX5_readTests 14 = .ok (.sipush 1000, 3) := by decide +kernel
theorem dX5_readTests_17 : decode cX5_readTests 17 = .ok (.if_icmp .ge 59, 3) := by decide +kernel
theorem dX5_readTests_20 : decode cX5_readTests 20 = .ok (.aload_n 1, 1) := by decide +kernel
theorem dX5_readTests_21 : decode cX5_readTests 21 = .ok (.getfield 31, 3) := by decide +kernel
theorem dX5_readTests_24 : decode cX5_readTests 24 = .ok (.getstatic 35, 3) := by decide +kernel
theorem dX5_readTests_27 : decode cX5_readTests 27 = .ok (.if_acmp .eq 13, 3) := by decide +kernel
theorem dX5_readTests_30 : decode cX5_readTests 30 = .ok (.aload_n 1, 1) := by decide +kernel
theorem dX5_readTests_31 : decode cX5_readTests 31 = .ok (.getfield 31, 3) := by decide +kernel
theorem dX5_readTests_34 : decode cX5_readTests 34 = .ok (.getstatic 40, 3) := by decide +kernel
theorem dX5_readTests_37 : decode cX5_readTests 37 = .ok (.if_acmp .ne 39, 3) := by decide +kernel
theorem dX5_readTests_40 : decode cX5_readTests 40 = .ok (.aload_n 1, 1) := by decide +kernel
theorem dX5_readTests_41 : decode cX5_readTests 41 = .ok (.getfield 31, 3) := by decide +kernel
theorem dX5_readTests_44 : decode cX5_readTests 44 = .ok (.getfield 43, 3) := by decide +kernel
theorem dX5_readTests_47 : decode cX5_readTests 47 = .ok (.istore 4, 2) := by decide +kernel
theorem dX5_readTests_49 : decode cX5_readTests 49 = .ok (.aload_n 1, 1) := by decide +kernel
theorem dX5_readTests_50 : decode cX5_readTests 50 = .ok (.invokevirtual 46, 3) := by decide +kernel
theorem dX5_readTests_53 : decode cX5_readTests 53 = .ok (.aload_n 0, 1) := by decide +kernel
theorem dX5_readTests_54 : decode cX5_readTests 54 = .ok (.aload_n 1, 1) := by decide +kernel
theorem dX5_readTests_55 : decode cX5_readTests 55 = .ok (.iload_n 2, 1) := by decide +kernel
theorem dX5_readTests_56 : decode cX5_readTests 56 = .ok (.invokevirtual 27, 3) := by decide +kernel
theorem dX5_readTests_59 : decode cX5_readTests 59 = .ok (.ifCond .ne 5, 3) := by decide +kernel
theorem dX5_readTests_62 : decode cX5_readTests 62 = .ok (.iconst 0, 1) := by decide +kernel
theorem dX5_readTests_63 : decode cX5_readTests 63 = .ok (.ireturn, 1) := by decide +kernel
theorem dX5_readTests_64 : decode cX5_readTests 64 = .ok (.aload_n 0, 1) := by decide +kernel
theorem dX5_readTests_65 : decode cX5_readTests 65 = .ok (.iload 4, 2) := by decide +kernel
theorem dX5_readTests_67 : decode cX5_readTests 67 = .ok (.invokevirtual 49, 3) := by decide +kernel
theorem dX5_readTests_70 : decode cX5_readTests 70 = .ok (.iinc 3 1, 3) := by decide +kernel
theorem dX5_readTests_73 : decode cX5_readTests 73 = .ok (.goto (-60), 3) := by decide +kernel
theorem dX5_readTests_76 : decode cX5_readTests 76 = .ok (.iconst 1, 1) := by decide +kernel
theorem dX5_readTests_77 : decode cX5_readTests 77 = .ok (.ireturn, 1) := by decide +kernel
theorem dX5_readTest_0 : decode cX5_readTest 0 = .ok (.aload_n 0, 1) := by decide +kernel
theorem dX5_readTest_1 : decode cX5_readTest 1 = .ok (.aload_n 1, 1) := by decide +kernel
theorem dX5_readTest_2 : decode cX5_readTest 2 = .ok (.iload_n 2, 1) := by decide +kernel
theorem dX5_readTest_3 : decode cX5_readTest 3 = .ok (.invokevirtual 53, 3) := by decide +kernel
theorem dX5_readTest_6 : decode cX5_readTest 6 = .ok (.ifCond .ne 5, 3) := by decide +kernel
theorem dX5_readTest_9 : decode cX5_readTest 9 = .ok (.iconst 0, 1) := by decide +kernel
theorem dX5_readTest_10 : decode cX5_readTest 10 = .ok (.ireturn, 1) := by decide +kernel
theorem dX5_readTest_11 : decode cX5_readTest 11 = .ok (.aload_n 1, 1) := by decide +kernel
theorem dX5_readTest_12 : decode cX5_readTest 12 = .ok (.getfield 56, 3) := by decide +kernel
theorem dX5_readTest_15 : decode cX5_readTest 15 = .ok (.bipush 60, 2) := by decide +kernel
theorem dX5_readTest_17 : decode cX5_readTest 17 = .ok (.if_icmp .eq 14, 3) := by decide +kernel
theorem dX5_readTest_20 : decode cX5_readTest 20 = .ok (.aload_n 1, 1) := by decide +kernel
theorem dX5_readTest_21 : decode cX5_readTest 21 = .ok (.getfield 56, 3) := by decide +kernel
theorem dX5_readTest_24 : decode cX5_readTest 24 = .ok (.bipush 61, 2) := by decide +kernel
theorem dX5_readTest_26 : decode cX5_readTest 26 = .ok (.if_icmp .eq 5, 3) := by decide +kernel
theorem dX5_readTest_29 : decode cX5_readTest 29 = .ok (.iconst 1, 1) := by decide +kernel
theorem dX5_readTest_30 : decode cX5_readTest 30 = .ok (.ireturn, 1) := by decide +kernel
theorem dX5_readTest_31 : decode cX5_readTest 31 = .ok (.aload_n 1, 1) := by decide +kernel
theorem dX5_readTest_32 : decode cX5_readTest 32 = .ok (.getfield 56, 3) := by decide +kernel
theorem dX5_readTest_35 : decode cX5_readTest 35 = .ok (.bipush 60, 2) := by decide +kernel
theorem dX5_readTest_37 : decode cX5_readTest 37 = .ok (.if_icmp .ne 8, 3) := by decide +kernel
theorem dX5_readTest_40 : decode cX5_readTest 40 = .ok (.bipush (-8), 2) := by decide +kernel
theorem dX5_readTest_42 : decode cX5_readTest 42 = .ok (.goto 5, 3) := by decide +kernel
theorem dX5_readTest_45 : decode cX5_readTest 45 = .ok (.bipush (-9), 2) := by decide +kernel
theorem dX5_readTest_47 : decode cX5_readTest 47 = .ok (.istore_n 3, 1) := by decide +kernel
theorem dX5_readTest_48 : decode cX5_readTest 48 = .ok (.aload_n 1, 1) := by decide +kernel
theorem dX5_readTest_49 : decode cX5_readTest 49 = .ok (.invokevirtual 46, 3) := by decide +kernel
theorem dX5_readTest_52 : decode cX5_readTest 52 = .ok (.aload_n 0, 1) := by decide +kernel
theorem dX5_readTest_53 : decode cX5_readTest 53 = .ok (.aload_n 1, 1) := by decide +kernel
theorem dX5_readTest_54 : decode cX5_readTest 54 = .ok (.iload_n 2, 1) := by decide +kernel
theorem dX5_readTest_55 : decode cX5_readTest 55 = .ok (.invokevirtual 53, 3) := by decide +kernel
theorem dX5_readTest_58 : decode cX5_readTest 58 = .ok (.ifCond .ne 5, 3) := by decide +kernel
theorem dX5_readTest_61 : decode cX5_readTest 61 = .ok (.iconst 0, 1) := by decide +kernel
theorem dX5_readTest_62 : decode cX5_readTest 62 = .ok (.ireturn, 1) := by decide +kernel
theorem dX5_readTest_63 : decode cX5_readTest 63 = .ok (.aload_n 0, 1) := by decide +kernel
theorem dX5_readTest_64 : decode cX5_readTest 64 = .ok (.iload_n 3, 1) := by decide +kernel
theorem dX5_readTest_65 : decode cX5_readTest 65 = .ok (.invokevirtual 49, 3) := by decide +kernel
theorem dX5_readTest_68 : decode cX5_readTest 68 = .ok (.iconst 1, 1) := by decide +kernel
theorem dX5_readTest_69 : decode cX5_readTest 69 = .ok (.ireturn, 1) := by decide +kernel
theorem dX5_readSum_0 : decode cX5_readSum 0 = .ok (.aload_n 0, 1) := by decide +kernel
theorem dX5_readSum_1 : decode cX5_readSum 1 = .ok (.aload_n 1, 1) := by decide +kernel
theorem dX5_readSum_2 : decode cX5_readSum 2 = .ok (.iload_n 2, 1) := by decide +kernel
theorem dX5_readSum_3 : decode cX5_readSum 3 = .ok (.invokevirtual 59, 3) := by decide +kernel
theorem dX5_readSum_6 : decode cX5_readSum 6 = .ok (.ifCond .ne 5, 3) := by decide +kernel
theorem dX5_readSum_9 : decode cX5_readSum 9 = .ok (.iconst 0, 1) := by decide +kernel
theorem dX5_readSum_10 : decode cX5_readSum 10 = .ok (.ireturn, 1) := by decide +kernel
theorem dX5_readSum_11 : decode cX5_readSum 11 = .ok (.iconst 0, 1) := by decide +kernel
theorem dX5_readSum_12 : decode cX5_readSum 12 = .ok (.istore_n 3, 1) := by decide +kernel
theorem dX5_readSum_13 : decode cX5_readSum 13 = .ok (.iload_n 3, 1) := by decide +kernel
theorem dX5_readSum_14 : decode cX5_readSum 14 = .ok (.sipush 1000, 3) := by decide +kernel
theorem dX5_readSum_17 : decode cX5_readSum 17 = .ok (.if_icmp .ge 66, 3) := by decide +kernel
theorem dX5_readSum_20 : decode cX5_readSum 20 = .ok (.aload_n 1, 1) := by decide +kernel
theorem dX5_readSum_21 : decode cX5_readSum 21 = .ok (.getfield 56, 3) := by decide +kernel
theorem dX5_readSum_24 : decode cX5_readSum 24 = .ok (.bipush 43, 2) := by decide +kernel
theorem dX5_readSum_26 : decode cX5_readSum 26 = .ok (.if_icmp .eq 12, 3) := by decide +kernel
theorem dX5_readSum_29 : decode cX5_readSum 29 = .ok (.aload_n 1, 1) := by decide +kernel
theorem dX5_readSum_30 : decode cX5_readSum 30 = .ok (.getfield 56, 3) := by decide +kernel
theorem dX5_readSum_33 : decode cX5_readSum 33 = .ok (.bipush 45, 2) := by decide +kernel
theorem dX5_readSum_35 : decode cX5_readSum 35 = .ok (.if_icmp .ne 48, 3) := by decide +kernel
theorem dX5_readSum_38 : decode cX5_readSum 38 = .ok (.aload_n 1, 1) := by decide +kernel
theorem dX5_readSum_39 : decode cX5_readSum 39 = .ok (.getfield 56, 3) := by decide +kernel
theorem dX5_readSum_42 : decode cX5_readSum 42 = .ok (.bipush 43, 2) := by decide +kernel
theorem dX5_readSum_44 : decode cX5_readSum 44 = .ok (.if_icmp .ne 8, 3) := by decide +kernel
theorem dX5_readSum_47 : decode cX5_readSum 47 = .ok (.bipush (-10), 2) := by decide +kernel
theorem dX5_readSum_49 : decode cX5_readSum 49 = .ok (.goto 5, 3) := by decide +kernel
theorem dX5_readSum_52 : decode cX5_readSum 52 = .ok (.bipush (-11), 2) := by decide +kernel
theorem dX5_readSum_54 : decode cX5_readSum 54 = .ok (.istore 4, 2) := by decide +kernel
theorem dX5_readSum_56 : decode cX5_readSum 56 = .ok (.aload_n 1, 1) := by decide +kernel
theorem dX5_readSum_57 : decode cX5_readSum 57 = .ok (.invokevirtual 46, 3) := by decide +kernel
theorem dX5_readSum_60 : decode cX5_readSum 60 = .ok (.aload_n 0, 1) := by decide +kernel
theorem dX5_readSum_61 : decode cX5_readSum 61 = .ok (.aload_n 1, 1) := by decide +kernel
theorem dX5_readSum_62 : decode cX5_readSum 62 = .ok (.iload_n 2, 1) := by decide +kernel
theorem dX5_readSum_63 : decode cX5_readSum 63 = .ok (.invokevirtual 59, 3) := by decide +kernel
theorem dX5_readSum_66 : decode cX5_readSum 66 = .ok (.ifCond .ne 5, 3) := by decide +kernel
theorem dX5_readSum_69 : decode cX5_readSum 69 = .ok (.iconst 0, 1) := by decide +kernel
theorem dX5_readSum_70 : decode cX5_readSum 70 = .ok (.ireturn, 1) := by decide +kernel
theorem dX5_readSum_71 : decode cX5_readSum 71 = .ok (.aload_n 0, 1) := by decide +kernel
theorem dX5_readSum_72 : decode cX5_readSum 72 = .ok (.iload 4, 2) := by decide +kernel
theorem dX5_readSum_74 : decode cX5_readSum 74 = .ok (.invokevirtual 49, 3) := by decide +kernel
theorem dX5_readSum_77 : decode cX5_readSum 77 = .ok (.iinc 3 1, 3) := by decide +kernel
theorem dX5_readSum_80 : decode cX5_readSum 80 = .ok (.goto (-67), 3) := by decide +kernel
theorem dX5_readSum_83 : decode cX5_readSum 83 = .ok (.iconst 1, 1) := by decide +kernel
theorem dX5_readSum_84 : decode cX5_readSum 84 = .ok (.ireturn, 1) := by decide +kernel
theorem dX5_readProduct_0 : decode cX5_readProduct 0 = .ok (.aload_n 0, 1) := by decide +kernel
theorem dX5_readProduct_1 : decode cX5_readProduct 1 = .ok (.aload_n 1, 1) := by decide +kernel
theorem dX5_readProduct_2 : decode cX5_readProduct 2 = .ok (.iload_n 2, 1) := by decide +kernel
theorem dX5_readProduct_3 : decode cX5_readProduct 3 = .ok (.invokevirtual 62, 3) := by decide +kernel
theorem dX5_readProduct_6 : decode cX5_readProduct 6 = .ok (.ifCond .ne 5, 3) := by decide +kernel
theorem dX5_readProduct_9 : decode cX5_readProduct 9 = .ok (.iconst 0, 1) := by decide +kernel
theorem dX5_readProduct_10 : decode cX5_readProduct 10 = .ok (.ireturn, 1) := by decide +kernel
theorem dX5_readProduct_11 : decode cX5_readProduct 11 = .ok (.iconst 0, 1) := by decide +kernel
theorem dX5_readProduct_12 : decode cX5_readProduct 12 = .ok (.istore_n 3, 1) := by decide +kernel
theorem dX5_readProduct_13 : decode cX5_readProduct 13 = .ok (.iload_n 3, 1) := by decide +kernel
theorem dX5_readProduct_14 : decode cX5_readProduct 14 = .ok (.sipush 1000, 3) := by decide +kernel
theorem dX5_readProduct_17 : decode cX5_readProduct 17 = .ok (.if_icmp .ge 39, 3) := by decide +kernel
theorem dX5_readProduct_20 : decode cX5_readProduct 20 = .ok (.aload_n 1, 1) := by decide +kernel
theorem dX5_readProduct_21 : decode cX5_readProduct 21 = .ok (.getfield 56, 3) := by decide +kernel
theorem dX5_readProduct_24 : decode cX5_readProduct 24 = .ok (.bipush 42, 2) := by decide +kernel
theorem dX5_readProduct_26 : decode cX5_readProduct 26 = .ok (.if_icmp .ne 30, 3) := by decide +kernel
theorem dX5_readProduct_29 : decode cX5_readProduct 29 = .ok (.aload_n 1, 1) := by decide +kernel
theorem dX5_readProduct_30 : decode cX5_readProduct 30 = .ok (.invokevirtual 46, 3) := by decide +kernel
theorem dX5_readProduct_33 : decode cX5_readProduct 33 = .ok (.aload_n 0, 1) := by decide +kernel
theorem dX5_readProduct_34 : decode cX5_readProduct 34 = .ok (.aload_n 1, 1) := by decide +kernel
theorem dX5_readProduct_35 : decode cX5_readProduct 35 = .ok (.iload_n 2, 1) := by decide +kernel
theorem dX5_readProduct_36 : decode cX5_readProduct 36 = .ok (.invokevirtual 62, 3) := by decide +kernel
theorem dX5_readProduct_39 : decode cX5_readProduct 39 = .ok (.ifCond .ne 5, 3) := by decide +kernel
theorem dX5_readProduct_42 : decode cX5_readProduct 42 = .ok (.iconst 0, 1) := by decide +kernel
theorem dX5_readProduct_43 : decode cX5_readProduct 43 = .ok (.ireturn, 1) := by decide +kernel
theorem dX5_readProduct_44 : decode cX5_readProduct 44 = .ok (.aload_n 0, 1) := by decide +kernel
theorem dX5_readProduct_45 : decode cX5_readProduct 45 = .ok (.bipush (-12), 2) := by decide +kernel
theorem dX5_readProduct_47 : decode cX5_readProduct 47 = .ok (.invokevirtual 49, 3) := by decide +kernel
theorem dX5_readProduct_50 : decode cX5_readProduct 50 = .ok (.iinc 3 1, 3) := by decide +kernel
theorem dX5_readProduct_53 : decode cX5_readProduct 53 = .ok (.goto (-40), 3) := by decide +kernel
theorem dX5_readProduct_56 : decode cX5_readProduct 56 = .ok (.iconst 1, 1) := by decide +kernel
theorem dX5_readProduct_57 : decode cX5_readProduct 57 = .ok (.ireturn, 1) := by decide +kernel
theorem dX5_readPart_0 : decode cX5_readPart 0 = .ok (.aload_n 1, 1) := by decide +kernel
theorem dX5_readPart_1 : decode cX5_readPart 1 = .ok (.getfield 65, 3) := by decide +kernel
theorem dX5_readPart_4 : decode cX5_readPart 4 = .ok (.iconst (-1), 1) := by decide +kernel
theorem dX5_readPart_5 : decode cX5_readPart 5 = .ok (.if_icmp .ne 13, 3) := by decide +kernel
theorem dX5_readPart_8 : decode cX5_readPart 8 = .ok (.aload_n 1, 1) := by decide +kernel
theorem dX5_readPart_9 : decode cX5_readPart 9 = .ok (.getfield 31, 3) := by decide +kernel
theorem dX5_readPart_12 : decode cX5_readPart 12 = .ok (.invokestatic 68, 3) := by decide +kernel
theorem dX5_readPart_15 : decode cX5_readPart 15 = .ok (.ifCond .eq 7, 3) := by decide +kernel
theorem dX5_readPart_18 : decode cX5_readPart 18 = .ok (.iconst 1, 1) := by decide +kernel
theorem dX5_readPart_19 : decode cX5_readPart 19 = .ok (.goto 4, 3) := by decide +kernel
theorem dX5_readPart_22 : decode cX5_readPart 22 = .ok (.iconst 0, 1) := by decide +kernel
theorem dX5_readPart_23 : decode cX5_readPart 23 = .ok (.istore_n 3, 1) := by decide +kernel
theorem dX5_readPart_24 : decode cX5_readPart 24 = .ok (.iload_n 3, 1) := by decide +kernel
theorem dX5_readPart_25 : decode cX5_readPart 25 = .ok (.ifCond .ne 28, 3) := by decide +kernel
theorem dX5_readPart_28 : decode cX5_readPart 28 = .ok (.aload_n 1, 1) := by decide +kernel
theorem dX5_readPart_29 : decode cX5_readPart 29 = .ok (.getfield 31, 3) := by decide +kernel
theorem dX5_readPart_32 : decode cX5_readPart 32 = .ok (.getstatic 72, 3) := by decide +kernel
theorem dX5_readPart_35 : decode cX5_readPart 35 = .ok (.if_acmp .eq 18, 3) := by decide +kernel
theorem dX5_readPart_38 : decode cX5_readPart 38 = .ok (.aload_n 1, 1) := by decide +kernel
theorem dX5_readPart_39 : decode cX5_readPart 39 = .ok (.getfield 56, 3) := by decide +kernel
theorem dX5_readPart_42 : decode cX5_readPart 42 = .ok (.bipush 40, 2) := by decide +kernel
theorem dX5_readPart_44 : decode cX5_readPart 44 = .ok (.if_icmp .eq 9, 3) := by decide +kernel
theorem dX5_readPart_47 : decode cX5_readPart 47 = .ok (.aload_n 1, 1) := by decide +kernel
theorem dX5_readPart_48 : decode cX5_readPart 48 = .ok (.iconst 1, 1) := by decide +kernel
theorem dX5_readPart_49 : decode cX5_readPart 49 = .ok (.invokevirtual 75, 3) := by decide +kernel
theorem dX5_readPart_52 : decode cX5_readPart 52 = .ok (.ireturn, 1) := by decide +kernel
theorem dX5_readPart_53 : decode cX5_readPart 53 = .ok (.iload_n 2, 1) := by decide +kernel
theorem dX5_readPart_54 : decode cX5_readPart 54 = .ok (.iconst 5, 1) := by decide +kernel
theorem dX5_readPart_55 : decode cX5_readPart 55 = .ok (.if_icmp .lt 9, 3) := by decide +kernel
theorem dX5_readPart_58 : decode cX5_readPart 58 = .ok (.aload_n 1, 1) := by decide +kernel
theorem dX5_readPart_59 : decode cX5_readPart 59 = .ok (.iconst 5, 1) := by decide +kernel
theorem dX5_readPart_60 : decode cX5_readPart 60 = .ok (.invokevirtual 75, 3) := by decide +kernel
theorem dX5_readPart_63 : decode cX5_readPart 63 = .ok (.ireturn, 1) := by decide +kernel
theorem dX5_readPart_64 : decode cX5_readPart 64 = .ok (.iload_n 3, 1) := by decide +kernel
theorem dX5_readPart_65 : decode cX5_readPart 65 = .ok (.ifCond .eq 35, 3) := by decide +kernel
theorem dX5_readPart_68 : decode cX5_readPart 68 = .ok (.aload_n 0, 1) := by decide +kernel
theorem dX5_readPart_69 : decode cX5_readPart 69 = .ok (.aload_n 1, 1) := by decide +kernel
theorem dX5_readPart_70 : decode cX5_readPart 70 = .ok (.getfield 65, 3) := by decide +kernel
theorem dX5_readPart_73 : decode cX5_readPart 73 = .ok (.iconst (-1), 1) := by decide +kernel
theorem dX5_readPart_74 : decode cX5_readPart 74 = .ok (.if_icmp .eq 10, 3) := by decide +kernel
theorem dX5_readPart_77 : decode cX5_readPart 77 = .ok (.aload_n 1, 1) := by decide +kernel
theorem dX5_readPart_78 : decode cX5_readPart 78 = .ok (.getfield 65, 3) := by decide +kernel
theorem dX5_readPart_81 : decode cX5_readPart 81 = .ok (.goto 10, 3) := by decide +kernel
theorem dX5_readPart_84 : decode cX5_readPart 84 = .ok (.aload_n 1, 1) := by decide +kernel
theorem dX5_readPart_85 : decode cX5_readPart 85 = .ok (.getfield 31, 3) := by decide +kernel
theorem dX5_readPart_88 : decode cX5_readPart 88 = .ok (.getfield 43, 3) := by decide +kernel
theorem dX5_readPart_91 : decode cX5_readPart 91 = .ok (.invokevirtual 49, 3) := by decide +kernel
theorem dX5_readPart_94 : decode cX5_readPart 94 = .ok (.aload_n 1, 1) := by decide +kernel
theorem dX5_readPart_95 : decode cX5_readPart 95 = .ok (.invokevirtual 46, 3) := by decide +kernel
theorem dX5_readPart_98 : decode cX5_readPart 98 = .ok (.iconst 1, 1) := by decide +kernel
theorem dX5_readPart_99 : decode cX5_readPart 99 = .ok (.ireturn, 1) := by decide +kernel
theorem dX5_readPart_100 : decode cX5_readPart 100 = .ok (.aload_n 1, 1) := by decide +kernel
theorem dX5_readPart_101 : decode cX5_readPart 101 = .ok (.getfield 56, 3) := by decide +kernel
theorem dX5_readPart_104 : decode cX5_readPart 104 = .ok (.bipush 40, 2) := by decide +kernel
theorem dX5_readPart_106 : decode cX5_readPart 106 = .ok (.if_icmp .ne 33, 3) := by decide +kernel
theorem dX5_readPart_109 : decode cX5_readPart 109 = .ok (.aload_n 1, 1) := by decide +kernel
theorem dX5_readPart_110 : decode cX5_readPart 110 = .ok (.invokevirtual 46, 3) := by decide +kernel
theorem dX5_readPart_113 : decode cX5_readPart 113 = .ok (.aload_n 0, 1) := by decide +kernel
theorem dX5_readPart_114 : decode cX5_readPart 114 = .ok (.aload_n 1, 1) := by decide +kernel
theorem dX5_readPart_115 : decode cX5_readPart 115 = .ok (.iload_n 2, 1) := by decide +kernel
theorem dX5_readPart_116 : decode cX5_readPart 116 = .ok (.iconst 1, 1) := by decide +kernel
theorem dX5_readPart_117 : decode cX5_readPart 117 = .ok (.iadd, 1) := by decide +kernel
theorem dX5_readPart_118 : decode cX5_readPart 118 = .ok (.invokevirtual 79, 3) := by decide +kernel
theorem dX5_readPart_121 : decode cX5_readPart 121 = .ok (.ifCond .eq 16, 3) := by decide +kernel
theorem dX5_readPart_124 : decode cX5_readPart 124 = .ok (.aload_n 1, 1) := by decide +kernel
theorem dX5_readPart_125 : decode cX5_readPart 125 = .ok (.bipush 41, 2) := by decide +kernel
theorem dX5_readPart_127 : decode cX5_readPart 127 = .ok (.invokevirtual 82, 3) := by decide +kernel
theorem dX5_readPart_130 : decode cX5_readPart 130 = .ok (.ifCond .eq 7, 3) := by decide +kernel
theorem dX5_readPart_133 : decode cX5_readPart 133 = .ok (.iconst 1, 1) := by decide +kernel
theorem dX5_readPart_134 : decode cX5_readPart 134 = .ok (.goto 4, 3) := by decide +kernel
theorem dX5_readPart_137 : decode cX5_readPart 137 = .ok (.iconst 0, 1) := by decide +kernel
theorem dX5_readPart_138 : decode cX5_readPart 138 = .ok (.ireturn, 1) := by decide +kernel
theorem dX5_readPart_139 : decode cX5_readPart 139 = .ok (.aload_n 1, 1) := by decide +kernel
theorem dX5_readPart_140 : decode cX5_readPart 140 = .ok (.invokevirtual 46, 3) := by decide +kernel
theorem dX5_readPart_143 : decode cX5_readPart 143 = .ok (.aload_n 0, 1) := by decide +kernel
theorem dX5_readPart_144 : decode cX5_readPart 144 = .ok (.aload_n 1, 1) := by decide +kernel
theorem dX5_readPart_145 : decode cX5_readPart 145 = .ok (.iload_n 2, 1) := by decide +kernel
theorem dX5_readPart_146 : decode cX5_readPart 146 = .ok (.iconst 1, 1) := by decide +kernel
theorem dX5_readPart_147 : decode cX5_readPart 147 = .ok (.iadd, 1) := by decide +kernel
theorem dX5_readPart_148 : decode cX5_readPart 148 = .ok (.invokevirtual 62, 3) := by decide +kernel
theorem dX5_readPart_151 : decode cX5_readPart 151 = .ok (.ifCond .ne 5, 3) := by decide +kernel
theorem dX5_readPart_154 : decode cX5_readPart 154 = .ok (.iconst 0, 1) := by decide +kernel
theorem dX5_readPart_155 : decode cX5_readPart 155 = .ok (.ireturn, 1) := by decide +kernel
theorem dX5_readPart_156 : decode cX5_readPart 156 = .ok (.aload_n 0, 1) := by decide +kernel
theorem dX5_readPart_157 : decode cX5_readPart 157 = .ok (.bipush (-5), 2) := by decide +kernel
theorem dX5_readPart_159 : decode cX5_readPart 159 = .ok (.invokevirtual 49, 3) := by decide +kernel
theorem dX5_readPart_162 : decode cX5_readPart 162 = .ok (.iconst 1, 1) := by decide +kernel
theorem dX5_readPart_163 : decode cX5_readPart 163 = .ok (.ireturn, 1) := by decide +kernel
set_option maxHeartbeats 4000000 in
set_option maxRecDepth 100000 in
theorem B_gLaw {G : zG} {kd : kD} {N0 : Nat} : ∀ f : Nat,
    (∀ (e : Nat) (X : zX), zCt G X (4 + e) 0 0 RX5 cX5_readTests 5 → (zXh X).sig.returnType = (some .boolean) → ∀ (S : aS) (v0 : Nat) (v1 : Nat) (v2 : Int32) (res : Option Value × aS), zT0 kd N0 S → v0 < N0 → kd v0 = .inl 4 → v1 < N0 → kd v1 = .inl 7 → F_gLaw f e 0 [.ref v0, .ref v1, .int v2] S = some res → zV G X (zQX G X (zPo G kd N0 res) 0 0) 5 [some (.ref (zB G + v0)), some (.ref (zB G + v1)), some (.int v2), none, none] [] (cn G kd N0 S) 0 0 0) ∧
    (∀ (e : Nat) (X : zX), zCt G X (4 + e) 0 0 RX5 cX5_readTest 4 → (zXh X).sig.returnType = (some .boolean) → ∀ (S : aS) (v0 : Nat) (v1 : Nat) (v2 : Int32) (res : Option Value × aS), zT0 kd N0 S → v0 < N0 → kd v0 = .inl 4 → v1 < N0 → kd v1 = .inl 7 → F_gLaw f e 1 [.ref v0, .ref v1, .int v2] S = some res → zV G X (zQX G X (zPo G kd N0 res) 0 0) 4 [some (.ref (zB G + v0)), some (.ref (zB G + v1)), some (.int v2), none] [] (cn G kd N0 S) 0 0 0) ∧
    (∀ (e : Nat) (X : zX), zCt G X (4 + e) 0 0 RX5 cX5_readSum 5 → (zXh X).sig.returnType = (some .boolean) → ∀ (S : aS) (v0 : Nat) (v1 : Nat) (v2 : Int32) (res : Option Value × aS), zT0 kd N0 S → v0 < N0 → kd v0 = .inl 4 → v1 < N0 → kd v1 = .inl 7 → F_gLaw f e 2 [.ref v0, .ref v1, .int v2] S = some res → zV G X (zQX G X (zPo G kd N0 res) 0 0) 5 [some (.ref (zB G + v0)), some (.ref (zB G + v1)), some (.int v2), none, none] [] (cn G kd N0 S) 0 0 0) ∧
    (∀ (e : Nat) (X : zX), zCt G X (4 + e) 0 0 RX5 cX5_readProduct 4 → (zXh X).sig.returnType = (some .boolean) → ∀ (S : aS) (v0 : Nat) (v1 : Nat) (v2 : Int32) (res : Option Value × aS), zT0 kd N0 S → v0 < N0 → kd v0 = .inl 4 → v1 < N0 → kd v1 = .inl 7 → F_gLaw f e 3 [.ref v0, .ref v1, .int v2] S = some res → zV G X (zQX G X (zPo G kd N0 res) 0 0) 4 [some (.ref (zB G + v0)), some (.ref (zB G + v1)), some (.int v2), none] [] (cn G kd N0 S) 0 0 0) ∧
    (∀ (e : Nat) (X : zX), zCt G X (4 + e) 0 0 RX5 cX5_readPart 4 → (zXh X).sig.returnType = (some .boolean) → ∀ (S : aS) (v0 : Nat) (v1 : Nat) (v2 : Int32) (res : Option Value × aS), zT0 kd N0 S → v0 < N0 → kd v0 = .inl 4 → v1 < N0 → kd v1 = .inl 7 → F_gLaw f e 4 [.ref v0, .ref v1, .int v2] S = some res → zV G X (zQX G X (zPo G kd N0 res) 0 0) 4 [some (.ref (zB G + v0)), some (.ref (zB G + v1)), some (.int v2), none] [] (cn G kd N0 S) 0 0 0) ∧
    (∀ (e : Nat) (X : zX), zCt G X (4 + e) 0 0 RX5 cX5_readTests 5 → (zXh X).sig.returnType = (some .boolean) → ∀ (S : aS) (v0 : Nat) (v1 : Nat) (v2 : Int32) (v3 : Int32) (res : Option Value × aS), zT0 kd N0 S → v0 < N0 → kd v0 = .inl 4 → v1 < N0 → kd v1 = .inl 7 → F_gLaw f e 5 [.ref v0, .ref v1, .int v2, .int v3] S = some res → zV G X (zQX G X (zPo G kd N0 res) 0 0) 5 [some (.ref (zB G + v0)), some (.ref (zB G + v1)), some (.int v2), some (.int v3), none] [] (cn G kd N0 S) 13 0 0) ∧
    (∀ (e : Nat) (X : zX), zCt G X (4 + e) 0 0 RX5 cX5_readTests 5 → (zXh X).sig.returnType = (some .boolean) → ∀ (S : aS)  (res : Option Value × aS), zT0 kd N0 S → F_gLaw f e 6 [] S = some res → zV G X (zQX G X (zPo G kd N0 res) 0 0) 5 [none, none, none, none, none] [] (cn G kd N0 S) 76 0 0) ∧
    (∀ (e : Nat) (X : zX), zCt G X (4 + e) 0 0 RX5 cX5_readTests 5 → (zXh X).sig.returnType = (some .boolean) → ∀ (S : aS) (v0 : Nat) (v1 : Nat) (v2 : Int32) (v3 : Int32) (res : Option Value × aS), zT0 kd N0 S → v0 < N0 → kd v0 = .inl 4 → v1 < N0 → kd v1 = .inl 7 → F_gLaw f e 7 [.ref v0, .ref v1, .int v2, .int v3] S = some res → zV G X (zQX G X (zPo G kd N0 res) 0 0) 5 [some (.ref (zB G + v0)), some (.ref (zB G + v1)), some (.int v2), some (.int v3), none] [] (cn G kd N0 S) 40 0 0) ∧
    (∀ (e : Nat) (X : zX), zCt G X (4 + e) 0 0 RX5 cX5_readTest 4 → (zXh X).sig.returnType = (some .boolean) → ∀ (S : aS) (v0 : Nat) (v1 : Nat) (v2 : Int32) (res : Option Value × aS), zT0 kd N0 S → v0 < N0 → kd v0 = .inl 4 → v1 < N0 → kd v1 = .inl 7 → F_gLaw f e 8 [.ref v0, .ref v1, .int v2] S = some res → zV G X (zQX G X (zPo G kd N0 res) 0 0) 4 [some (.ref (zB G + v0)), some (.ref (zB G + v1)), some (.int v2), none] [] (cn G kd N0 S) 31 0 0) ∧
    (∀ (e : Nat) (X : zX), zCt G X (4 + e) 0 0 RX5 cX5_readSum 5 → (zXh X).sig.returnType = (some .boolean) → ∀ (S : aS) (v0 : Nat) (v1 : Nat) (v2 : Int32) (v3 : Int32) (res : Option Value × aS), zT0 kd N0 S → v0 < N0 → kd v0 = .inl 4 → v1 < N0 → kd v1 = .inl 7 → F_gLaw f e 9 [.ref v0, .ref v1, .int v2, .int v3] S = some res → zV G X (zQX G X (zPo G kd N0 res) 0 0) 5 [some (.ref (zB G + v0)), some (.ref (zB G + v1)), some (.int v2), some (.int v3), none] [] (cn G kd N0 S) 13 0 0) ∧
    (∀ (e : Nat) (X : zX), zCt G X (4 + e) 0 0 RX5 cX5_readSum 5 → (zXh X).sig.returnType = (some .boolean) → ∀ (S : aS)  (res : Option Value × aS), zT0 kd N0 S → F_gLaw f e 10 [] S = some res → zV G X (zQX G X (zPo G kd N0 res) 0 0) 5 [none, none, none, none, none] [] (cn G kd N0 S) 83 0 0) ∧
    (∀ (e : Nat) (X : zX), zCt G X (4 + e) 0 0 RX5 cX5_readSum 5 → (zXh X).sig.returnType = (some .boolean) → ∀ (S : aS) (v0 : Nat) (v1 : Nat) (v2 : Int32) (v3 : Int32) (res : Option Value × aS), zT0 kd N0 S → v0 < N0 → kd v0 = .inl 4 → v1 < N0 → kd v1 = .inl 7 → F_gLaw f e 11 [.ref v0, .ref v1, .int v2, .int v3] S = some res → zV G X (zQX G X (zPo G kd N0 res) 0 0) 5 [some (.ref (zB G + v0)), some (.ref (zB G + v1)), some (.int v2), some (.int v3), none] [] (cn G kd N0 S) 38 0 0) ∧
    (∀ (e : Nat) (X : zX), zCt G X (4 + e) 0 0 RX5 cX5_readProduct 4 → (zXh X).sig.returnType = (some .boolean) → ∀ (S : aS) (v0 : Nat) (v1 : Nat) (v2 : Int32) (v3 : Int32) (res : Option Value × aS), zT0 kd N0 S → v0 < N0 → kd v0 = .inl 4 → v1 < N0 → kd v1 = .inl 7 → F_gLaw f e 12 [.ref v0, .ref v1, .int v2, .int v3] S = some res → zV G X (zQX G X (zPo G kd N0 res) 0 0) 4 [some (.ref (zB G + v0)), some (.ref (zB G + v1)), some (.int v2), some (.int v3)] [] (cn G kd N0 S) 13 0 0) ∧
    (∀ (e : Nat) (X : zX), zCt G X (4 + e) 0 0 RX5 cX5_readProduct 4 → (zXh X).sig.returnType = (some .boolean) → ∀ (S : aS)  (res : Option Value × aS), zT0 kd N0 S → F_gLaw f e 13 [] S = some res → zV G X (zQX G X (zPo G kd N0 res) 0 0) 4 [none, none, none, none] [] (cn G kd N0 S) 56 0 0) ∧
    (∀ (e : Nat) (X : zX), zCt G X (4 + e) 0 0 RX5 cX5_readPart 4 → (zXh X).sig.returnType = (some .boolean) → ∀ (S : aS) (v0 : Nat) (v1 : Nat) (v2 : Int32) (res : Option Value × aS), zT0 kd N0 S → v0 < N0 → kd v0 = .inl 4 → v1 < N0 → kd v1 = .inl 7 → F_gLaw f e 14 [.ref v0, .ref v1, .int v2] S = some res → zV G X (zQX G X (zPo G kd N0 res) 0 0) 4 [some (.ref (zB G + v0)), some (.ref (zB G + v1)), some (.int v2), none] [] (cn G kd N0 S) 18 0 0) ∧
    (∀ (e : Nat) (X : zX), zCt G X (4 + e) 0 0 RX5 cX5_readPart 4 → (zXh X).sig.returnType = (some .boolean) → ∀ (S : aS) (v0 : Nat) (v1 : Nat) (v2 : Int32) (v3 : Int32) (res : Option Value × aS), zT0 kd N0 S → v0 < N0 → kd v0 = .inl 4 → v1 < N0 → kd v1 = .inl 7 → F_gLaw f e 15 [.ref v0, .ref v1, .int v2, .int v3] S = some res → zV G X (zQX G X (zPo G kd N0 res) 0 0) 4 [some (.ref (zB G + v0)), some (.ref (zB G + v1)), some (.int v2), some (.int v3)] [] (cn G kd N0 S) 53 0 0) ∧
    (∀ (e : Nat) (X : zX), zCt G X (4 + e) 0 0 RX5 cX5_readPart 4 → (zXh X).sig.returnType = (some .boolean) → ∀ (S : aS) (v0 : Nat) (v1 : Nat) (v2 : Int32) (w0 : Int32) (res : Option Value × aS), zT0 kd N0 S → v0 < N0 → kd v0 = .inl 4 → v1 < N0 → kd v1 = .inl 7 → F_gLaw f e 16 [.ref v0, .ref v1, .int v2, .int w0] S = some res → zV G X (zQX G X (zPo G kd N0 res) 0 0) 4 [some (.ref (zB G + v0)), some (.ref (zB G + v1)), some (.int v2), none] [.int w0] (cn G kd N0 S) 23 0 0) ∧
    (∀ (e : Nat) (X : zX), zCt G X (4 + e) 0 0 RX5 cX5_readPart 4 → (zXh X).sig.returnType = (some .boolean) → ∀ (S : aS)  (res : Option Value × aS), zT0 kd N0 S → F_gLaw f e 17 [] S = some res → zV G X (zQX G X (zPo G kd N0 res) 0 0) 4 [none, none, none, none] [] (cn G kd N0 S) 137 0 0) ∧
    (∀ (e : Nat) (X : zX), zCt G X (4 + e) 0 0 RX5 cX5_readPart 4 → (zXh X).sig.returnType = (some .boolean) → ∀ (S : aS) (w0 : Int32) (res : Option Value × aS), zT0 kd N0 S → F_gLaw f e 18 [.int w0] S = some res → zV G X (zQX G X (zPo G kd N0 res) 0 0) 4 [none, none, none, none] [.int w0] (cn G kd N0 S) 138 0 0) := by
  intro f
  induction f with
  | zero => exact ⟨(fun _ _ _ _ _ _ _ _ _ _ _ _ _ _ h => by cases h), (fun _ _ _ _ _ _ _ _ _ _ _ _ _ _ h => by cases h), (fun _ _ _ _ _ _ _ _ _ _ _ _ _ _ h => by cases h), (fun _ _ _ _ _ _ _ _ _ _ _ _ _ _ h => by cases h), (fun _ _ _ _ _ _ _ _ _ _ _ _ _ _ h => by cases h), (fun _ _ _ _ _ _ _ _ _ _ _ _ _ _ _ h => by cases h), (fun _ _ _ _ _ _ _ h => by cases h), (fun _ _ _ _ _ _ _ _ _ _ _ _ _ _ _ h => by cases h), (fun _ _ _ _ _ _ _ _ _ _ _ _ _ _ h => by cases h), (fun _ _ _ _ _ _ _ _ _ _ _ _ _ _ _ h => by cases h), (fun _ _ _ _ _ _ _ h => by cases h), (fun _ _ _ _ _ _ _ _ _ _ _ _ _ _ _ h => by cases h), (fun _ _ _ _ _ _ _ _ _ _ _ _ _ _ _ h => by cases h), (fun _ _ _ _ _ _ _ h => by cases h), (fun _ _ _ _ _ _ _ _ _ _ _ _ _ _ h => by cases h), (fun _ _ _ _ _ _ _ _ _ _ _ _ _ _ _ h => by cases h), (fun _ _ _ _ _ _ _ _ _ _ _ _ _ _ _ h => by cases h), (fun _ _ _ _ _ _ _ h => by cases h), (fun _ _ _ _ _ _ _ _ h => by cases h)⟩
  | succ f ih =>
    obtain ⟨ih0, ih1, ih2, ih3, ih4, ih5, ih6, ih7, ih8, ih9, ih10, ih11, ih12, ih13, ih14, ih15, ih16, ih17, ih18⟩ := ih
    refine ⟨?_, ?_, ?_, ?_, ?_, ?_, ?_, ?_, ?_, ?_, ?_, ?_, ?_, ?_, ?_, ?_, ?_, ?_, ?_⟩
    · intro e X C hr S v0 v1 v2 res hT hpv0 hkv0 hpv1 hkv1 hF
      replace hF : F_gLaw_0 f (F_gLaw f) e v0 v1 v2 S = some res := hF
      unfold F_gLaw_0 at hF
      obtain ⟨e1, he1, hF1⟩ := dE_some hF
      subst he1
      replace hF := hF1
      refine z_aload_n C dX5_readTests_0 rfl ?_
      refine z_aload_n C dX5_readTests_1 rfl ?_
      refine z_iload_n C dX5_readTests_2 rfl ?_
      obtain ⟨x1, S1, h1, hF⟩ := bI_some hF
      have hM1 : zM G (zXl X) (4 + e1) 0 0 yX5_readTest cX5_readTest 4 (some .boolean) [.ref (zB G + v0), .ref (zB G + v1), .int v2] (cn G kd N0 S) (zPo G kd N0 (some (.int x1), S1)) := zM.of (by decide) rfl (Nat.le_of_ble_eq_true rfl) (fun X9 _ C9 hr9 _ => ih1 e1 X9 C9 hr9 S v0 v1 v2 _ hT hpv0 hkv0 hpv1 hkv1  h1)
      refine f_cV (st2 := [.int x1]) C dX5_readTests_3 zyX5_readTest zvX5_readTest lkRX5_27 hM1 hpv0 hkv0 rfl (by omega) rfl rfl (Nat.le_of_ble_eq_true rfl) rfl (fun hT1 => ?_)
      refine z_if_ne C 11 dX5_readTests_6 (by decide) (fun c2 => ?_) (fun c2 => ?_)
      · replace hF := im hF c2
        refine z_iconst (v := 0) C dX5_readTests_11 (by decide) ?_
        refine z_istore_n (lv2 := [some (.ref (zB G + v0)), some (.ref (zB G + v1)), some (.int v2), some (.int 0), none]) C dX5_readTests_12 (by decide) rfl ?_
        exact ih5 (e1 + 1) X C hr S1 v0 v1 v2 0 res hT1 hpv0 hkv0 hpv1 hkv1   hF
      · replace hF := ip hF c2
        refine z_iconst (v := 0) C dX5_readTests_9 (by decide) ?_
        obtain ⟨hz, hF⟩ := bZ_some hF
        cases hF
        exact z_zret C hr hz.1 dX5_readTests_10 ⟨rfl, rfl, hT1⟩
    · intro e X C hr S v0 v1 v2 res hT hpv0 hkv0 hpv1 hkv1 hF
      replace hF : F_gLaw_1 f (F_gLaw f) e v0 v1 v2 S = some res := hF
      unfold F_gLaw_1 at hF
      obtain ⟨e1, he1, hF1⟩ := dE_some hF
      subst he1
      replace hF := hF1
      refine z_aload_n C dX5_readTest_0 rfl ?_
      refine z_aload_n C dX5_readTest_1 rfl ?_
      refine z_iload_n C dX5_readTest_2 rfl ?_
      obtain ⟨x1, S1, h1, hF⟩ := bI_some hF
      have hM1 : zM G (zXl X) (4 + e1) 0 0 yX5_readSum cX5_readSum 5 (some .boolean) [.ref (zB G + v0), .ref (zB G + v1), .int v2] (cn G kd N0 S) (zPo G kd N0 (some (.int x1), S1)) := zM.of (by decide) rfl (Nat.le_of_ble_eq_true rfl) (fun X9 _ C9 hr9 _ => ih2 e1 X9 C9 hr9 S v0 v1 v2 _ hT hpv0 hkv0 hpv1 hkv1  h1)
      refine f_cV (st2 := [.int x1]) C dX5_readTest_3 zyX5_readSum zvX5_readSum lkRX5_53 hM1 hpv0 hkv0 rfl (by omega) rfl rfl (Nat.le_of_ble_eq_true rfl) rfl (fun hT1 => ?_)
      refine z_if_ne C 11 dX5_readTest_6 (by decide) (fun c2 => ?_) (fun c2 => ?_)
      · replace hF := im hF c2
        refine z_aload_n C dX5_readTest_11 rfl ?_
        refine f_geti C dX5_readTest_12 zfRX5_56 hpv1 hkv1 rfl ?_
        refine z_bipush (v := 60) C dX5_readTest_15 (by decide) ?_
        refine z_icmp_eq C 31 dX5_readTest_17 (by decide) (fun c3 => ?_) (fun c3 => ?_)
        · replace hF := ip hF c3
          exact ih8 (e1 + 1) X C hr S1 v0 v1 v2 res hT1 hpv0 hkv0 hpv1 hkv1  hF
        · replace hF := im hF c3
          refine z_aload_n C dX5_readTest_20 rfl ?_
          refine f_geti C dX5_readTest_21 zfRX5_56 hpv1 hkv1 rfl ?_
          refine z_bipush (v := 61) C dX5_readTest_24 (by decide) ?_
          refine z_icmp_eq C 31 dX5_readTest_26 (by decide) (fun c4 => ?_) (fun c4 => ?_)
          · replace hF := ip hF c4
            exact ih8 (e1 + 1) X C hr S1 v0 v1 v2 res hT1 hpv0 hkv0 hpv1 hkv1  hF
          · replace hF := im hF c4
            refine z_iconst (v := 1) C dX5_readTest_29 (by decide) ?_
            obtain ⟨hz, hF⟩ := bZ_some hF
            cases hF
            exact z_zret C hr hz.1 dX5_readTest_30 ⟨rfl, rfl, hT1⟩
      · replace hF := ip hF c2
        refine z_iconst (v := 0) C dX5_readTest_9 (by decide) ?_
        obtain ⟨hz, hF⟩ := bZ_some hF
        cases hF
        exact z_zret C hr hz.1 dX5_readTest_10 ⟨rfl, rfl, hT1⟩
    · intro e X C hr S v0 v1 v2 res hT hpv0 hkv0 hpv1 hkv1 hF
      replace hF : F_gLaw_2 f (F_gLaw f) e v0 v1 v2 S = some res := hF
      unfold F_gLaw_2 at hF
      obtain ⟨e1, he1, hF1⟩ := dE_some hF
      subst he1
      replace hF := hF1
      refine z_aload_n C dX5_readSum_0 rfl ?_
      refine z_aload_n C dX5_readSum_1 rfl ?_
      refine z_iload_n C dX5_readSum_2 rfl ?_
      obtain ⟨x1, S1, h1, hF⟩ := bI_some hF
      have hM1 : zM G (zXl X) (4 + e1) 0 0 yX5_readProduct cX5_readProduct 4 (some .boolean) [.ref (zB G + v0), .ref (zB G + v1), .int v2] (cn G kd N0 S) (zPo G kd N0 (some (.int x1), S1)) := zM.of (by decide) rfl (Nat.le_of_ble_eq_true rfl) (fun X9 _ C9 hr9 _ => ih3 e1 X9 C9 hr9 S v0 v1 v2 _ hT hpv0 hkv0 hpv1 hkv1  h1)
      refine f_cV (st2 := [.int x1]) C dX5_readSum_3 zyX5_readProduct zvX5_readProduct lkRX5_59 hM1 hpv0 hkv0 rfl (by omega) rfl rfl (Nat.le_of_ble_eq_true rfl) rfl (fun hT1 => ?_)
      refine z_if_ne C 11 dX5_readSum_6 (by decide) (fun c2 => ?_) (fun c2 => ?_)
      · replace hF := im hF c2
        refine z_iconst (v := 0) C dX5_readSum_11 (by decide) ?_
        refine z_istore_n (lv2 := [some (.ref (zB G + v0)), some (.ref (zB G + v1)), some (.int v2), some (.int 0), none]) C dX5_readSum_12 (by decide) rfl ?_
        exact ih9 (e1 + 1) X C hr S1 v0 v1 v2 0 res hT1 hpv0 hkv0 hpv1 hkv1   hF
      · replace hF := ip hF c2
        refine z_iconst (v := 0) C dX5_readSum_9 (by decide) ?_
        obtain ⟨hz, hF⟩ := bZ_some hF
        cases hF
        exact z_zret C hr hz.1 dX5_readSum_10 ⟨rfl, rfl, hT1⟩
    · intro e X C hr S v0 v1 v2 res hT hpv0 hkv0 hpv1 hkv1 hF
      replace hF : F_gLaw_3 f (F_gLaw f) e v0 v1 v2 S = some res := hF
      unfold F_gLaw_3 at hF
      obtain ⟨e1, he1, hF1⟩ := dE_some hF
      subst he1
      replace hF := hF1
      refine z_aload_n C dX5_readProduct_0 rfl ?_
      refine z_aload_n C dX5_readProduct_1 rfl ?_
      refine z_iload_n C dX5_readProduct_2 rfl ?_
      obtain ⟨x1, S1, h1, hF⟩ := bI_some hF
      have hM1 : zM G (zXl X) (4 + e1) 0 0 yX5_readPart cX5_readPart 4 (some .boolean) [.ref (zB G + v0), .ref (zB G + v1), .int v2] (cn G kd N0 S) (zPo G kd N0 (some (.int x1), S1)) := zM.of (by decide) rfl (Nat.le_of_ble_eq_true rfl) (fun X9 _ C9 hr9 _ => ih4 e1 X9 C9 hr9 S v0 v1 v2 _ hT hpv0 hkv0 hpv1 hkv1  h1)
      refine f_cV (st2 := [.int x1]) C dX5_readProduct_3 zyX5_readPart zvX5_readPart lkRX5_62 hM1 hpv0 hkv0 rfl (by omega) rfl rfl (Nat.le_of_ble_eq_true rfl) rfl (fun hT1 => ?_)
      refine z_if_ne C 11 dX5_readProduct_6 (by decide) (fun c2 => ?_) (fun c2 => ?_)
      · replace hF := im hF c2
        refine z_iconst (v := 0) C dX5_readProduct_11 (by decide) ?_
        refine z_istore_n (lv2 := [some (.ref (zB G + v0)), some (.ref (zB G + v1)), some (.int v2), some (.int 0)]) C dX5_readProduct_12 (by decide) rfl ?_
        exact ih12 (e1 + 1) X C hr S1 v0 v1 v2 0 res hT1 hpv0 hkv0 hpv1 hkv1   hF
      · replace hF := ip hF c2
        refine z_iconst (v := 0) C dX5_readProduct_9 (by decide) ?_
        obtain ⟨hz, hF⟩ := bZ_some hF
        cases hF
        exact z_zret C hr hz.1 dX5_readProduct_10 ⟨rfl, rfl, hT1⟩
    · intro e X C hr S v0 v1 v2 res hT hpv0 hkv0 hpv1 hkv1 hF
      replace hF : F_gLaw_4 f (F_gLaw f) e v0 v1 v2 S = some res := hF
      unfold F_gLaw_4 at hF
      refine z_aload_n C dX5_readPart_0 rfl ?_
      refine f_geti C dX5_readPart_1 zfRX5_65 hpv1 hkv1 rfl ?_
      refine z_iconst (v := (-1)) C dX5_readPart_4 (by decide) ?_
      refine z_icmp_ne C 18 dX5_readPart_5 (by decide) (fun c3 => ?_) (fun c3 => ?_)
      · replace hF := im hF c3
        exact ih14 e X C hr S v0 v1 v2 res hT hpv0 hkv0 hpv1 hkv1  hF
      · replace hF := ip hF c3
        refine z_aload_n C dX5_readPart_8 rfl ?_
        refine f_getw C dX5_readPart_9 zfRX5_31 hpv1 hkv1 rfl ?_
        have hw4 := hT.2.2 v1 hpv1 hkv1
        obtain ⟨x5, S5, h5, hF⟩ := bI_some hF
        refine f_cS (st2 := [.int x5]) C dX5_readPart_12 zyX5_isFact zsX5_isFact lkRX5_68 (K_X5_isFact (l := zXl X) hT hw4 h5) (by omega) rfl rfl (Nat.le_of_ble_eq_true rfl) rfl (fun hT5 => ?_)
        have hJ7 : zV G X (zQX G X (zPo G kd N0 res) 0 0) 4 [some (.ref (zB G + v0)), some (.ref (zB G + v1)), some (.int v2), none] [.int (if x5 = (0 : Int32) then (0 : Int32) else (1 : Int32))] (cn G kd N0 S5) 23 0 0 := by
          replace hF := lI_e hF
          generalize (if x5 = (0 : Int32) then (0 : Int32) else (1 : Int32)) = y8 at hF ⊢
          refine z_istore_n (lv2 := [some (.ref (zB G + v0)), some (.ref (zB G + v1)), some (.int v2), some (.int y8)]) C dX5_readPart_23 (by decide) rfl ?_
          refine z_iload_n C dX5_readPart_24 rfl ?_
          refine z_if_ne C 53 dX5_readPart_25 (by decide) (fun c9 => ?_) (fun c9 => ?_)
          · replace hF := im hF c9
            exact ih15 e X C hr S5 v0 v1 v2 y8 res hT5 hpv0 hkv0 hpv1 hkv1   hF
          · replace hF := ip hF c9
            refine z_aload_n C dX5_readPart_28 rfl ?_
            refine f_getw C dX5_readPart_29 zfRX5_31 hpv1 hkv1 rfl ?_
            have hw10 := hT5.2.2 v1 hpv1 hkv1
            refine f_gets C dX5_readPart_32 fkRX5_72 (C.2.2.2.2.2.1.2.2.1 24 (by decide)).1 ?_
            refine z_acmp_eq C 53 dX5_readPart_35 (by decide) (fun c11 => ?_) (fun c11 => ?_)
            · replace c11 := C.2.2.2.2.2.1.2.2.2.1 (gR S5 v1 6) 24 hw10 (by decide) c11
              replace hF := ip hF c11
              exact ih15 e X C hr S5 v0 v1 v2 y8 res hT5 hpv0 hkv0 hpv1 hkv1   hF
            · replace c11 : ¬ (gR S5 v1 6) = 24 := fun e => c11 (by rw [e])
              replace hF := im hF c11
              refine z_aload_n C dX5_readPart_38 rfl ?_
              refine f_geti C dX5_readPart_39 zfRX5_56 hpv1 hkv1 rfl ?_
              refine z_bipush (v := 40) C dX5_readPart_42 (by decide) ?_
              refine z_icmp_eq C 53 dX5_readPart_44 (by decide) (fun c12 => ?_) (fun c12 => ?_)
              · replace hF := ip hF c12
                exact ih15 e X C hr S5 v0 v1 v2 y8 res hT5 hpv0 hkv0 hpv1 hkv1   hF
              · replace hF := im hF c12
                refine z_aload_n C dX5_readPart_47 rfl ?_
                refine z_iconst (v := 1) C dX5_readPart_48 (by decide) ?_
                obtain ⟨x13, S13, h13, hF⟩ := bI_some hF
                refine f_cV (st2 := [.int x13]) C dX5_readPart_49 zyX8_fail zvX8_fail lkRX5_75 (K_X8_fail (l := zXl X) hT5 hpv1 hkv1  h13) hpv1 hkv1 rfl (by omega) rfl rfl (Nat.le_of_ble_eq_true rfl) rfl (fun hT13 => ?_)
                obtain ⟨hz, hF⟩ := bZ_some hF
                cases hF
                exact z_zret C hr hz.1 dX5_readPart_52 ⟨rfl, rfl, hT13⟩
        refine z_if_eq C 22 dX5_readPart_15 (by decide) (fun c6 => ?_) (fun c6 => ?_)
        · refine z_iconst (v := 0) C dX5_readPart_22 (by decide) ?_
          exact zV.at hJ7 (by first | rfl | contradiction | (simp only [if_pos c6]; done)) (by first | rfl | contradiction | (simp only [if_pos c6]; done)) rfl rfl
        · refine z_iconst (v := 1) C dX5_readPart_18 (by decide) ?_
          refine z_goto C 23 dX5_readPart_19 (by decide) ?_
          exact zV.at hJ7 (by first | rfl | contradiction | (simp only [if_neg c6]; done)) (by first | rfl | contradiction | (simp only [if_neg c6]; done)) rfl rfl
    · intro e X C hr S v0 v1 v2 v3 res hT hpv0 hkv0 hpv1 hkv1 hF
      replace hF : F_gLaw_5 f (F_gLaw f) e v0 v1 v2 v3 S = some res := hF
      unfold F_gLaw_5 at hF
      refine z_iload_n C dX5_readTests_13 rfl ?_
      refine z_sipush (v := 1000) C dX5_readTests_14 (by decide) ?_
      refine z_icmp_ge C 76 dX5_readTests_17 (by decide) (fun c3 => ?_) (fun c3 => ?_)
      · replace hF := ip hF c3
        refine z_mask [false, false, false, false, true] ?_ rfl
        exact ih6 e X C hr S  res hT  hF
      · replace hF := im hF c3
        refine z_aload_n C dX5_readTests_20 rfl ?_
        refine f_getw C dX5_readTests_21 zfRX5_31 hpv1 hkv1 rfl ?_
        have hw4 := hT.2.2 v1 hpv1 hkv1
        refine f_gets C dX5_readTests_24 fkRX5_35 (C.2.2.2.2.2.1.2.2.1 25 (by decide)).1 ?_
        refine z_acmp_eq C 40 dX5_readTests_27 (by decide) (fun c5 => ?_) (fun c5 => ?_)
        · replace c5 := C.2.2.2.2.2.1.2.2.2.1 (gR S v1 6) 25 hw4 (by decide) c5
          replace hF := ip hF c5
          exact ih7 e X C hr S v0 v1 v2 v3 res hT hpv0 hkv0 hpv1 hkv1   hF
        · replace c5 : ¬ (gR S v1 6) = 25 := fun e => c5 (by rw [e])
          replace hF := im hF c5
          refine z_aload_n C dX5_readTests_30 rfl ?_
          refine f_getw C dX5_readTests_31 zfRX5_31 hpv1 hkv1 rfl ?_
          have hw6 := hT.2.2 v1 hpv1 hkv1
          refine f_gets C dX5_readTests_34 fkRX5_40 (C.2.2.2.2.2.1.2.2.1 26 (by decide)).1 ?_
          refine z_acmp_ne C 76 dX5_readTests_37 (by decide) (fun c7 => ?_) (fun c7 => ?_)
          · replace c7 : ¬ (gR S v1 6) = 26 := fun e => c7 (by rw [e])
            replace hF := im hF c7
            refine z_mask [false, false, false, false, true] ?_ rfl
            exact ih6 e X C hr S  res hT  hF
          · replace c7 := C.2.2.2.2.2.1.2.2.2.1 (gR S v1 6) 26 hw6 (by decide) c7
            replace hF := ip hF c7
            exact ih7 e X C hr S v0 v1 v2 v3 res hT hpv0 hkv0 hpv1 hkv1   hF
    · intro e X C hr S  res hT  hF
      replace hF : F_gLaw_6 f (F_gLaw f) e  S = some res := hF
      unfold F_gLaw_6 at hF
      refine z_iconst (v := 1) C dX5_readTests_76 (by decide) ?_
      obtain ⟨hz, hF⟩ := bZ_some hF
      cases hF
      exact z_zret C hr hz.1 dX5_readTests_77 ⟨rfl, rfl, hT⟩
    · intro e X C hr S v0 v1 v2 v3 res hT hpv0 hkv0 hpv1 hkv1 hF
      replace hF : F_gLaw_7 f (F_gLaw f) e v0 v1 v2 v3 S = some res := hF
      unfold F_gLaw_7 at hF
      obtain ⟨e1, he1, hF1⟩ := dE_some hF
      subst he1
      replace hF := hF1
      refine z_aload_n C dX5_readTests_40 rfl ?_
      refine f_getw C dX5_readTests_41 zfRX5_31 hpv1 hkv1 rfl ?_
      have hw8 := hT.2.2 v1 hpv1 hkv1
      refine f_getK C dX5_readTests_44 fkRX5_43 (C.2.2.2.2.2.1.2.2.1 (gR S v1 6) hw8).2.2.2.1 ?_
      refine z_istore (lv2 := [some (.ref (zB G + v0)), some (.ref (zB G + v1)), some (.int v2), some (.int v3), some (.int (zval (gR S v1 6)))]) C dX5_readTests_47 (by decide) rfl ?_
      refine z_aload_n C dX5_readTests_49 rfl ?_
      obtain ⟨S9, h9, hF⟩ := bV_some hF
      refine f_cV (st2 := []) C dX5_readTests_50 zyX8_advance zvX8_advance lkRX5_46 (K_X8_advance (l := zXl X) hT hpv1 hkv1 h9) hpv1 hkv1 rfl (by omega) rfl rfl (Nat.le_of_ble_eq_true rfl) rfl (fun hT9 => ?_)
      refine z_aload_n C dX5_readTests_53 rfl ?_
      refine z_aload_n C dX5_readTests_54 rfl ?_
      refine z_iload_n C dX5_readTests_55 rfl ?_
      obtain ⟨x10, S10, h10, hF⟩ := bI_some hF
      have hM10 : zM G (zXl X) (4 + e1) 0 0 yX5_readTest cX5_readTest 4 (some .boolean) [.ref (zB G + v0), .ref (zB G + v1), .int v2] (cn G kd N0 S9) (zPo G kd N0 (some (.int x10), S10)) := zM.of (by decide) rfl (Nat.le_of_ble_eq_true rfl) (fun X9 _ C9 hr9 _ => ih1 e1 X9 C9 hr9 S9 v0 v1 v2 _ hT9 hpv0 hkv0 hpv1 hkv1  h10)
      refine f_cV (st2 := [.int x10]) C dX5_readTests_56 zyX5_readTest zvX5_readTest lkRX5_27 hM10 hpv0 hkv0 rfl (by omega) rfl rfl (Nat.le_of_ble_eq_true rfl) rfl (fun hT10 => ?_)
      refine z_if_ne C 64 dX5_readTests_59 (by decide) (fun c11 => ?_) (fun c11 => ?_)
      · replace hF := im hF c11
        refine z_aload_n C dX5_readTests_64 rfl ?_
        refine z_iload C dX5_readTests_65 rfl ?_
        obtain ⟨S12, h12, hF⟩ := bV_some hF
        refine f_cV (st2 := []) C dX5_readTests_67 zyX5_add zvX5_add lkRX5_49 (K_X5_add (l := zXl X) hT10 hpv0 hkv0  h12) hpv0 hkv0 rfl (by omega) rfl rfl (Nat.le_of_ble_eq_true rfl) rfl (fun hT12 => ?_)
        refine z_iinc (v := v3 + 1) (lv2 := [some (.ref (zB G + v0)), some (.ref (zB G + v1)), some (.int v2), some (.int (v3 + 1)), some (.int (zval (gR S v1 6)))]) C dX5_readTests_70 rfl (by rw [show Int32.ofInt 1 = (1 : Int32) from by decide]) rfl ?_
        refine z_goto C 13 dX5_readTests_73 (by decide) ?_
        refine z_mask [true, true, true, true, false] ?_ rfl
        exact ih5 (e1 + 1) X C hr S12 v0 v1 v2 (v3 + 1) res hT12 hpv0 hkv0 hpv1 hkv1   hF
      · replace hF := ip hF c11
        refine z_iconst (v := 0) C dX5_readTests_62 (by decide) ?_
        obtain ⟨hz, hF⟩ := bZ_some hF
        cases hF
        exact z_zret C hr hz.1 dX5_readTests_63 ⟨rfl, rfl, hT10⟩
    · intro e X C hr S v0 v1 v2 res hT hpv0 hkv0 hpv1 hkv1 hF
      replace hF : F_gLaw_8 f (F_gLaw f) e v0 v1 v2 S = some res := hF
      unfold F_gLaw_8 at hF
      obtain ⟨e1, he1, hF1⟩ := dE_some hF
      subst he1
      replace hF := hF1
      refine z_aload_n C dX5_readTest_31 rfl ?_
      refine f_geti C dX5_readTest_32 zfRX5_56 hpv1 hkv1 rfl ?_
      refine z_bipush (v := 60) C dX5_readTest_35 (by decide) ?_
      have hJ6 : zV G X (zQX G X (zPo G kd N0 res) 0 0) 4 [some (.ref (zB G + v0)), some (.ref (zB G + v1)), some (.int v2), none] [.int (if (gI S v1 9) = (60 : Int32) then (-8 : Int32) else (-9 : Int32))] (cn G kd N0 S) 47 0 0 := by
        replace hF := lI_e hF
        generalize (if (gI S v1 9) = (60 : Int32) then (-8 : Int32) else (-9 : Int32)) = y7 at hF ⊢
        refine z_istore_n (lv2 := [some (.ref (zB G + v0)), some (.ref (zB G + v1)), some (.int v2), some (.int y7)]) C dX5_readTest_47 (by decide) rfl ?_
        refine z_aload_n C dX5_readTest_48 rfl ?_
        obtain ⟨S8, h8, hF⟩ := bV_some hF
        refine f_cV (st2 := []) C dX5_readTest_49 zyX8_advance zvX8_advance lkRX5_46 (K_X8_advance (l := zXl X) hT hpv1 hkv1 h8) hpv1 hkv1 rfl (by omega) rfl rfl (Nat.le_of_ble_eq_true rfl) rfl (fun hT8 => ?_)
        refine z_aload_n C dX5_readTest_52 rfl ?_
        refine z_aload_n C dX5_readTest_53 rfl ?_
        refine z_iload_n C dX5_readTest_54 rfl ?_
        obtain ⟨x9, S9, h9, hF⟩ := bI_some hF
        have hM9 : zM G (zXl X) (4 + e1) 0 0 yX5_readSum cX5_readSum 5 (some .boolean) [.ref (zB G + v0), .ref (zB G + v1), .int v2] (cn G kd N0 S8) (zPo G kd N0 (some (.int x9), S9)) := zM.of (by decide) rfl (Nat.le_of_ble_eq_true rfl) (fun X9 _ C9 hr9 _ => ih2 e1 X9 C9 hr9 S8 v0 v1 v2 _ hT8 hpv0 hkv0 hpv1 hkv1  h9)
        refine f_cV (st2 := [.int x9]) C dX5_readTest_55 zyX5_readSum zvX5_readSum lkRX5_53 hM9 hpv0 hkv0 rfl (by omega) rfl rfl (Nat.le_of_ble_eq_true rfl) rfl (fun hT9 => ?_)
        refine z_if_ne C 63 dX5_readTest_58 (by decide) (fun c10 => ?_) (fun c10 => ?_)
        · replace hF := im hF c10
          refine z_aload_n C dX5_readTest_63 rfl ?_
          refine z_iload_n C dX5_readTest_64 rfl ?_
          obtain ⟨S11, h11, hF⟩ := bV_some hF
          refine f_cV (st2 := []) C dX5_readTest_65 zyX5_add zvX5_add lkRX5_49 (K_X5_add (l := zXl X) hT9 hpv0 hkv0  h11) hpv0 hkv0 rfl (by omega) rfl rfl (Nat.le_of_ble_eq_true rfl) rfl (fun hT11 => ?_)
          refine z_iconst (v := 1) C dX5_readTest_68 (by decide) ?_
          obtain ⟨hz, hF⟩ := bZ_some hF
          cases hF
          exact z_zret C hr hz.1 dX5_readTest_69 ⟨rfl, rfl, hT11⟩
        · replace hF := ip hF c10
          refine z_iconst (v := 0) C dX5_readTest_61 (by decide) ?_
          obtain ⟨hz, hF⟩ := bZ_some hF
          cases hF
          exact z_zret C hr hz.1 dX5_readTest_62 ⟨rfl, rfl, hT9⟩
      refine z_icmp_ne C 45 dX5_readTest_37 (by decide) (fun c5 => ?_) (fun c5 => ?_)
      · refine z_bipush (v := (-9)) C dX5_readTest_45 (by decide) ?_
        exact zV.at hJ6 (by first | rfl | contradiction | (simp only [if_neg c5]; done)) (by first | rfl | contradiction | (simp only [if_neg c5]; done)) rfl rfl
      · refine z_bipush (v := (-8)) C dX5_readTest_40 (by decide) ?_
        refine z_goto C 47 dX5_readTest_42 (by decide) ?_
        exact zV.at hJ6 (by first | rfl | contradiction | (simp only [if_pos c5]; done)) (by first | rfl | contradiction | (simp only [if_pos c5]; done)) rfl rfl
    · intro e X C hr S v0 v1 v2 v3 res hT hpv0 hkv0 hpv1 hkv1 hF
      replace hF : F_gLaw_9 f (F_gLaw f) e v0 v1 v2 v3 S = some res := hF
      unfold F_gLaw_9 at hF
      refine z_iload_n C dX5_readSum_13 rfl ?_
      refine z_sipush (v := 1000) C dX5_readSum_14 (by decide) ?_
      refine z_icmp_ge C 83 dX5_readSum_17 (by decide) (fun c3 => ?_) (fun c3 => ?_)
      · replace hF := ip hF c3
        refine z_mask [false, false, false, false, true] ?_ rfl
        exact ih10 e X C hr S  res hT  hF
      · replace hF := im hF c3
        refine z_aload_n C dX5_readSum_20 rfl ?_
        refine f_geti C dX5_readSum_21 zfRX5_56 hpv1 hkv1 rfl ?_
        refine z_bipush (v := 43) C dX5_readSum_24 (by decide) ?_
        refine z_icmp_eq C 38 dX5_readSum_26 (by decide) (fun c4 => ?_) (fun c4 => ?_)
        · replace hF := ip hF c4
          exact ih11 e X C hr S v0 v1 v2 v3 res hT hpv0 hkv0 hpv1 hkv1   hF
        · replace hF := im hF c4
          refine z_aload_n C dX5_readSum_29 rfl ?_
          refine f_geti C dX5_readSum_30 zfRX5_56 hpv1 hkv1 rfl ?_
          refine z_bipush (v := 45) C dX5_readSum_33 (by decide) ?_
          refine z_icmp_ne C 83 dX5_readSum_35 (by decide) (fun c5 => ?_) (fun c5 => ?_)
          · replace hF := im hF c5
            refine z_mask [false, false, false, false, true] ?_ rfl
            exact ih10 e X C hr S  res hT  hF
          · replace hF := ip hF c5
            exact ih11 e X C hr S v0 v1 v2 v3 res hT hpv0 hkv0 hpv1 hkv1   hF
    · intro e X C hr S  res hT  hF
      replace hF : F_gLaw_10 f (F_gLaw f) e  S = some res := hF
      unfold F_gLaw_10 at hF
      refine z_iconst (v := 1) C dX5_readSum_83 (by decide) ?_
      obtain ⟨hz, hF⟩ := bZ_some hF
      cases hF
      exact z_zret C hr hz.1 dX5_readSum_84 ⟨rfl, rfl, hT⟩
    · intro e X C hr S v0 v1 v2 v3 res hT hpv0 hkv0 hpv1 hkv1 hF
      replace hF : F_gLaw_11 f (F_gLaw f) e v0 v1 v2 v3 S = some res := hF
      unfold F_gLaw_11 at hF
      obtain ⟨e1, he1, hF1⟩ := dE_some hF
      subst he1
      replace hF := hF1
      refine z_aload_n C dX5_readSum_38 rfl ?_
      refine f_geti C dX5_readSum_39 zfRX5_56 hpv1 hkv1 rfl ?_
      refine z_bipush (v := 43) C dX5_readSum_42 (by decide) ?_
      have hJ7 : zV G X (zQX G X (zPo G kd N0 res) 0 0) 5 [some (.ref (zB G + v0)), some (.ref (zB G + v1)), some (.int v2), some (.int v3), none] [.int (if (gI S v1 9) = (43 : Int32) then (-10 : Int32) else (-11 : Int32))] (cn G kd N0 S) 54 0 0 := by
        replace hF := lI_e hF
        generalize (if (gI S v1 9) = (43 : Int32) then (-10 : Int32) else (-11 : Int32)) = y8 at hF ⊢
        refine z_istore (lv2 := [some (.ref (zB G + v0)), some (.ref (zB G + v1)), some (.int v2), some (.int v3), some (.int y8)]) C dX5_readSum_54 (by decide) rfl ?_
        refine z_aload_n C dX5_readSum_56 rfl ?_
        obtain ⟨S9, h9, hF⟩ := bV_some hF
        refine f_cV (st2 := []) C dX5_readSum_57 zyX8_advance zvX8_advance lkRX5_46 (K_X8_advance (l := zXl X) hT hpv1 hkv1 h9) hpv1 hkv1 rfl (by omega) rfl rfl (Nat.le_of_ble_eq_true rfl) rfl (fun hT9 => ?_)
        refine z_aload_n C dX5_readSum_60 rfl ?_
        refine z_aload_n C dX5_readSum_61 rfl ?_
        refine z_iload_n C dX5_readSum_62 rfl ?_
        obtain ⟨x10, S10, h10, hF⟩ := bI_some hF
        have hM10 : zM G (zXl X) (4 + e1) 0 0 yX5_readProduct cX5_readProduct 4 (some .boolean) [.ref (zB G + v0), .ref (zB G + v1), .int v2] (cn G kd N0 S9) (zPo G kd N0 (some (.int x10), S10)) := zM.of (by decide) rfl (Nat.le_of_ble_eq_true rfl) (fun X9 _ C9 hr9 _ => ih3 e1 X9 C9 hr9 S9 v0 v1 v2 _ hT9 hpv0 hkv0 hpv1 hkv1  h10)
        refine f_cV (st2 := [.int x10]) C dX5_readSum_63 zyX5_readProduct zvX5_readProduct lkRX5_59 hM10 hpv0 hkv0 rfl (by omega) rfl rfl (Nat.le_of_ble_eq_true rfl) rfl (fun hT10 => ?_)
        refine z_if_ne C 71 dX5_readSum_66 (by decide) (fun c11 => ?_) (fun c11 => ?_)
        · replace hF := im hF c11
          refine z_aload_n C dX5_readSum_71 rfl ?_
          refine z_iload C dX5_readSum_72 rfl ?_
          obtain ⟨S12, h12, hF⟩ := bV_some hF
          refine f_cV (st2 := []) C dX5_readSum_74 zyX5_add zvX5_add lkRX5_49 (K_X5_add (l := zXl X) hT10 hpv0 hkv0  h12) hpv0 hkv0 rfl (by omega) rfl rfl (Nat.le_of_ble_eq_true rfl) rfl (fun hT12 => ?_)
          refine z_iinc (v := v3 + 1) (lv2 := [some (.ref (zB G + v0)), some (.ref (zB G + v1)), some (.int v2), some (.int (v3 + 1)), some (.int y8)]) C dX5_readSum_77 rfl (by rw [show Int32.ofInt 1 = (1 : Int32) from by decide]) rfl ?_
          refine z_goto C 13 dX5_readSum_80 (by decide) ?_
          refine z_mask [true, true, true, true, false] ?_ rfl
          exact ih9 (e1 + 1) X C hr S12 v0 v1 v2 (v3 + 1) res hT12 hpv0 hkv0 hpv1 hkv1   hF
        · replace hF := ip hF c11
          refine z_iconst (v := 0) C dX5_readSum_69 (by decide) ?_
          obtain ⟨hz, hF⟩ := bZ_some hF
          cases hF
          exact z_zret C hr hz.1 dX5_readSum_70 ⟨rfl, rfl, hT10⟩
      refine z_icmp_ne C 52 dX5_readSum_44 (by decide) (fun c6 => ?_) (fun c6 => ?_)
      · refine z_bipush (v := (-11)) C dX5_readSum_52 (by decide) ?_
        exact zV.at hJ7 (by first | rfl | contradiction | (simp only [if_neg c6]; done)) (by first | rfl | contradiction | (simp only [if_neg c6]; done)) rfl rfl
      · refine z_bipush (v := (-10)) C dX5_readSum_47 (by decide) ?_
        refine z_goto C 54 dX5_readSum_49 (by decide) ?_
        exact zV.at hJ7 (by first | rfl | contradiction | (simp only [if_pos c6]; done)) (by first | rfl | contradiction | (simp only [if_pos c6]; done)) rfl rfl
    · intro e X C hr S v0 v1 v2 v3 res hT hpv0 hkv0 hpv1 hkv1 hF
      replace hF : F_gLaw_12 f (F_gLaw f) e v0 v1 v2 v3 S = some res := hF
      unfold F_gLaw_12 at hF
      obtain ⟨e1, he1, hF1⟩ := dE_some hF
      subst he1
      replace hF := hF1
      refine z_iload_n C dX5_readProduct_13 rfl ?_
      refine z_sipush (v := 1000) C dX5_readProduct_14 (by decide) ?_
      refine z_icmp_ge C 56 dX5_readProduct_17 (by decide) (fun c3 => ?_) (fun c3 => ?_)
      · replace hF := ip hF c3
        refine z_mask [false, false, false, false] ?_ rfl
        exact ih13 (e1 + 1) X C hr S  res hT  hF
      · replace hF := im hF c3
        refine z_aload_n C dX5_readProduct_20 rfl ?_
        refine f_geti C dX5_readProduct_21 zfRX5_56 hpv1 hkv1 rfl ?_
        refine z_bipush (v := 42) C dX5_readProduct_24 (by decide) ?_
        refine z_icmp_ne C 56 dX5_readProduct_26 (by decide) (fun c4 => ?_) (fun c4 => ?_)
        · replace hF := im hF c4
          refine z_mask [false, false, false, false] ?_ rfl
          exact ih13 (e1 + 1) X C hr S  res hT  hF
        · replace hF := ip hF c4
          refine z_aload_n C dX5_readProduct_29 rfl ?_
          obtain ⟨S5, h5, hF⟩ := bV_some hF
          refine f_cV (st2 := []) C dX5_readProduct_30 zyX8_advance zvX8_advance lkRX5_46 (K_X8_advance (l := zXl X) hT hpv1 hkv1 h5) hpv1 hkv1 rfl (by omega) rfl rfl (Nat.le_of_ble_eq_true rfl) rfl (fun hT5 => ?_)
          refine z_aload_n C dX5_readProduct_33 rfl ?_
          refine z_aload_n C dX5_readProduct_34 rfl ?_
          refine z_iload_n C dX5_readProduct_35 rfl ?_
          obtain ⟨x6, S6, h6, hF⟩ := bI_some hF
          have hM6 : zM G (zXl X) (4 + e1) 0 0 yX5_readPart cX5_readPart 4 (some .boolean) [.ref (zB G + v0), .ref (zB G + v1), .int v2] (cn G kd N0 S5) (zPo G kd N0 (some (.int x6), S6)) := zM.of (by decide) rfl (Nat.le_of_ble_eq_true rfl) (fun X9 _ C9 hr9 _ => ih4 e1 X9 C9 hr9 S5 v0 v1 v2 _ hT5 hpv0 hkv0 hpv1 hkv1  h6)
          refine f_cV (st2 := [.int x6]) C dX5_readProduct_36 zyX5_readPart zvX5_readPart lkRX5_62 hM6 hpv0 hkv0 rfl (by omega) rfl rfl (Nat.le_of_ble_eq_true rfl) rfl (fun hT6 => ?_)
          refine z_if_ne C 44 dX5_readProduct_39 (by decide) (fun c7 => ?_) (fun c7 => ?_)
          · replace hF := im hF c7
            refine z_aload_n C dX5_readProduct_44 rfl ?_
            refine z_bipush (v := (-12)) C dX5_readProduct_45 (by decide) ?_
            obtain ⟨S8, h8, hF⟩ := bV_some hF
            refine f_cV (st2 := []) C dX5_readProduct_47 zyX5_add zvX5_add lkRX5_49 (K_X5_add (l := zXl X) hT6 hpv0 hkv0  h8) hpv0 hkv0 rfl (by omega) rfl rfl (Nat.le_of_ble_eq_true rfl) rfl (fun hT8 => ?_)
            refine z_iinc (v := v3 + 1) (lv2 := [some (.ref (zB G + v0)), some (.ref (zB G + v1)), some (.int v2), some (.int (v3 + 1))]) C dX5_readProduct_50 rfl (by rw [show Int32.ofInt 1 = (1 : Int32) from by decide]) rfl ?_
            refine z_goto C 13 dX5_readProduct_53 (by decide) ?_
            exact ih12 (e1 + 1) X C hr S8 v0 v1 v2 (v3 + 1) res hT8 hpv0 hkv0 hpv1 hkv1   hF
          · replace hF := ip hF c7
            refine z_iconst (v := 0) C dX5_readProduct_42 (by decide) ?_
            obtain ⟨hz, hF⟩ := bZ_some hF
            cases hF
            exact z_zret C hr hz.1 dX5_readProduct_43 ⟨rfl, rfl, hT6⟩
    · intro e X C hr S  res hT  hF
      replace hF : F_gLaw_13 f (F_gLaw f) e  S = some res := hF
      unfold F_gLaw_13 at hF
      refine z_iconst (v := 1) C dX5_readProduct_56 (by decide) ?_
      obtain ⟨hz, hF⟩ := bZ_some hF
      cases hF
      exact z_zret C hr hz.1 dX5_readProduct_57 ⟨rfl, rfl, hT⟩
    · intro e X C hr S v0 v1 v2 res hT hpv0 hkv0 hpv1 hkv1 hF
      replace hF : F_gLaw_14 f (F_gLaw f) e v0 v1 v2 S = some res := hF
      unfold F_gLaw_14 at hF
      refine z_iconst (v := 1) C dX5_readPart_18 (by decide) ?_
      refine z_goto C 23 dX5_readPart_19 (by decide) ?_
      exact ih16 e X C hr S v0 v1 v2 1 res hT hpv0 hkv0 hpv1 hkv1   hF
    · intro e X C hr S v0 v1 v2 v3 res hT hpv0 hkv0 hpv1 hkv1 hF
      replace hF : F_gLaw_15 f (F_gLaw f) e v0 v1 v2 v3 S = some res := hF
      unfold F_gLaw_15 at hF
      obtain ⟨e1, he1, hF1⟩ := dE_some hF
      subst he1
      replace hF := hF1
      refine z_iload_n C dX5_readPart_53 rfl ?_
      refine z_iconst (v := 5) C dX5_readPart_54 (by decide) ?_
      refine z_icmp_lt C 64 dX5_readPart_55 (by decide) (fun c14 => ?_) (fun c14 => ?_)
      · replace hF := ip hF c14
        refine z_iload_n C dX5_readPart_64 rfl ?_
        refine z_if_eq C 100 dX5_readPart_65 (by decide) (fun c15 => ?_) (fun c15 => ?_)
        · replace hF := ip hF c15
          refine z_aload_n C dX5_readPart_100 rfl ?_
          refine f_geti C dX5_readPart_101 zfRX5_56 hpv1 hkv1 rfl ?_
          refine z_bipush (v := 40) C dX5_readPart_104 (by decide) ?_
          refine z_icmp_ne C 139 dX5_readPart_106 (by decide) (fun c16 => ?_) (fun c16 => ?_)
          · replace hF := im hF c16
            refine z_aload_n C dX5_readPart_139 rfl ?_
            obtain ⟨S17, h17, hF⟩ := bV_some hF
            refine f_cV (st2 := []) C dX5_readPart_140 zyX8_advance zvX8_advance lkRX5_46 (K_X8_advance (l := zXl X) hT hpv1 hkv1 h17) hpv1 hkv1 rfl (by omega) rfl rfl (Nat.le_of_ble_eq_true rfl) rfl (fun hT17 => ?_)
            refine z_aload_n C dX5_readPart_143 rfl ?_
            refine z_aload_n C dX5_readPart_144 rfl ?_
            refine z_iload_n C dX5_readPart_145 rfl ?_
            refine z_iconst (v := 1) C dX5_readPart_146 (by decide) ?_
            refine z_iadd C dX5_readPart_147 ?_
            obtain ⟨x18, S18, h18, hF⟩ := bI_some hF
            have hM18 : zM G (zXl X) (4 + e1) 0 0 yX5_readPart cX5_readPart 4 (some .boolean) [.ref (zB G + v0), .ref (zB G + v1), .int (v2 + (1 : Int32))] (cn G kd N0 S17) (zPo G kd N0 (some (.int x18), S18)) := zM.of (by decide) rfl (Nat.le_of_ble_eq_true rfl) (fun X9 _ C9 hr9 _ => ih4 e1 X9 C9 hr9 S17 v0 v1 (v2 + (1 : Int32)) _ hT17 hpv0 hkv0 hpv1 hkv1  h18)
            refine f_cV (st2 := [.int x18]) C dX5_readPart_148 zyX5_readPart zvX5_readPart lkRX5_62 hM18 hpv0 hkv0 rfl (by omega) rfl rfl (Nat.le_of_ble_eq_true rfl) rfl (fun hT18 => ?_)
            refine z_if_ne C 156 dX5_readPart_151 (by decide) (fun c19 => ?_) (fun c19 => ?_)
            · replace hF := im hF c19
              refine z_aload_n C dX5_readPart_156 rfl ?_
              refine z_bipush (v := (-5)) C dX5_readPart_157 (by decide) ?_
              obtain ⟨S20, h20, hF⟩ := bV_some hF
              refine f_cV (st2 := []) C dX5_readPart_159 zyX5_add zvX5_add lkRX5_49 (K_X5_add (l := zXl X) hT18 hpv0 hkv0  h20) hpv0 hkv0 rfl (by omega) rfl rfl (Nat.le_of_ble_eq_true rfl) rfl (fun hT20 => ?_)
              refine z_iconst (v := 1) C dX5_readPart_162 (by decide) ?_
              obtain ⟨hz, hF⟩ := bZ_some hF
              cases hF
              exact z_zret C hr hz.1 dX5_readPart_163 ⟨rfl, rfl, hT20⟩
            · replace hF := ip hF c19
              refine z_iconst (v := 0) C dX5_readPart_154 (by decide) ?_
              obtain ⟨hz, hF⟩ := bZ_some hF
              cases hF
              exact z_zret C hr hz.1 dX5_readPart_155 ⟨rfl, rfl, hT18⟩
          · replace hF := ip hF c16
            refine z_aload_n C dX5_readPart_109 rfl ?_
            obtain ⟨S21, h21, hF⟩ := bV_some hF
            refine f_cV (st2 := []) C dX5_readPart_110 zyX8_advance zvX8_advance lkRX5_46 (K_X8_advance (l := zXl X) hT hpv1 hkv1 h21) hpv1 hkv1 rfl (by omega) rfl rfl (Nat.le_of_ble_eq_true rfl) rfl (fun hT21 => ?_)
            refine z_aload_n C dX5_readPart_113 rfl ?_
            refine z_aload_n C dX5_readPart_114 rfl ?_
            refine z_iload_n C dX5_readPart_115 rfl ?_
            refine z_iconst (v := 1) C dX5_readPart_116 (by decide) ?_
            refine z_iadd C dX5_readPart_117 ?_
            obtain ⟨x22, S22, h22, hF⟩ := bI_some hF
            have hM22 : zM G (zXl X) (4 + e1) 0 0 yX5_readTests cX5_readTests 5 (some .boolean) [.ref (zB G + v0), .ref (zB G + v1), .int (v2 + (1 : Int32))] (cn G kd N0 S21) (zPo G kd N0 (some (.int x22), S22)) := zM.of (by decide) rfl (Nat.le_of_ble_eq_true rfl) (fun X9 _ C9 hr9 _ => ih0 e1 X9 C9 hr9 S21 v0 v1 (v2 + (1 : Int32)) _ hT21 hpv0 hkv0 hpv1 hkv1  h22)
            refine f_cV (st2 := [.int x22]) C dX5_readPart_118 zyX5_readTests zvX5_readTests lkRX5_79 hM22 hpv0 hkv0 rfl (by omega) rfl rfl (Nat.le_of_ble_eq_true rfl) rfl (fun hT22 => ?_)
            refine z_if_eq C 137 dX5_readPart_121 (by decide) (fun c24 => ?_) (fun c24 => ?_)
            · replace hF := ip hF c24
              refine z_mask [false, false, false, false] ?_ rfl
              exact ih17 (e1 + 1) X C hr S22  res hT22  hF
            · replace hF := im hF c24
              refine z_aload_n C dX5_readPart_124 rfl ?_
              refine z_bipush (v := 41) C dX5_readPart_125 (by decide) ?_
              obtain ⟨x25, S25, h25, hF⟩ := bI_some hF
              refine f_cV (st2 := [.int x25]) C dX5_readPart_127 zyX8_pass_ zvX8_pass_ lkRX5_82 (K_X8_pass_ (l := zXl X) hT22 hpv1 hkv1  h25) hpv1 hkv1 rfl (by omega) rfl rfl (Nat.le_of_ble_eq_true rfl) rfl (fun hT25 => ?_)
              have hJ27 : zV G X (zQX G X (zPo G kd N0 res) 0 0) 4 [some (.ref (zB G + v0)), some (.ref (zB G + v1)), some (.int v2), some (.int v3)] [.int (if x25 = (0 : Int32) then (0 : Int32) else (1 : Int32))] (cn G kd N0 S25) 138 0 0 := by
                obtain ⟨hz, hF⟩ := bZ_some hF
                cases hF
                exact z_zret C hr hz.1 dX5_readPart_138 ⟨rfl, rfl, hT25⟩
              refine z_if_eq C 137 dX5_readPart_130 (by decide) (fun c26 => ?_) (fun c26 => ?_)
              · refine z_iconst (v := 0) C dX5_readPart_137 (by decide) ?_
                exact zV.at hJ27 (by first | rfl | contradiction | (simp only [if_pos c26]; done)) (by first | rfl | contradiction | (simp only [if_pos c26]; done)) rfl rfl
              · refine z_iconst (v := 1) C dX5_readPart_133 (by decide) ?_
                refine z_goto C 138 dX5_readPart_134 (by decide) ?_
                exact zV.at hJ27 (by first | rfl | contradiction | (simp only [if_neg c26]; done)) (by first | rfl | contradiction | (simp only [if_neg c26]; done)) rfl rfl
        · replace hF := im hF c15
          refine z_aload_n C dX5_readPart_68 rfl ?_
          refine z_aload_n C dX5_readPart_69 rfl ?_
          refine f_geti C dX5_readPart_70 zfRX5_65 hpv1 hkv1 rfl ?_
          refine z_iconst (v := (-1)) C dX5_readPart_73 (by decide) ?_
          have hJ30 : zV G X (zQX G X (zPo G kd N0 res) 0 0) 4 [some (.ref (zB G + v0)), some (.ref (zB G + v1)), some (.int v2), some (.int v3)] [.int (if (gI S v1 8) = (-1 : Int32) then (zval (gR S v1 6)) else (gI S v1 8)), .ref (zB G + v0)] (cn G kd N0 S) 91 0 0 := by
            obtain ⟨S31, h31, hF⟩ := bV_some hF
            refine f_cV (st2 := []) C dX5_readPart_91 zyX5_add zvX5_add lkRX5_49 (K_X5_add (l := zXl X) hT hpv0 hkv0  h31) hpv0 hkv0 rfl (by omega) rfl rfl (Nat.le_of_ble_eq_true rfl) rfl (fun hT31 => ?_)
            refine z_aload_n C dX5_readPart_94 rfl ?_
            obtain ⟨S32, h32, hF⟩ := bV_some hF
            refine f_cV (st2 := []) C dX5_readPart_95 zyX8_advance zvX8_advance lkRX5_46 (K_X8_advance (l := zXl X) hT31 hpv1 hkv1 h32) hpv1 hkv1 rfl (by omega) rfl rfl (Nat.le_of_ble_eq_true rfl) rfl (fun hT32 => ?_)
            refine z_iconst (v := 1) C dX5_readPart_98 (by decide) ?_
            obtain ⟨hz, hF⟩ := bZ_some hF
            cases hF
            exact z_zret C hr hz.1 dX5_readPart_99 ⟨rfl, rfl, hT32⟩
          refine z_icmp_eq C 84 dX5_readPart_74 (by decide) (fun c28 => ?_) (fun c28 => ?_)
          · refine z_aload_n C dX5_readPart_84 rfl ?_
            refine f_getw C dX5_readPart_85 zfRX5_31 hpv1 hkv1 rfl ?_
            have hw29 := hT.2.2 v1 hpv1 hkv1
            refine f_getK C dX5_readPart_88 fkRX5_43 (C.2.2.2.2.2.1.2.2.1 (gR S v1 6) hw29).2.2.2.1 ?_
            exact zV.at hJ30 (by first | rfl | contradiction | (simp only [if_pos c28]; done)) (by first | rfl | contradiction | (simp only [if_pos c28]; done)) rfl rfl
          · refine z_aload_n C dX5_readPart_77 rfl ?_
            refine f_geti C dX5_readPart_78 zfRX5_65 hpv1 hkv1 rfl ?_
            refine z_goto C 91 dX5_readPart_81 (by decide) ?_
            exact zV.at hJ30 (by first | rfl | contradiction | (simp only [if_neg c28]; done)) (by first | rfl | contradiction | (simp only [if_neg c28]; done)) rfl rfl
      · replace hF := im hF c14
        refine z_aload_n C dX5_readPart_58 rfl ?_
        refine z_iconst (v := 5) C dX5_readPart_59 (by decide) ?_
        obtain ⟨x33, S33, h33, hF⟩ := bI_some hF
        refine f_cV (st2 := [.int x33]) C dX5_readPart_60 zyX8_fail zvX8_fail lkRX5_75 (K_X8_fail (l := zXl X) hT hpv1 hkv1  h33) hpv1 hkv1 rfl (by omega) rfl rfl (Nat.le_of_ble_eq_true rfl) rfl (fun hT33 => ?_)
        obtain ⟨hz, hF⟩ := bZ_some hF
        cases hF
        exact z_zret C hr hz.1 dX5_readPart_63 ⟨rfl, rfl, hT33⟩
    · intro e X C hr S v0 v1 v2 w0 res hT hpv0 hkv0 hpv1 hkv1 hF
      replace hF : F_gLaw_16 f (F_gLaw f) e v0 v1 v2 w0 S = some res := hF
      unfold F_gLaw_16 at hF
      refine z_istore_n (lv2 := [some (.ref (zB G + v0)), some (.ref (zB G + v1)), some (.int v2), some (.int w0)]) C dX5_readPart_23 (by decide) rfl ?_
      refine z_iload_n C dX5_readPart_24 rfl ?_
      refine z_if_ne C 53 dX5_readPart_25 (by decide) (fun c34 => ?_) (fun c34 => ?_)
      · replace hF := im hF c34
        exact ih15 e X C hr S v0 v1 v2 w0 res hT hpv0 hkv0 hpv1 hkv1   hF
      · replace hF := ip hF c34
        refine z_aload_n C dX5_readPart_28 rfl ?_
        refine f_getw C dX5_readPart_29 zfRX5_31 hpv1 hkv1 rfl ?_
        have hw35 := hT.2.2 v1 hpv1 hkv1
        refine f_gets C dX5_readPart_32 fkRX5_72 (C.2.2.2.2.2.1.2.2.1 24 (by decide)).1 ?_
        refine z_acmp_eq C 53 dX5_readPart_35 (by decide) (fun c36 => ?_) (fun c36 => ?_)
        · replace c36 := C.2.2.2.2.2.1.2.2.2.1 (gR S v1 6) 24 hw35 (by decide) c36
          replace hF := ip hF c36
          exact ih15 e X C hr S v0 v1 v2 w0 res hT hpv0 hkv0 hpv1 hkv1   hF
        · replace c36 : ¬ (gR S v1 6) = 24 := fun e => c36 (by rw [e])
          replace hF := im hF c36
          refine z_aload_n C dX5_readPart_38 rfl ?_
          refine f_geti C dX5_readPart_39 zfRX5_56 hpv1 hkv1 rfl ?_
          refine z_bipush (v := 40) C dX5_readPart_42 (by decide) ?_
          refine z_icmp_eq C 53 dX5_readPart_44 (by decide) (fun c37 => ?_) (fun c37 => ?_)
          · replace hF := ip hF c37
            exact ih15 e X C hr S v0 v1 v2 w0 res hT hpv0 hkv0 hpv1 hkv1   hF
          · replace hF := im hF c37
            refine z_aload_n C dX5_readPart_47 rfl ?_
            refine z_iconst (v := 1) C dX5_readPart_48 (by decide) ?_
            obtain ⟨x38, S38, h38, hF⟩ := bI_some hF
            refine f_cV (st2 := [.int x38]) C dX5_readPart_49 zyX8_fail zvX8_fail lkRX5_75 (K_X8_fail (l := zXl X) hT hpv1 hkv1  h38) hpv1 hkv1 rfl (by omega) rfl rfl (Nat.le_of_ble_eq_true rfl) rfl (fun hT38 => ?_)
            obtain ⟨hz, hF⟩ := bZ_some hF
            cases hF
            exact z_zret C hr hz.1 dX5_readPart_52 ⟨rfl, rfl, hT38⟩
    · intro e X C hr S  res hT  hF
      replace hF : F_gLaw_17 f (F_gLaw f) e  S = some res := hF
      unfold F_gLaw_17 at hF
      refine z_iconst (v := 0) C dX5_readPart_137 (by decide) ?_
      exact ih18 e X C hr S 0 res hT  hF
    · intro e X C hr S w0 res hT  hF
      replace hF : F_gLaw_18 f (F_gLaw f) e w0 S = some res := hF
      unfold F_gLaw_18 at hF
      obtain ⟨hz, hF⟩ := bZ_some hF
      cases hF
      exact z_zret C hr hz.1 dX5_readPart_138 ⟨rfl, rfl, hT⟩
def F_X5_readTests (f : Nat) (_ : Nat) (vs : List Value) (S : aS) : aR := F_gLaw f 40 0 vs S
theorem K_X5_readTests {G : zG} {l : Launch} {kd : kD} {N0 f : Nat} {S : aS} {v0 : Nat} {v1 : Nat} {v2 : Int32} {res : Option Value × aS} (hT : zT0 kd N0 S) (hpv0 : v0 < N0) (hkv0 : kd v0 = .inl 4) (hpv1 : v1 < N0) (hkv1 : kd v1 = .inl 7) (hF : F_X5_readTests f 0 [.ref v0, .ref v1, .int v2] S = some res) : zM G l 44 0 0 yX5_readTests cX5_readTests 5 (some .boolean) [.ref (zB G + v0), .ref (zB G + v1), .int v2] (cn G kd N0 S) (zPo G kd N0 res) := zM.of (by decide) rfl (Nat.le_of_ble_eq_true rfl) (fun X _ C hr _ => (B_gLaw f).1 40 X C hr S v0 v1 v2 res hT hpv0 hkv0 hpv1 hkv1 hF)
def F_X5_readTest (f : Nat) (_ : Nat) (vs : List Value) (S : aS) : aR := F_gLaw f 40 1 vs S
theorem K_X5_readTest {G : zG} {l : Launch} {kd : kD} {N0 f : Nat} {S : aS} {v0 : Nat} {v1 : Nat} {v2 : Int32} {res : Option Value × aS} (hT : zT0 kd N0 S) (hpv0 : v0 < N0) (hkv0 : kd v0 = .inl 4) (hpv1 : v1 < N0) (hkv1 : kd v1 = .inl 7) (hF : F_X5_readTest f 0 [.ref v0, .ref v1, .int v2] S = some res) : zM G l 44 0 0 yX5_readTest cX5_readTest 4 (some .boolean) [.ref (zB G + v0), .ref (zB G + v1), .int v2] (cn G kd N0 S) (zPo G kd N0 res) := zM.of (by decide) rfl (Nat.le_of_ble_eq_true rfl) (fun X _ C hr _ => (B_gLaw f).2.1 40 X C hr S v0 v1 v2 res hT hpv0 hkv0 hpv1 hkv1 hF)
def F_X5_readSum (f : Nat) (_ : Nat) (vs : List Value) (S : aS) : aR := F_gLaw f 40 2 vs S
theorem K_X5_readSum {G : zG} {l : Launch} {kd : kD} {N0 f : Nat} {S : aS} {v0 : Nat} {v1 : Nat} {v2 : Int32} {res : Option Value × aS} (hT : zT0 kd N0 S) (hpv0 : v0 < N0) (hkv0 : kd v0 = .inl 4) (hpv1 : v1 < N0) (hkv1 : kd v1 = .inl 7) (hF : F_X5_readSum f 0 [.ref v0, .ref v1, .int v2] S = some res) : zM G l 44 0 0 yX5_readSum cX5_readSum 5 (some .boolean) [.ref (zB G + v0), .ref (zB G + v1), .int v2] (cn G kd N0 S) (zPo G kd N0 res) := zM.of (by decide) rfl (Nat.le_of_ble_eq_true rfl) (fun X _ C hr _ => (B_gLaw f).2.2.1 40 X C hr S v0 v1 v2 res hT hpv0 hkv0 hpv1 hkv1 hF)
def F_X5_readProduct (f : Nat) (_ : Nat) (vs : List Value) (S : aS) : aR := F_gLaw f 40 3 vs S
theorem K_X5_readProduct {G : zG} {l : Launch} {kd : kD} {N0 f : Nat} {S : aS} {v0 : Nat} {v1 : Nat} {v2 : Int32} {res : Option Value × aS} (hT : zT0 kd N0 S) (hpv0 : v0 < N0) (hkv0 : kd v0 = .inl 4) (hpv1 : v1 < N0) (hkv1 : kd v1 = .inl 7) (hF : F_X5_readProduct f 0 [.ref v0, .ref v1, .int v2] S = some res) : zM G l 44 0 0 yX5_readProduct cX5_readProduct 4 (some .boolean) [.ref (zB G + v0), .ref (zB G + v1), .int v2] (cn G kd N0 S) (zPo G kd N0 res) := zM.of (by decide) rfl (Nat.le_of_ble_eq_true rfl) (fun X _ C hr _ => (B_gLaw f).2.2.2.1 40 X C hr S v0 v1 v2 res hT hpv0 hkv0 hpv1 hkv1 hF)
def F_X5_readPart (f : Nat) (_ : Nat) (vs : List Value) (S : aS) : aR := F_gLaw f 40 4 vs S
theorem K_X5_readPart {G : zG} {l : Launch} {kd : kD} {N0 f : Nat} {S : aS} {v0 : Nat} {v1 : Nat} {v2 : Int32} {res : Option Value × aS} (hT : zT0 kd N0 S) (hpv0 : v0 < N0) (hkv0 : kd v0 = .inl 4) (hpv1 : v1 < N0) (hkv1 : kd v1 = .inl 7) (hF : F_X5_readPart f 0 [.ref v0, .ref v1, .int v2] S = some res) : zM G l 44 0 0 yX5_readPart cX5_readPart 4 (some .boolean) [.ref (zB G + v0), .ref (zB G + v1), .int v2] (cn G kd N0 S) (zPo G kd N0 res) := zM.of (by decide) rfl (Nat.le_of_ble_eq_true rfl) (fun X _ C hr _ => (B_gLaw f).2.2.2.2.1 40 X C hr S v0 v1 v2 res hT hpv0 hkv0 hpv1 hkv1 hF)

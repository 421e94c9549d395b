def F_X1_readBehind_0 (f : Nat) (rc : Nat → List Value → aS → aR) (v0 : Nat) (v1 : Int32) (v2 : Nat) (v3 : Nat) (S : aS) : aR :=
  if v1 = (5 : Int32) then bZ 1 (some (some (.int 1), S)) else if v1 = (0 : Int32) then bI (F_X1_readWalker f 0 [.ref v0, .ref v2, .ref v3] S) fun x14 S14 => bZ x14 (some (some (.int x14), S14)) else bI (F_X8_isNumberWithin f 0 [.ref v2, .int 0, .int 7] S) fun x3 S3 => if x3 = (0 : Int32) then bZ 0 (some (some (.int 0), S3)) else bX (gI S3 v0 3) 40 fun q6 => fS (sI S3 (gR S3 v0 1) q6 (gI S3 v2 8)) fun S7 => bV (F_X8_advance f 0 [.ref v2] S7) fun S8 => if v1 = (2 : Int32) then bI (F_X1_readHolds f 0 [.ref v0, .ref v2] S8) fun x11 S11 => bZ (if x11 = (0 : Int32) then (0 : Int32) else (1 : Int32)) (some (some (.int (if x11 = (0 : Int32) then (0 : Int32) else (1 : Int32))), S11)) else rc 1 [] S8
def F_X1_readBehind_1 (f : Nat) (rc : Nat → List Value → aS → aR)  (S : aS) : aR :=
  rc 2 [.int 1] S
def F_X1_readBehind_2 (f : Nat) (rc : Nat → List Value → aS → aR) (w0 : Int32) (S : aS) : aR :=
  bZ w0 (some (some (.int w0), S))
def F_X1_readBehind : Nat → Nat → List Value → aS → aR
  | 0, _, _, _ => none
  | f + 1, 0, vs, S => F_X1_readBehind_0 f (F_X1_readBehind f) (vR vs 0) (vI vs 1) (vR vs 2) (vR vs 3) S
  | f + 1, 1, vs, S => F_X1_readBehind_1 f (F_X1_readBehind f)  S
  | f + 1, 2, vs, S => F_X1_readBehind_2 f (F_X1_readBehind f) (vI vs 0) S
  | _ + 1, _, _, _ => none
theorem dX1_readBehind_0 : decode cX1_readBehind 0 = .ok (.iload_n 1, 1) := by decide +kernel
theorem dX1_readBehind_1 : decode cX1_readBehind 1 = .ok (.iconst 5, 1) := by decide +kernel
theorem dX1_readBehind_2 : decode cX1_readBehind 2 = .ok (.if_icmp .ne 5, 3) := by decide +kernel
theorem dX1_readBehind_5 : decode cX1_readBehind 5 = .ok (.iconst 1, 1) := by decide +kernel
theorem dX1_readBehind_6 : decode cX1_readBehind 6 = .ok (.ireturn, 1) := by decide +kernel
theorem dX1_readBehind_7 : decode cX1_readBehind 7 = .ok (.iload_n 1, 1) := by decide +kernel
theorem dX1_readBehind_8 : decode cX1_readBehind 8 = .ok (.ifCond .ne 10, 3) := by decide +kernel
theorem dX1_readBehind_11 : decode cX1_readBehind 11 = .ok (.aload_n 0, 1) := by decide +kernel
theorem dX1_readBehind_12 : decode cX1_readBehind 12 = .ok (.aload_n 2, 1) := by decide +kernel
theorem dX1_readBehind_13 : decode cX1_readBehind 13 = .ok (.aload_n 3, 1) := by decide +kernel
theorem dX1_readBehind_14 : decode cX1_readBehind 14 = .ok (.invokevirtual 87, 3) := by decide +kernel
theorem dX1_readBehind_17 : decode cX1_readBehind 17 = .ok (.ireturn, 1) := by decide +kernel
theorem dX1_readBehind_18 : decode cX1_readBehind 18 = .ok (.aload_n 2, 1) := by decide +kernel
theorem dX1_readBehind_19 : decode cX1_readBehind 19 = .ok (.iconst 0, 1) := by decide +kernel
theorem dX1_readBehind_20 : decode cX1_readBehind 20 = .ok (.bipush 7, 2) := by decide +kernel
theorem dX1_readBehind_22 : decode cX1_readBehind 22 = .ok (.invokevirtual 90, 3) := by decide +kernel
theorem dX1_readBehind_25 : decode cX1_readBehind 25 = .ok (.ifCond .ne 5, 3) := by decide +kernel
theorem dX1_readBehind_28 : decode cX1_readBehind 28 = .ok (.iconst 0, 1) := by decide +kernel
theorem dX1_readBehind_29 : decode cX1_readBehind 29 = .ok (.ireturn, 1) := by decide +kernel
theorem dX1_readBehind_30 : decode cX1_readBehind 30 = .ok (.aload_n 0, 1) := by decide +kernel
theorem dX1_readBehind_31 : decode cX1_readBehind 31 = .ok (.getfield 15, 3) := by decide +kernel
theorem dX1_readBehind_34 : decode cX1_readBehind 34 = .ok (.aload_n 0, 1) := by decide +kernel
theorem dX1_readBehind_35 : decode cX1_readBehind 35 = .ok (.getfield 21, 3) := by decide +kernel
theorem dX1_readBehind_38 : decode cX1_readBehind 38 = .ok (.aload_n 2, 1) := by decide +kernel
theorem dX1_readBehind_39 : decode cX1_readBehind 39 = .ok (.getfield 94, 3) := by decide +kernel
theorem dX1_readBehind_42 : decode cX1_readBehind 42 = .ok (.iastore, 1) := by decide +kernel
theorem dX1_readBehind_43 : decode cX1_readBehind 43 = .ok (.aload_n 2, 1) := by decide +kernel
theorem dX1_readBehind_44 : decode cX1_readBehind 44 = .ok (.invokevirtual 58, 3) := by decide +kernel
theorem dX1_readBehind_47 : decode cX1_readBehind 47 = .ok (.iload_n 1, 1) := by decide +kernel
theorem dX1_readBehind_48 : decode cX1_readBehind 48 = .ok (.iconst 2, 1) := by decide +kernel
theorem dX1_readBehind_49 : decode cX1_readBehind 49 = .ok (.if_icmp .ne 11, 3) := by decide +kernel
theorem dX1_readBehind_52 : decode cX1_readBehind 52 = .ok (.aload_n 0, 1) := by decide +kernel
theorem dX1_readBehind_53 : decode cX1_readBehind 53 = .ok (.aload_n 2, 1) := by decide +kernel
theorem dX1_readBehind_54 : decode cX1_readBehind 54 = .ok (.invokevirtual 97, 3) := by decide +kernel
theorem dX1_readBehind_57 : decode cX1_readBehind 57 = .ok (.ifCond .eq 7, 3) := by decide +kernel
theorem dX1_readBehind_60 : decode cX1_readBehind 60 = .ok (.iconst 1, 1) := by decide +kernel
theorem dX1_readBehind_61 : decode cX1_readBehind 61 = .ok (.goto 4, 3) := by decide +kernel
theorem dX1_readBehind_64 : decode cX1_readBehind 64 = .ok (.iconst 0, 1) := by decide +kernel
theorem dX1_readBehind_65 : decode cX1_readBehind 65 = .ok (.ireturn, 1) := by decide +kernel
set_option maxHeartbeats 4000000 in
set_option maxRecDepth 100000 in
theorem B_X1_readBehind {G : zG} {X : zX} {kd : kD} {N0 : Nat} (C : zCt G X 4 0 0 RX1 cX1_readBehind 4) (hr : (zXh X).sig.returnType = (some .boolean)) : ∀ f : Nat,
    (∀ (S : aS) (v0 : Nat) (v1 : Int32) (v2 : Nat) (v3 : Nat) (res : Option Value × aS), zT0 kd N0 S → v0 < N0 → kd v0 = .inl 0 → v2 < N0 → kd v2 = .inl 7 → v3 < N0 → kd v3 = .inl 5 → F_X1_readBehind f 0 [.ref v0, .int v1, .ref v2, .ref v3] S = some res → zV G X (zQX G X (zPo G kd N0 res) 0 0) 4 [some (.ref (zB G + v0)), some (.int v1), some (.ref (zB G + v2)), some (.ref (zB G + v3))] [] (cn G kd N0 S) 0 0 0) ∧
    (∀ (S : aS)  (res : Option Value × aS), zT0 kd N0 S → F_X1_readBehind f 1 [] S = some res → zV G X (zQX G X (zPo G kd N0 res) 0 0) 4 [none, none, none, none] [] (cn G kd N0 S) 60 0 0) ∧
    (∀ (S : aS) (w0 : Int32) (res : Option Value × aS), zT0 kd N0 S → F_X1_readBehind f 2 [.int w0] S = some res → zV G X (zQX G X (zPo G kd N0 res) 0 0) 4 [none, none, none, none] [.int w0] (cn G kd N0 S) 65 0 0) := by
  intro f
  induction f with
  | zero => exact ⟨(fun _ _ _ _ _ _ _ _ _ _ _ _ _ h => by cases h), (fun _ _ _ h => by cases h), (fun _ _ _ _ h => by cases h)⟩
  | succ f ih =>
    obtain ⟨ih0, ih1, ih2⟩ := ih
    refine ⟨?_, ?_, ?_⟩
    · intro S v0 v1 v2 v3 res hT hpv0 hkv0 hpv2 hkv2 hpv3 hkv3 hF
      replace hF : F_X1_readBehind_0 f (F_X1_readBehind f) v0 v1 v2 v3 S = some res := hF
      unfold F_X1_readBehind_0 at hF
      refine z_iload_n C dX1_readBehind_0 rfl ?_
      refine z_iconst (v := 5) C dX1_readBehind_1 (by decide) ?_
      refine z_icmp_ne C 7 dX1_readBehind_2 (by decide) (fun c1 => ?_) (fun c1 => ?_)
      · replace hF := im hF c1
        refine z_iload_n C dX1_readBehind_7 rfl ?_
        refine z_if_ne C 18 dX1_readBehind_8 (by decide) (fun c2 => ?_) (fun c2 => ?_)
        · replace hF := im hF c2
          refine z_aload_n C dX1_readBehind_18 rfl ?_
          refine z_iconst (v := 0) C dX1_readBehind_19 (by decide) ?_
          refine z_bipush (v := 7) C dX1_readBehind_20 (by decide) ?_
          obtain ⟨x3, S3, h3, hF⟩ := bI_some hF
          refine f_cV (st2 := [.int x3]) C dX1_readBehind_22 zyX8_isNumberWithin zvX8_isNumberWithin lkRX1_90 (K_X8_isNumberWithin (l := zXl X) hT hpv2 hkv2   h3) hpv2 hkv2 rfl (by decide) rfl rfl (Nat.le_of_ble_eq_true rfl) rfl (fun hT3 => ?_)
          refine z_if_ne C 30 dX1_readBehind_25 (by decide) (fun c4 => ?_) (fun c4 => ?_)
          · replace hF := im hF c4
            refine z_aload_n C dX1_readBehind_30 rfl ?_
            refine f_getr C dX1_readBehind_31 zfRX1_15 hpv0 hkv0 rfl ?_
            obtain ⟨hp5, hk5⟩ := hT3.1 v0 0 1 (.inr (0, 40)) hpv0 hkv0 rfl
            refine z_aload_n C dX1_readBehind_34 rfl ?_
            refine f_geti C dX1_readBehind_35 zfRX1_21 hpv0 hkv0 rfl ?_
            refine z_aload_n C dX1_readBehind_38 rfl ?_
            refine f_geti C dX1_readBehind_39 zfRX1_94 hpv2 hkv2 rfl ?_
            obtain ⟨hi6, hF⟩ := bX_some hF
            obtain ⟨q6, eq6⟩ : ∃ q : Nat, q = Int32.toNatClampNeg (gI S3 v0 3) := ⟨_, rfl⟩
            rw [← eq6] at hF
            refine f_iast C dX1_readBehind_42 hp5 hk5 hi6 ?_
            rw [← eq6]
            have hT7 : zT0 kd N0 (sI S3 (gR S3 v0 1) q6 (gI S3 v2 8)) := zT0_sI hT3
            replace hF := fS_e hF
            generalize sI S3 (gR S3 v0 1) q6 (gI S3 v2 8) = S7 at hF hT7 ⊢
            refine z_aload_n C dX1_readBehind_43 rfl ?_
            obtain ⟨S8, h8, hF⟩ := bV_some hF
            refine f_cV (st2 := []) C dX1_readBehind_44 zyX8_advance zvX8_advance lkRX1_58 (K_X8_advance (l := zXl X) hT7 hpv2 hkv2 h8) hpv2 hkv2 rfl (by decide) rfl rfl (Nat.le_of_ble_eq_true rfl) rfl (fun hT8 => ?_)
            refine z_iload_n C dX1_readBehind_47 rfl ?_
            refine z_iconst (v := 2) C dX1_readBehind_48 (by decide) ?_
            refine z_icmp_ne C 60 dX1_readBehind_49 (by decide) (fun c10 => ?_) (fun c10 => ?_)
            · replace hF := im hF c10
              refine z_mask [false, false, false, false] ?_ rfl
              exact ih1 S8  res hT8  hF
            · replace hF := ip hF c10
              refine z_aload_n C dX1_readBehind_52 rfl ?_
              refine z_aload_n C dX1_readBehind_53 rfl ?_
              obtain ⟨x11, S11, h11, hF⟩ := bI_some hF
              refine f_cV (st2 := [.int x11]) C dX1_readBehind_54 zyX1_readHolds zvX1_readHolds lkRX1_97 (K_X1_readHolds (l := zXl X) hT8 hpv0 hkv0 hpv2 hkv2 h11) hpv0 hkv0 rfl (by decide) rfl rfl (Nat.le_of_ble_eq_true rfl) rfl (fun hT11 => ?_)
              have hJ13 : zV G X (zQX G X (zPo G kd N0 res) 0 0) 4 [some (.ref (zB G + v0)), some (.int v1), some (.ref (zB G + v2)), some (.ref (zB G + v3))] [.int (if x11 = (0 : Int32) then (0 : Int32) else (1 : Int32))] (cn G kd N0 S11) 65 0 0 := by
                obtain ⟨hz, hF⟩ := bZ_some hF
                cases hF
                exact z_zret C hr hz.1 dX1_readBehind_65 ⟨rfl, rfl, hT11⟩
              refine z_if_eq C 64 dX1_readBehind_57 (by decide) (fun c12 => ?_) (fun c12 => ?_)
              · refine z_iconst (v := 0) C dX1_readBehind_64 (by decide) ?_
                exact zV.at hJ13 (by first | rfl | contradiction | (simp only [if_pos c12]; done)) (by first | rfl | contradiction | (simp only [if_pos c12]; done)) rfl rfl
              · refine z_iconst (v := 1) C dX1_readBehind_60 (by decide) ?_
                refine z_goto C 65 dX1_readBehind_61 (by decide) ?_
                exact zV.at hJ13 (by first | rfl | contradiction | (simp only [if_neg c12]; done)) (by first | rfl | contradiction | (simp only [if_neg c12]; done)) rfl rfl
          · replace hF := ip hF c4
            refine z_iconst (v := 0) C dX1_readBehind_28 (by decide) ?_
            obtain ⟨hz, hF⟩ := bZ_some hF
            cases hF
            exact z_zret C hr hz.1 dX1_readBehind_29 ⟨rfl, rfl, hT3⟩
        · replace hF := ip hF c2
          refine z_aload_n C dX1_readBehind_11 rfl ?_
          refine z_aload_n C dX1_readBehind_12 rfl ?_
          refine z_aload_n C dX1_readBehind_13 rfl ?_
          obtain ⟨x14, S14, h14, hF⟩ := bI_some hF
          refine f_cV (st2 := [.int x14]) C dX1_readBehind_14 zyX1_readWalker zvX1_readWalker lkRX1_87 (K_X1_readWalker (l := zXl X) hT hpv0 hkv0 hpv2 hkv2 hpv3 hkv3 h14) hpv0 hkv0 rfl (by decide) rfl rfl (Nat.le_of_ble_eq_true rfl) rfl (fun hT14 => ?_)
          obtain ⟨hz, hF⟩ := bZ_some hF
          cases hF
          exact z_zret C hr hz.1 dX1_readBehind_17 ⟨rfl, rfl, hT14⟩
      · replace hF := ip hF c1
        refine z_iconst (v := 1) C dX1_readBehind_5 (by decide) ?_
        obtain ⟨hz, hF⟩ := bZ_some hF
        cases hF
        exact z_zret C hr hz.1 dX1_readBehind_6 ⟨rfl, rfl, hT⟩
    · intro S  res hT  hF
      replace hF : F_X1_readBehind_1 f (F_X1_readBehind f)  S = some res := hF
      unfold F_X1_readBehind_1 at hF
      refine z_iconst (v := 1) C dX1_readBehind_60 (by decide) ?_
      refine z_goto C 65 dX1_readBehind_61 (by decide) ?_
      exact ih2 S 1 res hT  hF
    · intro S w0 res hT  hF
      replace hF : F_X1_readBehind_2 f (F_X1_readBehind f) w0 S = some res := hF
      unfold F_X1_readBehind_2 at hF
      obtain ⟨hz, hF⟩ := bZ_some hF
      cases hF
      exact z_zret C hr hz.1 dX1_readBehind_65 ⟨rfl, rfl, hT⟩
theorem K_X1_readBehind {G : zG} {l : Launch} {kd : kD} {N0 f : Nat} {S : aS} {v0 : Nat} {v1 : Int32} {v2 : Nat} {v3 : Nat} {res : Option Value × aS} (hT : zT0 kd N0 S) (hpv0 : v0 < N0) (hkv0 : kd v0 = .inl 0) (hpv2 : v2 < N0) (hkv2 : kd v2 = .inl 7) (hpv3 : v3 < N0) (hkv3 : kd v3 = .inl 5) (hF : F_X1_readBehind f 0 [.ref v0, .int v1, .ref v2, .ref v3] S = some res) : zM G l 4 0 0 yX1_readBehind cX1_readBehind 4 (some .boolean) [.ref (zB G + v0), .int v1, .ref (zB G + v2), .ref (zB G + v3)] (cn G kd N0 S) (zPo G kd N0 res) := zM.of (by decide) rfl (Nat.le_of_ble_eq_true rfl) (fun X _ C hr _ => (B_X1_readBehind C hr f).1 S v0 v1 v2 v3 res hT hpv0 hkv0 hpv2 hkv2 hpv3 hkv3 hF)
def F_X6_readBehind_0 (f : Nat) (rc : Nat → List Value → aS → aR) (v0 : Nat) (v1 : Nat) (v2 : Nat) (S : aS) : aR :=
  bX (nI v1) 31 fun q1 => if (zsw q1) = 1 then bI (F_X6_readYards f 0 [.ref v0, .ref v2] S) fun x3 S3 => bZ x3 (some (some (.int x3), S3)) else if (zsw q1) = 2 then bI (F_X6_readPerson f 0 [.ref v0, .ref v2] S) fun x5 S5 => bZ x5 (some (some (.int x5), S5)) else if (zsw q1) = 3 then bI (F_X6_readBin f 0 [.ref v0, .ref v2] S) fun x7 S7 => bZ x7 (some (some (.int x7), S7)) else if (zsw q1) = 4 then bI (F_X6_readHeap f 0 [.ref v0, .ref v2] S) fun x9 S9 => bZ x9 (some (some (.int x9), S9)) else if (zsw q1) = 5 then bI (F_X6_readWinds f 0 [.ref v0, .ref v2] S) fun x11 S11 => bZ x11 (some (some (.int x11), S11)) else if (zsw q1) = 6 then bI (F_X6_readPence f 0 [.ref v0, .ref v2] S) fun x13 S13 => bZ x13 (some (some (.int x13), S13)) else if (zsw q1) = 7 then bI (F_X6_readDeposit f 0 [.ref v0, .ref v2] S) fun x15 S15 => bZ x15 (some (some (.int x15), S15)) else if (zsw q1) = 8 then bI (F_X5_readTests f 0 [.ref (gR S v0 12), .ref v2, .int 0] S) fun x18 S18 => bZ x18 (some (some (.int x18), S18)) else bI (F_X5_readTests f 0 [.ref (gR S v0 13), .ref v2, .int 0] S) fun x21 S21 => bZ x21 (some (some (.int x21), S21))
def F_X6_readBehind : Nat → Nat → List Value → aS → aR
  | 0, _, _, _ => none
  | f + 1, 0, vs, S => F_X6_readBehind_0 f (F_X6_readBehind f) (vR vs 0) (vR vs 1) (vR vs 2) S
  | _ + 1, _, _, _ => none
theorem dX6_readBehind_0 : decode cX6_readBehind 0 = .ok (.getstatic 141, 3) := by decide +kernel
theorem dX6_readBehind_3 : decode cX6_readBehind 3 = .ok (.aload_n 1, 1) := by decide +kernel
theorem dX6_readBehind_4 : decode cX6_readBehind 4 = .ok (.invokevirtual 146, 3) := by decide +kernel
theorem dX6_readBehind_7 : decode cX6_readBehind 7 = .ok (.iaload, 1) := by decide +kernel
theorem dX6_readBehind_8 : decode cX6_readBehind 8 = .ok (.tableswitch 100 1 8 #[48, 54, 60, 66, 72, 78, 84, 90], 48) := by decide +kernel
theorem dX6_readBehind_56 : decode cX6_readBehind 56 = .ok (.aload_n 0, 1) := by decide +kernel
theorem dX6_readBehind_57 : decode cX6_readBehind 57 = .ok (.aload_n 2, 1) := by decide +kernel
theorem dX6_readBehind_58 : decode cX6_readBehind 58 = .ok (.invokevirtual 150, 3) := by decide +kernel
theorem dX6_readBehind_61 : decode cX6_readBehind 61 = .ok (.ireturn, 1) := by decide +kernel
theorem dX6_readBehind_62 : decode cX6_readBehind 62 = .ok (.aload_n 0, 1) := by decide +kernel
theorem dX6_readBehind_63 : decode cX6_readBehind 63 = .ok (.aload_n 2, 1) := by decide +kernel
theorem dX6_readBehind_64 : decode cX6_readBehind 64 = .ok (.invokevirtual 153, 3) := by decide +kernel
theorem dX6_readBehind_67 : decode cX6_readBehind 67 = .ok (.ireturn, 1) := by decide +kernel
theorem dX6_readBehind_68 : decode cX6_readBehind 68 = .ok (.aload_n 0, 1) := by decide +kernel
theorem dX6_readBehind_69 : decode cX6_readBehind 69 = .ok (.aload_n 2, 1) := by decide +kernel
theorem dX6_readBehind_70 : decode cX6_readBehind 70 = .ok (.invokevirtual 156, 3) := by decide +kernel
theorem dX6_readBehind_73 : decode cX6_readBehind 73 = .ok (.ireturn, 1) := by decide +kernel
theorem dX6_readBehind_74 : decode cX6_readBehind 74 = .ok (.aload_n 0, 1) := by decide +kernel
theorem dX6_readBehind_75 : decode cX6_readBehind 75 = .ok (.aload_n 2, 1) := by decide +kernel
theorem dX6_readBehind_76 : decode cX6_readBehind 76 = .ok (.invokevirtual 159, 3) := by decide +kernel
theorem dX6_readBehind_79 : decode cX6_readBehind 79 = .ok (.ireturn, 1) := by decide +kernel
theorem dX6_readBehind_80 : decode cX6_readBehind 80 = .ok (.aload_n 0, 1) := by decide +kernel
theorem dX6_readBehind_81 : decode cX6_readBehind 81 = .ok (.aload_n 2, 1) := by decide +kernel
theorem dX6_readBehind_82 : decode cX6_readBehind 82 = .ok (.invokevirtual 162, 3) := by decide +kernel
theorem dX6_readBehind_85 : decode cX6_readBehind 85 = .ok (.ireturn, 1) := by decide +kernel
theorem dX6_readBehind_86 : decode cX6_readBehind 86 = .ok (.aload_n 0, 1) := by decide +kernel
theorem dX6_readBehind_87 : decode cX6_readBehind 87 = .ok (.aload_n 2, 1) := by decide +kernel
theorem dX6_readBehind_88 : decode cX6_readBehind 88 = .ok (.invokevirtual 165, 3) := by decide +kernel
theorem dX6_readBehind_91 : decode cX6_readBehind 91 = .ok (.ireturn, 1) := by decide +kernel
theorem dX6_readBehind_92 : decode cX6_readBehind 92 = .ok (.aload_n 0, 1) := by decide +kernel
theorem dX6_readBehind_93 : decode cX6_readBehind 93 = .ok (.aload_n 2, 1) := by decide +kernel
theorem dX6_readBehind_94 : decode cX6_readBehind 94 = .ok (.invokevirtual 168, 3) := by decide +kernel
theorem dX6_readBehind_97 : decode cX6_readBehind 97 = .ok (.ireturn, 1) := by decide +kernel
theorem dX6_readBehind_98 : decode cX6_readBehind 98 = .ok (.aload_n 0, 1) := by decide +kernel
theorem dX6_readBehind_99 : decode cX6_readBehind 99 = .ok (.getfield 44, 3) := by decide +kernel
theorem dX6_readBehind_102 : decode cX6_readBehind 102 = .ok (.aload_n 2, 1) := by decide +kernel
theorem dX6_readBehind_103 : decode cX6_readBehind 103 = .ok (.iconst 0, 1) := by decide +kernel
theorem dX6_readBehind_104 : decode cX6_readBehind 104 = .ok (.invokevirtual 171, 3) := by decide +kernel
theorem dX6_readBehind_107 : decode cX6_readBehind 107 = .ok (.ireturn, 1) := by decide +kernel
theorem dX6_readBehind_108 : decode cX6_readBehind 108 = .ok (.aload_n 0, 1) := by decide +kernel
theorem dX6_readBehind_109 : decode cX6_readBehind 109 = .ok (.getfield 48, 3) := by decide +kernel
theorem dX6_readBehind_112 : decode cX6_readBehind 112 = .ok (.aload_n 2, 1) := by decide +kernel
theorem dX6_readBehind_113 : decode cX6_readBehind 113 = .ok (.iconst 0, 1) := by decide +kernel
theorem dX6_readBehind_114 : decode cX6_readBehind 114 = .ok (.invokevirtual 171, 3) := by decide +kernel
theorem dX6_readBehind_117 : decode cX6_readBehind 117 = .ok (.ireturn, 1) := by decide +kernel
set_option maxHeartbeats 4000000 in
set_option maxRecDepth 100000 in
theorem B_X6_readBehind {G : zG} {X : zX} {kd : kD} {N0 : Nat} (C : zCt G X 45 0 0 RX6 cX6_readBehind 3) (hr : (zXh X).sig.returnType = (some .boolean)) : ∀ f : Nat,
    (∀ (S : aS) (v0 : Nat) (v1 : Nat) (v2 : Nat) (res : Option Value × aS), zT0 kd N0 S → v0 < N0 → kd v0 = .inl 5 → v1 < 31 → v2 < N0 → kd v2 = .inl 7 → F_X6_readBehind f 0 [.ref v0, .ref v1, .ref v2] S = some res → zV G X (zQX G X (zPo G kd N0 res) 0 0) 3 [some (.ref (zB G + v0)), some (.ref (zC G v1)), some (.ref (zB G + v2))] [] (cn G kd N0 S) 0 0 0) := by
  intro f
  induction f with
  | zero => exact (fun _ _ _ _ _ _ _ _ _ _ _ h => by cases h)
  | succ f ih =>
    have ih0 := ih
    intro S v0 v1 v2 res hT hpv0 hkv0 hwv1 hpv2 hkv2 hF
    replace hF : F_X6_readBehind_0 f (F_X6_readBehind f) v0 v1 v2 S = some res := hF
    unfold F_X6_readBehind_0 at hF
    refine f_gets C dX6_readBehind_0 fkRX6_141 C.2.2.2.2.2.1.2.2.2.2.2.2.1 ?_
    refine z_aload_n C dX6_readBehind_3 rfl ?_
    refine f_ord C dX6_readBehind_4 lkRX6_146 hwv1 hT (by decide) (Nat.le_of_ble_eq_true rfl) ?_
    obtain ⟨hi1, hF⟩ := bX_some hF
    obtain ⟨q1, eq1⟩ : ∃ q : Nat, q = Int32.toNatClampNeg (nI v1) := ⟨_, rfl⟩
    rw [← eq1] at hF
    refine f_ialdK C dX6_readBehind_7 C.2.2.2.2.2.1.2.2.2.2.2.2.2 hi1 ?_
    rw [← eq1]
    by_cases c4 : (zsw q1) = 1
    · replace hF := ip hF c4
      refine z_tabIn C 56 dX6_readBehind_8 (by rw [c4]; decide) (by rw [c4]; decide) (off := 48) (by rw [c4]; rfl) (by decide) ?_
      refine z_aload_n C dX6_readBehind_56 rfl ?_
      refine z_aload_n C dX6_readBehind_57 rfl ?_
      obtain ⟨x3, S3, h3, hF⟩ := bI_some hF
      refine f_cV (st2 := [.int x3]) C dX6_readBehind_58 zyX6_readYards zvX6_readYards lkRX6_150 (K_X6_readYards (l := zXl X) hT hpv0 hkv0 hpv2 hkv2 h3) hpv0 hkv0 rfl (by decide) rfl rfl (Nat.le_of_ble_eq_true rfl) rfl (fun hT3 => ?_)
      obtain ⟨hz, hF⟩ := bZ_some hF
      cases hF
      exact z_zret C hr hz.1 dX6_readBehind_61 ⟨rfl, rfl, hT3⟩
    replace hF := im hF c4
    by_cases c6 : (zsw q1) = 2
    · replace hF := ip hF c6
      refine z_tabIn C 62 dX6_readBehind_8 (by rw [c6]; decide) (by rw [c6]; decide) (off := 54) (by rw [c6]; rfl) (by decide) ?_
      refine z_aload_n C dX6_readBehind_62 rfl ?_
      refine z_aload_n C dX6_readBehind_63 rfl ?_
      obtain ⟨x5, S5, h5, hF⟩ := bI_some hF
      refine f_cV (st2 := [.int x5]) C dX6_readBehind_64 zyX6_readPerson zvX6_readPerson lkRX6_153 (K_X6_readPerson (l := zXl X) hT hpv0 hkv0 hpv2 hkv2 h5) hpv0 hkv0 rfl (by decide) rfl rfl (Nat.le_of_ble_eq_true rfl) rfl (fun hT5 => ?_)
      obtain ⟨hz, hF⟩ := bZ_some hF
      cases hF
      exact z_zret C hr hz.1 dX6_readBehind_67 ⟨rfl, rfl, hT5⟩
    replace hF := im hF c6
    by_cases c8 : (zsw q1) = 3
    · replace hF := ip hF c8
      refine z_tabIn C 68 dX6_readBehind_8 (by rw [c8]; decide) (by rw [c8]; decide) (off := 60) (by rw [c8]; rfl) (by decide) ?_
      refine z_aload_n C dX6_readBehind_68 rfl ?_
      refine z_aload_n C dX6_readBehind_69 rfl ?_
      obtain ⟨x7, S7, h7, hF⟩ := bI_some hF
      refine f_cV (st2 := [.int x7]) C dX6_readBehind_70 zyX6_readBin zvX6_readBin lkRX6_156 (K_X6_readBin (l := zXl X) hT hpv0 hkv0 hpv2 hkv2 h7) hpv0 hkv0 rfl (by decide) rfl rfl (Nat.le_of_ble_eq_true rfl) rfl (fun hT7 => ?_)
      obtain ⟨hz, hF⟩ := bZ_some hF
      cases hF
      exact z_zret C hr hz.1 dX6_readBehind_73 ⟨rfl, rfl, hT7⟩
    replace hF := im hF c8
    by_cases c10 : (zsw q1) = 4
    · replace hF := ip hF c10
      refine z_tabIn C 74 dX6_readBehind_8 (by rw [c10]; decide) (by rw [c10]; decide) (off := 66) (by rw [c10]; rfl) (by decide) ?_
      refine z_aload_n C dX6_readBehind_74 rfl ?_
      refine z_aload_n C dX6_readBehind_75 rfl ?_
      obtain ⟨x9, S9, h9, hF⟩ := bI_some hF
      refine f_cV (st2 := [.int x9]) C dX6_readBehind_76 zyX6_readHeap zvX6_readHeap lkRX6_159 (K_X6_readHeap (l := zXl X) hT hpv0 hkv0 hpv2 hkv2 h9) hpv0 hkv0 rfl (by decide) rfl rfl (Nat.le_of_ble_eq_true rfl) rfl (fun hT9 => ?_)
      obtain ⟨hz, hF⟩ := bZ_some hF
      cases hF
      exact z_zret C hr hz.1 dX6_readBehind_79 ⟨rfl, rfl, hT9⟩
    replace hF := im hF c10
    by_cases c12 : (zsw q1) = 5
    · replace hF := ip hF c12
      refine z_tabIn C 80 dX6_readBehind_8 (by rw [c12]; decide) (by rw [c12]; decide) (off := 72) (by rw [c12]; rfl) (by decide) ?_
      refine z_aload_n C dX6_readBehind_80 rfl ?_
      refine z_aload_n C dX6_readBehind_81 rfl ?_
      obtain ⟨x11, S11, h11, hF⟩ := bI_some hF
      refine f_cV (st2 := [.int x11]) C dX6_readBehind_82 zyX6_readWinds zvX6_readWinds lkRX6_162 (K_X6_readWinds (l := zXl X) hT hpv0 hkv0 hpv2 hkv2 h11) hpv0 hkv0 rfl (by decide) rfl rfl (Nat.le_of_ble_eq_true rfl) rfl (fun hT11 => ?_)
      obtain ⟨hz, hF⟩ := bZ_some hF
      cases hF
      exact z_zret C hr hz.1 dX6_readBehind_85 ⟨rfl, rfl, hT11⟩
    replace hF := im hF c12
    by_cases c14 : (zsw q1) = 6
    · replace hF := ip hF c14
      refine z_tabIn C 86 dX6_readBehind_8 (by rw [c14]; decide) (by rw [c14]; decide) (off := 78) (by rw [c14]; rfl) (by decide) ?_
      refine z_aload_n C dX6_readBehind_86 rfl ?_
      refine z_aload_n C dX6_readBehind_87 rfl ?_
      obtain ⟨x13, S13, h13, hF⟩ := bI_some hF
      refine f_cV (st2 := [.int x13]) C dX6_readBehind_88 zyX6_readPence zvX6_readPence lkRX6_165 (K_X6_readPence (l := zXl X) hT hpv0 hkv0 hpv2 hkv2 h13) hpv0 hkv0 rfl (by decide) rfl rfl (Nat.le_of_ble_eq_true rfl) rfl (fun hT13 => ?_)
      obtain ⟨hz, hF⟩ := bZ_some hF
      cases hF
      exact z_zret C hr hz.1 dX6_readBehind_91 ⟨rfl, rfl, hT13⟩
    replace hF := im hF c14
    by_cases c16 : (zsw q1) = 7
    · replace hF := ip hF c16
      refine z_tabIn C 92 dX6_readBehind_8 (by rw [c16]; decide) (by rw [c16]; decide) (off := 84) (by rw [c16]; rfl) (by decide) ?_
      refine z_aload_n C dX6_readBehind_92 rfl ?_
      refine z_aload_n C dX6_readBehind_93 rfl ?_
      obtain ⟨x15, S15, h15, hF⟩ := bI_some hF
      refine f_cV (st2 := [.int x15]) C dX6_readBehind_94 zyX6_readDeposit zvX6_readDeposit lkRX6_168 (K_X6_readDeposit (l := zXl X) hT hpv0 hkv0 hpv2 hkv2 h15) hpv0 hkv0 rfl (by decide) rfl rfl (Nat.le_of_ble_eq_true rfl) rfl (fun hT15 => ?_)
      obtain ⟨hz, hF⟩ := bZ_some hF
      cases hF
      exact z_zret C hr hz.1 dX6_readBehind_97 ⟨rfl, rfl, hT15⟩
    replace hF := im hF c16
    by_cases c19 : (zsw q1) = 8
    · replace hF := ip hF c19
      refine z_tabIn C 98 dX6_readBehind_8 (by rw [c19]; decide) (by rw [c19]; decide) (off := 90) (by rw [c19]; rfl) (by decide) ?_
      refine z_aload_n C dX6_readBehind_98 rfl ?_
      refine f_getr C dX6_readBehind_99 zfRX6_44 hpv0 hkv0 rfl ?_
      obtain ⟨hp17, hk17⟩ := hT.1 v0 5 12 (.inl 4) hpv0 hkv0 rfl
      refine z_aload_n C dX6_readBehind_102 rfl ?_
      refine z_iconst (v := 0) C dX6_readBehind_103 (by decide) ?_
      obtain ⟨x18, S18, h18, hF⟩ := bI_some hF
      refine f_cVN (st2 := [.int x18]) C dX6_readBehind_104 zyX5_readTests zvX5_readTests lkRX6_171 (K_X5_readTests (l := zXl X) hT hp17 hk17 hpv2 hkv2  h18) hp17 hk17 rfl (by decide) rfl rfl (Nat.le_of_ble_eq_true rfl) rfl (fun hT18 => ?_)
      obtain ⟨hz, hF⟩ := bZ_some hF
      cases hF
      exact z_zret C hr hz.1 dX6_readBehind_107 ⟨rfl, rfl, hT18⟩
    replace hF := im hF c19
    refine z_tabOut C 108 dX6_readBehind_8 (f_tabOut (fun v h1 h2 e => by
      rcases (show v = 1 ∨ v = 2 ∨ v = 3 ∨ v = 4 ∨ v = 5 ∨ v = 6 ∨ v = 7 ∨ v = 8 by omega) with rfl | rfl | rfl | rfl | rfl | rfl | rfl | rfl
      · exact c4 (Int32.toInt_inj.mp (e.trans (by decide)))
      · exact c6 (Int32.toInt_inj.mp (e.trans (by decide)))
      · exact c8 (Int32.toInt_inj.mp (e.trans (by decide)))
      · exact c10 (Int32.toInt_inj.mp (e.trans (by decide)))
      · exact c12 (Int32.toInt_inj.mp (e.trans (by decide)))
      · exact c14 (Int32.toInt_inj.mp (e.trans (by decide)))
      · exact c16 (Int32.toInt_inj.mp (e.trans (by decide)))
      · exact c19 (Int32.toInt_inj.mp (e.trans (by decide))))) (by decide) ?_
    refine z_aload_n C dX6_readBehind_108 rfl ?_
    refine f_getr C dX6_readBehind_109 zfRX6_48 hpv0 hkv0 rfl ?_
    obtain ⟨hp20, hk20⟩ := hT.1 v0 5 13 (.inl 4) hpv0 hkv0 rfl
    refine z_aload_n C dX6_readBehind_112 rfl ?_
    refine z_iconst (v := 0) C dX6_readBehind_113 (by decide) ?_
    obtain ⟨x21, S21, h21, hF⟩ := bI_some hF
    refine f_cVN (st2 := [.int x21]) C dX6_readBehind_114 zyX5_readTests zvX5_readTests lkRX6_171 (K_X5_readTests (l := zXl X) hT hp20 hk20 hpv2 hkv2  h21) hp20 hk20 rfl (by decide) rfl rfl (Nat.le_of_ble_eq_true rfl) rfl (fun hT21 => ?_)
    obtain ⟨hz, hF⟩ := bZ_some hF
    cases hF
    exact z_zret C hr hz.1 dX6_readBehind_117 ⟨rfl, rfl, hT21⟩
theorem K_X6_readBehind {G : zG} {l : Launch} {kd : kD} {N0 f : Nat} {S : aS} {v0 : Nat} {v1 : Nat} {v2 : Nat} {res : Option Value × aS} (hT : zT0 kd N0 S) (hpv0 : v0 < N0) (hkv0 : kd v0 = .inl 5) (hwv1 : v1 < 31) (hpv2 : v2 < N0) (hkv2 : kd v2 = .inl 7) (hF : F_X6_readBehind f 0 [.ref v0, .ref v1, .ref v2] S = some res) : zM G l 45 0 0 yX6_readBehind cX6_readBehind 3 (some .boolean) [.ref (zB G + v0), .ref (zC G v1), .ref (zB G + v2)] (cn G kd N0 S) (zPo G kd N0 res) := zM.of (by decide) rfl (Nat.le_of_ble_eq_true rfl) (fun X _ C hr _ => (B_X6_readBehind C hr f) S v0 v1 v2 res hT hpv0 hkv0 hwv1 hpv2 hkv2 hF)
def F_X7_placeBins_0 (f : Nat) (rc : Nat → List Value → aS → aR) (v0 : Nat) (v1 : Int32) (v2 : Int32) (S : aS) : aR :=
  bI (F_X4_binBits f 0 [.ref (gR S v0 0)] S) fun x2 S2 => rc 1 [.ref v0, .int v1, .int v2, .int x2, .int 0] S2
def F_X7_placeBins_1 (f : Nat) (rc : Nat → List Value → aS → aR) (v0 : Nat) (v1 : Int32) (v2 : Int32) (v3 : Int32) (v4 : Int32) (S : aS) : aR :=
  if ((1 : Int32) <<< ((gI S (gR S v0 0) 0) &&& 31)) ≤ v4 then some (none, S) else if (v4 &&& v3) = (0 : Int32) then bI (F_J6_bitCount_0f7a4 f 0 [.int v4] S) fun x9 S9 => if v1 < x9 then rc 2 [.ref v0, .int v1, .int v2, .int v3, .int v4] S9 else bI (F_X7_liesWithBins f 0 [.ref v0, .int v4, .int v2] S9) fun x12 S12 => bV (F_X7_offerSet f 0 [.ref v0, .int x12, .int v4] S12) fun S13 => rc 2 [.ref v0, .int v1, .int v2, .int v3, .int v4] S13 else rc 2 [.ref v0, .int v1, .int v2, .int v3, .int v4] S
def F_X7_placeBins_2 (f : Nat) (rc : Nat → List Value → aS → aR) (v0 : Nat) (v1 : Int32) (v2 : Int32) (v3 : Int32) (v4 : Int32) (S : aS) : aR :=
  rc 1 [.ref v0, .int v1, .int v2, .int v3, .int (v4 + 1)] S
def F_X7_placeBins : Nat → Nat → List Value → aS → aR
  | 0, _, _, _ => none
  | f + 1, 0, vs, S => F_X7_placeBins_0 f (F_X7_placeBins f) (vR vs 0) (vI vs 1) (vI vs 2) S
  | f + 1, 1, vs, S => F_X7_placeBins_1 f (F_X7_placeBins f) (vR vs 0) (vI vs 1) (vI vs 2) (vI vs 3) (vI vs 4) S
  | f + 1, 2, vs, S => F_X7_placeBins_2 f (F_X7_placeBins f) (vR vs 0) (vI vs 1) (vI vs 2) (vI vs 3) (vI vs 4) S
  | _ + 1, _, _, _ => none
theorem dX7_placeBins_0 : decode cX7_placeBins 0 = .ok (.aload_n 0, 1) := by decide +kernel
theorem dX7_placeBins_1 : decode cX7_placeBins 1 = .ok (.getfield 29, 3) := by decide +kernel
theorem dX7_placeBins_4 : decode cX7_placeBins 4 = .ok (.invokevirtual 59, 3) := by decide +kernel
theorem dX7_placeBins_7 : decode cX7_placeBins 7 = .ok (.istore_n 3, 1) := by decide +kernel
theorem dX7_placeBins_8 : decode cX7_placeBins 8 = .ok (.iconst 0, 1) := by decide +kernel
theorem dX7_placeBins_9 : decode cX7_placeBins 9 = .ok (.istore 4, 2) := by decide +kernel
theorem dX7_placeBins_11 : decode cX7_placeBins 11 = .ok (.iload 4, 2) := by decide +kernel
theorem dX7_placeBins_13 : decode cX7_placeBins 13 = .ok (.iconst 1, 1) := by decide +kernel
theorem dX7_placeBins_14 : decode cX7_placeBins 14 = .ok (.aload_n 0, 1) := by decide +kernel
theorem dX7_placeBins_15 : decode cX7_placeBins 15 = .ok (.getfield 29, 3) := by decide +kernel
theorem dX7_placeBins_18 : decode cX7_placeBins 18 = .ok (.getfield 63, 3) := by decide +kernel
theorem dX7_placeBins_21 : decode cX7_placeBins 21 = .ok (.ishl, 1) := by decide +kernel
theorem dX7_placeBins_22 : decode cX7_placeBins 22 = .ok (.if_icmp .ge 38, 3) := by decide +kernel
theorem dX7_placeBins_25 : decode cX7_placeBins 25 = .ok (.iload 4, 2) := by decide +kernel
theorem dX7_placeBins_27 : decode cX7_placeBins 27 = .ok (.iload_n 3, 1) := by decide +kernel
theorem dX7_placeBins_28 : decode cX7_placeBins 28 = .ok (.iand, 1) := by decide +kernel
theorem dX7_placeBins_29 : decode cX7_placeBins 29 = .ok (.ifCond .ne 25, 3) := by decide +kernel
theorem dX7_placeBins_32 : decode cX7_placeBins 32 = .ok (.iload 4, 2) := by decide +kernel
theorem dX7_placeBins_34 : decode cX7_placeBins 34 = .ok (.invokestatic 53, 3) := by decide +kernel
theorem dX7_placeBins_37 : decode cX7_placeBins 37 = .ok (.iload_n 1, 1) := by decide +kernel
theorem dX7_placeBins_38 : decode cX7_placeBins 38 = .ok (.if_icmp .gt 16, 3) := by decide +kernel
theorem dX7_placeBins_41 : decode cX7_placeBins 41 = .ok (.aload_n 0, 1) := by decide +kernel
theorem dX7_placeBins_42 : decode cX7_placeBins 42 = .ok (.aload_n 0, 1) := by decide +kernel
theorem dX7_placeBins_43 : decode cX7_placeBins 43 = .ok (.iload 4, 2) := by decide +kernel
theorem dX7_placeBins_45 : decode cX7_placeBins 45 = .ok (.iload_n 2, 1) := by decide +kernel
theorem dX7_placeBins_46 : decode cX7_placeBins 46 = .ok (.invokevirtual 66, 3) := by decide +kernel
theorem dX7_placeBins_49 : decode cX7_placeBins 49 = .ok (.iload 4, 2) := by decide +kernel
theorem dX7_placeBins_51 : decode cX7_placeBins 51 = .ok (.invokevirtual 70, 3) := by decide +kernel
theorem dX7_placeBins_54 : decode cX7_placeBins 54 = .ok (.iinc 4 1, 3) := by decide +kernel
theorem dX7_placeBins_57 : decode cX7_placeBins 57 = .ok (.goto (-46), 3) := by decide +kernel
theorem dX7_placeBins_60 : decode cX7_placeBins 60 = .ok (.return_, 1) := by decide +kernel
set_option maxHeartbeats 4000000 in
set_option maxRecDepth 100000 in
theorem B_X7_placeBins {G : zG} {X : zX} {kd : kD} {N0 : Nat} (C : zCt G X 6 0 0 RX7 cX7_placeBins 5) (hr : (zXh X).sig.returnType = none) : ∀ f : Nat,
    (∀ (S : aS) (v0 : Nat) (v1 : Int32) (v2 : Int32) (res : Option Value × aS), zT0 kd N0 S → v0 < N0 → kd v0 = .inl 6 → F_X7_placeBins f 0 [.ref v0, .int v1, .int v2] S = some res → zV G X (zQX G X (zPo G kd N0 res) 0 0) 5 [some (.ref (zB G + v0)), some (.int v1), some (.int v2), none, none] [] (cn G kd N0 S) 0 0 0) ∧
    (∀ (S : aS) (v0 : Nat) (v1 : Int32) (v2 : Int32) (v3 : Int32) (v4 : Int32) (res : Option Value × aS), zT0 kd N0 S → v0 < N0 → kd v0 = .inl 6 → F_X7_placeBins f 1 [.ref v0, .int v1, .int v2, .int v3, .int v4] S = some res → zV G X (zQX G X (zPo G kd N0 res) 0 0) 5 [some (.ref (zB G + v0)), some (.int v1), some (.int v2), some (.int v3), some (.int v4)] [] (cn G kd N0 S) 11 0 0) ∧
    (∀ (S : aS) (v0 : Nat) (v1 : Int32) (v2 : Int32) (v3 : Int32) (v4 : Int32) (res : Option Value × aS), zT0 kd N0 S → v0 < N0 → kd v0 = .inl 6 → F_X7_placeBins f 2 [.ref v0, .int v1, .int v2, .int v3, .int v4] S = some res → zV G X (zQX G X (zPo G kd N0 res) 0 0) 5 [some (.ref (zB G + v0)), some (.int v1), some (.int v2), some (.int v3), some (.int v4)] [] (cn G kd N0 S) 54 0 0) := by
  intro f
  induction f with
  | zero => exact ⟨(fun _ _ _ _ _ _ _ _ h => by cases h), (fun _ _ _ _ _ _ _ _ _ _ h => by cases h), (fun _ _ _ _ _ _ _ _ _ _ h => by cases h)⟩
  | succ f ih =>
    obtain ⟨ih0, ih1, ih2⟩ := ih
    refine ⟨?_, ?_, ?_⟩
    · intro S v0 v1 v2 res hT hpv0 hkv0 hF
      replace hF : F_X7_placeBins_0 f (F_X7_placeBins f) v0 v1 v2 S = some res := hF
      unfold F_X7_placeBins_0 at hF
      refine z_aload_n C dX7_placeBins_0 rfl ?_
      refine f_getr C dX7_placeBins_1 zfRX7_29 hpv0 hkv0 rfl ?_
      obtain ⟨hp1, hk1⟩ := hT.1 v0 6 0 (.inl 3) hpv0 hkv0 rfl
      obtain ⟨x2, S2, h2, hF⟩ := bI_some hF
      refine f_cV (st2 := [.int x2]) C dX7_placeBins_4 zyX4_binBits zvX4_binBits lkRX7_59 (K_X4_binBits (l := zXl X) hT hp1 hk1 h2) hp1 hk1 rfl (by decide) rfl rfl (Nat.le_of_ble_eq_true rfl) rfl (fun hT2 => ?_)
      refine z_istore_n (lv2 := [some (.ref (zB G + v0)), some (.int v1), some (.int v2), some (.int x2), none]) C dX7_placeBins_7 (by decide) rfl ?_
      refine z_iconst (v := 0) C dX7_placeBins_8 (by decide) ?_
      refine z_istore (lv2 := [some (.ref (zB G + v0)), some (.int v1), some (.int v2), some (.int x2), some (.int 0)]) C dX7_placeBins_9 (by decide) rfl ?_
      exact ih1 S2 v0 v1 v2 x2 0 res hT2 hpv0 hkv0     hF
    · intro S v0 v1 v2 v3 v4 res hT hpv0 hkv0 hF
      replace hF : F_X7_placeBins_1 f (F_X7_placeBins f) v0 v1 v2 v3 v4 S = some res := hF
      unfold F_X7_placeBins_1 at hF
      refine z_iload C dX7_placeBins_11 rfl ?_
      refine z_iconst (v := 1) C dX7_placeBins_13 (by decide) ?_
      refine z_aload_n C dX7_placeBins_14 rfl ?_
      refine f_getr C dX7_placeBins_15 zfRX7_29 hpv0 hkv0 rfl ?_
      obtain ⟨hp3, hk3⟩ := hT.1 v0 6 0 (.inl 3) hpv0 hkv0 rfl
      refine f_geti C dX7_placeBins_18 zfRX7_63 hp3 hk3 rfl ?_
      refine z_ishl C dX7_placeBins_21 ?_
      refine z_icmp_ge C 60 dX7_placeBins_22 (by decide) (fun c6 => ?_) (fun c6 => ?_)
      · replace hF := ip hF c6
        cases hF
        exact z_vret C hr dX7_placeBins_60 ⟨rfl, rfl, hT⟩
      · replace hF := im hF c6
        refine z_iload C dX7_placeBins_25 rfl ?_
        refine z_iload_n C dX7_placeBins_27 rfl ?_
        refine z_iand C dX7_placeBins_28 ?_
        refine z_if_ne C 54 dX7_placeBins_29 (by decide) (fun c8 => ?_) (fun c8 => ?_)
        · replace hF := im hF c8
          exact ih2 S v0 v1 v2 v3 v4 res hT hpv0 hkv0     hF
        · replace hF := ip hF c8
          refine z_iload C dX7_placeBins_32 rfl ?_
          obtain ⟨x9, S9, h9, hF⟩ := bI_some hF
          refine f_cS (st2 := [.int x9]) C dX7_placeBins_34 zyJ6_bitCount_0f7a4 zsJ6_bitCount_0f7a4 lkRX7_53 (K_J6_bitCount_0f7a4 (l := zXl X) hT  h9) (by decide) rfl rfl (Nat.le_of_ble_eq_true rfl) rfl (fun hT9 => ?_)
          refine z_iload_n C dX7_placeBins_37 rfl ?_
          refine z_icmp_gt C 54 dX7_placeBins_38 (by decide) (fun c11 => ?_) (fun c11 => ?_)
          · replace hF := ip hF c11
            exact ih2 S9 v0 v1 v2 v3 v4 res hT9 hpv0 hkv0     hF
          · replace hF := im hF c11
            refine z_aload_n C dX7_placeBins_41 rfl ?_
            refine z_aload_n C dX7_placeBins_42 rfl ?_
            refine z_iload C dX7_placeBins_43 rfl ?_
            refine z_iload_n C dX7_placeBins_45 rfl ?_
            obtain ⟨x12, S12, h12, hF⟩ := bI_some hF
            refine f_cV (st2 := [.int x12, .ref (zB G + v0)]) C dX7_placeBins_46 zyX7_liesWithBins zvX7_liesWithBins lkRX7_66 (K_X7_liesWithBins (l := zXl X) hT9 hpv0 hkv0   h12) hpv0 hkv0 rfl (by decide) rfl rfl (Nat.le_of_ble_eq_true rfl) rfl (fun hT12 => ?_)
            refine z_iload C dX7_placeBins_49 rfl ?_
            obtain ⟨S13, h13, hF⟩ := bV_some hF
            refine f_cV (st2 := []) C dX7_placeBins_51 zyX7_offerSet zvX7_offerSet lkRX7_70 (K_X7_offerSet (l := zXl X) hT12 hpv0 hkv0   h13) hpv0 hkv0 rfl (by decide) rfl rfl (Nat.le_of_ble_eq_true rfl) rfl (fun hT13 => ?_)
            exact ih2 S13 v0 v1 v2 v3 v4 res hT13 hpv0 hkv0     hF
    · intro S v0 v1 v2 v3 v4 res hT hpv0 hkv0 hF
      replace hF : F_X7_placeBins_2 f (F_X7_placeBins f) v0 v1 v2 v3 v4 S = some res := hF
      unfold F_X7_placeBins_2 at hF
      refine z_iinc (v := v4 + 1) (lv2 := [some (.ref (zB G + v0)), some (.int v1), some (.int v2), some (.int v3), some (.int (v4 + 1))]) C dX7_placeBins_54 rfl (by rw [show Int32.ofInt 1 = (1 : Int32) from by decide]) rfl ?_
      refine z_goto C 11 dX7_placeBins_57 (by decide) ?_
      exact ih1 S v0 v1 v2 v3 (v4 + 1) res hT hpv0 hkv0     hF
theorem K_X7_placeBins {G : zG} {l : Launch} {kd : kD} {N0 f : Nat} {S : aS} {v0 : Nat} {v1 : Int32} {v2 : Int32} {res : Option Value × aS} (hT : zT0 kd N0 S) (hpv0 : v0 < N0) (hkv0 : kd v0 = .inl 6) (hF : F_X7_placeBins f 0 [.ref v0, .int v1, .int v2] S = some res) : zM G l 6 0 0 yX7_placeBins cX7_placeBins 5 none [.ref (zB G + v0), .int v1, .int v2] (cn G kd N0 S) (zPo G kd N0 res) := zM.of (by decide) rfl (Nat.le_of_ble_eq_true rfl) (fun X _ C hr _ => (B_X7_placeBins C hr f).1 S v0 v1 v2 res hT hpv0 hkv0 hF)
def F_X7_bestMove_0 (f : Nat) (rc : Nat → List Value → aS → aR) (v0 : Nat) (S : aS) : aR :=
  bI (F_X9_liesAfterAll f 0 [.ref (gR S v0 1), .int ((-1))] S) fun x2 S2 => fS (sI S2 v0 7 x2) fun S3 => rc 1 [.ref v0, .int ((-1)), .int 0] S3
def F_X7_bestMove_1 (f : Nat) (rc : Nat → List Value → aS → aR) (v0 : Nat) (v1 : Int32) (v2 : Int32) (S : aS) : aR :=
  if (gI S (gR S v0 0) 0) ≤ v2 then some (some (.int v1), S) else rc 2 [.ref v0, .int v1, .int v2, .int 0] S
def F_X7_bestMove_2 (f : Nat) (rc : Nat → List Value → aS → aR) (v0 : Nat) (v1 : Int32) (v2 : Int32) (v3 : Int32) (S : aS) : aR :=
  if (gI S (gR S v0 0) 0) ≤ v3 then rc 1 [.ref v0, .int v1, .int (v2 + 1)] S else bI (F_X4_hasBin f 0 [.ref (gR S v0 0), .int v2] S) fun x14 S14 => if x14 = (0 : Int32) then rc 3 [.ref v0, .int v1, .int v2, .int v3] S14 else bI (F_X4_hasBin f 0 [.ref (gR S14 v0 0), .int v3] S14) fun x19 S19 => if x19 = (0 : Int32) then bI (F_X7_liesAfterMove f 0 [.ref v0, .int v2, .int v3] S19) fun x22 S22 => if (gI S22 v0 7) ≤ x22 then rc 3 [.ref v0, .int v1, .int v2, .int v3] S22 else fS (sI S22 v0 7 x22) fun S25 => rc 3 [.ref v0, .int (((8 : Int32) * v2) + v3), .int v2, .int v3] S25 else rc 3 [.ref v0, .int v1, .int v2, .int v3] S19
def F_X7_bestMove_3 (f : Nat) (rc : Nat → List Value → aS → aR) (v0 : Nat) (v1 : Int32) (v2 : Int32) (v3 : Int32) (S : aS) : aR :=
  rc 2 [.ref v0, .int v1, .int v2, .int (v3 + 1)] S
def F_X7_bestMove : Nat → Nat → List Value → aS → aR
  | 0, _, _, _ => none
  | f + 1, 0, vs, S => F_X7_bestMove_0 f (F_X7_bestMove f) (vR vs 0) S
  | f + 1, 1, vs, S => F_X7_bestMove_1 f (F_X7_bestMove f) (vR vs 0) (vI vs 1) (vI vs 2) S
  | f + 1, 2, vs, S => F_X7_bestMove_2 f (F_X7_bestMove f) (vR vs 0) (vI vs 1) (vI vs 2) (vI vs 3) S
  | f + 1, 3, vs, S => F_X7_bestMove_3 f (F_X7_bestMove f) (vR vs 0) (vI vs 1) (vI vs 2) (vI vs 3) S
  | _ + 1, _, _, _ => none
theorem dX7_bestMove_0 : decode cX7_bestMove 0 = .ok (.iconst (-1), 1) := by decide +kernel
theorem dX7_bestMove_1 : decode cX7_bestMove 1 = .ok (.istore_n 1, 1) := by decide +kernel
theorem dX7_bestMove_2 : decode cX7_bestMove 2 = .ok (.aload_n 0, 1) := by decide +kernel
theorem dX7_bestMove_3 : decode cX7_bestMove 3 = .ok (.aload_n 0, 1) := by decide +kernel
theorem dX7_bestMove_4 : decode cX7_bestMove 4 = .ok (.getfield 37, 3) := by decide +kernel
theorem dX7_bestMove_7 : decode cX7_bestMove 7 = .ok (.iconst (-1), 1) := by decide +kernel
theorem dX7_bestMove_8 : decode cX7_bestMove 8 = .ok (.invokevirtual 86, 3) := by decide +kernel
theorem dX7_bestMove_11 : decode cX7_bestMove 11 = .ok (.putfield 42, 3) := by decide +kernel
theorem dX7_bestMove_14 : decode cX7_bestMove 14 = .ok (.iconst 0, 1) := by decide +kernel
theorem dX7_bestMove_15 : decode cX7_bestMove 15 = .ok (.istore_n 2, 1) := by decide +kernel
theorem dX7_bestMove_16 : decode cX7_bestMove 16 = .ok (.iload_n 2, 1) := by decide +kernel
theorem dX7_bestMove_17 : decode cX7_bestMove 17 = .ok (.aload_n 0, 1) := by decide +kernel
theorem dX7_bestMove_18 : decode cX7_bestMove 18 = .ok (.getfield 29, 3) := by decide +kernel
theorem dX7_bestMove_21 : decode cX7_bestMove 21 = .ok (.getfield 63, 3) := by decide +kernel
theorem dX7_bestMove_24 : decode cX7_bestMove 24 = .ok (.if_icmp .ge 83, 3) := by decide +kernel
theorem dX7_bestMove_27 : decode cX7_bestMove 27 = .ok (.iconst 0, 1) := by decide +kernel
theorem dX7_bestMove_28 : decode cX7_bestMove 28 = .ok (.istore_n 3, 1) := by decide +kernel
theorem dX7_bestMove_29 : decode cX7_bestMove 29 = .ok (.iload_n 3, 1) := by decide +kernel
theorem dX7_bestMove_30 : decode cX7_bestMove 30 = .ok (.aload_n 0, 1) := by decide +kernel
theorem dX7_bestMove_31 : decode cX7_bestMove 31 = .ok (.getfield 29, 3) := by decide +kernel
theorem dX7_bestMove_34 : decode cX7_bestMove 34 = .ok (.getfield 63, 3) := by decide +kernel
theorem dX7_bestMove_37 : decode cX7_bestMove 37 = .ok (.if_icmp .ge 64, 3) := by decide +kernel
theorem dX7_bestMove_40 : decode cX7_bestMove 40 = .ok (.aload_n 0, 1) := by decide +kernel
theorem dX7_bestMove_41 : decode cX7_bestMove 41 = .ok (.getfield 29, 3) := by decide +kernel
theorem dX7_bestMove_44 : decode cX7_bestMove 44 = .ok (.iload_n 2, 1) := by decide +kernel
theorem dX7_bestMove_45 : decode cX7_bestMove 45 = .ok (.invokevirtual 89, 3) := by decide +kernel
theorem dX7_bestMove_48 : decode cX7_bestMove 48 = .ok (.ifCond .eq 47, 3) := by decide +kernel
theorem dX7_bestMove_51 : decode cX7_bestMove 51 = .ok (.aload_n 0, 1) := by decide +kernel
theorem dX7_bestMove_52 : decode cX7_bestMove 52 = .ok (.getfield 29, 3) := by decide +kernel
theorem dX7_bestMove_55 : decode cX7_bestMove 55 = .ok (.iload_n 3, 1) := by decide +kernel
theorem dX7_bestMove_56 : decode cX7_bestMove 56 = .ok (.invokevirtual 89, 3) := by decide +kernel
theorem dX7_bestMove_59 : decode cX7_bestMove 59 = .ok (.ifCond .eq 6, 3) := by decide +kernel
theorem dX7_bestMove_62 : decode cX7_bestMove 62 = .ok (.goto 33, 3) := by decide +kernel
theorem dX7_bestMove_65 : decode cX7_bestMove 65 = .ok (.aload_n 0, 1) := by decide +kernel
theorem dX7_bestMove_66 : decode cX7_bestMove 66 = .ok (.iload_n 2, 1) := by decide +kernel
theorem dX7_bestMove_67 : decode cX7_bestMove 67 = .ok (.iload_n 3, 1) := by decide +kernel
theorem dX7_bestMove_68 : decode cX7_bestMove 68 = .ok (.invokevirtual 93, 3) := by decide +kernel
theorem dX7_bestMove_71 : decode cX7_bestMove 71 = .ok (.istore 4, 2) := by decide +kernel
theorem dX7_bestMove_73 : decode cX7_bestMove 73 = .ok (.iload 4, 2) := by decide +kernel
theorem dX7_bestMove_75 : decode cX7_bestMove 75 = .ok (.aload_n 0, 1) := by decide +kernel
theorem dX7_bestMove_76 : decode cX7_bestMove 76 = .ok (.getfield 42, 3) := by decide +kernel
theorem dX7_bestMove_79 : decode cX7_bestMove 79 = .ok (.if_icmp .ge 16, 3) := by decide +kernel
theorem dX7_bestMove_82 : decode cX7_bestMove 82 = .ok (.aload_n 0, 1) := by decide +kernel
theorem dX7_bestMove_83 : decode cX7_bestMove 83 = .ok (.iload 4, 2) := by decide +kernel
theorem dX7_bestMove_85 : decode cX7_bestMove 85 = .ok (.putfield 42, 3) := by decide +kernel
theorem dX7_bestMove_88 : decode cX7_bestMove 88 = .ok (.bipush 8, 2) := by decide +kernel
theorem dX7_bestMove_90 : decode cX7_bestMove 90 = .ok (.iload_n 2, 1) := by decide +kernel
theorem dX7_bestMove_91 : decode cX7_bestMove 91 = .ok (.imul, 1) := by decide +kernel
theorem dX7_bestMove_92 : decode cX7_bestMove 92 = .ok (.iload_n 3, 1) := by decide +kernel
theorem dX7_bestMove_93 : decode cX7_bestMove 93 = .ok (.iadd, 1) := by decide +kernel
theorem dX7_bestMove_94 : decode cX7_bestMove 94 = .ok (.istore_n 1, 1) := by decide +kernel
theorem dX7_bestMove_95 : decode cX7_bestMove 95 = .ok (.iinc 3 1, 3) := by decide +kernel
theorem dX7_bestMove_98 : decode cX7_bestMove 98 = .ok (.goto (-69), 3) := by decide +kernel
theorem dX7_bestMove_101 : decode cX7_bestMove 101 = .ok (.iinc 2 1, 3) := by decide +kernel
theorem dX7_bestMove_104 : decode cX7_bestMove 104 = .ok (.goto (-88), 3) := by decide +kernel
theorem dX7_bestMove_107 : decode cX7_bestMove 107 = .ok (.iload_n 1, 1) := by decide +kernel
theorem dX7_bestMove_108 : decode cX7_bestMove 108 = .ok (.ireturn, 1) := by decide +kernel
set_option maxHeartbeats 4000000 in
set_option maxRecDepth 100000 in
theorem B_X7_bestMove {G : zG} {X : zX} {kd : kD} {N0 : Nat} (C : zCt G X 6 0 0 RX7 cX7_bestMove 5) (hr : (zXh X).sig.returnType = (some .int)) : ∀ f : Nat,
    (∀ (S : aS) (v0 : Nat) (res : Option Value × aS), zT0 kd N0 S → v0 < N0 → kd v0 = .inl 6 → F_X7_bestMove f 0 [.ref v0] S = some res → zV G X (zQX G X (zPo G kd N0 res) 0 0) 5 [some (.ref (zB G + v0)), none, none, none, none] [] (cn G kd N0 S) 0 0 0) ∧
    (∀ (S : aS) (v0 : Nat) (v1 : Int32) (v2 : Int32) (res : Option Value × aS), zT0 kd N0 S → v0 < N0 → kd v0 = .inl 6 → F_X7_bestMove f 1 [.ref v0, .int v1, .int v2] S = some res → zV G X (zQX G X (zPo G kd N0 res) 0 0) 5 [some (.ref (zB G + v0)), some (.int v1), some (.int v2), none, none] [] (cn G kd N0 S) 16 0 0) ∧
    (∀ (S : aS) (v0 : Nat) (v1 : Int32) (v2 : Int32) (v3 : Int32) (res : Option Value × aS), zT0 kd N0 S → v0 < N0 → kd v0 = .inl 6 → F_X7_bestMove f 2 [.ref v0, .int v1, .int v2, .int v3] S = some res → zV G X (zQX G X (zPo G kd N0 res) 0 0) 5 [some (.ref (zB G + v0)), some (.int v1), some (.int v2), some (.int v3), none] [] (cn G kd N0 S) 29 0 0) ∧
    (∀ (S : aS) (v0 : Nat) (v1 : Int32) (v2 : Int32) (v3 : Int32) (res : Option Value × aS), zT0 kd N0 S → v0 < N0 → kd v0 = .inl 6 → F_X7_bestMove f 3 [.ref v0, .int v1, .int v2, .int v3] S = some res → zV G X (zQX G X (zPo G kd N0 res) 0 0) 5 [some (.ref (zB G + v0)), some (.int v1), some (.int v2), some (.int v3), none] [] (cn G kd N0 S) 95 0 0) := by
  intro f
  induction f with
  | zero => exact ⟨(fun _ _ _ _ _ _ h => by cases h), (fun _ _ _ _ _ _ _ _ h => by cases h), (fun _ _ _ _ _ _ _ _ _ h => by cases h), (fun _ _ _ _ _ _ _ _ _ h => by cases h)⟩
  | succ f ih =>
    obtain ⟨ih0, ih1, ih2, ih3⟩ := ih
    refine ⟨?_, ?_, ?_, ?_⟩
    · intro S v0 res hT hpv0 hkv0 hF
      replace hF : F_X7_bestMove_0 f (F_X7_bestMove f) v0 S = some res := hF
      unfold F_X7_bestMove_0 at hF
      refine z_iconst (v := (-1)) C dX7_bestMove_0 (by decide) ?_
      refine z_istore_n (lv2 := [some (.ref (zB G + v0)), some (.int ((-1))), none, none, none]) C dX7_bestMove_1 (by decide) rfl ?_
      refine z_aload_n C dX7_bestMove_2 rfl ?_
      refine z_aload_n C dX7_bestMove_3 rfl ?_
      refine f_getr C dX7_bestMove_4 zfRX7_37 hpv0 hkv0 rfl ?_
      obtain ⟨hp1, hk1⟩ := hT.1 v0 6 1 (.inl 8) hpv0 hkv0 rfl
      refine z_iconst (v := (-1)) C dX7_bestMove_7 (by decide) ?_
      obtain ⟨x2, S2, h2, hF⟩ := bI_some hF
      refine f_cV (st2 := [.int x2, .ref (zB G + v0)]) C dX7_bestMove_8 zyX9_liesAfterAll zvX9_liesAfterAll lkRX7_86 (K_X9_liesAfterAll (l := zXl X) hT hp1 hk1  h2) hp1 hk1 rfl (by decide) rfl rfl (Nat.le_of_ble_eq_true rfl) rfl (fun hT2 => ?_)
      refine f_puti C dX7_bestMove_11 zfRX7_42 fw6_7 hpv0 hkv0 rfl rfl rfl ?_
      have hT3 : zT0 kd N0 (sI S2 v0 7 x2) := zT0_sI hT2
      replace hF := fS_e hF
      generalize sI S2 v0 7 x2 = S3 at hF hT3 ⊢
      refine z_iconst (v := 0) C dX7_bestMove_14 (by decide) ?_
      refine z_istore_n (lv2 := [some (.ref (zB G + v0)), some (.int ((-1))), some (.int 0), none, none]) C dX7_bestMove_15 (by decide) rfl ?_
      exact ih1 S3 v0 ((-1)) 0 res hT3 hpv0 hkv0   hF
    · intro S v0 v1 v2 res hT hpv0 hkv0 hF
      replace hF : F_X7_bestMove_1 f (F_X7_bestMove f) v0 v1 v2 S = some res := hF
      unfold F_X7_bestMove_1 at hF
      refine z_iload_n C dX7_bestMove_16 rfl ?_
      refine z_aload_n C dX7_bestMove_17 rfl ?_
      refine f_getr C dX7_bestMove_18 zfRX7_29 hpv0 hkv0 rfl ?_
      obtain ⟨hp4, hk4⟩ := hT.1 v0 6 0 (.inl 3) hpv0 hkv0 rfl
      refine f_geti C dX7_bestMove_21 zfRX7_63 hp4 hk4 rfl ?_
      refine z_icmp_ge C 107 dX7_bestMove_24 (by decide) (fun c8 => ?_) (fun c8 => ?_)
      · replace hF := ip hF c8
        refine z_iload_n C dX7_bestMove_107 rfl ?_
        cases hF
        exact z_iret C hr dX7_bestMove_108 ⟨rfl, rfl, hT⟩
      · replace hF := im hF c8
        refine z_iconst (v := 0) C dX7_bestMove_27 (by decide) ?_
        refine z_istore_n (lv2 := [some (.ref (zB G + v0)), some (.int v1), some (.int v2), some (.int 0), none]) C dX7_bestMove_28 (by decide) rfl ?_
        exact ih2 S v0 v1 v2 0 res hT hpv0 hkv0    hF
    · intro S v0 v1 v2 v3 res hT hpv0 hkv0 hF
      replace hF : F_X7_bestMove_2 f (F_X7_bestMove f) v0 v1 v2 v3 S = some res := hF
      unfold F_X7_bestMove_2 at hF
      refine z_iload_n C dX7_bestMove_29 rfl ?_
      refine z_aload_n C dX7_bestMove_30 rfl ?_
      refine f_getr C dX7_bestMove_31 zfRX7_29 hpv0 hkv0 rfl ?_
      obtain ⟨hp9, hk9⟩ := hT.1 v0 6 0 (.inl 3) hpv0 hkv0 rfl
      refine f_geti C dX7_bestMove_34 zfRX7_63 hp9 hk9 rfl ?_
      refine z_icmp_ge C 101 dX7_bestMove_37 (by decide) (fun c12 => ?_) (fun c12 => ?_)
      · replace hF := ip hF c12
        refine z_iinc (v := v2 + 1) (lv2 := [some (.ref (zB G + v0)), some (.int v1), some (.int (v2 + 1)), some (.int v3), none]) C dX7_bestMove_101 rfl (by rw [show Int32.ofInt 1 = (1 : Int32) from by decide]) rfl ?_
        refine z_goto C 16 dX7_bestMove_104 (by decide) ?_
        refine z_mask [true, true, true, false, true] ?_ rfl
        exact ih1 S v0 v1 (v2 + 1) res hT hpv0 hkv0   hF
      · replace hF := im hF c12
        refine z_aload_n C dX7_bestMove_40 rfl ?_
        refine f_getr C dX7_bestMove_41 zfRX7_29 hpv0 hkv0 rfl ?_
        obtain ⟨hp13, hk13⟩ := hT.1 v0 6 0 (.inl 3) hpv0 hkv0 rfl
        refine z_iload_n C dX7_bestMove_44 rfl ?_
        obtain ⟨x14, S14, h14, hF⟩ := bI_some hF
        refine f_cV (st2 := [.int x14]) C dX7_bestMove_45 zyX4_hasBin zvX4_hasBin lkRX7_89 (K_X4_hasBin (l := zXl X) hT hp13 hk13  h14) hp13 hk13 rfl (by decide) rfl rfl (Nat.le_of_ble_eq_true rfl) rfl (fun hT14 => ?_)
        refine z_if_eq C 95 dX7_bestMove_48 (by decide) (fun c17 => ?_) (fun c17 => ?_)
        · replace hF := ip hF c17
          exact ih3 S14 v0 v1 v2 v3 res hT14 hpv0 hkv0    hF
        · replace hF := im hF c17
          refine z_aload_n C dX7_bestMove_51 rfl ?_
          refine f_getr C dX7_bestMove_52 zfRX7_29 hpv0 hkv0 rfl ?_
          obtain ⟨hp18, hk18⟩ := hT14.1 v0 6 0 (.inl 3) hpv0 hkv0 rfl
          refine z_iload_n C dX7_bestMove_55 rfl ?_
          obtain ⟨x19, S19, h19, hF⟩ := bI_some hF
          refine f_cV (st2 := [.int x19]) C dX7_bestMove_56 zyX4_hasBin zvX4_hasBin lkRX7_89 (K_X4_hasBin (l := zXl X) hT14 hp18 hk18  h19) hp18 hk18 rfl (by decide) rfl rfl (Nat.le_of_ble_eq_true rfl) rfl (fun hT19 => ?_)
          refine z_if_eq C 65 dX7_bestMove_59 (by decide) (fun c21 => ?_) (fun c21 => ?_)
          · replace hF := ip hF c21
            refine z_aload_n C dX7_bestMove_65 rfl ?_
            refine z_iload_n C dX7_bestMove_66 rfl ?_
            refine z_iload_n C dX7_bestMove_67 rfl ?_
            obtain ⟨x22, S22, h22, hF⟩ := bI_some hF
            refine f_cV (st2 := [.int x22]) C dX7_bestMove_68 zyX7_liesAfterMove zvX7_liesAfterMove lkRX7_93 (K_X7_liesAfterMove (l := zXl X) hT19 hpv0 hkv0   h22) hpv0 hkv0 rfl (by decide) rfl rfl (Nat.le_of_ble_eq_true rfl) rfl (fun hT22 => ?_)
            refine z_istore (lv2 := [some (.ref (zB G + v0)), some (.int v1), some (.int v2), some (.int v3), some (.int x22)]) C dX7_bestMove_71 (by decide) rfl ?_
            refine z_iload C dX7_bestMove_73 rfl ?_
            refine z_aload_n C dX7_bestMove_75 rfl ?_
            refine f_geti C dX7_bestMove_76 zfRX7_42 hpv0 hkv0 rfl ?_
            refine z_icmp_ge C 95 dX7_bestMove_79 (by decide) (fun c24 => ?_) (fun c24 => ?_)
            · replace hF := ip hF c24
              refine z_mask [true, true, true, true, false] ?_ rfl
              exact ih3 S22 v0 v1 v2 v3 res hT22 hpv0 hkv0    hF
            · replace hF := im hF c24
              refine z_aload_n C dX7_bestMove_82 rfl ?_
              refine z_iload C dX7_bestMove_83 rfl ?_
              refine f_puti C dX7_bestMove_85 zfRX7_42 fw6_7 hpv0 hkv0 rfl rfl rfl ?_
              have hT25 : zT0 kd N0 (sI S22 v0 7 x22) := zT0_sI hT22
              replace hF := fS_e hF
              generalize sI S22 v0 7 x22 = S25 at hF hT25 ⊢
              refine z_bipush (v := 8) C dX7_bestMove_88 (by decide) ?_
              refine z_iload_n C dX7_bestMove_90 rfl ?_
              refine z_imul C dX7_bestMove_91 ?_
              refine z_iload_n C dX7_bestMove_92 rfl ?_
              refine z_iadd C dX7_bestMove_93 ?_
              refine z_istore_n (lv2 := [some (.ref (zB G + v0)), some (.int (((8 : Int32) * v2) + v3)), some (.int v2), some (.int v3), some (.int x22)]) C dX7_bestMove_94 (by decide) rfl ?_
              refine z_mask [true, true, true, true, false] ?_ rfl
              exact ih3 S25 v0 (((8 : Int32) * v2) + v3) v2 v3 res hT25 hpv0 hkv0    hF
          · replace hF := im hF c21
            refine z_goto C 95 dX7_bestMove_62 (by decide) ?_
            exact ih3 S19 v0 v1 v2 v3 res hT19 hpv0 hkv0    hF
    · intro S v0 v1 v2 v3 res hT hpv0 hkv0 hF
      replace hF : F_X7_bestMove_3 f (F_X7_bestMove f) v0 v1 v2 v3 S = some res := hF
      unfold F_X7_bestMove_3 at hF
      refine z_iinc (v := v3 + 1) (lv2 := [some (.ref (zB G + v0)), some (.int v1), some (.int v2), some (.int (v3 + 1)), none]) C dX7_bestMove_95 rfl (by rw [show Int32.ofInt 1 = (1 : Int32) from by decide]) rfl ?_
      refine z_goto C 29 dX7_bestMove_98 (by decide) ?_
      exact ih2 S v0 v1 v2 (v3 + 1) res hT hpv0 hkv0    hF
theorem K_X7_bestMove {G : zG} {l : Launch} {kd : kD} {N0 f : Nat} {S : aS} {v0 : Nat} {res : Option Value × aS} (hT : zT0 kd N0 S) (hpv0 : v0 < N0) (hkv0 : kd v0 = .inl 6) (hF : F_X7_bestMove f 0 [.ref v0] S = some res) : zM G l 6 0 0 yX7_bestMove cX7_bestMove 5 (some .int) [.ref (zB G + v0)] (cn G kd N0 S) (zPo G kd N0 res) := zM.of (by decide) rfl (Nat.le_of_ble_eq_true rfl) (fun X _ C hr _ => (B_X7_bestMove C hr f).1 S v0 res hT hpv0 hkv0 hF)
def F_X7_suspects_0 (f : Nat) (rc : Nat → List Value → aS → aR) (v0 : Nat) (v1 : Nat) (S : aS) : aR :=
  rc 1 [.ref v0, .ref v1, .int 0, .int 0] S
def F_X7_suspects_1 (f : Nat) (rc : Nat → List Value → aS → aR) (v0 : Nat) (v1 : Nat) (v2 : Int32) (v3 : Int32) (S : aS) : aR :=
  if (gI S (gR S v0 2) 1) ≤ v3 then some (some (.int v2), S) else bV (F_X7_tellChanges f 0 [.ref v0, .int v3] S) fun S4 => bX v3 6 fun q6 => bI (F_X2_agrees f 0 [.ref v1, .ref (gR S4 (gR S4 v0 6) q6), .int (gI S4 (gR S4 v0 0) 0)] S4) fun x8 S8 => lI (v2 ||| (if x8 = (0 : Int32) then (0 : Int32) else ((1 : Int32) <<< (v3 &&& 31)))) fun y11 => rc 1 [.ref v0, .ref v1, .int y11, .int (v3 + 1)] S8
def F_X7_suspects : Nat → Nat → List Value → aS → aR
  | 0, _, _, _ => none
  | f + 1, 0, vs, S => F_X7_suspects_0 f (F_X7_suspects f) (vR vs 0) (vR vs 1) S
  | f + 1, 1, vs, S => F_X7_suspects_1 f (F_X7_suspects f) (vR vs 0) (vR vs 1) (vI vs 2) (vI vs 3) S
  | _ + 1, _, _, _ => none
theorem dX7_suspects_0 : decode cX7_suspects 0 = .ok (.iconst 0, 1) := by decide +kernel
theorem dX7_suspects_1 : decode cX7_suspects 1 = .ok (.istore_n 2, 1) := by decide +kernel
theorem dX7_suspects_2 : decode cX7_suspects 2 = .ok (.iconst 0, 1) := by decide +kernel
theorem dX7_suspects_3 : decode cX7_suspects 3 = .ok (.istore_n 3, 1) := by decide +kernel
theorem dX7_suspects_4 : decode cX7_suspects 4 = .ok (.iload_n 3, 1) := by decide +kernel
theorem dX7_suspects_5 : decode cX7_suspects 5 = .ok (.aload_n 0, 1) := by decide +kernel
theorem dX7_suspects_6 : decode cX7_suspects 6 = .ok (.getfield 33, 3) := by decide +kernel
theorem dX7_suspects_9 : decode cX7_suspects 9 = .ok (.getfield 102, 3) := by decide +kernel
theorem dX7_suspects_12 : decode cX7_suspects 12 = .ok (.if_icmp .ge 44, 3) := by decide +kernel
theorem dX7_suspects_15 : decode cX7_suspects 15 = .ok (.aload_n 0, 1) := by decide +kernel
theorem dX7_suspects_16 : decode cX7_suspects 16 = .ok (.iload_n 3, 1) := by decide +kernel
theorem dX7_suspects_17 : decode cX7_suspects 17 = .ok (.invokevirtual 147, 3) := by decide +kernel
theorem dX7_suspects_20 : decode cX7_suspects 20 = .ok (.iload_n 2, 1) := by decide +kernel
theorem dX7_suspects_21 : decode cX7_suspects 21 = .ok (.aload_n 1, 1) := by decide +kernel
theorem dX7_suspects_22 : decode cX7_suspects 22 = .ok (.aload_n 0, 1) := by decide +kernel
theorem dX7_suspects_23 : decode cX7_suspects 23 = .ok (.getfield 26, 3) := by decide +kernel
theorem dX7_suspects_26 : decode cX7_suspects 26 = .ok (.iload_n 3, 1) := by decide +kernel
theorem dX7_suspects_27 : decode cX7_suspects 27 = .ok (.aaload, 1) := by decide +kernel
theorem dX7_suspects_28 : decode cX7_suspects 28 = .ok (.aload_n 0, 1) := by decide +kernel
theorem dX7_suspects_29 : decode cX7_suspects 29 = .ok (.getfield 29, 3) := by decide +kernel
theorem dX7_suspects_32 : decode cX7_suspects 32 = .ok (.getfield 63, 3) := by decide +kernel
theorem dX7_suspects_35 : decode cX7_suspects 35 = .ok (.invokevirtual 150, 3) := by decide +kernel
theorem dX7_suspects_38 : decode cX7_suspects 38 = .ok (.ifCond .eq 9, 3) := by decide +kernel
theorem dX7_suspects_41 : decode cX7_suspects 41 = .ok (.iconst 1, 1) := by decide +kernel
theorem dX7_suspects_42 : decode cX7_suspects 42 = .ok (.iload_n 3, 1) := by decide +kernel
theorem dX7_suspects_43 : decode cX7_suspects 43 = .ok (.ishl, 1) := by decide +kernel
theorem dX7_suspects_44 : decode cX7_suspects 44 = .ok (.goto 4, 3) := by decide +kernel
theorem dX7_suspects_47 : decode cX7_suspects 47 = .ok (.iconst 0, 1) := by decide +kernel
theorem dX7_suspects_48 : decode cX7_suspects 48 = .ok (.ior, 1) := by decide +kernel
theorem dX7_suspects_49 : decode cX7_suspects 49 = .ok (.istore_n 2, 1) := by decide +kernel
theorem dX7_suspects_50 : decode cX7_suspects 50 = .ok (.iinc 3 1, 3) := by decide +kernel
theorem dX7_suspects_53 : decode cX7_suspects 53 = .ok (.goto (-49), 3) := by decide +kernel
theorem dX7_suspects_56 : decode cX7_suspects 56 = .ok (.iload_n 2, 1) := by decide +kernel
theorem dX7_suspects_57 : decode cX7_suspects 57 = .ok (.ireturn, 1) := by decide +kernel
set_option maxHeartbeats 4000000 in
set_option maxRecDepth 100000 in
theorem B_X7_suspects {G : zG} {X : zX} {kd : kD} {N0 : Nat} (C : zCt G X 6 0 0 RX7 cX7_suspects 4) (hr : (zXh X).sig.returnType = (some .int)) : ∀ f : Nat,
    (∀ (S : aS) (v0 : Nat) (v1 : Nat) (res : Option Value × aS), zT0 kd N0 S → v0 < N0 → kd v0 = .inl 6 → v1 < N0 → kd v1 = .inl 1 → F_X7_suspects f 0 [.ref v0, .ref v1] S = some res → zV G X (zQX G X (zPo G kd N0 res) 0 0) 4 [some (.ref (zB G + v0)), some (.ref (zB G + v1)), none, none] [] (cn G kd N0 S) 0 0 0) ∧
    (∀ (S : aS) (v0 : Nat) (v1 : Nat) (v2 : Int32) (v3 : Int32) (res : Option Value × aS), zT0 kd N0 S → v0 < N0 → kd v0 = .inl 6 → v1 < N0 → kd v1 = .inl 1 → F_X7_suspects f 1 [.ref v0, .ref v1, .int v2, .int v3] S = some res → zV G X (zQX G X (zPo G kd N0 res) 0 0) 4 [some (.ref (zB G + v0)), some (.ref (zB G + v1)), some (.int v2), some (.int v3)] [] (cn G kd N0 S) 4 0 0) := by
  intro f
  induction f with
  | zero => exact ⟨(fun _ _ _ _ _ _ _ _ _ h => by cases h), (fun _ _ _ _ _ _ _ _ _ _ _ h => by cases h)⟩
  | succ f ih =>
    obtain ⟨ih0, ih1⟩ := ih
    refine ⟨?_, ?_⟩
    · intro S v0 v1 res hT hpv0 hkv0 hpv1 hkv1 hF
      replace hF : F_X7_suspects_0 f (F_X7_suspects f) v0 v1 S = some res := hF
      unfold F_X7_suspects_0 at hF
      refine z_iconst (v := 0) C dX7_suspects_0 (by decide) ?_
      refine z_istore_n (lv2 := [some (.ref (zB G + v0)), some (.ref (zB G + v1)), some (.int 0), none]) C dX7_suspects_1 (by decide) rfl ?_
      refine z_iconst (v := 0) C dX7_suspects_2 (by decide) ?_
      refine z_istore_n (lv2 := [some (.ref (zB G + v0)), some (.ref (zB G + v1)), some (.int 0), some (.int 0)]) C dX7_suspects_3 (by decide) rfl ?_
      exact ih1 S v0 v1 0 0 res hT hpv0 hkv0 hpv1 hkv1   hF
    · intro S v0 v1 v2 v3 res hT hpv0 hkv0 hpv1 hkv1 hF
      replace hF : F_X7_suspects_1 f (F_X7_suspects f) v0 v1 v2 v3 S = some res := hF
      unfold F_X7_suspects_1 at hF
      refine z_iload_n C dX7_suspects_4 rfl ?_
      refine z_aload_n C dX7_suspects_5 rfl ?_
      refine f_getr C dX7_suspects_6 zfRX7_33 hpv0 hkv0 rfl ?_
      obtain ⟨hp1, hk1⟩ := hT.1 v0 6 2 (.inl 5) hpv0 hkv0 rfl
      refine f_geti C dX7_suspects_9 zfRX7_102 hp1 hk1 rfl ?_
      refine z_icmp_ge C 56 dX7_suspects_12 (by decide) (fun c3 => ?_) (fun c3 => ?_)
      · replace hF := ip hF c3
        refine z_iload_n C dX7_suspects_56 rfl ?_
        cases hF
        exact z_iret C hr dX7_suspects_57 ⟨rfl, rfl, hT⟩
      · replace hF := im hF c3
        refine z_aload_n C dX7_suspects_15 rfl ?_
        refine z_iload_n C dX7_suspects_16 rfl ?_
        obtain ⟨S4, h4, hF⟩ := bV_some hF
        refine f_cV (st2 := []) C dX7_suspects_17 zyX7_tellChanges zvX7_tellChanges lkRX7_147 (K_X7_tellChanges (l := zXl X) hT hpv0 hkv0  h4) hpv0 hkv0 rfl (by decide) rfl rfl (Nat.le_of_ble_eq_true rfl) rfl (fun hT4 => ?_)
        refine z_iload_n C dX7_suspects_20 rfl ?_
        refine z_aload_n C dX7_suspects_21 rfl ?_
        refine z_aload_n C dX7_suspects_22 rfl ?_
        refine f_getr C dX7_suspects_23 zfRX7_26 hpv0 hkv0 rfl ?_
        obtain ⟨hp5, hk5⟩ := hT4.1 v0 6 6 (.inr (6, 6)) hpv0 hkv0 rfl
        refine z_iload_n C dX7_suspects_26 rfl ?_
        obtain ⟨hi6, hF⟩ := bX_some hF
        obtain ⟨q6, eq6⟩ : ∃ q : Nat, q = Int32.toNatClampNeg v3 := ⟨_, rfl⟩
        rw [← eq6] at hF
        refine f_aald C dX7_suspects_27 hp5 hk5 rfl rfl rfl hi6 ?_
        obtain ⟨hp6, hk6⟩ := hT4.2.1 (gR S4 v0 6) 6 6 (.inr (0, 8)) q6 hp5 hk5 rfl (by rw [eq6]; exact Nat.not_le.mp fun z => hi6 (Or.inr z))
        rw [← eq6]
        refine z_aload_n C dX7_suspects_28 rfl ?_
        refine f_getr C dX7_suspects_29 zfRX7_29 hpv0 hkv0 rfl ?_
        obtain ⟨hp7, hk7⟩ := hT4.1 v0 6 0 (.inl 3) hpv0 hkv0 rfl
        refine f_geti C dX7_suspects_32 zfRX7_63 hp7 hk7 rfl ?_
        obtain ⟨x8, S8, h8, hF⟩ := bI_some hF
        refine f_cV (st2 := [.int x8, .int v2]) C dX7_suspects_35 zyX2_agrees zvX2_agrees lkRX7_150 (K_X2_agrees (l := zXl X) hT4 hpv1 hkv1 hp6 hk6  h8) hpv1 hkv1 rfl (by decide) rfl rfl (Nat.le_of_ble_eq_true rfl) rfl (fun hT8 => ?_)
        have hJ10 : zV G X (zQX G X (zPo G kd N0 res) 0 0) 4 [some (.ref (zB G + v0)), some (.ref (zB G + v1)), some (.int v2), some (.int v3)] [.int (if x8 = (0 : Int32) then (0 : Int32) else ((1 : Int32) <<< (v3 &&& 31))), .int v2] (cn G kd N0 S8) 48 0 0 := by
          refine z_ior C dX7_suspects_48 ?_
          replace hF := lI_e hF
          generalize (v2 ||| (if x8 = (0 : Int32) then (0 : Int32) else ((1 : Int32) <<< (v3 &&& 31)))) = y11 at hF ⊢
          refine z_istore_n (lv2 := [some (.ref (zB G + v0)), some (.ref (zB G + v1)), some (.int y11), some (.int v3)]) C dX7_suspects_49 (by decide) rfl ?_
          refine z_iinc (v := v3 + 1) (lv2 := [some (.ref (zB G + v0)), some (.ref (zB G + v1)), some (.int y11), some (.int (v3 + 1))]) C dX7_suspects_50 rfl (by rw [show Int32.ofInt 1 = (1 : Int32) from by decide]) rfl ?_
          refine z_goto C 4 dX7_suspects_53 (by decide) ?_
          exact ih1 S8 v0 v1 y11 (v3 + 1) res hT8 hpv0 hkv0 hpv1 hkv1   hF
        refine z_if_eq C 47 dX7_suspects_38 (by decide) (fun c9 => ?_) (fun c9 => ?_)
        · refine z_iconst (v := 0) C dX7_suspects_47 (by decide) ?_
          exact zV.at hJ10 (by first | rfl | contradiction | (simp only [if_pos c9]; done)) (by first | rfl | contradiction | (simp only [if_pos c9]; done)) rfl rfl
        · refine z_iconst (v := 1) C dX7_suspects_41 (by decide) ?_
          refine z_iload_n C dX7_suspects_42 rfl ?_
          refine z_ishl C dX7_suspects_43 ?_
          refine z_goto C 48 dX7_suspects_44 (by decide) ?_
          exact zV.at hJ10 (by first | rfl | contradiction | (simp only [if_neg c9]; done)) (by first | rfl | contradiction | (simp only [if_neg c9]; done)) rfl rfl
theorem K_X7_suspects {G : zG} {l : Launch} {kd : kD} {N0 f : Nat} {S : aS} {v0 : Nat} {v1 : Nat} {res : Option Value × aS} (hT : zT0 kd N0 S) (hpv0 : v0 < N0) (hkv0 : kd v0 = .inl 6) (hpv1 : v1 < N0) (hkv1 : kd v1 = .inl 1) (hF : F_X7_suspects f 0 [.ref v0, .ref v1] S = some res) : zM G l 6 0 0 yX7_suspects cX7_suspects 4 (some .int) [.ref (zB G + v0), .ref (zB G + v1)] (cn G kd N0 S) (zPo G kd N0 res) := zM.of (by decide) rfl (Nat.le_of_ble_eq_true rfl) (fun X _ C hr _ => (B_X7_suspects C hr f).1 S v0 v1 res hT hpv0 hkv0 hpv1 hkv1 hF)
def F_X12_place_0 (f : Nat) (rc : Nat → List Value → aS → aR) (v0 : Nat) (v1 : Int32) (v2 : Int32) (v3 : Int32) (S : aS) : aR :=
  bI (F_X12_isWithin f 0 [.int v1, .int 0, .int 4] S) fun x1 S1 => if x1 = (0 : Int32) then rc 1 [] S1 else bI (F_X12_isWithin f 0 [.int v2, .int 1, .int 30] S1) fun x3 S3 => if x3 = (0 : Int32) then rc 1 [] S3 else bI (F_X12_isWithin f 0 [.int v3, .int 0, .int 1] S3) fun x5 S5 => if x5 = (0 : Int32) then rc 1 [] S5 else bV (F_X7_start f 0 [.ref (gR S5 v0 12)] S5) fun S8 => bV (F_X7_placeBins f 0 [.ref (gR S8 v0 12), .int v1, .int v2] S8) fun S10 => some (some (.int (if v3 = (0 : Int32) then (gI S10 (gR S10 v0 12) 7) else (gI S10 (gR S10 v0 12) 8))), S10)
def F_X12_place_1 (f : Nat) (rc : Nat → List Value → aS → aR)  (S : aS) : aR :=
  some (some (.int ((-1))), S)
def F_X12_place : Nat → Nat → List Value → aS → aR
  | 0, _, _, _ => none
  | f + 1, 0, vs, S => F_X12_place_0 f (F_X12_place f) (vR vs 0) (vI vs 1) (vI vs 2) (vI vs 3) S
  | f + 1, 1, vs, S => F_X12_place_1 f (F_X12_place f)  S
  | _ + 1, _, _, _ => none
theorem dX12_place_0 : decode cX12_place 0 = .ok (.iload_n 1, 1) := by decide +kernel
theorem dX12_place_1 : decode cX12_place 1 = .ok (.iconst 0, 1) := by decide +kernel
theorem dX12_place_2 : decode cX12_place 2 = .ok (.iconst 4, 1) := by decide +kernel
theorem dX12_place_3 : decode cX12_place 3 = .ok (.invokestatic 178, 3) := by decide +kernel
theorem dX12_place_6 : decode cX12_place 6 = .ok (.ifCond .eq 22, 3) := by decide +kernel
theorem dX12_place_9 : decode cX12_place 9 = .ok (.iload_n 2, 1) := by decide +kernel
theorem dX12_place_10 : decode cX12_place 10 = .ok (.iconst 1, 1) := by decide +kernel
theorem dX12_place_11 : decode cX12_place 11 = .ok (.bipush 30, 2) := by decide +kernel
theorem dX12_place_13 : decode cX12_place 13 = .ok (.invokestatic 178, 3) := by decide +kernel
theorem dX12_place_16 : decode cX12_place 16 = .ok (.ifCond .eq 12, 3) := by decide +kernel
theorem dX12_place_19 : decode cX12_place 19 = .ok (.iload_n 3, 1) := by decide +kernel
theorem dX12_place_20 : decode cX12_place 20 = .ok (.iconst 0, 1) := by decide +kernel
theorem dX12_place_21 : decode cX12_place 21 = .ok (.iconst 1, 1) := by decide +kernel
theorem dX12_place_22 : decode cX12_place 22 = .ok (.invokestatic 178, 3) := by decide +kernel
theorem dX12_place_25 : decode cX12_place 25 = .ok (.ifCond .ne 5, 3) := by decide +kernel
theorem dX12_place_28 : decode cX12_place 28 = .ok (.iconst (-1), 1) := by decide +kernel
theorem dX12_place_29 : decode cX12_place 29 = .ok (.ireturn, 1) := by decide +kernel
theorem dX12_place_30 : decode cX12_place 30 = .ok (.aload_n 0, 1) := by decide +kernel
theorem dX12_place_31 : decode cX12_place 31 = .ok (.getfield 79, 3) := by decide +kernel
theorem dX12_place_34 : decode cX12_place 34 = .ok (.invokevirtual 219, 3) := by decide +kernel
theorem dX12_place_37 : decode cX12_place 37 = .ok (.aload_n 0, 1) := by decide +kernel
theorem dX12_place_38 : decode cX12_place 38 = .ok (.getfield 79, 3) := by decide +kernel
theorem dX12_place_41 : decode cX12_place 41 = .ok (.iload_n 1, 1) := by decide +kernel
theorem dX12_place_42 : decode cX12_place 42 = .ok (.iload_n 2, 1) := by decide +kernel
theorem dX12_place_43 : decode cX12_place 43 = .ok (.invokevirtual 222, 3) := by decide +kernel
theorem dX12_place_46 : decode cX12_place 46 = .ok (.iload_n 3, 1) := by decide +kernel
theorem dX12_place_47 : decode cX12_place 47 = .ok (.ifCond .ne 13, 3) := by decide +kernel
theorem dX12_place_50 : decode cX12_place 50 = .ok (.aload_n 0, 1) := by decide +kernel
theorem dX12_place_51 : decode cX12_place 51 = .ok (.getfield 79, 3) := by decide +kernel
theorem dX12_place_54 : decode cX12_place 54 = .ok (.getfield 225, 3) := by decide +kernel
theorem dX12_place_57 : decode cX12_place 57 = .ok (.goto 10, 3) := by decide +kernel
theorem dX12_place_60 : decode cX12_place 60 = .ok (.aload_n 0, 1) := by decide +kernel
theorem dX12_place_61 : decode cX12_place 61 = .ok (.getfield 79, 3) := by decide +kernel
theorem dX12_place_64 : decode cX12_place 64 = .ok (.getfield 228, 3) := by decide +kernel
theorem dX12_place_67 : decode cX12_place 67 = .ok (.ireturn, 1) := by decide +kernel
set_option maxHeartbeats 4000000 in
set_option maxRecDepth 100000 in
theorem B_X12_place {G : zG} {X : zX} {kd : kD} {N0 : Nat} (C : zCt G X 7 0 0 RX12 cX12_place 4) (hr : (zXh X).sig.returnType = (some .int)) : ∀ f : Nat,
    (∀ (S : aS) (v0 : Nat) (v1 : Int32) (v2 : Int32) (v3 : Int32) (res : Option Value × aS), zT0 kd N0 S → v0 < N0 → kd v0 = .inl 10 → F_X12_place f 0 [.ref v0, .int v1, .int v2, .int v3] S = some res → zV G X (zQX G X (zPo G kd N0 res) 0 0) 4 [some (.ref (zB G + v0)), some (.int v1), some (.int v2), some (.int v3)] [] (cn G kd N0 S) 0 0 0) ∧
    (∀ (S : aS)  (res : Option Value × aS), zT0 kd N0 S → F_X12_place f 1 [] S = some res → zV G X (zQX G X (zPo G kd N0 res) 0 0) 4 [none, none, none, none] [] (cn G kd N0 S) 28 0 0) := by
  intro f
  induction f with
  | zero => exact ⟨(fun _ _ _ _ _ _ _ _ _ h => by cases h), (fun _ _ _ h => by cases h)⟩
  | succ f ih =>
    obtain ⟨ih0, ih1⟩ := ih
    refine ⟨?_, ?_⟩
    · intro S v0 v1 v2 v3 res hT hpv0 hkv0 hF
      replace hF : F_X12_place_0 f (F_X12_place f) v0 v1 v2 v3 S = some res := hF
      unfold F_X12_place_0 at hF
      refine z_iload_n C dX12_place_0 rfl ?_
      refine z_iconst (v := 0) C dX12_place_1 (by decide) ?_
      refine z_iconst (v := 4) C dX12_place_2 (by decide) ?_
      obtain ⟨x1, S1, h1, hF⟩ := bI_some hF
      refine f_cS (st2 := [.int x1]) C dX12_place_3 zyX12_isWithin zsX12_isWithin lkRX12_178 (K_X12_isWithin (l := zXl X) hT    h1) (by decide) rfl rfl (Nat.le_of_ble_eq_true rfl) rfl (fun hT1 => ?_)
      refine z_if_eq C 28 dX12_place_6 (by decide) (fun c2 => ?_) (fun c2 => ?_)
      · replace hF := ip hF c2
        refine z_mask [false, false, false, false] ?_ rfl
        exact ih1 S1  res hT1  hF
      · replace hF := im hF c2
        refine z_iload_n C dX12_place_9 rfl ?_
        refine z_iconst (v := 1) C dX12_place_10 (by decide) ?_
        refine z_bipush (v := 30) C dX12_place_11 (by decide) ?_
        obtain ⟨x3, S3, h3, hF⟩ := bI_some hF
        refine f_cS (st2 := [.int x3]) C dX12_place_13 zyX12_isWithin zsX12_isWithin lkRX12_178 (K_X12_isWithin (l := zXl X) hT1    h3) (by decide) rfl rfl (Nat.le_of_ble_eq_true rfl) rfl (fun hT3 => ?_)
        refine z_if_eq C 28 dX12_place_16 (by decide) (fun c4 => ?_) (fun c4 => ?_)
        · replace hF := ip hF c4
          refine z_mask [false, false, false, false] ?_ rfl
          exact ih1 S3  res hT3  hF
        · replace hF := im hF c4
          refine z_iload_n C dX12_place_19 rfl ?_
          refine z_iconst (v := 0) C dX12_place_20 (by decide) ?_
          refine z_iconst (v := 1) C dX12_place_21 (by decide) ?_
          obtain ⟨x5, S5, h5, hF⟩ := bI_some hF
          refine f_cS (st2 := [.int x5]) C dX12_place_22 zyX12_isWithin zsX12_isWithin lkRX12_178 (K_X12_isWithin (l := zXl X) hT3    h5) (by decide) rfl rfl (Nat.le_of_ble_eq_true rfl) rfl (fun hT5 => ?_)
          refine z_if_ne C 30 dX12_place_25 (by decide) (fun c6 => ?_) (fun c6 => ?_)
          · replace hF := im hF c6
            refine z_aload_n C dX12_place_30 rfl ?_
            refine f_getr C dX12_place_31 zfRX12_79 hpv0 hkv0 rfl ?_
            obtain ⟨hp7, hk7⟩ := hT5.1 v0 10 12 (.inl 6) hpv0 hkv0 rfl
            obtain ⟨S8, h8, hF⟩ := bV_some hF
            refine f_cV (st2 := []) C dX12_place_34 zyX7_start zvX7_start lkRX12_219 (K_X7_start (l := zXl X) hT5 hp7 hk7 h8) hp7 hk7 rfl (by decide) rfl rfl (Nat.le_of_ble_eq_true rfl) rfl (fun hT8 => ?_)
            refine z_aload_n C dX12_place_37 rfl ?_
            refine f_getr C dX12_place_38 zfRX12_79 hpv0 hkv0 rfl ?_
            obtain ⟨hp9, hk9⟩ := hT8.1 v0 10 12 (.inl 6) hpv0 hkv0 rfl
            refine z_iload_n C dX12_place_41 rfl ?_
            refine z_iload_n C dX12_place_42 rfl ?_
            obtain ⟨S10, h10, hF⟩ := bV_some hF
            refine f_cV (st2 := []) C dX12_place_43 zyX7_placeBins zvX7_placeBins lkRX12_222 (K_X7_placeBins (l := zXl X) hT8 hp9 hk9   h10) hp9 hk9 rfl (by decide) rfl rfl (Nat.le_of_ble_eq_true rfl) rfl (fun hT10 => ?_)
            refine z_iload_n C dX12_place_46 rfl ?_
            have hJ14 : zV G X (zQX G X (zPo G kd N0 res) 0 0) 4 [some (.ref (zB G + v0)), some (.int v1), some (.int v2), some (.int v3)] [.int (if v3 = (0 : Int32) then (gI S10 (gR S10 v0 12) 7) else (gI S10 (gR S10 v0 12) 8))] (cn G kd N0 S10) 67 0 0 := by
              cases hF
              exact z_iret C hr dX12_place_67 ⟨rfl, rfl, hT10⟩
            refine z_if_ne C 60 dX12_place_47 (by decide) (fun c11 => ?_) (fun c11 => ?_)
            · refine z_aload_n C dX12_place_60 rfl ?_
              refine f_getr C dX12_place_61 zfRX12_79 hpv0 hkv0 rfl ?_
              obtain ⟨hp12, hk12⟩ := hT10.1 v0 10 12 (.inl 6) hpv0 hkv0 rfl
              refine f_geti C dX12_place_64 zfRX12_228 hp12 hk12 rfl ?_
              exact zV.at hJ14 (by first | rfl | contradiction | (simp only [if_neg c11]; done)) (by first | rfl | contradiction | (simp only [if_neg c11]; done)) rfl rfl
            · refine z_aload_n C dX12_place_50 rfl ?_
              refine f_getr C dX12_place_51 zfRX12_79 hpv0 hkv0 rfl ?_
              obtain ⟨hp13, hk13⟩ := hT10.1 v0 10 12 (.inl 6) hpv0 hkv0 rfl
              refine f_geti C dX12_place_54 zfRX12_225 hp13 hk13 rfl ?_
              refine z_goto C 67 dX12_place_57 (by decide) ?_
              exact zV.at hJ14 (by first | rfl | contradiction | (simp only [if_pos c11]; done)) (by first | rfl | contradiction | (simp only [if_pos c11]; done)) rfl rfl
          · replace hF := ip hF c6
            refine z_mask [false, false, false, false] ?_ rfl
            exact ih1 S5  res hT5  hF
    · intro S  res hT  hF
      replace hF : F_X12_place_1 f (F_X12_place f)  S = some res := hF
      unfold F_X12_place_1 at hF
      refine z_iconst (v := (-1)) C dX12_place_28 (by decide) ?_
      cases hF
      exact z_iret C hr dX12_place_29 ⟨rfl, rfl, hT⟩
theorem K_X12_place {G : zG} {l : Launch} {kd : kD} {N0 f : Nat} {S : aS} {v0 : Nat} {v1 : Int32} {v2 : Int32} {v3 : Int32} {res : Option Value × aS} (hT : zT0 kd N0 S) (hpv0 : v0 < N0) (hkv0 : kd v0 = .inl 10) (hF : F_X12_place f 0 [.ref v0, .int v1, .int v2, .int v3] S = some res) : zM G l 7 0 0 yX12_place cX12_place 4 (some .int) [.ref (zB G + v0), .int v1, .int v2, .int v3] (cn G kd N0 S) (zPo G kd N0 res) := zM.of (by decide) rfl (Nat.le_of_ble_eq_true rfl) (fun X _ C hr _ => (B_X12_place C hr f).1 S v0 v1 v2 v3 res hT hpv0 hkv0 hF)
def F_X12_move_0 (f : Nat) (rc : Nat → List Value → aS → aR) (v0 : Nat) (S : aS) : aR :=
  bI (F_X7_bestMove f 0 [.ref (gR S v0 12)] S) fun x2 S2 => some (some (.int x2), S2)
def F_X12_move : Nat → Nat → List Value → aS → aR
  | 0, _, _, _ => none
  | f + 1, 0, vs, S => F_X12_move_0 f (F_X12_move f) (vR vs 0) S
  | _ + 1, _, _, _ => none
theorem dX12_move_0 : decode cX12_move 0 = .ok (.aload_n 0, 1) := by decide +kernel
theorem dX12_move_1 : decode cX12_move 1 = .ok (.getfield 79, 3) := by decide +kernel
theorem dX12_move_4 : decode cX12_move 4 = .ok (.invokevirtual 231, 3) := by decide +kernel
theorem dX12_move_7 : decode cX12_move 7 = .ok (.ireturn, 1) := by decide +kernel
set_option maxHeartbeats 4000000 in
set_option maxRecDepth 100000 in
theorem B_X12_move {G : zG} {X : zX} {kd : kD} {N0 : Nat} (C : zCt G X 7 0 0 RX12 cX12_move 1) (hr : (zXh X).sig.returnType = (some .int)) : ∀ f : Nat,
    (∀ (S : aS) (v0 : Nat) (res : Option Value × aS), zT0 kd N0 S → v0 < N0 → kd v0 = .inl 10 → F_X12_move f 0 [.ref v0] S = some res → zV G X (zQX G X (zPo G kd N0 res) 0 0) 1 [some (.ref (zB G + v0))] [] (cn G kd N0 S) 0 0 0) := by
  intro f
  induction f with
  | zero => exact (fun _ _ _ _ _ _ h => by cases h)
  | succ f ih =>
    have ih0 := ih
    intro S v0 res hT hpv0 hkv0 hF
    replace hF : F_X12_move_0 f (F_X12_move f) v0 S = some res := hF
    unfold F_X12_move_0 at hF
    refine z_aload_n C dX12_move_0 rfl ?_
    refine f_getr C dX12_move_1 zfRX12_79 hpv0 hkv0 rfl ?_
    obtain ⟨hp1, hk1⟩ := hT.1 v0 10 12 (.inl 6) hpv0 hkv0 rfl
    obtain ⟨x2, S2, h2, hF⟩ := bI_some hF
    refine f_cV (st2 := [.int x2]) C dX12_move_4 zyX7_bestMove zvX7_bestMove lkRX12_231 (K_X7_bestMove (l := zXl X) hT hp1 hk1 h2) hp1 hk1 rfl (by decide) rfl rfl (Nat.le_of_ble_eq_true rfl) rfl (fun hT2 => ?_)
    cases hF
    exact z_iret C hr dX12_move_7 ⟨rfl, rfl, hT2⟩
theorem K_X12_move {G : zG} {l : Launch} {kd : kD} {N0 f : Nat} {S : aS} {v0 : Nat} {res : Option Value × aS} (hT : zT0 kd N0 S) (hpv0 : v0 < N0) (hkv0 : kd v0 = .inl 10) (hF : F_X12_move f 0 [.ref v0] S = some res) : zM G l 7 0 0 yX12_move cX12_move 1 (some .int) [.ref (zB G + v0)] (cn G kd N0 S) (zPo G kd N0 res) := zM.of (by decide) rfl (Nat.le_of_ble_eq_true rfl) (fun X _ C hr _ => (B_X12_move C hr f) S v0 res hT hpv0 hkv0 hF)
def F_X12_rounds_0 (f : Nat) (rc : Nat → List Value → aS → aR) (v0 : Nat) (v1 : Int32) (v2 : Int32) (v3 : Int32) (S : aS) : aR :=
  bI (F_X12_isWithin f 0 [.int v1, .int 1, .int 6] S) fun x1 S1 => if x1 = (0 : Int32) then rc 1 [] S1 else bI (F_X12_isWithin f 0 [.int v2, .int 0, .int 6] S1) fun x3 S3 => if x3 = (0 : Int32) then rc 1 [] S3 else bI (F_X12_isWithin f 0 [.int v3, .int 0, .int 1] S3) fun x5 S5 => if x5 = (0 : Int32) then rc 1 [] S5 else bV (F_X7_start f 0 [.ref (gR S5 v0 12)] S5) fun S8 => bV (F_X7_tryRounds f 0 [.ref (gR S8 v0 12), .int 0, .int v1, .int v2, .int 0] S8) fun S10 => some (some (.int (if v3 = (0 : Int32) then (gI S10 (gR S10 v0 12) 7) else (gI S10 (gR S10 v0 12) 8))), S10)
def F_X12_rounds_1 (f : Nat) (rc : Nat → List Value → aS → aR)  (S : aS) : aR :=
  some (some (.int ((-1))), S)
def F_X12_rounds : Nat → Nat → List Value → aS → aR
  | 0, _, _, _ => none
  | f + 1, 0, vs, S => F_X12_rounds_0 f (F_X12_rounds f) (vR vs 0) (vI vs 1) (vI vs 2) (vI vs 3) S
  | f + 1, 1, vs, S => F_X12_rounds_1 f (F_X12_rounds f)  S
  | _ + 1, _, _, _ => none
theorem dX12_rounds_0 : decode cX12_rounds 0 = .ok (.iload_n 1, 1) := by decide +kernel
theorem dX12_rounds_1 : decode cX12_rounds 1 = .ok (.iconst 1, 1) := by decide +kernel
theorem dX12_rounds_2 : decode cX12_rounds 2 = .ok (.bipush 6, 2) := by decide +kernel
theorem dX12_rounds_4 : decode cX12_rounds 4 = .ok (.invokestatic 178, 3) := by decide +kernel
theorem dX12_rounds_7 : decode cX12_rounds 7 = .ok (.ifCond .eq 22, 3) := by decide +kernel
theorem dX12_rounds_10 : decode cX12_rounds 10 = .ok (.iload_n 2, 1) := by decide +kernel
theorem dX12_rounds_11 : decode cX12_rounds 11 = .ok (.iconst 0, 1) := by decide +kernel
theorem dX12_rounds_12 : decode cX12_rounds 12 = .ok (.bipush 6, 2) := by decide +kernel
theorem dX12_rounds_14 : decode cX12_rounds 14 = .ok (.invokestatic 178, 3) := by decide +kernel
theorem dX12_rounds_17 : decode cX12_rounds 17 = .ok (.ifCond .eq 12, 3) := by decide +kernel
theorem dX12_rounds_20 : decode cX12_rounds 20 = .ok (.iload_n 3, 1) := by decide +kernel
theorem dX12_rounds_21 : decode cX12_rounds 21 = .ok (.iconst 0, 1) := by decide +kernel
theorem dX12_rounds_22 : decode cX12_rounds 22 = .ok (.iconst 1, 1) := by decide +kernel
theorem dX12_rounds_23 : decode cX12_rounds 23 = .ok (.invokestatic 178, 3) := by decide +kernel
theorem dX12_rounds_26 : decode cX12_rounds 26 = .ok (.ifCond .ne 5, 3) := by decide +kernel
theorem dX12_rounds_29 : decode cX12_rounds 29 = .ok (.iconst (-1), 1) := by decide +kernel
theorem dX12_rounds_30 : decode cX12_rounds 30 = .ok (.ireturn, 1) := by decide +kernel
theorem dX12_rounds_31 : decode cX12_rounds 31 = .ok (.aload_n 0, 1) := by decide +kernel
theorem dX12_rounds_32 : decode cX12_rounds 32 = .ok (.getfield 79, 3) := by decide +kernel
theorem dX12_rounds_35 : decode cX12_rounds 35 = .ok (.invokevirtual 219, 3) := by decide +kernel
theorem dX12_rounds_38 : decode cX12_rounds 38 = .ok (.aload_n 0, 1) := by decide +kernel
theorem dX12_rounds_39 : decode cX12_rounds 39 = .ok (.getfield 79, 3) := by decide +kernel
theorem dX12_rounds_42 : decode cX12_rounds 42 = .ok (.iconst 0, 1) := by decide +kernel
theorem dX12_rounds_43 : decode cX12_rounds 43 = .ok (.iload_n 1, 1) := by decide +kernel
theorem dX12_rounds_44 : decode cX12_rounds 44 = .ok (.iload_n 2, 1) := by decide +kernel
theorem dX12_rounds_45 : decode cX12_rounds 45 = .ok (.iconst 0, 1) := by decide +kernel
theorem dX12_rounds_46 : decode cX12_rounds 46 = .ok (.invokevirtual 249, 3) := by decide +kernel
theorem dX12_rounds_49 : decode cX12_rounds 49 = .ok (.iload_n 3, 1) := by decide +kernel
theorem dX12_rounds_50 : decode cX12_rounds 50 = .ok (.ifCond .ne 13, 3) := by decide +kernel
theorem dX12_rounds_53 : decode cX12_rounds 53 = .ok (.aload_n 0, 1) := by decide +kernel
theorem dX12_rounds_54 : decode cX12_rounds 54 = .ok (.getfield 79, 3) := by decide +kernel
theorem dX12_rounds_57 : decode cX12_rounds 57 = .ok (.getfield 225, 3) := by decide +kernel
theorem dX12_rounds_60 : decode cX12_rounds 60 = .ok (.goto 10, 3) := by decide +kernel
theorem dX12_rounds_63 : decode cX12_rounds 63 = .ok (.aload_n 0, 1) := by decide +kernel
theorem dX12_rounds_64 : decode cX12_rounds 64 = .ok (.getfield 79, 3) := by decide +kernel
theorem dX12_rounds_67 : decode cX12_rounds 67 = .ok (.getfield 228, 3) := by decide +kernel
theorem dX12_rounds_70 : decode cX12_rounds 70 = .ok (.ireturn, 1) := by decide +kernel
set_option maxHeartbeats 4000000 in
set_option maxRecDepth 100000 in
theorem B_X12_rounds {G : zG} {X : zX} {kd : kD} {N0 : Nat} (C : zCt G X 17 0 0 RX12 cX12_rounds 4) (hr : (zXh X).sig.returnType = (some .int)) : ∀ f : Nat,
    (∀ (S : aS) (v0 : Nat) (v1 : Int32) (v2 : Int32) (v3 : Int32) (res : Option Value × aS), zT0 kd N0 S → v0 < N0 → kd v0 = .inl 10 → F_X12_rounds f 0 [.ref v0, .int v1, .int v2, .int v3] S = some res → zV G X (zQX G X (zPo G kd N0 res) 0 0) 4 [some (.ref (zB G + v0)), some (.int v1), some (.int v2), some (.int v3)] [] (cn G kd N0 S) 0 0 0) ∧
    (∀ (S : aS)  (res : Option Value × aS), zT0 kd N0 S → F_X12_rounds f 1 [] S = some res → zV G X (zQX G X (zPo G kd N0 res) 0 0) 4 [none, none, none, none] [] (cn G kd N0 S) 29 0 0) := by
  intro f
  induction f with
  | zero => exact ⟨(fun _ _ _ _ _ _ _ _ _ h => by cases h), (fun _ _ _ h => by cases h)⟩
  | succ f ih =>
    obtain ⟨ih0, ih1⟩ := ih
    refine ⟨?_, ?_⟩
    · intro S v0 v1 v2 v3 res hT hpv0 hkv0 hF
      replace hF : F_X12_rounds_0 f (F_X12_rounds f) v0 v1 v2 v3 S = some res := hF
      unfold F_X12_rounds_0 at hF
      refine z_iload_n C dX12_rounds_0 rfl ?_
      refine z_iconst (v := 1) C dX12_rounds_1 (by decide) ?_
      refine z_bipush (v := 6) C dX12_rounds_2 (by decide) ?_
      obtain ⟨x1, S1, h1, hF⟩ := bI_some hF
      refine f_cS (st2 := [.int x1]) C dX12_rounds_4 zyX12_isWithin zsX12_isWithin lkRX12_178 (K_X12_isWithin (l := zXl X) hT    h1) (by decide) rfl rfl (Nat.le_of_ble_eq_true rfl) rfl (fun hT1 => ?_)
      refine z_if_eq C 29 dX12_rounds_7 (by decide) (fun c2 => ?_) (fun c2 => ?_)
      · replace hF := ip hF c2
        refine z_mask [false, false, false, false] ?_ rfl
        exact ih1 S1  res hT1  hF
      · replace hF := im hF c2
        refine z_iload_n C dX12_rounds_10 rfl ?_
        refine z_iconst (v := 0) C dX12_rounds_11 (by decide) ?_
        refine z_bipush (v := 6) C dX12_rounds_12 (by decide) ?_
        obtain ⟨x3, S3, h3, hF⟩ := bI_some hF
        refine f_cS (st2 := [.int x3]) C dX12_rounds_14 zyX12_isWithin zsX12_isWithin lkRX12_178 (K_X12_isWithin (l := zXl X) hT1    h3) (by decide) rfl rfl (Nat.le_of_ble_eq_true rfl) rfl (fun hT3 => ?_)
        refine z_if_eq C 29 dX12_rounds_17 (by decide) (fun c4 => ?_) (fun c4 => ?_)
        · replace hF := ip hF c4
          refine z_mask [false, false, false, false] ?_ rfl
          exact ih1 S3  res hT3  hF
        · replace hF := im hF c4
          refine z_iload_n C dX12_rounds_20 rfl ?_
          refine z_iconst (v := 0) C dX12_rounds_21 (by decide) ?_
          refine z_iconst (v := 1) C dX12_rounds_22 (by decide) ?_
          obtain ⟨x5, S5, h5, hF⟩ := bI_some hF
          refine f_cS (st2 := [.int x5]) C dX12_rounds_23 zyX12_isWithin zsX12_isWithin lkRX12_178 (K_X12_isWithin (l := zXl X) hT3    h5) (by decide) rfl rfl (Nat.le_of_ble_eq_true rfl) rfl (fun hT5 => ?_)
          refine z_if_ne C 31 dX12_rounds_26 (by decide) (fun c6 => ?_) (fun c6 => ?_)
          · replace hF := im hF c6
            refine z_aload_n C dX12_rounds_31 rfl ?_
            refine f_getr C dX12_rounds_32 zfRX12_79 hpv0 hkv0 rfl ?_
            obtain ⟨hp7, hk7⟩ := hT5.1 v0 10 12 (.inl 6) hpv0 hkv0 rfl
            obtain ⟨S8, h8, hF⟩ := bV_some hF
            refine f_cV (st2 := []) C dX12_rounds_35 zyX7_start zvX7_start lkRX12_219 (K_X7_start (l := zXl X) hT5 hp7 hk7 h8) hp7 hk7 rfl (by decide) rfl rfl (Nat.le_of_ble_eq_true rfl) rfl (fun hT8 => ?_)
            refine z_aload_n C dX12_rounds_38 rfl ?_
            refine f_getr C dX12_rounds_39 zfRX12_79 hpv0 hkv0 rfl ?_
            obtain ⟨hp9, hk9⟩ := hT8.1 v0 10 12 (.inl 6) hpv0 hkv0 rfl
            refine z_iconst (v := 0) C dX12_rounds_42 (by decide) ?_
            refine z_iload_n C dX12_rounds_43 rfl ?_
            refine z_iload_n C dX12_rounds_44 rfl ?_
            refine z_iconst (v := 0) C dX12_rounds_45 (by decide) ?_
            obtain ⟨S10, h10, hF⟩ := bV_some hF
            refine f_cVN (st2 := []) C dX12_rounds_46 zyX7_tryRounds zvX7_tryRounds lkRX12_249 (K_X7_tryRounds (l := zXl X) hT8 hp9 hk9     h10) hp9 hk9 rfl (by decide) rfl rfl (Nat.le_of_ble_eq_true rfl) rfl (fun hT10 => ?_)
            refine z_iload_n C dX12_rounds_49 rfl ?_
            have hJ14 : zV G X (zQX G X (zPo G kd N0 res) 0 0) 4 [some (.ref (zB G + v0)), some (.int v1), some (.int v2), some (.int v3)] [.int (if v3 = (0 : Int32) then (gI S10 (gR S10 v0 12) 7) else (gI S10 (gR S10 v0 12) 8))] (cn G kd N0 S10) 70 0 0 := by
              cases hF
              exact z_iret C hr dX12_rounds_70 ⟨rfl, rfl, hT10⟩
            refine z_if_ne C 63 dX12_rounds_50 (by decide) (fun c11 => ?_) (fun c11 => ?_)
            · refine z_aload_n C dX12_rounds_63 rfl ?_
              refine f_getr C dX12_rounds_64 zfRX12_79 hpv0 hkv0 rfl ?_
              obtain ⟨hp12, hk12⟩ := hT10.1 v0 10 12 (.inl 6) hpv0 hkv0 rfl
              refine f_geti C dX12_rounds_67 zfRX12_228 hp12 hk12 rfl ?_
              exact zV.at hJ14 (by first | rfl | contradiction | (simp only [if_neg c11]; done)) (by first | rfl | contradiction | (simp only [if_neg c11]; done)) rfl rfl
            · refine z_aload_n C dX12_rounds_53 rfl ?_
              refine f_getr C dX12_rounds_54 zfRX12_79 hpv0 hkv0 rfl ?_
              obtain ⟨hp13, hk13⟩ := hT10.1 v0 10 12 (.inl 6) hpv0 hkv0 rfl
              refine f_geti C dX12_rounds_57 zfRX12_225 hp13 hk13 rfl ?_
              refine z_goto C 70 dX12_rounds_60 (by decide) ?_
              exact zV.at hJ14 (by first | rfl | contradiction | (simp only [if_pos c11]; done)) (by first | rfl | contradiction | (simp only [if_pos c11]; done)) rfl rfl
          · replace hF := ip hF c6
            refine z_mask [false, false, false, false] ?_ rfl
            exact ih1 S5  res hT5  hF
    · intro S  res hT  hF
      replace hF : F_X12_rounds_1 f (F_X12_rounds f)  S = some res := hF
      unfold F_X12_rounds_1 at hF
      refine z_iconst (v := (-1)) C dX12_rounds_29 (by decide) ?_
      cases hF
      exact z_iret C hr dX12_rounds_30 ⟨rfl, rfl, hT⟩
theorem K_X12_rounds {G : zG} {l : Launch} {kd : kD} {N0 f : Nat} {S : aS} {v0 : Nat} {v1 : Int32} {v2 : Int32} {v3 : Int32} {res : Option Value × aS} (hT : zT0 kd N0 S) (hpv0 : v0 < N0) (hkv0 : kd v0 = .inl 10) (hF : F_X12_rounds f 0 [.ref v0, .int v1, .int v2, .int v3] S = some res) : zM G l 17 0 0 yX12_rounds cX12_rounds 4 (some .int) [.ref (zB G + v0), .int v1, .int v2, .int v3] (cn G kd N0 S) (zPo G kd N0 res) := zM.of (by decide) rfl (Nat.le_of_ble_eq_true rfl) (fun X _ C hr _ => (B_X12_rounds C hr f).1 S v0 v1 v2 v3 res hT hpv0 hkv0 hF)
def F_X12_who_0 (f : Nat) (rc : Nat → List Value → aS → aR) (v0 : Nat) (S : aS) : aR :=
  bI (F_X7_suspects f 0 [.ref (gR S v0 12), .ref (gR S v0 6)] S) fun x3 S3 => some (some (.int x3), S3)
def F_X12_who : Nat → Nat → List Value → aS → aR
  | 0, _, _, _ => none
  | f + 1, 0, vs, S => F_X12_who_0 f (F_X12_who f) (vR vs 0) S
  | _ + 1, _, _, _ => none
theorem dX12_who_0 : decode cX12_who 0 = .ok (.aload_n 0, 1) := by decide +kernel
theorem dX12_who_1 : decode cX12_who 1 = .ok (.getfield 79, 3) := by decide +kernel
theorem dX12_who_4 : decode cX12_who 4 = .ok (.aload_n 0, 1) := by decide +kernel
theorem dX12_who_5 : decode cX12_who 5 = .ok (.getfield 46, 3) := by decide +kernel
theorem dX12_who_8 : decode cX12_who 8 = .ok (.invokevirtual 265, 3) := by decide +kernel
theorem dX12_who_11 : decode cX12_who 11 = .ok (.ireturn, 1) := by decide +kernel
set_option maxHeartbeats 4000000 in
set_option maxRecDepth 100000 in
theorem B_X12_who {G : zG} {X : zX} {kd : kD} {N0 : Nat} (C : zCt G X 7 0 0 RX12 cX12_who 1) (hr : (zXh X).sig.returnType = (some .int)) : ∀ f : Nat,
    (∀ (S : aS) (v0 : Nat) (res : Option Value × aS), zT0 kd N0 S → v0 < N0 → kd v0 = .inl 10 → F_X12_who f 0 [.ref v0] S = some res → zV G X (zQX G X (zPo G kd N0 res) 0 0) 1 [some (.ref (zB G + v0))] [] (cn G kd N0 S) 0 0 0) := by
  intro f
  induction f with
  | zero => exact (fun _ _ _ _ _ _ h => by cases h)
  | succ f ih =>
    have ih0 := ih
    intro S v0 res hT hpv0 hkv0 hF
    replace hF : F_X12_who_0 f (F_X12_who f) v0 S = some res := hF
    unfold F_X12_who_0 at hF
    refine z_aload_n C dX12_who_0 rfl ?_
    refine f_getr C dX12_who_1 zfRX12_79 hpv0 hkv0 rfl ?_
    obtain ⟨hp1, hk1⟩ := hT.1 v0 10 12 (.inl 6) hpv0 hkv0 rfl
    refine z_aload_n C dX12_who_4 rfl ?_
    refine f_getr C dX12_who_5 zfRX12_46 hpv0 hkv0 rfl ?_
    obtain ⟨hp2, hk2⟩ := hT.1 v0 10 6 (.inl 1) hpv0 hkv0 rfl
    obtain ⟨x3, S3, h3, hF⟩ := bI_some hF
    refine f_cV (st2 := [.int x3]) C dX12_who_8 zyX7_suspects zvX7_suspects lkRX12_265 (K_X7_suspects (l := zXl X) hT hp1 hk1 hp2 hk2 h3) hp1 hk1 rfl (by decide) rfl rfl (Nat.le_of_ble_eq_true rfl) rfl (fun hT3 => ?_)
    cases hF
    exact z_iret C hr dX12_who_11 ⟨rfl, rfl, hT3⟩
theorem K_X12_who {G : zG} {l : Launch} {kd : kD} {N0 f : Nat} {S : aS} {v0 : Nat} {res : Option Value × aS} (hT : zT0 kd N0 S) (hpv0 : v0 < N0) (hkv0 : kd v0 = .inl 10) (hF : F_X12_who f 0 [.ref v0] S = some res) : zM G l 7 0 0 yX12_who cX12_who 1 (some .int) [.ref (zB G + v0)] (cn G kd N0 S) (zPo G kd N0 res) := zM.of (by decide) rfl (Nat.le_of_ble_eq_true rfl) (fun X _ C hr _ => (B_X12_who C hr f) S v0 res hT hpv0 hkv0 hF)
def F_X12_look_0 (f : Nat) (rc : Nat → List Value → aS → aR) (v0 : Nat) (S : aS) : aR :=
  bI (F_X7_suspects f 0 [.ref (gR S v0 12), .ref (gR S v0 6)] S) fun x4 S4 => bI (F_X7_yardThatParts f 0 [.ref (gR S v0 12), .int x4] S4) fun x5 S5 => some (some (.int x5), S5)
def F_X12_look : Nat → Nat → List Value → aS → aR
  | 0, _, _, _ => none
  | f + 1, 0, vs, S => F_X12_look_0 f (F_X12_look f) (vR vs 0) S
  | _ + 1, _, _, _ => none
theorem dX12_look_0 : decode cX12_look 0 = .ok (.aload_n 0, 1) := by decide +kernel
theorem dX12_look_1 : decode cX12_look 1 = .ok (.getfield 79, 3) := by decide +kernel
theorem dX12_look_4 : decode cX12_look 4 = .ok (.aload_n 0, 1) := by decide +kernel
theorem dX12_look_5 : decode cX12_look 5 = .ok (.getfield 79, 3) := by decide +kernel
theorem dX12_look_8 : decode cX12_look 8 = .ok (.aload_n 0, 1) := by decide +kernel
theorem dX12_look_9 : decode cX12_look 9 = .ok (.getfield 46, 3) := by decide +kernel
theorem dX12_look_12 : decode cX12_look 12 = .ok (.invokevirtual 265, 3) := by decide +kernel
theorem dX12_look_15 : decode cX12_look 15 = .ok (.invokevirtual 269, 3) := by decide +kernel
theorem dX12_look_18 : decode cX12_look 18 = .ok (.ireturn, 1) := by decide +kernel
set_option maxHeartbeats 4000000 in
set_option maxRecDepth 100000 in
theorem B_X12_look {G : zG} {X : zX} {kd : kD} {N0 : Nat} (C : zCt G X 7 0 0 RX12 cX12_look 1) (hr : (zXh X).sig.returnType = (some .int)) : ∀ f : Nat,
    (∀ (S : aS) (v0 : Nat) (res : Option Value × aS), zT0 kd N0 S → v0 < N0 → kd v0 = .inl 10 → F_X12_look f 0 [.ref v0] S = some res → zV G X (zQX G X (zPo G kd N0 res) 0 0) 1 [some (.ref (zB G + v0))] [] (cn G kd N0 S) 0 0 0) := by
  intro f
  induction f with
  | zero => exact (fun _ _ _ _ _ _ h => by cases h)
  | succ f ih =>
    have ih0 := ih
    intro S v0 res hT hpv0 hkv0 hF
    replace hF : F_X12_look_0 f (F_X12_look f) v0 S = some res := hF
    unfold F_X12_look_0 at hF
    refine z_aload_n C dX12_look_0 rfl ?_
    refine f_getr C dX12_look_1 zfRX12_79 hpv0 hkv0 rfl ?_
    obtain ⟨hp1, hk1⟩ := hT.1 v0 10 12 (.inl 6) hpv0 hkv0 rfl
    refine z_aload_n C dX12_look_4 rfl ?_
    refine f_getr C dX12_look_5 zfRX12_79 hpv0 hkv0 rfl ?_
    obtain ⟨hp2, hk2⟩ := hT.1 v0 10 12 (.inl 6) hpv0 hkv0 rfl
    refine z_aload_n C dX12_look_8 rfl ?_
    refine f_getr C dX12_look_9 zfRX12_46 hpv0 hkv0 rfl ?_
    obtain ⟨hp3, hk3⟩ := hT.1 v0 10 6 (.inl 1) hpv0 hkv0 rfl
    obtain ⟨x4, S4, h4, hF⟩ := bI_some hF
    refine f_cV (st2 := [.int x4, .ref (zB G + (gR S v0 12))]) C dX12_look_12 zyX7_suspects zvX7_suspects lkRX12_265 (K_X7_suspects (l := zXl X) hT hp2 hk2 hp3 hk3 h4) hp2 hk2 rfl (by decide) rfl rfl (Nat.le_of_ble_eq_true rfl) rfl (fun hT4 => ?_)
    obtain ⟨x5, S5, h5, hF⟩ := bI_some hF
    refine f_cV (st2 := [.int x5]) C dX12_look_15 zyX7_yardThatParts zvX7_yardThatParts lkRX12_269 (K_X7_yardThatParts (l := zXl X) hT4 hp1 hk1  h5) hp1 hk1 rfl (by decide) rfl rfl (Nat.le_of_ble_eq_true rfl) rfl (fun hT5 => ?_)
    cases hF
    exact z_iret C hr dX12_look_18 ⟨rfl, rfl, hT5⟩
theorem K_X12_look {G : zG} {l : Launch} {kd : kD} {N0 f : Nat} {S : aS} {v0 : Nat} {res : Option Value × aS} (hT : zT0 kd N0 S) (hpv0 : v0 < N0) (hkv0 : kd v0 = .inl 10) (hF : F_X12_look f 0 [.ref v0] S = some res) : zM G l 7 0 0 yX12_look cX12_look 1 (some .int) [.ref (zB G + v0)] (cn G kd N0 S) (zPo G kd N0 res) := zM.of (by decide) rfl (Nat.le_of_ble_eq_true rfl) (fun X _ C hr _ => (B_X12_look C hr f) S v0 res hT hpv0 hkv0 hF)
def F_X1_readLine_0 (f : Nat) (rc : Nat → List Value → aS → aR) (v0 : Nat) (v1 : Nat) (v2 : Nat) (S : aS) : aR :=
  bI (F_X1_isAct f 0 [.ref (gR S v1 6)] S) fun x2 S2 => if x2 = (0 : Int32) then bI (F_X8_fail f 0 [.ref v1, .int 1] S2) fun x24 S24 => bZ x24 (some (some (.int x24), S24)) else if (gI S2 v0 3) < (40 : Int32) then bX (gI S2 v0 3) 40 fun q7 => fS (sI S2 (gR S2 v0 0) q7 (zval (gR S2 v1 6))) fun S8 => bX (gI S8 v0 3) 40 fun q10 => fS (sI S8 (gR S8 v0 1) q10 ((-1))) fun S11 => bX (gI S11 v0 3) 40 fun q13 => fS (sI S11 (gR S11 v0 2) q13 0) fun S14 => bV (F_X8_advance f 0 [.ref v1] S14) fun S15 => bX (gI S15 v0 3) 40 fun q17 => bI (F_X1_readBehind f 0 [.ref v0, .int (gI S15 (gR S15 v0 0) q17), .ref v1, .ref v2] S15) fun x18 S18 => if x18 = (0 : Int32) then rc 1 [] S18 else bI (F_X8_pass_ f 0 [.ref v1, .int 59] S18) fun x20 S20 => if x20 = (0 : Int32) then rc 1 [] S20 else fS (sI S20 v0 3 ((gI S20 v0 3) + (1 : Int32))) fun S22 => bZ 1 (some (some (.int 1), S22)) else bI (F_X8_fail f 0 [.ref v1, .int 5] S2) fun x23 S23 => bZ x23 (some (some (.int x23), S23))
def F_X1_readLine_1 (f : Nat) (rc : Nat → List Value → aS → aR)  (S : aS) : aR :=
  bZ 0 (some (some (.int 0), S))
def F_X1_readLine : Nat → Nat → List Value → aS → aR
  | 0, _, _, _ => none
  | f + 1, 0, vs, S => F_X1_readLine_0 f (F_X1_readLine f) (vR vs 0) (vR vs 1) (vR vs 2) S
  | f + 1, 1, vs, S => F_X1_readLine_1 f (F_X1_readLine f)  S
  | _ + 1, _, _, _ => none
theorem dX1_readLine_0 : decode cX1_readLine 0 = .ok (.aload_n 1, 1) := by decide +kernel
theorem dX1_readLine_1 : decode cX1_readLine 1 = .ok (.getfield 41, 3) := by decide +kernel
theorem dX1_readLine_4 : decode cX1_readLine 4 = .ok (.invokestatic 45, 3) := by decide +kernel
theorem dX1_readLine_7 : decode cX1_readLine 7 = .ok (.ifCond .ne 9, 3) := by decide +kernel
theorem dX1_readLine_10 : decode cX1_readLine 10 = .ok (.aload_n 1, 1) := by decide +kernel
theorem dX1_readLine_11 : decode cX1_readLine 11 = .ok (.iconst 1, 1) := by decide +kernel
theorem dX1_readLine_12 : decode cX1_readLine 12 = .ok (.invokevirtual 49, 3) := by decide +kernel
theorem dX1_readLine_15 : decode cX1_readLine 15 = .ok (.ireturn, 1) := by decide +kernel
theorem dX1_readLine_16 : decode cX1_readLine 16 = .ok (.aload_n 0, 1) := by decide +kernel
theorem dX1_readLine_17 : decode cX1_readLine 17 = .ok (.getfield 21, 3) := by decide +kernel
theorem dX1_readLine_20 : decode cX1_readLine 20 = .ok (.bipush 40, 2) := by decide +kernel
theorem dX1_readLine_22 : decode cX1_readLine 22 = .ok (.if_icmp .lt 9, 3) := by decide +kernel
theorem dX1_readLine_25 : decode cX1_readLine 25 = .ok (.aload_n 1, 1) := by decide +kernel
theorem dX1_readLine_26 : decode cX1_readLine 26 = .ok (.iconst 5, 1) := by decide +kernel
theorem dX1_readLine_27 : decode cX1_readLine 27 = .ok (.invokevirtual 49, 3) := by decide +kernel
theorem dX1_readLine_30 : decode cX1_readLine 30 = .ok (.ireturn, 1) := by decide +kernel
theorem dX1_readLine_31 : decode cX1_readLine 31 = .ok (.aload_n 0, 1) := by decide +kernel
theorem dX1_readLine_32 : decode cX1_readLine 32 = .ok (.getfield 11, 3) := by decide +kernel
theorem dX1_readLine_35 : decode cX1_readLine 35 = .ok (.aload_n 0, 1) := by decide +kernel
theorem dX1_readLine_36 : decode cX1_readLine 36 = .ok (.getfield 21, 3) := by decide +kernel
theorem dX1_readLine_39 : decode cX1_readLine 39 = .ok (.aload_n 1, 1) := by decide +kernel
theorem dX1_readLine_40 : decode cX1_readLine 40 = .ok (.getfield 41, 3) := by decide +kernel
theorem dX1_readLine_43 : decode cX1_readLine 43 = .ok (.getfield 53, 3) := by decide +kernel
theorem dX1_readLine_46 : decode cX1_readLine 46 = .ok (.iastore, 1) := by decide +kernel
theorem dX1_readLine_47 : decode cX1_readLine 47 = .ok (.aload_n 0, 1) := by decide +kernel
theorem dX1_readLine_48 : decode cX1_readLine 48 = .ok (.getfield 15, 3) := by decide +kernel
theorem dX1_readLine_51 : decode cX1_readLine 51 = .ok (.aload_n 0, 1) := by decide +kernel
theorem dX1_readLine_52 : decode cX1_readLine 52 = .ok (.getfield 21, 3) := by decide +kernel
theorem dX1_readLine_55 : decode cX1_readLine 55 = .ok (.iconst (-1), 1) := by decide +kernel
theorem dX1_readLine_56 : decode cX1_readLine 56 = .ok (.iastore, 1) := by decide +kernel
theorem dX1_readLine_57 : decode cX1_readLine 57 = .ok (.aload_n 0, 1) := by decide +kernel
theorem dX1_readLine_58 : decode cX1_readLine 58 = .ok (.getfield 18, 3) := by decide +kernel
theorem dX1_readLine_61 : decode cX1_readLine 61 = .ok (.aload_n 0, 1) := by decide +kernel
theorem dX1_readLine_62 : decode cX1_readLine 62 = .ok (.getfield 21, 3) := by decide +kernel
theorem dX1_readLine_65 : decode cX1_readLine 65 = .ok (.iconst 0, 1) := by decide +kernel
theorem dX1_readLine_66 : decode cX1_readLine 66 = .ok (.iastore, 1) := by decide +kernel
theorem dX1_readLine_67 : decode cX1_readLine 67 = .ok (.aload_n 1, 1) := by decide +kernel
theorem dX1_readLine_68 : decode cX1_readLine 68 = .ok (.invokevirtual 58, 3) := by decide +kernel
theorem dX1_readLine_71 : decode cX1_readLine 71 = .ok (.aload_n 0, 1) := by decide +kernel
theorem dX1_readLine_72 : decode cX1_readLine 72 = .ok (.aload_n 0, 1) := by decide +kernel
theorem dX1_readLine_73 : decode cX1_readLine 73 = .ok (.getfield 11, 3) := by decide +kernel
theorem dX1_readLine_76 : decode cX1_readLine 76 = .ok (.aload_n 0, 1) := by decide +kernel
theorem dX1_readLine_77 : decode cX1_readLine 77 = .ok (.getfield 21, 3) := by decide +kernel
theorem dX1_readLine_80 : decode cX1_readLine 80 = .ok (.iaload, 1) := by decide +kernel
theorem dX1_readLine_81 : decode cX1_readLine 81 = .ok (.aload_n 1, 1) := by decide +kernel
theorem dX1_readLine_82 : decode cX1_readLine 82 = .ok (.aload_n 2, 1) := by decide +kernel
theorem dX1_readLine_83 : decode cX1_readLine 83 = .ok (.invokevirtual 61, 3) := by decide +kernel
theorem dX1_readLine_86 : decode cX1_readLine 86 = .ok (.ifCond .eq 12, 3) := by decide +kernel
theorem dX1_readLine_89 : decode cX1_readLine 89 = .ok (.aload_n 1, 1) := by decide +kernel
theorem dX1_readLine_90 : decode cX1_readLine 90 = .ok (.bipush 59, 2) := by decide +kernel
theorem dX1_readLine_92 : decode cX1_readLine 92 = .ok (.invokevirtual 65, 3) := by decide +kernel
theorem dX1_readLine_95 : decode cX1_readLine 95 = .ok (.ifCond .ne 5, 3) := by decide +kernel
theorem dX1_readLine_98 : decode cX1_readLine 98 = .ok (.iconst 0, 1) := by decide +kernel
theorem dX1_readLine_99 : decode cX1_readLine 99 = .ok (.ireturn, 1) := by decide +kernel
theorem dX1_readLine_100 : decode cX1_readLine 100 = .ok (.aload_n 0, 1) := by decide +kernel
theorem dX1_readLine_101 : decode cX1_readLine 101 = .ok (.dup, 1) := by decide +kernel
theorem dX1_readLine_102 : decode cX1_readLine 102 = .ok (.getfield 21, 3) := by decide +kernel
theorem dX1_readLine_105 : decode cX1_readLine 105 = .ok (.iconst 1, 1) := by decide +kernel
theorem dX1_readLine_106 : decode cX1_readLine 106 = .ok (.iadd, 1) := by decide +kernel
theorem dX1_readLine_107 : decode cX1_readLine 107 = .ok (.putfield 21, 3) := by decide +kernel
theorem dX1_readLine_110 : decode cX1_readLine 110 = .ok (.iconst 1, 1) := by decide +kernel
theorem dX1_readLine_111 : decode cX1_readLine 111 = .ok (.ireturn, 1) := by decide +kernel
set_option maxHeartbeats 4000000 in
set_option maxRecDepth 100000 in
theorem B_X1_readLine {G : zG} {X : zX} {kd : kD} {N0 : Nat} (C : zCt G X 5 0 0 RX1 cX1_readLine 3) (hr : (zXh X).sig.returnType = (some .boolean)) : ∀ f : Nat,
    (∀ (S : aS) (v0 : Nat) (v1 : Nat) (v2 : Nat) (res : Option Value × aS), zT0 kd N0 S → v0 < N0 → kd v0 = .inl 0 → v1 < N0 → kd v1 = .inl 7 → v2 < N0 → kd v2 = .inl 5 → F_X1_readLine f 0 [.ref v0, .ref v1, .ref v2] S = some res → zV G X (zQX G X (zPo G kd N0 res) 0 0) 3 [some (.ref (zB G + v0)), some (.ref (zB G + v1)), some (.ref (zB G + v2))] [] (cn G kd N0 S) 0 0 0) ∧
    (∀ (S : aS)  (res : Option Value × aS), zT0 kd N0 S → F_X1_readLine f 1 [] S = some res → zV G X (zQX G X (zPo G kd N0 res) 0 0) 3 [none, none, none] [] (cn G kd N0 S) 98 0 0) := by
  intro f
  induction f with
  | zero => exact ⟨(fun _ _ _ _ _ _ _ _ _ _ _ _ h => by cases h), (fun _ _ _ h => by cases h)⟩
  | succ f ih =>
    obtain ⟨ih0, ih1⟩ := ih
    refine ⟨?_, ?_⟩
    · intro S v0 v1 v2 res hT hpv0 hkv0 hpv1 hkv1 hpv2 hkv2 hF
      replace hF : F_X1_readLine_0 f (F_X1_readLine f) v0 v1 v2 S = some res := hF
      unfold F_X1_readLine_0 at hF
      refine z_aload_n C dX1_readLine_0 rfl ?_
      refine f_getw C dX1_readLine_1 zfRX1_41 hpv1 hkv1 rfl ?_
      have hw1 := hT.2.2 v1 hpv1 hkv1
      obtain ⟨x2, S2, h2, hF⟩ := bI_some hF
      refine f_cS (st2 := [.int x2]) C dX1_readLine_4 zyX1_isAct zsX1_isAct lkRX1_45 (K_X1_isAct (l := zXl X) hT hw1 h2) (by decide) rfl rfl (Nat.le_of_ble_eq_true rfl) rfl (fun hT2 => ?_)
      refine z_if_ne C 16 dX1_readLine_7 (by decide) (fun c3 => ?_) (fun c3 => ?_)
      · replace hF := im hF c3
        refine z_aload_n C dX1_readLine_16 rfl ?_
        refine f_geti C dX1_readLine_17 zfRX1_21 hpv0 hkv0 rfl ?_
        refine z_bipush (v := 40) C dX1_readLine_20 (by decide) ?_
        refine z_icmp_lt C 31 dX1_readLine_22 (by decide) (fun c4 => ?_) (fun c4 => ?_)
        · replace hF := ip hF c4
          refine z_aload_n C dX1_readLine_31 rfl ?_
          refine f_getr C dX1_readLine_32 zfRX1_11 hpv0 hkv0 rfl ?_
          obtain ⟨hp5, hk5⟩ := hT2.1 v0 0 0 (.inr (0, 40)) hpv0 hkv0 rfl
          refine z_aload_n C dX1_readLine_35 rfl ?_
          refine f_geti C dX1_readLine_36 zfRX1_21 hpv0 hkv0 rfl ?_
          refine z_aload_n C dX1_readLine_39 rfl ?_
          refine f_getw C dX1_readLine_40 zfRX1_41 hpv1 hkv1 rfl ?_
          have hw6 := hT2.2.2 v1 hpv1 hkv1
          refine f_getK C dX1_readLine_43 fkRX1_53 (C.2.2.2.2.2.1.2.2.1 (gR S2 v1 6) hw6).2.2.2.1 ?_
          obtain ⟨hi7, hF⟩ := bX_some hF
          obtain ⟨q7, eq7⟩ : ∃ q : Nat, q = Int32.toNatClampNeg (gI S2 v0 3) := ⟨_, rfl⟩
          rw [← eq7] at hF
          refine f_iast C dX1_readLine_46 hp5 hk5 hi7 ?_
          rw [← eq7]
          have hT8 : zT0 kd N0 (sI S2 (gR S2 v0 0) q7 (zval (gR S2 v1 6))) := zT0_sI hT2
          replace hF := fS_e hF
          generalize sI S2 (gR S2 v0 0) q7 (zval (gR S2 v1 6)) = S8 at hF hT8 ⊢
          refine z_aload_n C dX1_readLine_47 rfl ?_
          refine f_getr C dX1_readLine_48 zfRX1_15 hpv0 hkv0 rfl ?_
          obtain ⟨hp9, hk9⟩ := hT8.1 v0 0 1 (.inr (0, 40)) hpv0 hkv0 rfl
          refine z_aload_n C dX1_readLine_51 rfl ?_
          refine f_geti C dX1_readLine_52 zfRX1_21 hpv0 hkv0 rfl ?_
          refine z_iconst (v := (-1)) C dX1_readLine_55 (by decide) ?_
          obtain ⟨hi10, hF⟩ := bX_some hF
          obtain ⟨q10, eq10⟩ : ∃ q : Nat, q = Int32.toNatClampNeg (gI S8 v0 3) := ⟨_, rfl⟩
          rw [← eq10] at hF
          refine f_iast C dX1_readLine_56 hp9 hk9 hi10 ?_
          rw [← eq10]
          have hT11 : zT0 kd N0 (sI S8 (gR S8 v0 1) q10 ((-1))) := zT0_sI hT8
          replace hF := fS_e hF
          generalize sI S8 (gR S8 v0 1) q10 ((-1)) = S11 at hF hT11 ⊢
          refine z_aload_n C dX1_readLine_57 rfl ?_
          refine f_getr C dX1_readLine_58 zfRX1_18 hpv0 hkv0 rfl ?_
          obtain ⟨hp12, hk12⟩ := hT11.1 v0 0 2 (.inr (0, 40)) hpv0 hkv0 rfl
          refine z_aload_n C dX1_readLine_61 rfl ?_
          refine f_geti C dX1_readLine_62 zfRX1_21 hpv0 hkv0 rfl ?_
          refine z_iconst (v := 0) C dX1_readLine_65 (by decide) ?_
          obtain ⟨hi13, hF⟩ := bX_some hF
          obtain ⟨q13, eq13⟩ : ∃ q : Nat, q = Int32.toNatClampNeg (gI S11 v0 3) := ⟨_, rfl⟩
          rw [← eq13] at hF
          refine f_iast C dX1_readLine_66 hp12 hk12 hi13 ?_
          rw [← eq13]
          have hT14 : zT0 kd N0 (sI S11 (gR S11 v0 2) q13 0) := zT0_sI hT11
          replace hF := fS_e hF
          generalize sI S11 (gR S11 v0 2) q13 0 = S14 at hF hT14 ⊢
          refine z_aload_n C dX1_readLine_67 rfl ?_
          obtain ⟨S15, h15, hF⟩ := bV_some hF
          refine f_cV (st2 := []) C dX1_readLine_68 zyX8_advance zvX8_advance lkRX1_58 (K_X8_advance (l := zXl X) hT14 hpv1 hkv1 h15) hpv1 hkv1 rfl (by decide) rfl rfl (Nat.le_of_ble_eq_true rfl) rfl (fun hT15 => ?_)
          refine z_aload_n C dX1_readLine_71 rfl ?_
          refine z_aload_n C dX1_readLine_72 rfl ?_
          refine f_getr C dX1_readLine_73 zfRX1_11 hpv0 hkv0 rfl ?_
          obtain ⟨hp16, hk16⟩ := hT15.1 v0 0 0 (.inr (0, 40)) hpv0 hkv0 rfl
          refine z_aload_n C dX1_readLine_76 rfl ?_
          refine f_geti C dX1_readLine_77 zfRX1_21 hpv0 hkv0 rfl ?_
          obtain ⟨hi17, hF⟩ := bX_some hF
          obtain ⟨q17, eq17⟩ : ∃ q : Nat, q = Int32.toNatClampNeg (gI S15 v0 3) := ⟨_, rfl⟩
          rw [← eq17] at hF
          refine f_iald C dX1_readLine_80 hp16 hk16 hi17 ?_
          rw [← eq17]
          refine z_aload_n C dX1_readLine_81 rfl ?_
          refine z_aload_n C dX1_readLine_82 rfl ?_
          obtain ⟨x18, S18, h18, hF⟩ := bI_some hF
          refine f_cV (st2 := [.int x18]) C dX1_readLine_83 zyX1_readBehind zvX1_readBehind lkRX1_61 (K_X1_readBehind (l := zXl X) hT15 hpv0 hkv0  hpv1 hkv1 hpv2 hkv2 h18) hpv0 hkv0 rfl (by decide) rfl rfl (Nat.le_of_ble_eq_true rfl) rfl (fun hT18 => ?_)
          refine z_if_eq C 98 dX1_readLine_86 (by decide) (fun c19 => ?_) (fun c19 => ?_)
          · replace hF := ip hF c19
            refine z_mask [false, false, false] ?_ rfl
            exact ih1 S18  res hT18  hF
          · replace hF := im hF c19
            refine z_aload_n C dX1_readLine_89 rfl ?_
            refine z_bipush (v := 59) C dX1_readLine_90 (by decide) ?_
            obtain ⟨x20, S20, h20, hF⟩ := bI_some hF
            refine f_cV (st2 := [.int x20]) C dX1_readLine_92 zyX8_pass_ zvX8_pass_ lkRX1_65 (K_X8_pass_ (l := zXl X) hT18 hpv1 hkv1  h20) hpv1 hkv1 rfl (by decide) rfl rfl (Nat.le_of_ble_eq_true rfl) rfl (fun hT20 => ?_)
            refine z_if_ne C 100 dX1_readLine_95 (by decide) (fun c21 => ?_) (fun c21 => ?_)
            · replace hF := im hF c21
              refine z_aload_n C dX1_readLine_100 rfl ?_
              refine z_dup C dX1_readLine_101 rfl ?_
              refine f_geti C dX1_readLine_102 zfRX1_21 hpv0 hkv0 rfl ?_
              refine z_iconst (v := 1) C dX1_readLine_105 (by decide) ?_
              refine z_iadd C dX1_readLine_106 ?_
              refine f_puti C dX1_readLine_107 zfRX1_21 fw0_3 hpv0 hkv0 rfl rfl rfl ?_
              have hT22 : zT0 kd N0 (sI S20 v0 3 ((gI S20 v0 3) + (1 : Int32))) := zT0_sI hT20
              replace hF := fS_e hF
              generalize sI S20 v0 3 ((gI S20 v0 3) + (1 : Int32)) = S22 at hF hT22 ⊢
              refine z_iconst (v := 1) C dX1_readLine_110 (by decide) ?_
              obtain ⟨hz, hF⟩ := bZ_some hF
              cases hF
              exact z_zret C hr hz.1 dX1_readLine_111 ⟨rfl, rfl, hT22⟩
            · replace hF := ip hF c21
              refine z_mask [false, false, false] ?_ rfl
              exact ih1 S20  res hT20  hF
        · replace hF := im hF c4
          refine z_aload_n C dX1_readLine_25 rfl ?_
          refine z_iconst (v := 5) C dX1_readLine_26 (by decide) ?_
          obtain ⟨x23, S23, h23, hF⟩ := bI_some hF
          refine f_cV (st2 := [.int x23]) C dX1_readLine_27 zyX8_fail zvX8_fail lkRX1_49 (K_X8_fail (l := zXl X) hT2 hpv1 hkv1  h23) hpv1 hkv1 rfl (by decide) rfl rfl (Nat.le_of_ble_eq_true rfl) rfl (fun hT23 => ?_)
          obtain ⟨hz, hF⟩ := bZ_some hF
          cases hF
          exact z_zret C hr hz.1 dX1_readLine_30 ⟨rfl, rfl, hT23⟩
      · replace hF := ip hF c3
        refine z_aload_n C dX1_readLine_10 rfl ?_
        refine z_iconst (v := 1) C dX1_readLine_11 (by decide) ?_
        obtain ⟨x24, S24, h24, hF⟩ := bI_some hF
        refine f_cV (st2 := [.int x24]) C dX1_readLine_12 zyX8_fail zvX8_fail lkRX1_49 (K_X8_fail (l := zXl X) hT2 hpv1 hkv1  h24) hpv1 hkv1 rfl (by decide) rfl rfl (Nat.le_of_ble_eq_true rfl) rfl (fun hT24 => ?_)
        obtain ⟨hz, hF⟩ := bZ_some hF
        cases hF
        exact z_zret C hr hz.1 dX1_readLine_15 ⟨rfl, rfl, hT24⟩
    · intro S  res hT  hF
      replace hF : F_X1_readLine_1 f (F_X1_readLine f)  S = some res := hF
      unfold F_X1_readLine_1 at hF
      refine z_iconst (v := 0) C dX1_readLine_98 (by decide) ?_
      obtain ⟨hz, hF⟩ := bZ_some hF
      cases hF
      exact z_zret C hr hz.1 dX1_readLine_99 ⟨rfl, rfl, hT⟩
theorem K_X1_readLine {G : zG} {l : Launch} {kd : kD} {N0 f : Nat} {S : aS} {v0 : Nat} {v1 : Nat} {v2 : Nat} {res : Option Value × aS} (hT : zT0 kd N0 S) (hpv0 : v0 < N0) (hkv0 : kd v0 = .inl 0) (hpv1 : v1 < N0) (hkv1 : kd v1 = .inl 7) (hpv2 : v2 < N0) (hkv2 : kd v2 = .inl 5) (hF : F_X1_readLine f 0 [.ref v0, .ref v1, .ref v2] S = some res) : zM G l 5 0 0 yX1_readLine cX1_readLine 3 (some .boolean) [.ref (zB G + v0), .ref (zB G + v1), .ref (zB G + v2)] (cn G kd N0 S) (zPo G kd N0 res) := zM.of (by decide) rfl (Nat.le_of_ble_eq_true rfl) (fun X _ C hr _ => (B_X1_readLine C hr f).1 S v0 v1 v2 res hT hpv0 hkv0 hpv1 hkv1 hpv2 hkv2 hF)
def F_X6_readLine_0 (f : Nat) (rc : Nat → List Value → aS → aR) (v0 : Nat) (v1 : Nat) (S : aS) : aR :=
  bI (F_X6_isToldOnce f 0 [.ref (gR S v1 6)] S) fun x2 S2 => if x2 = (0 : Int32) then if (gR S v1 6) = 8 then if (gI S2 v0 1) < (6 : Int32) then rc 1 [.ref v0, .ref v1, .ref (gR S v1 6)] S2 else bI (F_X8_fail f 0 [.ref v1, .int 5] S2) fun x9 S9 => bZ x9 (some (some (.int x9), S9)) else if (gR S v1 6) = 11 then rc 1 [.ref v0, .ref v1, .ref (gR S v1 6)] S2 else if (gR S v1 6) = 13 then rc 1 [.ref v0, .ref v1, .ref (gR S v1 6)] S2 else bI (F_X8_fail f 0 [.ref v1, .int 1] S2) fun x7 S7 => bZ x7 (some (some (.int x7), S7)) else if ((gI S2 v0 14) &&& (zval (gR S v1 6))) = (0 : Int32) then fS (sI S2 v0 14 ((gI S2 v0 14) ||| (zval (gR S v1 6)))) fun S11 => rc 1 [.ref v0, .ref v1, .ref (gR S v1 6)] S11 else bI (F_X8_fail f 0 [.ref v1, .int 3] S2) fun x12 S12 => bZ x12 (some (some (.int x12), S12))
def F_X6_readLine_1 (f : Nat) (rc : Nat → List Value → aS → aR) (v0 : Nat) (v1 : Nat) (v2 : Nat) (S : aS) : aR :=
  bV (F_X8_advance f 0 [.ref v1] S) fun S13 => bI (F_X6_readBehind f 0 [.ref v0, .ref v2, .ref v1] S13) fun x14 S14 => if x14 = (0 : Int32) then rc 2 [] S14 else bI (F_X8_pass_ f 0 [.ref v1, .int 59] S14) fun x17 S17 => bZ (if x17 = (0 : Int32) then (0 : Int32) else (1 : Int32)) (some (some (.int (if x17 = (0 : Int32) then (0 : Int32) else (1 : Int32))), S17))
def F_X6_readLine_2 (f : Nat) (rc : Nat → List Value → aS → aR)  (S : aS) : aR :=
  rc 3 [.int 0] S
def F_X6_readLine_3 (f : Nat) (rc : Nat → List Value → aS → aR) (w0 : Int32) (S : aS) : aR :=
  bZ w0 (some (some (.int w0), S))
def F_X6_readLine : Nat → Nat → List Value → aS → aR
  | 0, _, _, _ => none
  | f + 1, 0, vs, S => F_X6_readLine_0 f (F_X6_readLine f) (vR vs 0) (vR vs 1) S
  | f + 1, 1, vs, S => F_X6_readLine_1 f (F_X6_readLine f) (vR vs 0) (vR vs 1) (vR vs 2) S
  | f + 1, 2, vs, S => F_X6_readLine_2 f (F_X6_readLine f)  S
  | f + 1, 3, vs, S => F_X6_readLine_3 f (F_X6_readLine f) (vI vs 0) S
  | _ + 1, _, _, _ => none
theorem dX6_readLine_0 : decode cX6_readLine 0 = .ok (.aload_n 1, 1) := by decide +kernel
theorem dX6_readLine_1 : decode cX6_readLine 1 = .ok (.getfield 86, 3) := by decide +kernel
theorem dX6_readLine_4 : decode cX6_readLine 4 = .ok (.astore_n 2, 1) := by decide +kernel
theorem dX6_readLine_5 : decode cX6_readLine 5 = .ok (.aload_n 2, 1) := by decide +kernel
theorem dX6_readLine_6 : decode cX6_readLine 6 = .ok (.invokestatic 90, 3) := by decide +kernel
theorem dX6_readLine_9 : decode cX6_readLine 9 = .ok (.ifCond .eq 37, 3) := by decide +kernel
theorem dX6_readLine_12 : decode cX6_readLine 12 = .ok (.aload_n 0, 1) := by decide +kernel
theorem dX6_readLine_13 : decode cX6_readLine 13 = .ok (.getfield 63, 3) := by decide +kernel
theorem dX6_readLine_16 : decode cX6_readLine 16 = .ok (.aload_n 2, 1) := by decide +kernel
theorem dX6_readLine_17 : decode cX6_readLine 17 = .ok (.getfield 94, 3) := by decide +kernel
theorem dX6_readLine_20 : decode cX6_readLine 20 = .ok (.iand, 1) := by decide +kernel
theorem dX6_readLine_21 : decode cX6_readLine 21 = .ok (.ifCond .eq 9, 3) := by decide +kernel
theorem dX6_readLine_24 : decode cX6_readLine 24 = .ok (.aload_n 1, 1) := by decide +kernel
theorem dX6_readLine_25 : decode cX6_readLine 25 = .ok (.iconst 3, 1) := by decide +kernel
theorem dX6_readLine_26 : decode cX6_readLine 26 = .ok (.invokevirtual 99, 3) := by decide +kernel
theorem dX6_readLine_29 : decode cX6_readLine 29 = .ok (.ireturn, 1) := by decide +kernel
theorem dX6_readLine_30 : decode cX6_readLine 30 = .ok (.aload_n 0, 1) := by decide +kernel
theorem dX6_readLine_31 : decode cX6_readLine 31 = .ok (.dup, 1) := by decide +kernel
theorem dX6_readLine_32 : decode cX6_readLine 32 = .ok (.getfield 63, 3) := by decide +kernel
theorem dX6_readLine_35 : decode cX6_readLine 35 = .ok (.aload_n 2, 1) := by decide +kernel
theorem dX6_readLine_36 : decode cX6_readLine 36 = .ok (.getfield 94, 3) := by decide +kernel
theorem dX6_readLine_39 : decode cX6_readLine 39 = .ok (.ior, 1) := by decide +kernel
theorem dX6_readLine_40 : decode cX6_readLine 40 = .ok (.putfield 63, 3) := by decide +kernel
theorem dX6_readLine_43 : decode cX6_readLine 43 = .ok (.goto 45, 3) := by decide +kernel
theorem dX6_readLine_46 : decode cX6_readLine 46 = .ok (.aload_n 2, 1) := by decide +kernel
theorem dX6_readLine_47 : decode cX6_readLine 47 = .ok (.getstatic 103, 3) := by decide +kernel
theorem dX6_readLine_50 : decode cX6_readLine 50 = .ok (.if_acmp .ne 18, 3) := by decide +kernel
theorem dX6_readLine_53 : decode cX6_readLine 53 = .ok (.aload_n 0, 1) := by decide +kernel
theorem dX6_readLine_54 : decode cX6_readLine 54 = .ok (.getfield 51, 3) := by decide +kernel
theorem dX6_readLine_57 : decode cX6_readLine 57 = .ok (.bipush 6, 2) := by decide +kernel
theorem dX6_readLine_59 : decode cX6_readLine 59 = .ok (.if_icmp .lt 29, 3) := by decide +kernel
theorem dX6_readLine_62 : decode cX6_readLine 62 = .ok (.aload_n 1, 1) := by decide +kernel
theorem dX6_readLine_63 : decode cX6_readLine 63 = .ok (.iconst 5, 1) := by decide +kernel
theorem dX6_readLine_64 : decode cX6_readLine 64 = .ok (.invokevirtual 99, 3) := by decide +kernel
theorem dX6_readLine_67 : decode cX6_readLine 67 = .ok (.ireturn, 1) := by decide +kernel
theorem dX6_readLine_68 : decode cX6_readLine 68 = .ok (.aload_n 2, 1) := by decide +kernel
theorem dX6_readLine_69 : decode cX6_readLine 69 = .ok (.getstatic 106, 3) := by decide +kernel
theorem dX6_readLine_72 : decode cX6_readLine 72 = .ok (.if_acmp .eq 16, 3) := by decide +kernel
theorem dX6_readLine_75 : decode cX6_readLine 75 = .ok (.aload_n 2, 1) := by decide +kernel
theorem dX6_readLine_76 : decode cX6_readLine 76 = .ok (.getstatic 109, 3) := by decide +kernel
theorem dX6_readLine_79 : decode cX6_readLine 79 = .ok (.if_acmp .eq 9, 3) := by decide +kernel
theorem dX6_readLine_82 : decode cX6_readLine 82 = .ok (.aload_n 1, 1) := by decide +kernel
theorem dX6_readLine_83 : decode cX6_readLine 83 = .ok (.iconst 1, 1) := by decide +kernel
theorem dX6_readLine_84 : decode cX6_readLine 84 = .ok (.invokevirtual 99, 3) := by decide +kernel
theorem dX6_readLine_87 : decode cX6_readLine 87 = .ok (.ireturn, 1) := by decide +kernel
theorem dX6_readLine_88 : decode cX6_readLine 88 = .ok (.aload_n 1, 1) := by decide +kernel
theorem dX6_readLine_89 : decode cX6_readLine 89 = .ok (.invokevirtual 112, 3) := by decide +kernel
theorem dX6_readLine_92 : decode cX6_readLine 92 = .ok (.aload_n 0, 1) := by decide +kernel
theorem dX6_readLine_93 : decode cX6_readLine 93 = .ok (.aload_n 2, 1) := by decide +kernel
theorem dX6_readLine_94 : decode cX6_readLine 94 = .ok (.aload_n 1, 1) := by decide +kernel
theorem dX6_readLine_95 : decode cX6_readLine 95 = .ok (.invokevirtual 115, 3) := by decide +kernel
theorem dX6_readLine_98 : decode cX6_readLine 98 = .ok (.ifCond .eq 16, 3) := by decide +kernel
theorem dX6_readLine_101 : decode cX6_readLine 101 = .ok (.aload_n 1, 1) := by decide +kernel
theorem dX6_readLine_102 : decode cX6_readLine 102 = .ok (.bipush 59, 2) := by decide +kernel
theorem dX6_readLine_104 : decode cX6_readLine 104 = .ok (.invokevirtual 119, 3) := by decide +kernel
theorem dX6_readLine_107 : decode cX6_readLine 107 = .ok (.ifCond .eq 7, 3) := by decide +kernel
theorem dX6_readLine_110 : decode cX6_readLine 110 = .ok (.iconst 1, 1) := by decide +kernel
theorem dX6_readLine_111 : decode cX6_readLine 111 = .ok (.goto 4, 3) := by decide +kernel
theorem dX6_readLine_114 : decode cX6_readLine 114 = .ok (.iconst 0, 1) := by decide +kernel
theorem dX6_readLine_115 : decode cX6_readLine 115 = .ok (.ireturn, 1) := by decide +kernel
set_option maxHeartbeats 4000000 in
set_option maxRecDepth 100000 in
theorem B_X6_readLine {G : zG} {X : zX} {kd : kD} {N0 : Nat} (C : zCt G X 46 0 0 RX6 cX6_readLine 3) (hr : (zXh X).sig.returnType = (some .boolean)) : ∀ f : Nat,
    (∀ (S : aS) (v0 : Nat) (v1 : Nat) (res : Option Value × aS), zT0 kd N0 S → v0 < N0 → kd v0 = .inl 5 → v1 < N0 → kd v1 = .inl 7 → F_X6_readLine f 0 [.ref v0, .ref v1] S = some res → zV G X (zQX G X (zPo G kd N0 res) 0 0) 3 [some (.ref (zB G + v0)), some (.ref (zB G + v1)), none] [] (cn G kd N0 S) 0 0 0) ∧
    (∀ (S : aS) (v0 : Nat) (v1 : Nat) (v2 : Nat) (res : Option Value × aS), zT0 kd N0 S → v0 < N0 → kd v0 = .inl 5 → v1 < N0 → kd v1 = .inl 7 → v2 < 31 → F_X6_readLine f 1 [.ref v0, .ref v1, .ref v2] S = some res → zV G X (zQX G X (zPo G kd N0 res) 0 0) 3 [some (.ref (zB G + v0)), some (.ref (zB G + v1)), some (.ref (zC G v2))] [] (cn G kd N0 S) 88 0 0) ∧
    (∀ (S : aS)  (res : Option Value × aS), zT0 kd N0 S → F_X6_readLine f 2 [] S = some res → zV G X (zQX G X (zPo G kd N0 res) 0 0) 3 [none, none, none] [] (cn G kd N0 S) 114 0 0) ∧
    (∀ (S : aS) (w0 : Int32) (res : Option Value × aS), zT0 kd N0 S → F_X6_readLine f 3 [.int w0] S = some res → zV G X (zQX G X (zPo G kd N0 res) 0 0) 3 [none, none, none] [.int w0] (cn G kd N0 S) 115 0 0) := by
  intro f
  induction f with
  | zero => exact ⟨(fun _ _ _ _ _ _ _ _ _ h => by cases h), (fun _ _ _ _ _ _ _ _ _ _ _ h => by cases h), (fun _ _ _ h => by cases h), (fun _ _ _ _ h => by cases h)⟩
  | succ f ih =>
    obtain ⟨ih0, ih1, ih2, ih3⟩ := ih
    refine ⟨?_, ?_, ?_, ?_⟩
    · intro S v0 v1 res hT hpv0 hkv0 hpv1 hkv1 hF
      replace hF : F_X6_readLine_0 f (F_X6_readLine f) v0 v1 S = some res := hF
      unfold F_X6_readLine_0 at hF
      refine z_aload_n C dX6_readLine_0 rfl ?_
      refine f_getw C dX6_readLine_1 zfRX6_86 hpv1 hkv1 rfl ?_
      have hw1 := hT.2.2 v1 hpv1 hkv1
      refine z_astore_n (lv2 := [some (.ref (zB G + v0)), some (.ref (zB G + v1)), some (.ref (zC G (gR S v1 6)))]) C dX6_readLine_4 (by decide) rfl ?_
      refine z_aload_n C dX6_readLine_5 rfl ?_
      obtain ⟨x2, S2, h2, hF⟩ := bI_some hF
      refine f_cS (st2 := [.int x2]) C dX6_readLine_6 zyX6_isToldOnce zsX6_isToldOnce lkRX6_90 (K_X6_isToldOnce (l := zXl X) hT hw1 h2) (by decide) rfl rfl (Nat.le_of_ble_eq_true rfl) rfl (fun hT2 => ?_)
      refine z_if_eq C 46 dX6_readLine_9 (by decide) (fun c3 => ?_) (fun c3 => ?_)
      · replace hF := ip hF c3
        refine z_aload_n C dX6_readLine_46 rfl ?_
        refine f_gets C dX6_readLine_47 fkRX6_103 (C.2.2.2.2.2.1.2.2.1 8 (by decide)).1 ?_
        refine z_acmp_ne C 68 dX6_readLine_50 (by decide) (fun c4 => ?_) (fun c4 => ?_)
        · replace c4 : ¬ (gR S v1 6) = 8 := fun e => c4 (by rw [e])
          replace hF := im hF c4
          refine z_aload_n C dX6_readLine_68 rfl ?_
          refine f_gets C dX6_readLine_69 fkRX6_106 (C.2.2.2.2.2.1.2.2.1 11 (by decide)).1 ?_
          refine z_acmp_eq C 88 dX6_readLine_72 (by decide) (fun c5 => ?_) (fun c5 => ?_)
          · replace c5 := C.2.2.2.2.2.1.2.2.2.1 (gR S v1 6) 11 hw1 (by decide) c5
            replace hF := ip hF c5
            exact ih1 S2 v0 v1 (gR S v1 6) res hT2 hpv0 hkv0 hpv1 hkv1 hw1 hF
          · replace c5 : ¬ (gR S v1 6) = 11 := fun e => c5 (by rw [e])
            replace hF := im hF c5
            refine z_aload_n C dX6_readLine_75 rfl ?_
            refine f_gets C dX6_readLine_76 fkRX6_109 (C.2.2.2.2.2.1.2.2.1 13 (by decide)).1 ?_
            refine z_acmp_eq C 88 dX6_readLine_79 (by decide) (fun c6 => ?_) (fun c6 => ?_)
            · replace c6 := C.2.2.2.2.2.1.2.2.2.1 (gR S v1 6) 13 hw1 (by decide) c6
              replace hF := ip hF c6
              exact ih1 S2 v0 v1 (gR S v1 6) res hT2 hpv0 hkv0 hpv1 hkv1 hw1 hF
            · replace c6 : ¬ (gR S v1 6) = 13 := fun e => c6 (by rw [e])
              replace hF := im hF c6
              refine z_aload_n C dX6_readLine_82 rfl ?_
              refine z_iconst (v := 1) C dX6_readLine_83 (by decide) ?_
              obtain ⟨x7, S7, h7, hF⟩ := bI_some hF
              refine f_cV (st2 := [.int x7]) C dX6_readLine_84 zyX8_fail zvX8_fail lkRX6_99 (K_X8_fail (l := zXl X) hT2 hpv1 hkv1  h7) hpv1 hkv1 rfl (by decide) rfl rfl (Nat.le_of_ble_eq_true rfl) rfl (fun hT7 => ?_)
              obtain ⟨hz, hF⟩ := bZ_some hF
              cases hF
              exact z_zret C hr hz.1 dX6_readLine_87 ⟨rfl, rfl, hT7⟩
        · replace c4 := C.2.2.2.2.2.1.2.2.2.1 (gR S v1 6) 8 hw1 (by decide) c4
          replace hF := ip hF c4
          refine z_aload_n C dX6_readLine_53 rfl ?_
          refine f_geti C dX6_readLine_54 zfRX6_51 hpv0 hkv0 rfl ?_
          refine z_bipush (v := 6) C dX6_readLine_57 (by decide) ?_
          refine z_icmp_lt C 88 dX6_readLine_59 (by decide) (fun c8 => ?_) (fun c8 => ?_)
          · replace hF := ip hF c8
            exact ih1 S2 v0 v1 (gR S v1 6) res hT2 hpv0 hkv0 hpv1 hkv1 hw1 hF
          · replace hF := im hF c8
            refine z_aload_n C dX6_readLine_62 rfl ?_
            refine z_iconst (v := 5) C dX6_readLine_63 (by decide) ?_
            obtain ⟨x9, S9, h9, hF⟩ := bI_some hF
            refine f_cV (st2 := [.int x9]) C dX6_readLine_64 zyX8_fail zvX8_fail lkRX6_99 (K_X8_fail (l := zXl X) hT2 hpv1 hkv1  h9) hpv1 hkv1 rfl (by decide) rfl rfl (Nat.le_of_ble_eq_true rfl) rfl (fun hT9 => ?_)
            obtain ⟨hz, hF⟩ := bZ_some hF
            cases hF
            exact z_zret C hr hz.1 dX6_readLine_67 ⟨rfl, rfl, hT9⟩
      · replace hF := im hF c3
        refine z_aload_n C dX6_readLine_12 rfl ?_
        refine f_geti C dX6_readLine_13 zfRX6_63 hpv0 hkv0 rfl ?_
        refine z_aload_n C dX6_readLine_16 rfl ?_
        refine f_getK C dX6_readLine_17 fkRX6_94 (C.2.2.2.2.2.1.2.2.1 (gR S v1 6) hw1).2.2.2.1 ?_
        refine z_iand C dX6_readLine_20 ?_
        refine z_if_eq C 30 dX6_readLine_21 (by decide) (fun c10 => ?_) (fun c10 => ?_)
        · replace hF := ip hF c10
          refine z_aload_n C dX6_readLine_30 rfl ?_
          refine z_dup C dX6_readLine_31 rfl ?_
          refine f_geti C dX6_readLine_32 zfRX6_63 hpv0 hkv0 rfl ?_
          refine z_aload_n C dX6_readLine_35 rfl ?_
          refine f_getK C dX6_readLine_36 fkRX6_94 (C.2.2.2.2.2.1.2.2.1 (gR S v1 6) hw1).2.2.2.1 ?_
          refine z_ior C dX6_readLine_39 ?_
          refine f_puti C dX6_readLine_40 zfRX6_63 fw5_14 hpv0 hkv0 rfl rfl rfl ?_
          have hT11 : zT0 kd N0 (sI S2 v0 14 ((gI S2 v0 14) ||| (zval (gR S v1 6)))) := zT0_sI hT2
          replace hF := fS_e hF
          generalize sI S2 v0 14 ((gI S2 v0 14) ||| (zval (gR S v1 6))) = S11 at hF hT11 ⊢
          refine z_goto C 88 dX6_readLine_43 (by decide) ?_
          exact ih1 S11 v0 v1 (gR S v1 6) res hT11 hpv0 hkv0 hpv1 hkv1 hw1 hF
        · replace hF := im hF c10
          refine z_aload_n C dX6_readLine_24 rfl ?_
          refine z_iconst (v := 3) C dX6_readLine_25 (by decide) ?_
          obtain ⟨x12, S12, h12, hF⟩ := bI_some hF
          refine f_cV (st2 := [.int x12]) C dX6_readLine_26 zyX8_fail zvX8_fail lkRX6_99 (K_X8_fail (l := zXl X) hT2 hpv1 hkv1  h12) hpv1 hkv1 rfl (by decide) rfl rfl (Nat.le_of_ble_eq_true rfl) rfl (fun hT12 => ?_)
          obtain ⟨hz, hF⟩ := bZ_some hF
          cases hF
          exact z_zret C hr hz.1 dX6_readLine_29 ⟨rfl, rfl, hT12⟩
    · intro S v0 v1 v2 res hT hpv0 hkv0 hpv1 hkv1 hwv2 hF
      replace hF : F_X6_readLine_1 f (F_X6_readLine f) v0 v1 v2 S = some res := hF
      unfold F_X6_readLine_1 at hF
      refine z_aload_n C dX6_readLine_88 rfl ?_
      obtain ⟨S13, h13, hF⟩ := bV_some hF
      refine f_cV (st2 := []) C dX6_readLine_89 zyX8_advance zvX8_advance lkRX6_112 (K_X8_advance (l := zXl X) hT hpv1 hkv1 h13) hpv1 hkv1 rfl (by decide) rfl rfl (Nat.le_of_ble_eq_true rfl) rfl (fun hT13 => ?_)
      refine z_aload_n C dX6_readLine_92 rfl ?_
      refine z_aload_n C dX6_readLine_93 rfl ?_
      refine z_aload_n C dX6_readLine_94 rfl ?_
      obtain ⟨x14, S14, h14, hF⟩ := bI_some hF
      refine f_cV (st2 := [.int x14]) C dX6_readLine_95 zyX6_readBehind zvX6_readBehind lkRX6_115 (K_X6_readBehind (l := zXl X) hT13 hpv0 hkv0 hwv2 hpv1 hkv1 h14) hpv0 hkv0 rfl (by decide) rfl rfl (Nat.le_of_ble_eq_true rfl) rfl (fun hT14 => ?_)
      refine z_if_eq C 114 dX6_readLine_98 (by decide) (fun c16 => ?_) (fun c16 => ?_)
      · replace hF := ip hF c16
        refine z_mask [false, false, false] ?_ rfl
        exact ih2 S14  res hT14  hF
      · replace hF := im hF c16
        refine z_aload_n C dX6_readLine_101 rfl ?_
        refine z_bipush (v := 59) C dX6_readLine_102 (by decide) ?_
        obtain ⟨x17, S17, h17, hF⟩ := bI_some hF
        refine f_cV (st2 := [.int x17]) C dX6_readLine_104 zyX8_pass_ zvX8_pass_ lkRX6_119 (K_X8_pass_ (l := zXl X) hT14 hpv1 hkv1  h17) hpv1 hkv1 rfl (by decide) rfl rfl (Nat.le_of_ble_eq_true rfl) rfl (fun hT17 => ?_)
        have hJ19 : zV G X (zQX G X (zPo G kd N0 res) 0 0) 3 [some (.ref (zB G + v0)), some (.ref (zB G + v1)), some (.ref (zC G v2))] [.int (if x17 = (0 : Int32) then (0 : Int32) else (1 : Int32))] (cn G kd N0 S17) 115 0 0 := by
          obtain ⟨hz, hF⟩ := bZ_some hF
          cases hF
          exact z_zret C hr hz.1 dX6_readLine_115 ⟨rfl, rfl, hT17⟩
        refine z_if_eq C 114 dX6_readLine_107 (by decide) (fun c18 => ?_) (fun c18 => ?_)
        · refine z_iconst (v := 0) C dX6_readLine_114 (by decide) ?_
          exact zV.at hJ19 (by first | rfl | contradiction | (simp only [if_pos c18]; done)) (by first | rfl | contradiction | (simp only [if_pos c18]; done)) rfl rfl
        · refine z_iconst (v := 1) C dX6_readLine_110 (by decide) ?_
          refine z_goto C 115 dX6_readLine_111 (by decide) ?_
          exact zV.at hJ19 (by first | rfl | contradiction | (simp only [if_neg c18]; done)) (by first | rfl | contradiction | (simp only [if_neg c18]; done)) rfl rfl
    · intro S  res hT  hF
      replace hF : F_X6_readLine_2 f (F_X6_readLine f)  S = some res := hF
      unfold F_X6_readLine_2 at hF
      refine z_iconst (v := 0) C dX6_readLine_114 (by decide) ?_
      exact ih3 S 0 res hT  hF
    · intro S w0 res hT  hF
      replace hF : F_X6_readLine_3 f (F_X6_readLine f) w0 S = some res := hF
      unfold F_X6_readLine_3 at hF
      obtain ⟨hz, hF⟩ := bZ_some hF
      cases hF
      exact z_zret C hr hz.1 dX6_readLine_115 ⟨rfl, rfl, hT⟩
theorem K_X6_readLine {G : zG} {l : Launch} {kd : kD} {N0 f : Nat} {S : aS} {v0 : Nat} {v1 : Nat} {res : Option Value × aS} (hT : zT0 kd N0 S) (hpv0 : v0 < N0) (hkv0 : kd v0 = .inl 5) (hpv1 : v1 < N0) (hkv1 : kd v1 = .inl 7) (hF : F_X6_readLine f 0 [.ref v0, .ref v1] S = some res) : zM G l 46 0 0 yX6_readLine cX6_readLine 3 (some .boolean) [.ref (zB G + v0), .ref (zB G + v1)] (cn G kd N0 S) (zPo G kd N0 res) := zM.of (by decide) rfl (Nat.le_of_ble_eq_true rfl) (fun X _ C hr _ => (B_X6_readLine C hr f).1 S v0 v1 res hT hpv0 hkv0 hpv1 hkv1 hF)
def F_X1_read_0 (f : Nat) (rc : Nat → List Value → aS → aR) (v0 : Nat) (v1 : Nat) (v2 : Nat) (S : aS) : aR :=
  fS (sI S v0 3 0) fun S1 => bV (F_X8_rewind f 0 [.ref v1] S1) fun S2 => rc 1 [.ref v0, .ref v1, .ref v2, .int 0] S2
def F_X1_read_1 (f : Nat) (rc : Nat → List Value → aS → aR) (v0 : Nat) (v1 : Nat) (v2 : Nat) (v3 : Int32) (S : aS) : aR :=
  if (1000 : Int32) < v3 then rc 2 [] S else bI (F_X8_isAtEnd f 0 [.ref v1] S) fun x4 S4 => if x4 = (0 : Int32) then bI (F_X1_readLine f 0 [.ref v0, .ref v1, .ref v2] S4) fun x6 S6 => if x6 = (0 : Int32) then some (some (.int (gI S6 v1 2)), S6) else rc 1 [.ref v0, .ref v1, .ref v2, .int (v3 + 1)] S6 else rc 2 [] S4
def F_X1_read_2 (f : Nat) (rc : Nat → List Value → aS → aR)  (S : aS) : aR :=
  some (some (.int 0), S)
def F_X1_read : Nat → Nat → List Value → aS → aR
  | 0, _, _, _ => none
  | f + 1, 0, vs, S => F_X1_read_0 f (F_X1_read f) (vR vs 0) (vR vs 1) (vR vs 2) S
  | f + 1, 1, vs, S => F_X1_read_1 f (F_X1_read f) (vR vs 0) (vR vs 1) (vR vs 2) (vI vs 3) S
  | f + 1, 2, vs, S => F_X1_read_2 f (F_X1_read f)  S
  | _ + 1, _, _, _ => none
theorem dX1_read_0 : decode cX1_read 0 = .ok (.aload_n 0, 1) := by decide +kernel
theorem dX1_read_1 : decode cX1_read 1 = .ok (.iconst 0, 1) := by decide +kernel
theorem dX1_read_2 : decode cX1_read 2 = .ok (.putfield 21, 3) := by decide +kernel
theorem dX1_read_5 : decode cX1_read 5 = .ok (.aload_n 1, 1) := by decide +kernel
theorem dX1_read_6 : decode cX1_read 6 = .ok (.invokevirtual 25, 3) := by decide +kernel
theorem dX1_read_9 : decode cX1_read 9 = .ok (.iconst 0, 1) := by decide +kernel
theorem dX1_read_10 : decode cX1_read 10 = .ok (.istore_n 3, 1) := by decide +kernel
theorem dX1_read_11 : decode cX1_read 11 = .ok (.iload_n 3, 1) := by decide +kernel
theorem dX1_read_12 : decode cX1_read 12 = .ok (.sipush 1000, 3) := by decide +kernel
theorem dX1_read_15 : decode cX1_read 15 = .ok (.if_icmp .gt 30, 3) := by decide +kernel
theorem dX1_read_18 : decode cX1_read 18 = .ok (.aload_n 1, 1) := by decide +kernel
theorem dX1_read_19 : decode cX1_read 19 = .ok (.invokevirtual 30, 3) := by decide +kernel
theorem dX1_read_22 : decode cX1_read 22 = .ok (.ifCond .ne 23, 3) := by decide +kernel
theorem dX1_read_25 : decode cX1_read 25 = .ok (.aload_n 0, 1) := by decide +kernel
theorem dX1_read_26 : decode cX1_read 26 = .ok (.aload_n 1, 1) := by decide +kernel
theorem dX1_read_27 : decode cX1_read 27 = .ok (.aload_n 2, 1) := by decide +kernel
theorem dX1_read_28 : decode cX1_read 28 = .ok (.invokevirtual 34, 3) := by decide +kernel
theorem dX1_read_31 : decode cX1_read 31 = .ok (.ifCond .ne 8, 3) := by decide +kernel
theorem dX1_read_34 : decode cX1_read 34 = .ok (.aload_n 1, 1) := by decide +kernel
theorem dX1_read_35 : decode cX1_read 35 = .ok (.getfield 38, 3) := by decide +kernel
theorem dX1_read_38 : decode cX1_read 38 = .ok (.ireturn, 1) := by decide +kernel
theorem dX1_read_39 : decode cX1_read 39 = .ok (.iinc 3 1, 3) := by decide +kernel
theorem dX1_read_42 : decode cX1_read 42 = .ok (.goto (-31), 3) := by decide +kernel
theorem dX1_read_45 : decode cX1_read 45 = .ok (.iconst 0, 1) := by decide +kernel
theorem dX1_read_46 : decode cX1_read 46 = .ok (.ireturn, 1) := by decide +kernel
set_option maxHeartbeats 4000000 in
set_option maxRecDepth 100000 in
theorem B_X1_read {G : zG} {X : zX} {kd : kD} {N0 : Nat} (C : zCt G X 6 0 0 RX1 cX1_read 4) (hr : (zXh X).sig.returnType = (some .int)) : ∀ f : Nat,
    (∀ (S : aS) (v0 : Nat) (v1 : Nat) (v2 : Nat) (res : Option Value × aS), zT0 kd N0 S → v0 < N0 → kd v0 = .inl 0 → v1 < N0 → kd v1 = .inl 7 → v2 < N0 → kd v2 = .inl 5 → F_X1_read f 0 [.ref v0, .ref v1, .ref v2] S = some res → zV G X (zQX G X (zPo G kd N0 res) 0 0) 4 [some (.ref (zB G + v0)), some (.ref (zB G + v1)), some (.ref (zB G + v2)), none] [] (cn G kd N0 S) 0 0 0) ∧
    (∀ (S : aS) (v0 : Nat) (v1 : Nat) (v2 : Nat) (v3 : Int32) (res : Option Value × aS), zT0 kd N0 S → v0 < N0 → kd v0 = .inl 0 → v1 < N0 → kd v1 = .inl 7 → v2 < N0 → kd v2 = .inl 5 → F_X1_read f 1 [.ref v0, .ref v1, .ref v2, .int v3] S = some res → zV G X (zQX G X (zPo G kd N0 res) 0 0) 4 [some (.ref (zB G + v0)), some (.ref (zB G + v1)), some (.ref (zB G + v2)), some (.int v3)] [] (cn G kd N0 S) 11 0 0) ∧
    (∀ (S : aS)  (res : Option Value × aS), zT0 kd N0 S → F_X1_read f 2 [] S = some res → zV G X (zQX G X (zPo G kd N0 res) 0 0) 4 [none, none, none, none] [] (cn G kd N0 S) 45 0 0) := by
  intro f
  induction f with
  | zero => exact ⟨(fun _ _ _ _ _ _ _ _ _ _ _ _ h => by cases h), (fun _ _ _ _ _ _ _ _ _ _ _ _ _ h => by cases h), (fun _ _ _ h => by cases h)⟩
  | succ f ih =>
    obtain ⟨ih0, ih1, ih2⟩ := ih
    refine ⟨?_, ?_, ?_⟩
    · intro S v0 v1 v2 res hT hpv0 hkv0 hpv1 hkv1 hpv2 hkv2 hF
      replace hF : F_X1_read_0 f (F_X1_read f) v0 v1 v2 S = some res := hF
      unfold F_X1_read_0 at hF
      refine z_aload_n C dX1_read_0 rfl ?_
      refine z_iconst (v := 0) C dX1_read_1 (by decide) ?_
      refine f_puti C dX1_read_2 zfRX1_21 fw0_3 hpv0 hkv0 rfl rfl rfl ?_
      have hT1 : zT0 kd N0 (sI S v0 3 0) := zT0_sI hT
      replace hF := fS_e hF
      generalize sI S v0 3 0 = S1 at hF hT1 ⊢
      refine z_aload_n C dX1_read_5 rfl ?_
      obtain ⟨S2, h2, hF⟩ := bV_some hF
      refine f_cV (st2 := []) C dX1_read_6 zyX8_rewind zvX8_rewind lkRX1_25 (K_X8_rewind (l := zXl X) hT1 hpv1 hkv1 h2) hpv1 hkv1 rfl (by decide) rfl rfl (Nat.le_of_ble_eq_true rfl) rfl (fun hT2 => ?_)
      refine z_iconst (v := 0) C dX1_read_9 (by decide) ?_
      refine z_istore_n (lv2 := [some (.ref (zB G + v0)), some (.ref (zB G + v1)), some (.ref (zB G + v2)), some (.int 0)]) C dX1_read_10 (by decide) rfl ?_
      exact ih1 S2 v0 v1 v2 0 res hT2 hpv0 hkv0 hpv1 hkv1 hpv2 hkv2  hF
    · intro S v0 v1 v2 v3 res hT hpv0 hkv0 hpv1 hkv1 hpv2 hkv2 hF
      replace hF : F_X1_read_1 f (F_X1_read f) v0 v1 v2 v3 S = some res := hF
      unfold F_X1_read_1 at hF
      refine z_iload_n C dX1_read_11 rfl ?_
      refine z_sipush (v := 1000) C dX1_read_12 (by decide) ?_
      refine z_icmp_gt C 45 dX1_read_15 (by decide) (fun c3 => ?_) (fun c3 => ?_)
      · replace hF := ip hF c3
        refine z_mask [false, false, false, false] ?_ rfl
        exact ih2 S  res hT  hF
      · replace hF := im hF c3
        refine z_aload_n C dX1_read_18 rfl ?_
        obtain ⟨x4, S4, h4, hF⟩ := bI_some hF
        refine f_cV (st2 := [.int x4]) C dX1_read_19 zyX8_isAtEnd zvX8_isAtEnd lkRX1_30 (K_X8_isAtEnd (l := zXl X) hT hpv1 hkv1 h4) hpv1 hkv1 rfl (by decide) rfl rfl (Nat.le_of_ble_eq_true rfl) rfl (fun hT4 => ?_)
        refine z_if_ne C 45 dX1_read_22 (by decide) (fun c5 => ?_) (fun c5 => ?_)
        · replace hF := im hF c5
          refine z_mask [false, false, false, false] ?_ rfl
          exact ih2 S4  res hT4  hF
        · replace hF := ip hF c5
          refine z_aload_n C dX1_read_25 rfl ?_
          refine z_aload_n C dX1_read_26 rfl ?_
          refine z_aload_n C dX1_read_27 rfl ?_
          obtain ⟨x6, S6, h6, hF⟩ := bI_some hF
          refine f_cV (st2 := [.int x6]) C dX1_read_28 zyX1_readLine zvX1_readLine lkRX1_34 (K_X1_readLine (l := zXl X) hT4 hpv0 hkv0 hpv1 hkv1 hpv2 hkv2 h6) hpv0 hkv0 rfl (by decide) rfl rfl (Nat.le_of_ble_eq_true rfl) rfl (fun hT6 => ?_)
          refine z_if_ne C 39 dX1_read_31 (by decide) (fun c7 => ?_) (fun c7 => ?_)
          · replace hF := im hF c7
            refine z_iinc (v := v3 + 1) (lv2 := [some (.ref (zB G + v0)), some (.ref (zB G + v1)), some (.ref (zB G + v2)), some (.int (v3 + 1))]) C dX1_read_39 rfl (by rw [show Int32.ofInt 1 = (1 : Int32) from by decide]) rfl ?_
            refine z_goto C 11 dX1_read_42 (by decide) ?_
            exact ih1 S6 v0 v1 v2 (v3 + 1) res hT6 hpv0 hkv0 hpv1 hkv1 hpv2 hkv2  hF
          · replace hF := ip hF c7
            refine z_aload_n C dX1_read_34 rfl ?_
            refine f_geti C dX1_read_35 zfRX1_38 hpv1 hkv1 rfl ?_
            cases hF
            exact z_iret C hr dX1_read_38 ⟨rfl, rfl, hT6⟩
    · intro S  res hT  hF
      replace hF : F_X1_read_2 f (F_X1_read f)  S = some res := hF
      unfold F_X1_read_2 at hF
      refine z_iconst (v := 0) C dX1_read_45 (by decide) ?_
      cases hF
      exact z_iret C hr dX1_read_46 ⟨rfl, rfl, hT⟩
theorem K_X1_read {G : zG} {l : Launch} {kd : kD} {N0 f : Nat} {S : aS} {v0 : Nat} {v1 : Nat} {v2 : Nat} {res : Option Value × aS} (hT : zT0 kd N0 S) (hpv0 : v0 < N0) (hkv0 : kd v0 = .inl 0) (hpv1 : v1 < N0) (hkv1 : kd v1 = .inl 7) (hpv2 : v2 < N0) (hkv2 : kd v2 = .inl 5) (hF : F_X1_read f 0 [.ref v0, .ref v1, .ref v2] S = some res) : zM G l 6 0 0 yX1_read cX1_read 4 (some .int) [.ref (zB G + v0), .ref (zB G + v1), .ref (zB G + v2)] (cn G kd N0 S) (zPo G kd N0 res) := zM.of (by decide) rfl (Nat.le_of_ble_eq_true rfl) (fun X _ C hr _ => (B_X1_read C hr f).1 S v0 v1 v2 res hT hpv0 hkv0 hpv1 hkv1 hpv2 hkv2 hF)
def F_X6_read_0 (f : Nat) (rc : Nat → List Value → aS → aR) (v0 : Nat) (v1 : Nat) (S : aS) : aR :=
  bV (F_X6_clear f 0 [.ref v0] S) fun S1 => bV (F_X8_rewind f 0 [.ref v1] S1) fun S2 => rc 1 [.ref v0, .ref v1, .int 0] S2
def F_X6_read_1 (f : Nat) (rc : Nat → List Value → aS → aR) (v0 : Nat) (v1 : Nat) (v2 : Int32) (S : aS) : aR :=
  if (1000 : Int32) < v2 then rc 2 [] S else bI (F_X8_isAtEnd f 0 [.ref v1] S) fun x4 S4 => if x4 = (0 : Int32) then bI (F_X6_readLine f 0 [.ref v0, .ref v1] S4) fun x6 S6 => if x6 = (0 : Int32) then some (some (.int (gI S6 v1 2)), S6) else rc 1 [.ref v0, .ref v1, .int (v2 + 1)] S6 else rc 2 [] S4
def F_X6_read_2 (f : Nat) (rc : Nat → List Value → aS → aR)  (S : aS) : aR :=
  some (some (.int 0), S)
def F_X6_read : Nat → Nat → List Value → aS → aR
  | 0, _, _, _ => none
  | f + 1, 0, vs, S => F_X6_read_0 f (F_X6_read f) (vR vs 0) (vR vs 1) S
  | f + 1, 1, vs, S => F_X6_read_1 f (F_X6_read f) (vR vs 0) (vR vs 1) (vI vs 2) S
  | f + 1, 2, vs, S => F_X6_read_2 f (F_X6_read f)  S
  | _ + 1, _, _, _ => none
theorem dX6_read_0 : decode cX6_read 0 = .ok (.aload_n 0, 1) := by decide +kernel
theorem dX6_read_1 : decode cX6_read 1 = .ok (.invokevirtual 69, 3) := by decide +kernel
theorem dX6_read_4 : decode cX6_read 4 = .ok (.aload_n 1, 1) := by decide +kernel
theorem dX6_read_5 : decode cX6_read 5 = .ok (.invokevirtual 70, 3) := by decide +kernel
theorem dX6_read_8 : decode cX6_read 8 = .ok (.iconst 0, 1) := by decide +kernel
theorem dX6_read_9 : decode cX6_read 9 = .ok (.istore_n 2, 1) := by decide +kernel
theorem dX6_read_10 : decode cX6_read 10 = .ok (.iload_n 2, 1) := by decide +kernel
theorem dX6_read_11 : decode cX6_read 11 = .ok (.sipush 1000, 3) := by decide +kernel
theorem dX6_read_14 : decode cX6_read 14 = .ok (.if_icmp .gt 29, 3) := by decide +kernel
theorem dX6_read_17 : decode cX6_read 17 = .ok (.aload_n 1, 1) := by decide +kernel
theorem dX6_read_18 : decode cX6_read 18 = .ok (.invokevirtual 75, 3) := by decide +kernel
theorem dX6_read_21 : decode cX6_read 21 = .ok (.ifCond .ne 22, 3) := by decide +kernel
theorem dX6_read_24 : decode cX6_read 24 = .ok (.aload_n 0, 1) := by decide +kernel
theorem dX6_read_25 : decode cX6_read 25 = .ok (.aload_n 1, 1) := by decide +kernel
theorem dX6_read_26 : decode cX6_read 26 = .ok (.invokevirtual 79, 3) := by decide +kernel
theorem dX6_read_29 : decode cX6_read 29 = .ok (.ifCond .ne 8, 3) := by decide +kernel
theorem dX6_read_32 : decode cX6_read 32 = .ok (.aload_n 1, 1) := by decide +kernel
theorem dX6_read_33 : decode cX6_read 33 = .ok (.getfield 83, 3) := by decide +kernel
theorem dX6_read_36 : decode cX6_read 36 = .ok (.ireturn, 1) := by decide +kernel
theorem dX6_read_37 : decode cX6_read 37 = .ok (.iinc 2 1, 3) := by decide +kernel
theorem dX6_read_40 : decode cX6_read 40 = .ok (.goto (-30), 3) := by decide +kernel
theorem dX6_read_43 : decode cX6_read 43 = .ok (.iconst 0, 1) := by decide +kernel
theorem dX6_read_44 : decode cX6_read 44 = .ok (.ireturn, 1) := by decide +kernel
set_option maxHeartbeats 4000000 in
set_option maxRecDepth 100000 in
theorem B_X6_read {G : zG} {X : zX} {kd : kD} {N0 : Nat} (C : zCt G X 47 0 0 RX6 cX6_read 3) (hr : (zXh X).sig.returnType = (some .int)) : ∀ f : Nat,
    (∀ (S : aS) (v0 : Nat) (v1 : Nat) (res : Option Value × aS), zT0 kd N0 S → v0 < N0 → kd v0 = .inl 5 → v1 < N0 → kd v1 = .inl 7 → F_X6_read f 0 [.ref v0, .ref v1] S = some res → zV G X (zQX G X (zPo G kd N0 res) 0 0) 3 [some (.ref (zB G + v0)), some (.ref (zB G + v1)), none] [] (cn G kd N0 S) 0 0 0) ∧
    (∀ (S : aS) (v0 : Nat) (v1 : Nat) (v2 : Int32) (res : Option Value × aS), zT0 kd N0 S → v0 < N0 → kd v0 = .inl 5 → v1 < N0 → kd v1 = .inl 7 → F_X6_read f 1 [.ref v0, .ref v1, .int v2] S = some res → zV G X (zQX G X (zPo G kd N0 res) 0 0) 3 [some (.ref (zB G + v0)), some (.ref (zB G + v1)), some (.int v2)] [] (cn G kd N0 S) 10 0 0) ∧
    (∀ (S : aS)  (res : Option Value × aS), zT0 kd N0 S → F_X6_read f 2 [] S = some res → zV G X (zQX G X (zPo G kd N0 res) 0 0) 3 [none, none, none] [] (cn G kd N0 S) 43 0 0) := by
  intro f
  induction f with
  | zero => exact ⟨(fun _ _ _ _ _ _ _ _ _ h => by cases h), (fun _ _ _ _ _ _ _ _ _ _ h => by cases h), (fun _ _ _ h => by cases h)⟩
  | succ f ih =>
    obtain ⟨ih0, ih1, ih2⟩ := ih
    refine ⟨?_, ?_, ?_⟩
    · intro S v0 v1 res hT hpv0 hkv0 hpv1 hkv1 hF
      replace hF : F_X6_read_0 f (F_X6_read f) v0 v1 S = some res := hF
      unfold F_X6_read_0 at hF
      refine z_aload_n C dX6_read_0 rfl ?_
      obtain ⟨S1, h1, hF⟩ := bV_some hF
      refine f_cV (st2 := []) C dX6_read_1 zyX6_clear zvX6_clear lkRX6_69 (K_X6_clear (l := zXl X) hT hpv0 hkv0 h1) hpv0 hkv0 rfl (by decide) rfl rfl (Nat.le_of_ble_eq_true rfl) rfl (fun hT1 => ?_)
      refine z_aload_n C dX6_read_4 rfl ?_
      obtain ⟨S2, h2, hF⟩ := bV_some hF
      refine f_cV (st2 := []) C dX6_read_5 zyX8_rewind zvX8_rewind lkRX6_70 (K_X8_rewind (l := zXl X) hT1 hpv1 hkv1 h2) hpv1 hkv1 rfl (by decide) rfl rfl (Nat.le_of_ble_eq_true rfl) rfl (fun hT2 => ?_)
      refine z_iconst (v := 0) C dX6_read_8 (by decide) ?_
      refine z_istore_n (lv2 := [some (.ref (zB G + v0)), some (.ref (zB G + v1)), some (.int 0)]) C dX6_read_9 (by decide) rfl ?_
      exact ih1 S2 v0 v1 0 res hT2 hpv0 hkv0 hpv1 hkv1  hF
    · intro S v0 v1 v2 res hT hpv0 hkv0 hpv1 hkv1 hF
      replace hF : F_X6_read_1 f (F_X6_read f) v0 v1 v2 S = some res := hF
      unfold F_X6_read_1 at hF
      refine z_iload_n C dX6_read_10 rfl ?_
      refine z_sipush (v := 1000) C dX6_read_11 (by decide) ?_
      refine z_icmp_gt C 43 dX6_read_14 (by decide) (fun c3 => ?_) (fun c3 => ?_)
      · replace hF := ip hF c3
        refine z_mask [false, false, false] ?_ rfl
        exact ih2 S  res hT  hF
      · replace hF := im hF c3
        refine z_aload_n C dX6_read_17 rfl ?_
        obtain ⟨x4, S4, h4, hF⟩ := bI_some hF
        refine f_cV (st2 := [.int x4]) C dX6_read_18 zyX8_isAtEnd zvX8_isAtEnd lkRX6_75 (K_X8_isAtEnd (l := zXl X) hT hpv1 hkv1 h4) hpv1 hkv1 rfl (by decide) rfl rfl (Nat.le_of_ble_eq_true rfl) rfl (fun hT4 => ?_)
        refine z_if_ne C 43 dX6_read_21 (by decide) (fun c5 => ?_) (fun c5 => ?_)
        · replace hF := im hF c5
          refine z_mask [false, false, false] ?_ rfl
          exact ih2 S4  res hT4  hF
        · replace hF := ip hF c5
          refine z_aload_n C dX6_read_24 rfl ?_
          refine z_aload_n C dX6_read_25 rfl ?_
          obtain ⟨x6, S6, h6, hF⟩ := bI_some hF
          refine f_cV (st2 := [.int x6]) C dX6_read_26 zyX6_readLine zvX6_readLine lkRX6_79 (K_X6_readLine (l := zXl X) hT4 hpv0 hkv0 hpv1 hkv1 h6) hpv0 hkv0 rfl (by decide) rfl rfl (Nat.le_of_ble_eq_true rfl) rfl (fun hT6 => ?_)
          refine z_if_ne C 37 dX6_read_29 (by decide) (fun c7 => ?_) (fun c7 => ?_)
          · replace hF := im hF c7
            refine z_iinc (v := v2 + 1) (lv2 := [some (.ref (zB G + v0)), some (.ref (zB G + v1)), some (.int (v2 + 1))]) C dX6_read_37 rfl (by rw [show Int32.ofInt 1 = (1 : Int32) from by decide]) rfl ?_
            refine z_goto C 10 dX6_read_40 (by decide) ?_
            exact ih1 S6 v0 v1 (v2 + 1) res hT6 hpv0 hkv0 hpv1 hkv1  hF
          · replace hF := ip hF c7
            refine z_aload_n C dX6_read_32 rfl ?_
            refine f_geti C dX6_read_33 zfRX6_83 hpv1 hkv1 rfl ?_
            cases hF
            exact z_iret C hr dX6_read_36 ⟨rfl, rfl, hT6⟩
    · intro S  res hT  hF
      replace hF : F_X6_read_2 f (F_X6_read f)  S = some res := hF
      unfold F_X6_read_2 at hF
      refine z_iconst (v := 0) C dX6_read_43 (by decide) ?_
      cases hF
      exact z_iret C hr dX6_read_44 ⟨rfl, rfl, hT⟩
theorem K_X6_read {G : zG} {l : Launch} {kd : kD} {N0 f : Nat} {S : aS} {v0 : Nat} {v1 : Nat} {res : Option Value × aS} (hT : zT0 kd N0 S) (hpv0 : v0 < N0) (hkv0 : kd v0 = .inl 5) (hpv1 : v1 < N0) (hkv1 : kd v1 = .inl 7) (hF : F_X6_read f 0 [.ref v0, .ref v1] S = some res) : zM G l 47 0 0 yX6_read cX6_read 3 (some .int) [.ref (zB G + v0), .ref (zB G + v1)] (cn G kd N0 S) (zPo G kd N0 res) := zM.of (by decide) rfl (Nat.le_of_ble_eq_true rfl) (fun X _ C hr _ => (B_X6_read C hr f).1 S v0 v1 res hT hpv0 hkv0 hpv1 hkv1 hF)
def F_X12_path_0 (f : Nat) (rc : Nat → List Value → aS → aR) (v0 : Nat) (S : aS) : aR :=
  bI (F_X6_read f 0 [.ref (gR S v0 2), .ref (gR S v0 0)] S) fun x3 S3 => bV (F_X8_clear f 0 [.ref (gR S3 v0 0)] S3) fun S5 => if x3 = (0 : Int32) then fS (sR S5 v0 2 (gR S5 v0 1)) fun S12 => fS (sR S12 v0 1 (gR S5 v0 2)) fun S13 => bV (F_X12_begin f 0 [.ref v0] S13) fun S14 => rc 1 [.int x3] S14 else rc 1 [.int x3] S5
def F_X12_path_1 (f : Nat) (rc : Nat → List Value → aS → aR) (v0 : Int32) (S : aS) : aR :=
  some (some (.int v0), S)
def F_X12_path : Nat → Nat → List Value → aS → aR
  | 0, _, _, _ => none
  | f + 1, 0, vs, S => F_X12_path_0 f (F_X12_path f) (vR vs 0) S
  | f + 1, 1, vs, S => F_X12_path_1 f (F_X12_path f) (vI vs 0) S
  | _ + 1, _, _, _ => none
theorem dX12_path_0 : decode cX12_path 0 = .ok (.aload_n 0, 1) := by decide +kernel
theorem dX12_path_1 : decode cX12_path 1 = .ok (.getfield 23, 3) := by decide +kernel
theorem dX12_path_4 : decode cX12_path 4 = .ok (.aload_n 0, 1) := by decide +kernel
theorem dX12_path_5 : decode cX12_path 5 = .ok (.getfield 10, 3) := by decide +kernel
theorem dX12_path_8 : decode cX12_path 8 = .ok (.invokevirtual 109, 3) := by decide +kernel
theorem dX12_path_11 : decode cX12_path 11 = .ok (.istore_n 1, 1) := by decide +kernel
theorem dX12_path_12 : decode cX12_path 12 = .ok (.aload_n 0, 1) := by decide +kernel
theorem dX12_path_13 : decode cX12_path 13 = .ok (.getfield 10, 3) := by decide +kernel
theorem dX12_path_16 : decode cX12_path 16 = .ok (.invokevirtual 113, 3) := by decide +kernel
theorem dX12_path_19 : decode cX12_path 19 = .ok (.iload_n 1, 1) := by decide +kernel
theorem dX12_path_20 : decode cX12_path 20 = .ok (.ifCond .ne 25, 3) := by decide +kernel
theorem dX12_path_23 : decode cX12_path 23 = .ok (.aload_n 0, 1) := by decide +kernel
theorem dX12_path_24 : decode cX12_path 24 = .ok (.getfield 23, 3) := by decide +kernel
theorem dX12_path_27 : decode cX12_path 27 = .ok (.astore_n 2, 1) := by decide +kernel
theorem dX12_path_28 : decode cX12_path 28 = .ok (.aload_n 0, 1) := by decide +kernel
theorem dX12_path_29 : decode cX12_path 29 = .ok (.aload_n 0, 1) := by decide +kernel
theorem dX12_path_30 : decode cX12_path 30 = .ok (.getfield 19, 3) := by decide +kernel
theorem dX12_path_33 : decode cX12_path 33 = .ok (.putfield 23, 3) := by decide +kernel
theorem dX12_path_36 : decode cX12_path 36 = .ok (.aload_n 0, 1) := by decide +kernel
theorem dX12_path_37 : decode cX12_path 37 = .ok (.aload_n 2, 1) := by decide +kernel
theorem dX12_path_38 : decode cX12_path 38 = .ok (.putfield 19, 3) := by decide +kernel
theorem dX12_path_41 : decode cX12_path 41 = .ok (.aload_n 0, 1) := by decide +kernel
theorem dX12_path_42 : decode cX12_path 42 = .ok (.invokevirtual 83, 3) := by decide +kernel
theorem dX12_path_45 : decode cX12_path 45 = .ok (.iload_n 1, 1) := by decide +kernel
theorem dX12_path_46 : decode cX12_path 46 = .ok (.ireturn, 1) := by decide +kernel
set_option maxHeartbeats 4000000 in
set_option maxRecDepth 100000 in
theorem B_X12_path {G : zG} {X : zX} {kd : kD} {N0 : Nat} (C : zCt G X 48 0 0 RX12 cX12_path 3) (hr : (zXh X).sig.returnType = (some .int)) : ∀ f : Nat,
    (∀ (S : aS) (v0 : Nat) (res : Option Value × aS), zT0 kd N0 S → v0 < N0 → kd v0 = .inl 10 → F_X12_path f 0 [.ref v0] S = some res → zV G X (zQX G X (zPo G kd N0 res) 0 0) 3 [some (.ref (zB G + v0)), none, none] [] (cn G kd N0 S) 0 0 0) ∧
    (∀ (S : aS) (v0 : Int32) (res : Option Value × aS), zT0 kd N0 S → F_X12_path f 1 [.int v0] S = some res → zV G X (zQX G X (zPo G kd N0 res) 0 0) 3 [none, some (.int v0), none] [] (cn G kd N0 S) 45 0 0) := by
  intro f
  induction f with
  | zero => exact ⟨(fun _ _ _ _ _ _ h => by cases h), (fun _ _ _ _ h => by cases h)⟩
  | succ f ih =>
    obtain ⟨ih0, ih1⟩ := ih
    refine ⟨?_, ?_⟩
    · intro S v0 res hT hpv0 hkv0 hF
      replace hF : F_X12_path_0 f (F_X12_path f) v0 S = some res := hF
      unfold F_X12_path_0 at hF
      refine z_aload_n C dX12_path_0 rfl ?_
      refine f_getr C dX12_path_1 zfRX12_23 hpv0 hkv0 rfl ?_
      obtain ⟨hp1, hk1⟩ := hT.1 v0 10 2 (.inl 5) hpv0 hkv0 rfl
      refine z_aload_n C dX12_path_4 rfl ?_
      refine f_getr C dX12_path_5 zfRX12_10 hpv0 hkv0 rfl ?_
      obtain ⟨hp2, hk2⟩ := hT.1 v0 10 0 (.inl 7) hpv0 hkv0 rfl
      obtain ⟨x3, S3, h3, hF⟩ := bI_some hF
      refine f_cV (st2 := [.int x3]) C dX12_path_8 zyX6_read zvX6_read lkRX12_109 (K_X6_read (l := zXl X) hT hp1 hk1 hp2 hk2 h3) hp1 hk1 rfl (by decide) rfl rfl (Nat.le_of_ble_eq_true rfl) rfl (fun hT3 => ?_)
      refine z_istore_n (lv2 := [some (.ref (zB G + v0)), some (.int x3), none]) C dX12_path_11 (by decide) rfl ?_
      refine z_aload_n C dX12_path_12 rfl ?_
      refine f_getr C dX12_path_13 zfRX12_10 hpv0 hkv0 rfl ?_
      obtain ⟨hp4, hk4⟩ := hT3.1 v0 10 0 (.inl 7) hpv0 hkv0 rfl
      obtain ⟨S5, h5, hF⟩ := bV_some hF
      refine f_cV (st2 := []) C dX12_path_16 zyX8_clear zvX8_clear lkRX12_113 (K_X8_clear (l := zXl X) hT3 hp4 hk4 h5) hp4 hk4 rfl (by decide) rfl rfl (Nat.le_of_ble_eq_true rfl) rfl (fun hT5 => ?_)
      refine z_iload_n C dX12_path_19 rfl ?_
      refine z_if_ne C 45 dX12_path_20 (by decide) (fun c9 => ?_) (fun c9 => ?_)
      · replace hF := im hF c9
        refine z_mask [false, true, true] ?_ rfl
        exact ih1 S5 x3 res hT5  hF
      · replace hF := ip hF c9
        refine z_aload_n C dX12_path_23 rfl ?_
        refine f_getr C dX12_path_24 zfRX12_23 hpv0 hkv0 rfl ?_
        obtain ⟨hp10, hk10⟩ := hT5.1 v0 10 2 (.inl 5) hpv0 hkv0 rfl
        refine z_astore_n (lv2 := [some (.ref (zB G + v0)), some (.int x3), some (.ref (zB G + (gR S5 v0 2)))]) C dX12_path_27 (by decide) rfl ?_
        refine z_aload_n C dX12_path_28 rfl ?_
        refine z_aload_n C dX12_path_29 rfl ?_
        refine f_getr C dX12_path_30 zfRX12_19 hpv0 hkv0 rfl ?_
        obtain ⟨hp11, hk11⟩ := hT5.1 v0 10 1 (.inl 5) hpv0 hkv0 rfl
        refine f_putr C dX12_path_33 zfRX12_23 fw10_2 hpv0 hkv0 rfl rfl rfl ?_
        have hT12 : zT0 kd N0 (sR S5 v0 2 (gR S5 v0 1)) := zT0_sR hT5 hkv0 (fun q hq => by cases hq; exact ⟨hp11, hk11⟩) (fun h _ => by cases h)
        replace hF := fS_e hF
        generalize sR S5 v0 2 (gR S5 v0 1) = S12 at hF hT12 ⊢
        refine z_aload_n C dX12_path_36 rfl ?_
        refine z_aload_n C dX12_path_37 rfl ?_
        refine f_putr C dX12_path_38 zfRX12_19 fw10_1 hpv0 hkv0 rfl rfl rfl ?_
        have hT13 : zT0 kd N0 (sR S12 v0 1 (gR S5 v0 2)) := zT0_sR hT12 hkv0 (fun q hq => by cases hq; exact ⟨hp10, hk10⟩) (fun h _ => by cases h)
        replace hF := fS_e hF
        generalize sR S12 v0 1 (gR S5 v0 2) = S13 at hF hT13 ⊢
        refine z_aload_n C dX12_path_41 rfl ?_
        obtain ⟨S14, h14, hF⟩ := bV_some hF
        refine f_cV (st2 := []) C dX12_path_42 zyX12_begin zvX12_begin lkRX12_83 (K_X12_begin (l := zXl X) hT13 hpv0 hkv0 h14) hpv0 hkv0 rfl (by decide) rfl rfl (Nat.le_of_ble_eq_true rfl) rfl (fun hT14 => ?_)
        refine z_mask [false, true, false] ?_ rfl
        exact ih1 S14 x3 res hT14  hF
    · intro S v0 res hT  hF
      replace hF : F_X12_path_1 f (F_X12_path f) v0 S = some res := hF
      unfold F_X12_path_1 at hF
      refine z_iload_n C dX12_path_45 rfl ?_
      cases hF
      exact z_iret C hr dX12_path_46 ⟨rfl, rfl, hT⟩
theorem K_X12_path {G : zG} {l : Launch} {kd : kD} {N0 f : Nat} {S : aS} {v0 : Nat} {res : Option Value × aS} (hT : zT0 kd N0 S) (hpv0 : v0 < N0) (hkv0 : kd v0 = .inl 10) (hF : F_X12_path f 0 [.ref v0] S = some res) : zM G l 48 0 0 yX12_path cX12_path 3 (some .int) [.ref (zB G + v0)] (cn G kd N0 S) (zPo G kd N0 res) := zM.of (by decide) rfl (Nat.le_of_ble_eq_true rfl) (fun X _ C hr _ => (B_X12_path C hr f).1 S v0 res hT hpv0 hkv0 hF)
def F_X12_day_0 (f : Nat) (rc : Nat → List Value → aS → aR) (v0 : Nat) (S : aS) : aR :=
  bI (F_X1_read f 0 [.ref (gR S v0 4), .ref (gR S v0 0), .ref (gR S v0 1)] S) fun x4 S4 => bV (F_X8_clear f 0 [.ref (gR S4 v0 0)] S4) fun S6 => if x4 = (0 : Int32) then fS (sR S6 v0 4 (gR S6 v0 3)) fun S13 => fS (sR S13 v0 3 (gR S6 v0 4)) fun S14 => rc 1 [.int x4] S14 else rc 1 [.int x4] S6
def F_X12_day_1 (f : Nat) (rc : Nat → List Value → aS → aR) (v0 : Int32) (S : aS) : aR :=
  some (some (.int v0), S)
def F_X12_day : Nat → Nat → List Value → aS → aR
  | 0, _, _, _ => none
  | f + 1, 0, vs, S => F_X12_day_0 f (F_X12_day f) (vR vs 0) S
  | f + 1, 1, vs, S => F_X12_day_1 f (F_X12_day f) (vI vs 0) S
  | _ + 1, _, _, _ => none
theorem dX12_day_0 : decode cX12_day 0 = .ok (.aload_n 0, 1) := by decide +kernel
theorem dX12_day_1 : decode cX12_day 1 = .ok (.getfield 33, 3) := by decide +kernel
theorem dX12_day_4 : decode cX12_day 4 = .ok (.aload_n 0, 1) := by decide +kernel
theorem dX12_day_5 : decode cX12_day 5 = .ok (.getfield 10, 3) := by decide +kernel
theorem dX12_day_8 : decode cX12_day 8 = .ok (.aload_n 0, 1) := by decide +kernel
theorem dX12_day_9 : decode cX12_day 9 = .ok (.getfield 19, 3) := by decide +kernel
theorem dX12_day_12 : decode cX12_day 12 = .ok (.invokevirtual 114, 3) := by decide +kernel
theorem dX12_day_15 : decode cX12_day 15 = .ok (.istore_n 1, 1) := by decide +kernel
theorem dX12_day_16 : decode cX12_day 16 = .ok (.aload_n 0, 1) := by decide +kernel
theorem dX12_day_17 : decode cX12_day 17 = .ok (.getfield 10, 3) := by decide +kernel
theorem dX12_day_20 : decode cX12_day 20 = .ok (.invokevirtual 113, 3) := by decide +kernel
theorem dX12_day_23 : decode cX12_day 23 = .ok (.iload_n 1, 1) := by decide +kernel
theorem dX12_day_24 : decode cX12_day 24 = .ok (.ifCond .ne 21, 3) := by decide +kernel
theorem dX12_day_27 : decode cX12_day 27 = .ok (.aload_n 0, 1) := by decide +kernel
theorem dX12_day_28 : decode cX12_day 28 = .ok (.getfield 33, 3) := by decide +kernel
theorem dX12_day_31 : decode cX12_day 31 = .ok (.astore_n 2, 1) := by decide +kernel
theorem dX12_day_32 : decode cX12_day 32 = .ok (.aload_n 0, 1) := by decide +kernel
theorem dX12_day_33 : decode cX12_day 33 = .ok (.aload_n 0, 1) := by decide +kernel
theorem dX12_day_34 : decode cX12_day 34 = .ok (.getfield 29, 3) := by decide +kernel
theorem dX12_day_37 : decode cX12_day 37 = .ok (.putfield 33, 3) := by decide +kernel
theorem dX12_day_40 : decode cX12_day 40 = .ok (.aload_n 0, 1) := by decide +kernel
theorem dX12_day_41 : decode cX12_day 41 = .ok (.aload_n 2, 1) := by decide +kernel
theorem dX12_day_42 : decode cX12_day 42 = .ok (.putfield 29, 3) := by decide +kernel
theorem dX12_day_45 : decode cX12_day 45 = .ok (.iload_n 1, 1) := by decide +kernel
theorem dX12_day_46 : decode cX12_day 46 = .ok (.ireturn, 1) := by decide +kernel
set_option maxHeartbeats 4000000 in
set_option maxRecDepth 100000 in
theorem B_X12_day {G : zG} {X : zX} {kd : kD} {N0 : Nat} (C : zCt G X 7 0 0 RX12 cX12_day 3) (hr : (zXh X).sig.returnType = (some .int)) : ∀ f : Nat,
    (∀ (S : aS) (v0 : Nat) (res : Option Value × aS), zT0 kd N0 S → v0 < N0 → kd v0 = .inl 10 → F_X12_day f 0 [.ref v0] S = some res → zV G X (zQX G X (zPo G kd N0 res) 0 0) 3 [some (.ref (zB G + v0)), none, none] [] (cn G kd N0 S) 0 0 0) ∧
    (∀ (S : aS) (v0 : Int32) (res : Option Value × aS), zT0 kd N0 S → F_X12_day f 1 [.int v0] S = some res → zV G X (zQX G X (zPo G kd N0 res) 0 0) 3 [none, some (.int v0), none] [] (cn G kd N0 S) 45 0 0) := by
  intro f
  induction f with
  | zero => exact ⟨(fun _ _ _ _ _ _ h => by cases h), (fun _ _ _ _ h => by cases h)⟩
  | succ f ih =>
    obtain ⟨ih0, ih1⟩ := ih
    refine ⟨?_, ?_⟩
    · intro S v0 res hT hpv0 hkv0 hF
      replace hF : F_X12_day_0 f (F_X12_day f) v0 S = some res := hF
      unfold F_X12_day_0 at hF
      refine z_aload_n C dX12_day_0 rfl ?_
      refine f_getr C dX12_day_1 zfRX12_33 hpv0 hkv0 rfl ?_
      obtain ⟨hp1, hk1⟩ := hT.1 v0 10 4 (.inl 0) hpv0 hkv0 rfl
      refine z_aload_n C dX12_day_4 rfl ?_
      refine f_getr C dX12_day_5 zfRX12_10 hpv0 hkv0 rfl ?_
      obtain ⟨hp2, hk2⟩ := hT.1 v0 10 0 (.inl 7) hpv0 hkv0 rfl
      refine z_aload_n C dX12_day_8 rfl ?_
      refine f_getr C dX12_day_9 zfRX12_19 hpv0 hkv0 rfl ?_
      obtain ⟨hp3, hk3⟩ := hT.1 v0 10 1 (.inl 5) hpv0 hkv0 rfl
      obtain ⟨x4, S4, h4, hF⟩ := bI_some hF
      refine f_cV (st2 := [.int x4]) C dX12_day_12 zyX1_read zvX1_read lkRX12_114 (K_X1_read (l := zXl X) hT hp1 hk1 hp2 hk2 hp3 hk3 h4) hp1 hk1 rfl (by decide) rfl rfl (Nat.le_of_ble_eq_true rfl) rfl (fun hT4 => ?_)
      refine z_istore_n (lv2 := [some (.ref (zB G + v0)), some (.int x4), none]) C dX12_day_15 (by decide) rfl ?_
      refine z_aload_n C dX12_day_16 rfl ?_
      refine f_getr C dX12_day_17 zfRX12_10 hpv0 hkv0 rfl ?_
      obtain ⟨hp5, hk5⟩ := hT4.1 v0 10 0 (.inl 7) hpv0 hkv0 rfl
      obtain ⟨S6, h6, hF⟩ := bV_some hF
      refine f_cV (st2 := []) C dX12_day_20 zyX8_clear zvX8_clear lkRX12_113 (K_X8_clear (l := zXl X) hT4 hp5 hk5 h6) hp5 hk5 rfl (by decide) rfl rfl (Nat.le_of_ble_eq_true rfl) rfl (fun hT6 => ?_)
      refine z_iload_n C dX12_day_23 rfl ?_
      refine z_if_ne C 45 dX12_day_24 (by decide) (fun c10 => ?_) (fun c10 => ?_)
      · replace hF := im hF c10
        refine z_mask [false, true, true] ?_ rfl
        exact ih1 S6 x4 res hT6  hF
      · replace hF := ip hF c10
        refine z_aload_n C dX12_day_27 rfl ?_
        refine f_getr C dX12_day_28 zfRX12_33 hpv0 hkv0 rfl ?_
        obtain ⟨hp11, hk11⟩ := hT6.1 v0 10 4 (.inl 0) hpv0 hkv0 rfl
        refine z_astore_n (lv2 := [some (.ref (zB G + v0)), some (.int x4), some (.ref (zB G + (gR S6 v0 4)))]) C dX12_day_31 (by decide) rfl ?_
        refine z_aload_n C dX12_day_32 rfl ?_
        refine z_aload_n C dX12_day_33 rfl ?_
        refine f_getr C dX12_day_34 zfRX12_29 hpv0 hkv0 rfl ?_
        obtain ⟨hp12, hk12⟩ := hT6.1 v0 10 3 (.inl 0) hpv0 hkv0 rfl
        refine f_putr C dX12_day_37 zfRX12_33 fw10_4 hpv0 hkv0 rfl rfl rfl ?_
        have hT13 : zT0 kd N0 (sR S6 v0 4 (gR S6 v0 3)) := zT0_sR hT6 hkv0 (fun q hq => by cases hq; exact ⟨hp12, hk12⟩) (fun h _ => by cases h)
        replace hF := fS_e hF
        generalize sR S6 v0 4 (gR S6 v0 3) = S13 at hF hT13 ⊢
        refine z_aload_n C dX12_day_40 rfl ?_
        refine z_aload_n C dX12_day_41 rfl ?_
        refine f_putr C dX12_day_42 zfRX12_29 fw10_3 hpv0 hkv0 rfl rfl rfl ?_
        have hT14 : zT0 kd N0 (sR S13 v0 3 (gR S6 v0 4)) := zT0_sR hT13 hkv0 (fun q hq => by cases hq; exact ⟨hp11, hk11⟩) (fun h _ => by cases h)
        replace hF := fS_e hF
        generalize sR S13 v0 3 (gR S6 v0 4) = S14 at hF hT14 ⊢
        refine z_mask [false, true, false] ?_ rfl
        exact ih1 S14 x4 res hT14  hF
    · intro S v0 res hT  hF
      replace hF : F_X12_day_1 f (F_X12_day f) v0 S = some res := hF
      unfold F_X12_day_1 at hF
      refine z_iload_n C dX12_day_45 rfl ?_
      cases hF
      exact z_iret C hr dX12_day_46 ⟨rfl, rfl, hT⟩
theorem K_X12_day {G : zG} {l : Launch} {kd : kD} {N0 f : Nat} {S : aS} {v0 : Nat} {res : Option Value × aS} (hT : zT0 kd N0 S) (hpv0 : v0 < N0) (hkv0 : kd v0 = .inl 10) (hF : F_X12_day f 0 [.ref v0] S = some res) : zM G l 7 0 0 yX12_day cX12_day 3 (some .int) [.ref (zB G + v0)] (cn G kd N0 S) (zPo G kd N0 res) := zM.of (by decide) rfl (Nat.le_of_ble_eq_true rfl) (fun X _ C hr _ => (B_X12_day C hr f).1 S v0 res hT hpv0 hkv0 hF)

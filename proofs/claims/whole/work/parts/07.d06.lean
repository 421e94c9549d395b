def F_X13_worthAt_0 (f : Nat) (rc : Nat → List Value → aS → aR) (v0 : Nat) (v1 : Int32) (S : aS) : aR :=
  rc 1 [.ref v0, .int 0, .int v1] S
def F_X13_worthAt_1 (f : Nat) (rc : Nat → List Value → aS → aR) (v0 : Nat) (v1 : Int32) (v2 : Int32) (S : aS) : aR :=
  bX v2 2200 fun q2 => if (gI S (gR S v0 11) q2) = (0 : Int32) then bX 0 1100 fun q7 => some (some (.int (gI S (gR S v0 21) q7)), S) else bX v2 2200 fun q9 => if (gI S (gR S v0 11) q9) = (1 : Int32) then rc 2 [.ref v0, .int v1, .int v2, .int (gI S (gR S v0 11) q9)] S else if (gI S (gR S v0 11) q9) = (2 : Int32) then rc 2 [.ref v0, .int v1, .int v2, .int (gI S (gR S v0 11) q9)] S else if (gI S (gR S v0 11) q9) = (3 : Int32) then bX (v1 - (1 : Int32)) 1100 fun q35 => bX (v1 - (1 : Int32)) 1100 fun q38 => fS (sI S (gR S v0 21) q38 (if (gI S (gR S v0 21) q35) = (0 : Int32) then (1 : Int32) else (0 : Int32))) fun S39 => rc 3 [.ref v0, .int v1, .int v2] S39 else bX ((v1 + (-1)) - (1 : Int32)) 1100 fun q27 => bX (v1 + (-1)) 1100 fun q29 => bI (F_X13_both f 0 [.int (gI S (gR S v0 11) q9), .int (gI S (gR S v0 21) q27), .int (gI S (gR S v0 21) q29)] S) fun x30 S30 => bX ((v1 + (-1)) - (1 : Int32)) 1100 fun q31 => fS (sI S30 (gR S v0 21) q31 x30) fun S32 => rc 3 [.ref v0, .int (v1 + (-1)), .int v2] S32
def F_X13_worthAt_2 (f : Nat) (rc : Nat → List Value → aS → aR) (v0 : Nat) (v1 : Int32) (v2 : Int32) (v3 : Int32) (S : aS) : aR :=
  if v3 = (1 : Int32) then bX v2 2200 fun q50 => rc 4 [.ref v0, .int v1, .int v2, .int (gI S (gR S v0 12) q50), .int v1, .ref (gR S v0 21)] S else bX v2 2200 fun q47 => bX (gI S (gR S v0 12) q47) 4 fun q48 => rc 4 [.ref v0, .int v1, .int v2, .int (gI S (gR S v0 20) q48), .int v1, .ref (gR S v0 21)] S
def F_X13_worthAt_3 (f : Nat) (rc : Nat → List Value → aS → aR) (v0 : Nat) (v1 : Int32) (v2 : Int32) (S : aS) : aR :=
  rc 1 [.ref v0, .int v1, .int (v2 + 1)] S
def F_X13_worthAt_4 (f : Nat) (rc : Nat → List Value → aS → aR) (v0 : Nat) (v1 : Int32) (v2 : Int32) (w0 : Int32) (w1 : Int32) (w2 : Nat) (S : aS) : aR :=
  bX w1 1100 fun q51 => fS (sI S w2 q51 w0) fun S52 => rc 3 [.ref v0, .int (v1 + 1), .int v2] S52
def F_X13_worthAt : Nat → Nat → List Value → aS → aR
  | 0, _, _, _ => none
  | f + 1, 0, vs, S => F_X13_worthAt_0 f (F_X13_worthAt f) (vR vs 0) (vI vs 1) S
  | f + 1, 1, vs, S => F_X13_worthAt_1 f (F_X13_worthAt f) (vR vs 0) (vI vs 1) (vI vs 2) S
  | f + 1, 2, vs, S => F_X13_worthAt_2 f (F_X13_worthAt f) (vR vs 0) (vI vs 1) (vI vs 2) (vI vs 3) S
  | f + 1, 3, vs, S => F_X13_worthAt_3 f (F_X13_worthAt f) (vR vs 0) (vI vs 1) (vI vs 2) S
  | f + 1, 4, vs, S => F_X13_worthAt_4 f (F_X13_worthAt f) (vR vs 0) (vI vs 1) (vI vs 2) (vI vs 3) (vI vs 4) (vR vs 5) S
  | _ + 1, _, _, _ => none
theorem dX13_worthAt_0 : decode cX13_worthAt 0 = .ok (.iconst 0, 1) := by decide +kernel
theorem dX13_worthAt_1 : decode cX13_worthAt 1 = .ok (.istore_n 2, 1) := by decide +kernel
theorem dX13_worthAt_2 : decode cX13_worthAt 2 = .ok (.iload_n 1, 1) := by decide +kernel
theorem dX13_worthAt_3 : decode cX13_worthAt 3 = .ok (.istore_n 3, 1) := by decide +kernel
theorem dX13_worthAt_4 : decode cX13_worthAt 4 = .ok (.aload_n 0, 1) := by decide +kernel
theorem dX13_worthAt_5 : decode cX13_worthAt 5 = .ok (.getfield 98, 3) := by decide +kernel
theorem dX13_worthAt_8 : decode cX13_worthAt 8 = .ok (.iload_n 3, 1) := by decide +kernel
theorem dX13_worthAt_9 : decode cX13_worthAt 9 = .ok (.iaload, 1) := by decide +kernel
theorem dX13_worthAt_10 : decode cX13_worthAt 10 = .ok (.ifCond .eq 130, 3) := by decide +kernel
theorem dX13_worthAt_13 : decode cX13_worthAt 13 = .ok (.aload_n 0, 1) := by decide +kernel
theorem dX13_worthAt_14 : decode cX13_worthAt 14 = .ok (.getfield 98, 3) := by decide +kernel
theorem dX13_worthAt_17 : decode cX13_worthAt 17 = .ok (.iload_n 3, 1) := by decide +kernel
theorem dX13_worthAt_18 : decode cX13_worthAt 18 = .ok (.iaload, 1) := by decide +kernel
theorem dX13_worthAt_19 : decode cX13_worthAt 19 = .ok (.istore 4, 2) := by decide +kernel
theorem dX13_worthAt_21 : decode cX13_worthAt 21 = .ok (.iload 4, 2) := by decide +kernel
theorem dX13_worthAt_23 : decode cX13_worthAt 23 = .ok (.iconst 1, 1) := by decide +kernel
theorem dX13_worthAt_24 : decode cX13_worthAt 24 = .ok (.if_icmp .eq 9, 3) := by decide +kernel
theorem dX13_worthAt_27 : decode cX13_worthAt 27 = .ok (.iload 4, 2) := by decide +kernel
theorem dX13_worthAt_29 : decode cX13_worthAt 29 = .ok (.iconst 2, 1) := by decide +kernel
theorem dX13_worthAt_30 : decode cX13_worthAt 30 = .ok (.if_icmp .ne 41, 3) := by decide +kernel
theorem dX13_worthAt_33 : decode cX13_worthAt 33 = .ok (.aload_n 0, 1) := by decide +kernel
theorem dX13_worthAt_34 : decode cX13_worthAt 34 = .ok (.getfield 116, 3) := by decide +kernel
theorem dX13_worthAt_37 : decode cX13_worthAt 37 = .ok (.iload_n 2, 1) := by decide +kernel
theorem dX13_worthAt_38 : decode cX13_worthAt 38 = .ok (.iload 4, 2) := by decide +kernel
theorem dX13_worthAt_40 : decode cX13_worthAt 40 = .ok (.iconst 1, 1) := by decide +kernel
theorem dX13_worthAt_41 : decode cX13_worthAt 41 = .ok (.if_icmp .ne 12, 3) := by decide +kernel
theorem dX13_worthAt_44 : decode cX13_worthAt 44 = .ok (.aload_n 0, 1) := by decide +kernel
theorem dX13_worthAt_45 : decode cX13_worthAt 45 = .ok (.getfield 101, 3) := by decide +kernel
theorem dX13_worthAt_48 : decode cX13_worthAt 48 = .ok (.iload_n 3, 1) := by decide +kernel
theorem dX13_worthAt_49 : decode cX13_worthAt 49 = .ok (.iaload, 1) := by decide +kernel
theorem dX13_worthAt_50 : decode cX13_worthAt 50 = .ok (.goto 14, 3) := by decide +kernel
theorem dX13_worthAt_53 : decode cX13_worthAt 53 = .ok (.aload_n 0, 1) := by decide +kernel
theorem dX13_worthAt_54 : decode cX13_worthAt 54 = .ok (.getfield 113, 3) := by decide +kernel
theorem dX13_worthAt_57 : decode cX13_worthAt 57 = .ok (.aload_n 0, 1) := by decide +kernel
theorem dX13_worthAt_58 : decode cX13_worthAt 58 = .ok (.getfield 101, 3) := by decide +kernel
theorem dX13_worthAt_61 : decode cX13_worthAt 61 = .ok (.iload_n 3, 1) := by decide +kernel
theorem dX13_worthAt_62 : decode cX13_worthAt 62 = .ok (.iaload, 1) := by decide +kernel
theorem dX13_worthAt_63 : decode cX13_worthAt 63 = .ok (.iaload, 1) := by decide +kernel
theorem dX13_worthAt_64 : decode cX13_worthAt 64 = .ok (.iastore, 1) := by decide +kernel
theorem dX13_worthAt_65 : decode cX13_worthAt 65 = .ok (.iinc 2 1, 3) := by decide +kernel
theorem dX13_worthAt_68 : decode cX13_worthAt 68 = .ok (.goto 66, 3) := by decide +kernel
theorem dX13_worthAt_71 : decode cX13_worthAt 71 = .ok (.iload 4, 2) := by decide +kernel
theorem dX13_worthAt_73 : decode cX13_worthAt 73 = .ok (.iconst 3, 1) := by decide +kernel
theorem dX13_worthAt_74 : decode cX13_worthAt 74 = .ok (.if_icmp .ne 30, 3) := by decide +kernel
theorem dX13_worthAt_77 : decode cX13_worthAt 77 = .ok (.aload_n 0, 1) := by decide +kernel
theorem dX13_worthAt_78 : decode cX13_worthAt 78 = .ok (.getfield 116, 3) := by decide +kernel
theorem dX13_worthAt_81 : decode cX13_worthAt 81 = .ok (.iload_n 2, 1) := by decide +kernel
theorem dX13_worthAt_82 : decode cX13_worthAt 82 = .ok (.iconst 1, 1) := by decide +kernel
theorem dX13_worthAt_83 : decode cX13_worthAt 83 = .ok (.isub, 1) := by decide +kernel
theorem dX13_worthAt_84 : decode cX13_worthAt 84 = .ok (.aload_n 0, 1) := by decide +kernel
theorem dX13_worthAt_85 : decode cX13_worthAt 85 = .ok (.getfield 116, 3) := by decide +kernel
theorem dX13_worthAt_88 : decode cX13_worthAt 88 = .ok (.iload_n 2, 1) := by decide +kernel
theorem dX13_worthAt_89 : decode cX13_worthAt 89 = .ok (.iconst 1, 1) := by decide +kernel
theorem dX13_worthAt_90 : decode cX13_worthAt 90 = .ok (.isub, 1) := by decide +kernel
theorem dX13_worthAt_91 : decode cX13_worthAt 91 = .ok (.iaload, 1) := by decide +kernel
theorem dX13_worthAt_92 : decode cX13_worthAt 92 = .ok (.ifCond .ne 7, 3) := by decide +kernel
theorem dX13_worthAt_95 : decode cX13_worthAt 95 = .ok (.iconst 1, 1) := by decide +kernel
theorem dX13_worthAt_96 : decode cX13_worthAt 96 = .ok (.goto 4, 3) := by decide +kernel
theorem dX13_worthAt_99 : decode cX13_worthAt 99 = .ok (.iconst 0, 1) := by decide +kernel
theorem dX13_worthAt_100 : decode cX13_worthAt 100 = .ok (.iastore, 1) := by decide +kernel
theorem dX13_worthAt_101 : decode cX13_worthAt 101 = .ok (.goto 33, 3) := by decide +kernel
theorem dX13_worthAt_104 : decode cX13_worthAt 104 = .ok (.iinc 2 (-1), 3) := by decide +kernel
theorem dX13_worthAt_107 : decode cX13_worthAt 107 = .ok (.aload_n 0, 1) := by decide +kernel
theorem dX13_worthAt_108 : decode cX13_worthAt 108 = .ok (.getfield 116, 3) := by decide +kernel
theorem dX13_worthAt_111 : decode cX13_worthAt 111 = .ok (.iload_n 2, 1) := by decide +kernel
theorem dX13_worthAt_112 : decode cX13_worthAt 112 = .ok (.iconst 1, 1) := by decide +kernel
theorem dX13_worthAt_113 : decode cX13_worthAt 113 = .ok (.isub, 1) := by decide +kernel
theorem dX13_worthAt_114 : decode cX13_worthAt 114 = .ok (.iload 4, 2) := by decide +kernel
theorem dX13_worthAt_116 : decode cX13_worthAt 116 = .ok (.aload_n 0, 1) := by decide +kernel
theorem dX13_worthAt_117 : decode cX13_worthAt 117 = .ok (.getfield 116, 3) := by decide +kernel
theorem dX13_worthAt_120 : decode cX13_worthAt 120 = .ok (.iload_n 2, 1) := by decide +kernel
theorem dX13_worthAt_121 : decode cX13_worthAt 121 = .ok (.iconst 1, 1) := by decide +kernel
theorem dX13_worthAt_122 : decode cX13_worthAt 122 = .ok (.isub, 1) := by decide +kernel
theorem dX13_worthAt_123 : decode cX13_worthAt 123 = .ok (.iaload, 1) := by decide +kernel
theorem dX13_worthAt_124 : decode cX13_worthAt 124 = .ok (.aload_n 0, 1) := by decide +kernel
theorem dX13_worthAt_125 : decode cX13_worthAt 125 = .ok (.getfield 116, 3) := by decide +kernel
theorem dX13_worthAt_128 : decode cX13_worthAt 128 = .ok (.iload_n 2, 1) := by decide +kernel
theorem dX13_worthAt_129 : decode cX13_worthAt 129 = .ok (.iaload, 1) := by decide +kernel
theorem dX13_worthAt_130 : decode cX13_worthAt 130 = .ok (.invokestatic 276, 3) := by decide +kernel
theorem dX13_worthAt_133 : decode cX13_worthAt 133 = .ok (.iastore, 1) := by decide +kernel
theorem dX13_worthAt_134 : decode cX13_worthAt 134 = .ok (.iinc 3 1, 3) := by decide +kernel
theorem dX13_worthAt_137 : decode cX13_worthAt 137 = .ok (.goto (-133), 3) := by decide +kernel
theorem dX13_worthAt_140 : decode cX13_worthAt 140 = .ok (.aload_n 0, 1) := by decide +kernel
theorem dX13_worthAt_141 : decode cX13_worthAt 141 = .ok (.getfield 116, 3) := by decide +kernel
theorem dX13_worthAt_144 : decode cX13_worthAt 144 = .ok (.iconst 0, 1) := by decide +kernel
theorem dX13_worthAt_145 : decode cX13_worthAt 145 = .ok (.iaload, 1) := by decide +kernel
theorem dX13_worthAt_146 : decode cX13_worthAt 146 = .ok (.ireturn, 1) := by decide +kernel
set_option maxHeartbeats 4000000 in
set_option maxRecDepth 100000 in
theorem B_X13_worthAt {G : zG} {X : zX} {kd : kD} {N0 : Nat} (C : zCt G X 1 0 0 RX13 cX13_worthAt 5) (hr : (zXh X).sig.returnType = (some .int)) : ∀ f : Nat,
    (∀ (S : aS) (v0 : Nat) (v1 : Int32) (res : Option Value × aS), zT0 kd N0 S → v0 < N0 → kd v0 = .inl 11 → F_X13_worthAt f 0 [.ref v0, .int v1] S = some res → zV G X (zQX G X (zPo G kd N0 res) 0 0) 5 [some (.ref (zB G + v0)), some (.int v1), none, none, none] [] (cn G kd N0 S) 0 0 0) ∧
    (∀ (S : aS) (v0 : Nat) (v1 : Int32) (v2 : Int32) (res : Option Value × aS), zT0 kd N0 S → v0 < N0 → kd v0 = .inl 11 → F_X13_worthAt f 1 [.ref v0, .int v1, .int v2] S = some res → zV G X (zQX G X (zPo G kd N0 res) 0 0) 5 [some (.ref (zB G + v0)), none, some (.int v1), some (.int v2), none] [] (cn G kd N0 S) 4 0 0) ∧
    (∀ (S : aS) (v0 : Nat) (v1 : Int32) (v2 : Int32) (v3 : Int32) (res : Option Value × aS), zT0 kd N0 S → v0 < N0 → kd v0 = .inl 11 → F_X13_worthAt f 2 [.ref v0, .int v1, .int v2, .int v3] S = some res → zV G X (zQX G X (zPo G kd N0 res) 0 0) 5 [some (.ref (zB G + v0)), none, some (.int v1), some (.int v2), some (.int v3)] [] (cn G kd N0 S) 33 0 0) ∧
    (∀ (S : aS) (v0 : Nat) (v1 : Int32) (v2 : Int32) (res : Option Value × aS), zT0 kd N0 S → v0 < N0 → kd v0 = .inl 11 → F_X13_worthAt f 3 [.ref v0, .int v1, .int v2] S = some res → zV G X (zQX G X (zPo G kd N0 res) 0 0) 5 [some (.ref (zB G + v0)), none, some (.int v1), some (.int v2), none] [] (cn G kd N0 S) 134 0 0) ∧
    (∀ (S : aS) (v0 : Nat) (v1 : Int32) (v2 : Int32) (w0 : Int32) (w1 : Int32) (w2 : Nat) (res : Option Value × aS), zT0 kd N0 S → v0 < N0 → kd v0 = .inl 11 → w2 < N0 → kd w2 = .inr (0, 1100) → F_X13_worthAt f 4 [.ref v0, .int v1, .int v2, .int w0, .int w1, .ref w2] S = some res → zV G X (zQX G X (zPo G kd N0 res) 0 0) 5 [some (.ref (zB G + v0)), none, some (.int v1), some (.int v2), none] [.int w0, .int w1, .ref (zB G + w2)] (cn G kd N0 S) 64 0 0) := by
  intro f
  induction f with
  | zero => exact ⟨(fun _ _ _ _ _ _ _ h => by cases h), (fun _ _ _ _ _ _ _ _ h => by cases h), (fun _ _ _ _ _ _ _ _ _ h => by cases h), (fun _ _ _ _ _ _ _ _ h => by cases h), (fun _ _ _ _ _ _ _ _ _ _ _ _ _ h => by cases h)⟩
  | succ f ih =>
    obtain ⟨ih0, ih1, ih2, ih3, ih4⟩ := ih
    refine ⟨?_, ?_, ?_, ?_, ?_⟩
    · intro S v0 v1 res hT hpv0 hkv0 hF
      replace hF : F_X13_worthAt_0 f (F_X13_worthAt f) v0 v1 S = some res := hF
      unfold F_X13_worthAt_0 at hF
      refine z_iconst (v := 0) C dX13_worthAt_0 (by decide) ?_
      refine z_istore_n (lv2 := [some (.ref (zB G + v0)), some (.int v1), some (.int 0), none, none]) C dX13_worthAt_1 (by decide) rfl ?_
      refine z_iload_n C dX13_worthAt_2 rfl ?_
      refine z_istore_n (lv2 := [some (.ref (zB G + v0)), some (.int v1), some (.int 0), some (.int v1), none]) C dX13_worthAt_3 (by decide) rfl ?_
      refine z_mask [true, false, true, true, true] ?_ rfl
      exact ih1 S v0 0 v1 res hT hpv0 hkv0   hF
    · intro S v0 v1 v2 res hT hpv0 hkv0 hF
      replace hF : F_X13_worthAt_1 f (F_X13_worthAt f) v0 v1 v2 S = some res := hF
      unfold F_X13_worthAt_1 at hF
      refine z_aload_n C dX13_worthAt_4 rfl ?_
      refine f_getr C dX13_worthAt_5 zfRX13_98 hpv0 hkv0 rfl ?_
      obtain ⟨hp1, hk1⟩ := hT.1 v0 11 11 (.inr (0, 2200)) hpv0 hkv0 rfl
      refine z_iload_n C dX13_worthAt_8 rfl ?_
      obtain ⟨hi2, hF⟩ := bX_some hF
      obtain ⟨q2, eq2⟩ : ∃ q : Nat, q = Int32.toNatClampNeg v2 := ⟨_, rfl⟩
      rw [← eq2] at hF
      refine f_iald C dX13_worthAt_9 hp1 hk1 hi2 ?_
      rw [← eq2]
      refine z_if_eq C 140 dX13_worthAt_10 (by decide) (fun c5 => ?_) (fun c5 => ?_)
      · replace hF := ip hF c5
        refine z_aload_n C dX13_worthAt_140 rfl ?_
        refine f_getr C dX13_worthAt_141 zfRX13_116 hpv0 hkv0 rfl ?_
        obtain ⟨hp6, hk6⟩ := hT.1 v0 11 21 (.inr (0, 1100)) hpv0 hkv0 rfl
        refine z_iconst (v := 0) C dX13_worthAt_144 (by decide) ?_
        obtain ⟨hi7, hF⟩ := bX_some hF
        obtain ⟨q7, eq7⟩ : ∃ q : Nat, q = Int32.toNatClampNeg 0 := ⟨_, rfl⟩
        rw [← eq7] at hF
        refine f_iald C dX13_worthAt_145 hp6 hk6 hi7 ?_
        rw [← eq7]
        cases hF
        exact z_iret C hr dX13_worthAt_146 ⟨rfl, rfl, hT⟩
      · replace hF := im hF c5
        refine z_aload_n C dX13_worthAt_13 rfl ?_
        refine f_getr C dX13_worthAt_14 zfRX13_98 hpv0 hkv0 rfl ?_
        obtain ⟨hp8, hk8⟩ := hT.1 v0 11 11 (.inr (0, 2200)) hpv0 hkv0 rfl
        refine z_iload_n C dX13_worthAt_17 rfl ?_
        obtain ⟨hi9, hF⟩ := bX_some hF
        obtain ⟨q9, eq9⟩ : ∃ q : Nat, q = Int32.toNatClampNeg v2 := ⟨_, rfl⟩
        rw [← eq9] at hF
        refine f_iald C dX13_worthAt_18 hp8 hk8 hi9 ?_
        rw [← eq9]
        refine z_istore (lv2 := [some (.ref (zB G + v0)), none, some (.int v1), some (.int v2), some (.int (gI S (gR S v0 11) q9))]) C dX13_worthAt_19 (by decide) rfl ?_
        refine z_iload C dX13_worthAt_21 rfl ?_
        refine z_iconst (v := 1) C dX13_worthAt_23 (by decide) ?_
        refine z_icmp_eq C 33 dX13_worthAt_24 (by decide) (fun c15 => ?_) (fun c15 => ?_)
        · replace hF := ip hF c15
          exact ih2 S v0 v1 v2 (gI S (gR S v0 11) q9) res hT hpv0 hkv0    hF
        · replace hF := im hF c15
          refine z_iload C dX13_worthAt_27 rfl ?_
          refine z_iconst (v := 2) C dX13_worthAt_29 (by decide) ?_
          refine z_icmp_ne C 71 dX13_worthAt_30 (by decide) (fun c20 => ?_) (fun c20 => ?_)
          · replace hF := im hF c20
            refine z_iload C dX13_worthAt_71 rfl ?_
            refine z_iconst (v := 3) C dX13_worthAt_73 (by decide) ?_
            refine z_icmp_ne C 104 dX13_worthAt_74 (by decide) (fun c24 => ?_) (fun c24 => ?_)
            · replace hF := im hF c24
              refine z_iinc (v := v1 + (-1)) (lv2 := [some (.ref (zB G + v0)), none, some (.int (v1 + (-1))), some (.int v2), some (.int (gI S (gR S v0 11) q9))]) C dX13_worthAt_104 rfl (by rw [show Int32.ofInt (-1) = ((-1) : Int32) from by decide]) rfl ?_
              refine z_aload_n C dX13_worthAt_107 rfl ?_
              refine f_getr C dX13_worthAt_108 zfRX13_116 hpv0 hkv0 rfl ?_
              obtain ⟨hp25, hk25⟩ := hT.1 v0 11 21 (.inr (0, 1100)) hpv0 hkv0 rfl
              refine z_iload_n C dX13_worthAt_111 rfl ?_
              refine z_iconst (v := 1) C dX13_worthAt_112 (by decide) ?_
              refine z_isub C dX13_worthAt_113 ?_
              refine z_iload C dX13_worthAt_114 rfl ?_
              refine z_aload_n C dX13_worthAt_116 rfl ?_
              refine f_getr C dX13_worthAt_117 zfRX13_116 hpv0 hkv0 rfl ?_
              obtain ⟨hp26, hk26⟩ := hT.1 v0 11 21 (.inr (0, 1100)) hpv0 hkv0 rfl
              refine z_iload_n C dX13_worthAt_120 rfl ?_
              refine z_iconst (v := 1) C dX13_worthAt_121 (by decide) ?_
              refine z_isub C dX13_worthAt_122 ?_
              obtain ⟨hi27, hF⟩ := bX_some hF
              obtain ⟨q27, eq27⟩ : ∃ q : Nat, q = Int32.toNatClampNeg ((v1 + (-1)) - (1 : Int32)) := ⟨_, rfl⟩
              rw [← eq27] at hF
              refine f_iald C dX13_worthAt_123 hp26 hk26 hi27 ?_
              rw [← eq27]
              refine z_aload_n C dX13_worthAt_124 rfl ?_
              refine f_getr C dX13_worthAt_125 zfRX13_116 hpv0 hkv0 rfl ?_
              obtain ⟨hp28, hk28⟩ := hT.1 v0 11 21 (.inr (0, 1100)) hpv0 hkv0 rfl
              refine z_iload_n C dX13_worthAt_128 rfl ?_
              obtain ⟨hi29, hF⟩ := bX_some hF
              obtain ⟨q29, eq29⟩ : ∃ q : Nat, q = Int32.toNatClampNeg (v1 + (-1)) := ⟨_, rfl⟩
              rw [← eq29] at hF
              refine f_iald C dX13_worthAt_129 hp28 hk28 hi29 ?_
              rw [← eq29]
              obtain ⟨x30, S30, h30, hF⟩ := bI_some hF
              refine f_cS (st2 := [.int x30, .int ((v1 + (-1)) - (1 : Int32)), .ref (zB G + (gR S v0 21))]) C dX13_worthAt_130 zyX13_both zsX13_both lkRX13_276 (K_X13_both (l := zXl X) hT    h30) (by decide) rfl rfl (Nat.le_of_ble_eq_true rfl) rfl (fun hT30 => ?_)
              obtain ⟨hi31, hF⟩ := bX_some hF
              obtain ⟨q31, eq31⟩ : ∃ q : Nat, q = Int32.toNatClampNeg ((v1 + (-1)) - (1 : Int32)) := ⟨_, rfl⟩
              rw [← eq31] at hF
              refine f_iast C dX13_worthAt_133 hp25 hk25 hi31 ?_
              rw [← eq31]
              have hT32 : zT0 kd N0 (sI S30 (gR S v0 21) q31 x30) := zT0_sI hT30
              replace hF := fS_e hF
              generalize sI S30 (gR S v0 21) q31 x30 = S32 at hF hT32 ⊢
              refine z_mask [true, true, true, true, false] ?_ rfl
              exact ih3 S32 v0 (v1 + (-1)) v2 res hT32 hpv0 hkv0   hF
            · replace hF := ip hF c24
              refine z_aload_n C dX13_worthAt_77 rfl ?_
              refine f_getr C dX13_worthAt_78 zfRX13_116 hpv0 hkv0 rfl ?_
              obtain ⟨hp33, hk33⟩ := hT.1 v0 11 21 (.inr (0, 1100)) hpv0 hkv0 rfl
              refine z_iload_n C dX13_worthAt_81 rfl ?_
              refine z_iconst (v := 1) C dX13_worthAt_82 (by decide) ?_
              refine z_isub C dX13_worthAt_83 ?_
              refine z_aload_n C dX13_worthAt_84 rfl ?_
              refine f_getr C dX13_worthAt_85 zfRX13_116 hpv0 hkv0 rfl ?_
              obtain ⟨hp34, hk34⟩ := hT.1 v0 11 21 (.inr (0, 1100)) hpv0 hkv0 rfl
              refine z_iload_n C dX13_worthAt_88 rfl ?_
              refine z_iconst (v := 1) C dX13_worthAt_89 (by decide) ?_
              refine z_isub C dX13_worthAt_90 ?_
              obtain ⟨hi35, hF⟩ := bX_some hF
              obtain ⟨q35, eq35⟩ : ∃ q : Nat, q = Int32.toNatClampNeg (v1 - (1 : Int32)) := ⟨_, rfl⟩
              rw [← eq35] at hF
              refine f_iald C dX13_worthAt_91 hp34 hk34 hi35 ?_
              rw [← eq35]
              have hJ37 : zV G X (zQX G X (zPo G kd N0 res) 0 0) 5 [some (.ref (zB G + v0)), none, some (.int v1), some (.int v2), some (.int (gI S (gR S v0 11) q9))] [.int (if (gI S (gR S v0 21) q35) = (0 : Int32) then (1 : Int32) else (0 : Int32)), .int (v1 - (1 : Int32)), .ref (zB G + (gR S v0 21))] (cn G kd N0 S) 100 0 0 := by
                obtain ⟨hi38, hF⟩ := bX_some hF
                obtain ⟨q38, eq38⟩ : ∃ q : Nat, q = Int32.toNatClampNeg (v1 - (1 : Int32)) := ⟨_, rfl⟩
                rw [← eq38] at hF
                refine f_iast C dX13_worthAt_100 hp33 hk33 hi38 ?_
                rw [← eq38]
                have hT39 : zT0 kd N0 (sI S (gR S v0 21) q38 (if (gI S (gR S v0 21) q35) = (0 : Int32) then (1 : Int32) else (0 : Int32))) := zT0_sI hT
                replace hF := fS_e hF
                generalize sI S (gR S v0 21) q38 (if (gI S (gR S v0 21) q35) = (0 : Int32) then (1 : Int32) else (0 : Int32)) = S39 at hF hT39 ⊢
                refine z_goto C 134 dX13_worthAt_101 (by decide) ?_
                refine z_mask [true, true, true, true, false] ?_ rfl
                exact ih3 S39 v0 v1 v2 res hT39 hpv0 hkv0   hF
              refine z_if_ne C 99 dX13_worthAt_92 (by decide) (fun c36 => ?_) (fun c36 => ?_)
              · refine z_iconst (v := 0) C dX13_worthAt_99 (by decide) ?_
                exact zV.at hJ37 (by first | rfl | contradiction | (simp only [if_neg c36]; done)) (by first | rfl | contradiction | (simp only [if_neg c36]; done)) rfl rfl
              · refine z_iconst (v := 1) C dX13_worthAt_95 (by decide) ?_
                refine z_goto C 100 dX13_worthAt_96 (by decide) ?_
                exact zV.at hJ37 (by first | rfl | contradiction | (simp only [if_pos c36]; done)) (by first | rfl | contradiction | (simp only [if_pos c36]; done)) rfl rfl
          · replace hF := ip hF c20
            exact ih2 S v0 v1 v2 (gI S (gR S v0 11) q9) res hT hpv0 hkv0    hF
    · intro S v0 v1 v2 v3 res hT hpv0 hkv0 hF
      replace hF : F_X13_worthAt_2 f (F_X13_worthAt f) v0 v1 v2 v3 S = some res := hF
      unfold F_X13_worthAt_2 at hF
      refine z_aload_n C dX13_worthAt_33 rfl ?_
      refine f_getr C dX13_worthAt_34 zfRX13_116 hpv0 hkv0 rfl ?_
      obtain ⟨hp40, hk40⟩ := hT.1 v0 11 21 (.inr (0, 1100)) hpv0 hkv0 rfl
      refine z_iload_n C dX13_worthAt_37 rfl ?_
      refine z_iload C dX13_worthAt_38 rfl ?_
      refine z_iconst (v := 1) C dX13_worthAt_40 (by decide) ?_
      refine z_icmp_ne C 53 dX13_worthAt_41 (by decide) (fun c44 => ?_) (fun c44 => ?_)
      · replace hF := im hF c44
        refine z_aload_n C dX13_worthAt_53 rfl ?_
        refine f_getr C dX13_worthAt_54 zfRX13_113 hpv0 hkv0 rfl ?_
        obtain ⟨hp45, hk45⟩ := hT.1 v0 11 20 (.inr (0, 4)) hpv0 hkv0 rfl
        refine z_aload_n C dX13_worthAt_57 rfl ?_
        refine f_getr C dX13_worthAt_58 zfRX13_101 hpv0 hkv0 rfl ?_
        obtain ⟨hp46, hk46⟩ := hT.1 v0 11 12 (.inr (0, 2200)) hpv0 hkv0 rfl
        refine z_iload_n C dX13_worthAt_61 rfl ?_
        obtain ⟨hi47, hF⟩ := bX_some hF
        obtain ⟨q47, eq47⟩ : ∃ q : Nat, q = Int32.toNatClampNeg v2 := ⟨_, rfl⟩
        rw [← eq47] at hF
        refine f_iald C dX13_worthAt_62 hp46 hk46 hi47 ?_
        rw [← eq47]
        obtain ⟨hi48, hF⟩ := bX_some hF
        obtain ⟨q48, eq48⟩ : ∃ q : Nat, q = Int32.toNatClampNeg (gI S (gR S v0 12) q47) := ⟨_, rfl⟩
        rw [← eq48] at hF
        refine f_iald C dX13_worthAt_63 hp45 hk45 hi48 ?_
        rw [← eq48]
        refine z_mask [true, true, true, true, false] ?_ rfl
        exact ih4 S v0 v1 v2 (gI S (gR S v0 20) q48) v1 (gR S v0 21) res hT hpv0 hkv0     hp40 hk40 hF
      · replace hF := ip hF c44
        refine z_aload_n C dX13_worthAt_44 rfl ?_
        refine f_getr C dX13_worthAt_45 zfRX13_101 hpv0 hkv0 rfl ?_
        obtain ⟨hp49, hk49⟩ := hT.1 v0 11 12 (.inr (0, 2200)) hpv0 hkv0 rfl
        refine z_iload_n C dX13_worthAt_48 rfl ?_
        obtain ⟨hi50, hF⟩ := bX_some hF
        obtain ⟨q50, eq50⟩ : ∃ q : Nat, q = Int32.toNatClampNeg v2 := ⟨_, rfl⟩
        rw [← eq50] at hF
        refine f_iald C dX13_worthAt_49 hp49 hk49 hi50 ?_
        rw [← eq50]
        refine z_goto C 64 dX13_worthAt_50 (by decide) ?_
        refine z_mask [true, true, true, true, false] ?_ rfl
        exact ih4 S v0 v1 v2 (gI S (gR S v0 12) q50) v1 (gR S v0 21) res hT hpv0 hkv0     hp40 hk40 hF
    · intro S v0 v1 v2 res hT hpv0 hkv0 hF
      replace hF : F_X13_worthAt_3 f (F_X13_worthAt f) v0 v1 v2 S = some res := hF
      unfold F_X13_worthAt_3 at hF
      refine z_iinc (v := v2 + 1) (lv2 := [some (.ref (zB G + v0)), none, some (.int v1), some (.int (v2 + 1)), none]) C dX13_worthAt_134 rfl (by rw [show Int32.ofInt 1 = (1 : Int32) from by decide]) rfl ?_
      refine z_goto C 4 dX13_worthAt_137 (by decide) ?_
      exact ih1 S v0 v1 (v2 + 1) res hT hpv0 hkv0   hF
    · intro S v0 v1 v2 w0 w1 w2 res hT hpv0 hkv0 hpw2 hkw2 hF
      replace hF : F_X13_worthAt_4 f (F_X13_worthAt f) v0 v1 v2 w0 w1 w2 S = some res := hF
      unfold F_X13_worthAt_4 at hF
      obtain ⟨hi51, hF⟩ := bX_some hF
      obtain ⟨q51, eq51⟩ : ∃ q : Nat, q = Int32.toNatClampNeg w1 := ⟨_, rfl⟩
      rw [← eq51] at hF
      refine f_iast C dX13_worthAt_64 hpw2 hkw2 hi51 ?_
      rw [← eq51]
      have hT52 : zT0 kd N0 (sI S w2 q51 w0) := zT0_sI hT
      replace hF := fS_e hF
      generalize sI S w2 q51 w0 = S52 at hF hT52 ⊢
      refine z_iinc (v := v1 + 1) (lv2 := [some (.ref (zB G + v0)), none, some (.int (v1 + 1)), some (.int v2), none]) C dX13_worthAt_65 rfl (by rw [show Int32.ofInt 1 = (1 : Int32) from by decide]) rfl ?_
      refine z_goto C 134 dX13_worthAt_68 (by decide) ?_
      exact ih3 S52 v0 (v1 + 1) v2 res hT52 hpv0 hkv0   hF
theorem K_X13_worthAt {G : zG} {l : Launch} {kd : kD} {N0 f : Nat} {S : aS} {v0 : Nat} {v1 : Int32} {res : Option Value × aS} (hT : zT0 kd N0 S) (hpv0 : v0 < N0) (hkv0 : kd v0 = .inl 11) (hF : F_X13_worthAt f 0 [.ref v0, .int v1] S = some res) : zM G l 1 0 0 yX13_worthAt cX13_worthAt 5 (some .int) [.ref (zB G + v0), .int v1] (cn G kd N0 S) (zPo G kd N0 res) := zM.of (by decide) rfl (Nat.le_of_ble_eq_true rfl) (fun X _ C hr _ => (B_X13_worthAt C hr f).1 S v0 v1 res hT hpv0 hkv0 hF)
def F_X13_starts_0 (f : Nat) (rc : Nat → List Value → aS → aR) (v0 : Nat) (v1 : Int32) (S : aS) : aR :=
  rc 1 [.ref v0, .int v1, .int 0] S
def F_X13_starts_1 (f : Nat) (rc : Nat → List Value → aS → aR) (v0 : Nat) (v1 : Int32) (v2 : Int32) (S : aS) : aR :=
  if (28 : Int32) ≤ v2 then rc 2 [.ref v0, .int v1, .int 0] S else bX (v1 + v2) 828 fun q5 => fS (sI S (gR S v0 22) q5 0) fun S6 => rc 1 [.ref v0, .int v1, .int (v2 + 1)] S6
def F_X13_starts_2 (f : Nat) (rc : Nat → List Value → aS → aR) (v0 : Nat) (v1 : Int32) (v2 : Int32) (S : aS) : aR :=
  bI (F_X13_yards f 0 [.ref v0] S) fun x7 S7 => if x7 ≤ v2 then some (none, S7) else bX ((34 : Int32) + v2) 140 fun q14 => if (gI S7 (gR S7 v0 10) q14) ≤ (0 : Int32) then rc 3 [.ref v0, .int v1, .int v2, .int 0, .int ((v1 + (4 : Int32)) + v2), .ref (gR S7 v0 22)] S7 else bX ((34 : Int32) + v2) 140 fun q19 => rc 3 [.ref v0, .int v1, .int v2, .int ((gI S7 (gR S7 v0 10) q19) - (1 : Int32)), .int ((v1 + (4 : Int32)) + v2), .ref (gR S7 v0 22)] S7
def F_X13_starts_3 (f : Nat) (rc : Nat → List Value → aS → aR) (v0 : Nat) (v1 : Int32) (v2 : Int32) (w0 : Int32) (w1 : Int32) (w2 : Nat) (S : aS) : aR :=
  bX w1 828 fun q20 => fS (sI S w2 q20 w0) fun S21 => bX ((26 : Int32) + v2) 140 fun q24 => bX ((v1 + (12 : Int32)) + v2) 828 fun q25 => fS (sI S21 (gR S21 v0 22) q25 (gI S21 (gR S21 v0 10) q24)) fun S26 => rc 2 [.ref v0, .int v1, .int (v2 + 1)] S26
def F_X13_starts : Nat → Nat → List Value → aS → aR
  | 0, _, _, _ => none
  | f + 1, 0, vs, S => F_X13_starts_0 f (F_X13_starts f) (vR vs 0) (vI vs 1) S
  | f + 1, 1, vs, S => F_X13_starts_1 f (F_X13_starts f) (vR vs 0) (vI vs 1) (vI vs 2) S
  | f + 1, 2, vs, S => F_X13_starts_2 f (F_X13_starts f) (vR vs 0) (vI vs 1) (vI vs 2) S
  | f + 1, 3, vs, S => F_X13_starts_3 f (F_X13_starts f) (vR vs 0) (vI vs 1) (vI vs 2) (vI vs 3) (vI vs 4) (vR vs 5) S
  | _ + 1, _, _, _ => none
theorem dX13_starts_0 : decode cX13_starts 0 = .ok (.iconst 0, 1) := by decide +kernel
theorem dX13_starts_1 : decode cX13_starts 1 = .ok (.istore_n 2, 1) := by decide +kernel
theorem dX13_starts_2 : decode cX13_starts 2 = .ok (.iload_n 2, 1) := by decide +kernel
theorem dX13_starts_3 : decode cX13_starts 3 = .ok (.bipush 28, 2) := by decide +kernel
theorem dX13_starts_5 : decode cX13_starts 5 = .ok (.if_icmp .ge 18, 3) := by decide +kernel
theorem dX13_starts_8 : decode cX13_starts 8 = .ok (.aload_n 0, 1) := by decide +kernel
theorem dX13_starts_9 : decode cX13_starts 9 = .ok (.getfield 119, 3) := by decide +kernel
theorem dX13_starts_12 : decode cX13_starts 12 = .ok (.iload_n 1, 1) := by decide +kernel
theorem dX13_starts_13 : decode cX13_starts 13 = .ok (.iload_n 2, 1) := by decide +kernel
theorem dX13_starts_14 : decode cX13_starts 14 = .ok (.iadd, 1) := by decide +kernel
theorem dX13_starts_15 : decode cX13_starts 15 = .ok (.iconst 0, 1) := by decide +kernel
theorem dX13_starts_16 : decode cX13_starts 16 = .ok (.iastore, 1) := by decide +kernel
theorem dX13_starts_17 : decode cX13_starts 17 = .ok (.iinc 2 1, 3) := by decide +kernel
theorem dX13_starts_20 : decode cX13_starts 20 = .ok (.goto (-18), 3) := by decide +kernel
theorem dX13_starts_23 : decode cX13_starts 23 = .ok (.iconst 0, 1) := by decide +kernel
theorem dX13_starts_24 : decode cX13_starts 24 = .ok (.istore_n 2, 1) := by decide +kernel
theorem dX13_starts_25 : decode cX13_starts 25 = .ok (.iload_n 2, 1) := by decide +kernel
theorem dX13_starts_26 : decode cX13_starts 26 = .ok (.aload_n 0, 1) := by decide +kernel
theorem dX13_starts_27 : decode cX13_starts 27 = .ok (.invokevirtual 279, 3) := by decide +kernel
theorem dX13_starts_30 : decode cX13_starts 30 = .ok (.if_icmp .ge 66, 3) := by decide +kernel
theorem dX13_starts_33 : decode cX13_starts 33 = .ok (.aload_n 0, 1) := by decide +kernel
theorem dX13_starts_34 : decode cX13_starts 34 = .ok (.getfield 119, 3) := by decide +kernel
theorem dX13_starts_37 : decode cX13_starts 37 = .ok (.iload_n 1, 1) := by decide +kernel
theorem dX13_starts_38 : decode cX13_starts 38 = .ok (.iconst 4, 1) := by decide +kernel
theorem dX13_starts_39 : decode cX13_starts 39 = .ok (.iadd, 1) := by decide +kernel
theorem dX13_starts_40 : decode cX13_starts 40 = .ok (.iload_n 2, 1) := by decide +kernel
theorem dX13_starts_41 : decode cX13_starts 41 = .ok (.iadd, 1) := by decide +kernel
theorem dX13_starts_42 : decode cX13_starts 42 = .ok (.aload_n 0, 1) := by decide +kernel
theorem dX13_starts_43 : decode cX13_starts 43 = .ok (.getfield 95, 3) := by decide +kernel
theorem dX13_starts_46 : decode cX13_starts 46 = .ok (.bipush 34, 2) := by decide +kernel
theorem dX13_starts_48 : decode cX13_starts 48 = .ok (.iload_n 2, 1) := by decide +kernel
theorem dX13_starts_49 : decode cX13_starts 49 = .ok (.iadd, 1) := by decide +kernel
theorem dX13_starts_50 : decode cX13_starts 50 = .ok (.iaload, 1) := by decide +kernel
theorem dX13_starts_51 : decode cX13_starts 51 = .ok (.ifCond .le 17, 3) := by decide +kernel
theorem dX13_starts_54 : decode cX13_starts 54 = .ok (.aload_n 0, 1) := by decide +kernel
theorem dX13_starts_55 : decode cX13_starts 55 = .ok (.getfield 95, 3) := by decide +kernel
theorem dX13_starts_58 : decode cX13_starts 58 = .ok (.bipush 34, 2) := by decide +kernel
theorem dX13_starts_60 : decode cX13_starts 60 = .ok (.iload_n 2, 1) := by decide +kernel
theorem dX13_starts_61 : decode cX13_starts 61 = .ok (.iadd, 1) := by decide +kernel
theorem dX13_starts_62 : decode cX13_starts 62 = .ok (.iaload, 1) := by decide +kernel
theorem dX13_starts_63 : decode cX13_starts 63 = .ok (.iconst 1, 1) := by decide +kernel
theorem dX13_starts_64 : decode cX13_starts 64 = .ok (.isub, 1) := by decide +kernel
theorem dX13_starts_65 : decode cX13_starts 65 = .ok (.goto 4, 3) := by decide +kernel
theorem dX13_starts_68 : decode cX13_starts 68 = .ok (.iconst 0, 1) := by decide +kernel
theorem dX13_starts_69 : decode cX13_starts 69 = .ok (.iastore, 1) := by decide +kernel
theorem dX13_starts_70 : decode cX13_starts 70 = .ok (.aload_n 0, 1) := by decide +kernel
theorem dX13_starts_71 : decode cX13_starts 71 = .ok (.getfield 119, 3) := by decide +kernel
theorem dX13_starts_74 : decode cX13_starts 74 = .ok (.iload_n 1, 1) := by decide +kernel
theorem dX13_starts_75 : decode cX13_starts 75 = .ok (.bipush 12, 2) := by decide +kernel
theorem dX13_starts_77 : decode cX13_starts 77 = .ok (.iadd, 1) := by decide +kernel
theorem dX13_starts_78 : decode cX13_starts 78 = .ok (.iload_n 2, 1) := by decide +kernel
theorem dX13_starts_79 : decode cX13_starts 79 = .ok (.iadd, 1) := by decide +kernel
theorem dX13_starts_80 : decode cX13_starts 80 = .ok (.aload_n 0, 1) := by decide +kernel
theorem dX13_starts_81 : decode cX13_starts 81 = .ok (.getfield 95, 3) := by decide +kernel
theorem dX13_starts_84 : decode cX13_starts 84 = .ok (.bipush 26, 2) := by decide +kernel
theorem dX13_starts_86 : decode cX13_starts 86 = .ok (.iload_n 2, 1) := by decide +kernel
theorem dX13_starts_87 : decode cX13_starts 87 = .ok (.iadd, 1) := by decide +kernel
theorem dX13_starts_88 : decode cX13_starts 88 = .ok (.iaload, 1) := by decide +kernel
theorem dX13_starts_89 : decode cX13_starts 89 = .ok (.iastore, 1) := by decide +kernel
theorem dX13_starts_90 : decode cX13_starts 90 = .ok (.iinc 2 1, 3) := by decide +kernel
theorem dX13_starts_93 : decode cX13_starts 93 = .ok (.goto (-68), 3) := by decide +kernel
theorem dX13_starts_96 : decode cX13_starts 96 = .ok (.return_, 1) := by decide +kernel
set_option maxHeartbeats 4000000 in
set_option maxRecDepth 100000 in
theorem B_X13_starts {G : zG} {X : zX} {kd : kD} {N0 : Nat} (C : zCt G X 1 0 0 RX13 cX13_starts 3) (hr : (zXh X).sig.returnType = none) : ∀ f : Nat,
    (∀ (S : aS) (v0 : Nat) (v1 : Int32) (res : Option Value × aS), zT0 kd N0 S → v0 < N0 → kd v0 = .inl 11 → F_X13_starts f 0 [.ref v0, .int v1] S = some res → zV G X (zQX G X (zPo G kd N0 res) 0 0) 3 [some (.ref (zB G + v0)), some (.int v1), none] [] (cn G kd N0 S) 0 0 0) ∧
    (∀ (S : aS) (v0 : Nat) (v1 : Int32) (v2 : Int32) (res : Option Value × aS), zT0 kd N0 S → v0 < N0 → kd v0 = .inl 11 → F_X13_starts f 1 [.ref v0, .int v1, .int v2] S = some res → zV G X (zQX G X (zPo G kd N0 res) 0 0) 3 [some (.ref (zB G + v0)), some (.int v1), some (.int v2)] [] (cn G kd N0 S) 2 0 0) ∧
    (∀ (S : aS) (v0 : Nat) (v1 : Int32) (v2 : Int32) (res : Option Value × aS), zT0 kd N0 S → v0 < N0 → kd v0 = .inl 11 → F_X13_starts f 2 [.ref v0, .int v1, .int v2] S = some res → zV G X (zQX G X (zPo G kd N0 res) 0 0) 3 [some (.ref (zB G + v0)), some (.int v1), some (.int v2)] [] (cn G kd N0 S) 25 0 0) ∧
    (∀ (S : aS) (v0 : Nat) (v1 : Int32) (v2 : Int32) (w0 : Int32) (w1 : Int32) (w2 : Nat) (res : Option Value × aS), zT0 kd N0 S → v0 < N0 → kd v0 = .inl 11 → w2 < N0 → kd w2 = .inr (0, 828) → F_X13_starts f 3 [.ref v0, .int v1, .int v2, .int w0, .int w1, .ref w2] S = some res → zV G X (zQX G X (zPo G kd N0 res) 0 0) 3 [some (.ref (zB G + v0)), some (.int v1), some (.int v2)] [.int w0, .int w1, .ref (zB G + w2)] (cn G kd N0 S) 69 0 0) := by
  intro f
  induction f with
  | zero => exact ⟨(fun _ _ _ _ _ _ _ h => by cases h), (fun _ _ _ _ _ _ _ _ h => by cases h), (fun _ _ _ _ _ _ _ _ h => by cases h), (fun _ _ _ _ _ _ _ _ _ _ _ _ _ h => by cases h)⟩
  | succ f ih =>
    obtain ⟨ih0, ih1, ih2, ih3⟩ := ih
    refine ⟨?_, ?_, ?_, ?_⟩
    · intro S v0 v1 res hT hpv0 hkv0 hF
      replace hF : F_X13_starts_0 f (F_X13_starts f) v0 v1 S = some res := hF
      unfold F_X13_starts_0 at hF
      refine z_iconst (v := 0) C dX13_starts_0 (by decide) ?_
      refine z_istore_n (lv2 := [some (.ref (zB G + v0)), some (.int v1), some (.int 0)]) C dX13_starts_1 (by decide) rfl ?_
      exact ih1 S v0 v1 0 res hT hpv0 hkv0   hF
    · intro S v0 v1 v2 res hT hpv0 hkv0 hF
      replace hF : F_X13_starts_1 f (F_X13_starts f) v0 v1 v2 S = some res := hF
      unfold F_X13_starts_1 at hF
      refine z_iload_n C dX13_starts_2 rfl ?_
      refine z_bipush (v := 28) C dX13_starts_3 (by decide) ?_
      refine z_icmp_ge C 23 dX13_starts_5 (by decide) (fun c3 => ?_) (fun c3 => ?_)
      · replace hF := ip hF c3
        refine z_iconst (v := 0) C dX13_starts_23 (by decide) ?_
        refine z_istore_n (lv2 := [some (.ref (zB G + v0)), some (.int v1), some (.int 0)]) C dX13_starts_24 (by decide) rfl ?_
        exact ih2 S v0 v1 0 res hT hpv0 hkv0   hF
      · replace hF := im hF c3
        refine z_aload_n C dX13_starts_8 rfl ?_
        refine f_getr C dX13_starts_9 zfRX13_119 hpv0 hkv0 rfl ?_
        obtain ⟨hp4, hk4⟩ := hT.1 v0 11 22 (.inr (0, 828)) hpv0 hkv0 rfl
        refine z_iload_n C dX13_starts_12 rfl ?_
        refine z_iload_n C dX13_starts_13 rfl ?_
        refine z_iadd C dX13_starts_14 ?_
        refine z_iconst (v := 0) C dX13_starts_15 (by decide) ?_
        obtain ⟨hi5, hF⟩ := bX_some hF
        obtain ⟨q5, eq5⟩ : ∃ q : Nat, q = Int32.toNatClampNeg (v1 + v2) := ⟨_, rfl⟩
        rw [← eq5] at hF
        refine f_iast C dX13_starts_16 hp4 hk4 hi5 ?_
        rw [← eq5]
        have hT6 : zT0 kd N0 (sI S (gR S v0 22) q5 0) := zT0_sI hT
        replace hF := fS_e hF
        generalize sI S (gR S v0 22) q5 0 = S6 at hF hT6 ⊢
        refine z_iinc (v := v2 + 1) (lv2 := [some (.ref (zB G + v0)), some (.int v1), some (.int (v2 + 1))]) C dX13_starts_17 rfl (by rw [show Int32.ofInt 1 = (1 : Int32) from by decide]) rfl ?_
        refine z_goto C 2 dX13_starts_20 (by decide) ?_
        exact ih1 S6 v0 v1 (v2 + 1) res hT6 hpv0 hkv0   hF
    · intro S v0 v1 v2 res hT hpv0 hkv0 hF
      replace hF : F_X13_starts_2 f (F_X13_starts f) v0 v1 v2 S = some res := hF
      unfold F_X13_starts_2 at hF
      refine z_iload_n C dX13_starts_25 rfl ?_
      refine z_aload_n C dX13_starts_26 rfl ?_
      obtain ⟨x7, S7, h7, hF⟩ := bI_some hF
      refine f_cV (st2 := [.int x7, .int v2]) C dX13_starts_27 zyX13_yards zvX13_yards lkRX13_279 (K_X13_yards (l := zXl X) hT hpv0 hkv0 h7) hpv0 hkv0 rfl (by decide) rfl rfl (Nat.le_of_ble_eq_true rfl) rfl (fun hT7 => ?_)
      refine z_icmp_ge C 96 dX13_starts_30 (by decide) (fun c11 => ?_) (fun c11 => ?_)
      · replace hF := ip hF c11
        cases hF
        exact z_vret C hr dX13_starts_96 ⟨rfl, rfl, hT7⟩
      · replace hF := im hF c11
        refine z_aload_n C dX13_starts_33 rfl ?_
        refine f_getr C dX13_starts_34 zfRX13_119 hpv0 hkv0 rfl ?_
        obtain ⟨hp12, hk12⟩ := hT7.1 v0 11 22 (.inr (0, 828)) hpv0 hkv0 rfl
        refine z_iload_n C dX13_starts_37 rfl ?_
        refine z_iconst (v := 4) C dX13_starts_38 (by decide) ?_
        refine z_iadd C dX13_starts_39 ?_
        refine z_iload_n C dX13_starts_40 rfl ?_
        refine z_iadd C dX13_starts_41 ?_
        refine z_aload_n C dX13_starts_42 rfl ?_
        refine f_getr C dX13_starts_43 zfRX13_95 hpv0 hkv0 rfl ?_
        obtain ⟨hp13, hk13⟩ := hT7.1 v0 11 10 (.inr (0, 140)) hpv0 hkv0 rfl
        refine z_bipush (v := 34) C dX13_starts_46 (by decide) ?_
        refine z_iload_n C dX13_starts_48 rfl ?_
        refine z_iadd C dX13_starts_49 ?_
        obtain ⟨hi14, hF⟩ := bX_some hF
        obtain ⟨q14, eq14⟩ : ∃ q : Nat, q = Int32.toNatClampNeg ((34 : Int32) + v2) := ⟨_, rfl⟩
        rw [← eq14] at hF
        refine f_iald C dX13_starts_50 hp13 hk13 hi14 ?_
        rw [← eq14]
        refine z_if_le C 68 dX13_starts_51 (by decide) (fun c17 => ?_) (fun c17 => ?_)
        · replace hF := ip hF c17
          refine z_iconst (v := 0) C dX13_starts_68 (by decide) ?_
          exact ih3 S7 v0 v1 v2 0 ((v1 + (4 : Int32)) + v2) (gR S7 v0 22) res hT7 hpv0 hkv0     hp12 hk12 hF
        · replace hF := im hF c17
          refine z_aload_n C dX13_starts_54 rfl ?_
          refine f_getr C dX13_starts_55 zfRX13_95 hpv0 hkv0 rfl ?_
          obtain ⟨hp18, hk18⟩ := hT7.1 v0 11 10 (.inr (0, 140)) hpv0 hkv0 rfl
          refine z_bipush (v := 34) C dX13_starts_58 (by decide) ?_
          refine z_iload_n C dX13_starts_60 rfl ?_
          refine z_iadd C dX13_starts_61 ?_
          obtain ⟨hi19, hF⟩ := bX_some hF
          obtain ⟨q19, eq19⟩ : ∃ q : Nat, q = Int32.toNatClampNeg ((34 : Int32) + v2) := ⟨_, rfl⟩
          rw [← eq19] at hF
          refine f_iald C dX13_starts_62 hp18 hk18 hi19 ?_
          rw [← eq19]
          refine z_iconst (v := 1) C dX13_starts_63 (by decide) ?_
          refine z_isub C dX13_starts_64 ?_
          refine z_goto C 69 dX13_starts_65 (by decide) ?_
          exact ih3 S7 v0 v1 v2 ((gI S7 (gR S7 v0 10) q19) - (1 : Int32)) ((v1 + (4 : Int32)) + v2) (gR S7 v0 22) res hT7 hpv0 hkv0     hp12 hk12 hF
    · intro S v0 v1 v2 w0 w1 w2 res hT hpv0 hkv0 hpw2 hkw2 hF
      replace hF : F_X13_starts_3 f (F_X13_starts f) v0 v1 v2 w0 w1 w2 S = some res := hF
      unfold F_X13_starts_3 at hF
      obtain ⟨hi20, hF⟩ := bX_some hF
      obtain ⟨q20, eq20⟩ : ∃ q : Nat, q = Int32.toNatClampNeg w1 := ⟨_, rfl⟩
      rw [← eq20] at hF
      refine f_iast C dX13_starts_69 hpw2 hkw2 hi20 ?_
      rw [← eq20]
      have hT21 : zT0 kd N0 (sI S w2 q20 w0) := zT0_sI hT
      replace hF := fS_e hF
      generalize sI S w2 q20 w0 = S21 at hF hT21 ⊢
      refine z_aload_n C dX13_starts_70 rfl ?_
      refine f_getr C dX13_starts_71 zfRX13_119 hpv0 hkv0 rfl ?_
      obtain ⟨hp22, hk22⟩ := hT21.1 v0 11 22 (.inr (0, 828)) hpv0 hkv0 rfl
      refine z_iload_n C dX13_starts_74 rfl ?_
      refine z_bipush (v := 12) C dX13_starts_75 (by decide) ?_
      refine z_iadd C dX13_starts_77 ?_
      refine z_iload_n C dX13_starts_78 rfl ?_
      refine z_iadd C dX13_starts_79 ?_
      refine z_aload_n C dX13_starts_80 rfl ?_
      refine f_getr C dX13_starts_81 zfRX13_95 hpv0 hkv0 rfl ?_
      obtain ⟨hp23, hk23⟩ := hT21.1 v0 11 10 (.inr (0, 140)) hpv0 hkv0 rfl
      refine z_bipush (v := 26) C dX13_starts_84 (by decide) ?_
      refine z_iload_n C dX13_starts_86 rfl ?_
      refine z_iadd C dX13_starts_87 ?_
      obtain ⟨hi24, hF⟩ := bX_some hF
      obtain ⟨q24, eq24⟩ : ∃ q : Nat, q = Int32.toNatClampNeg ((26 : Int32) + v2) := ⟨_, rfl⟩
      rw [← eq24] at hF
      refine f_iald C dX13_starts_88 hp23 hk23 hi24 ?_
      rw [← eq24]
      obtain ⟨hi25, hF⟩ := bX_some hF
      obtain ⟨q25, eq25⟩ : ∃ q : Nat, q = Int32.toNatClampNeg ((v1 + (12 : Int32)) + v2) := ⟨_, rfl⟩
      rw [← eq25] at hF
      refine f_iast C dX13_starts_89 hp22 hk22 hi25 ?_
      rw [← eq25]
      have hT26 : zT0 kd N0 (sI S21 (gR S21 v0 22) q25 (gI S21 (gR S21 v0 10) q24)) := zT0_sI hT21
      replace hF := fS_e hF
      generalize sI S21 (gR S21 v0 22) q25 (gI S21 (gR S21 v0 10) q24) = S26 at hF hT26 ⊢
      refine z_iinc (v := v2 + 1) (lv2 := [some (.ref (zB G + v0)), some (.int v1), some (.int (v2 + 1))]) C dX13_starts_90 rfl (by rw [show Int32.ofInt 1 = (1 : Int32) from by decide]) rfl ?_
      refine z_goto C 25 dX13_starts_93 (by decide) ?_
      exact ih2 S26 v0 v1 (v2 + 1) res hT26 hpv0 hkv0   hF
theorem K_X13_starts {G : zG} {l : Launch} {kd : kD} {N0 f : Nat} {S : aS} {v0 : Nat} {v1 : Int32} {res : Option Value × aS} (hT : zT0 kd N0 S) (hpv0 : v0 < N0) (hkv0 : kd v0 = .inl 11) (hF : F_X13_starts f 0 [.ref v0, .int v1] S = some res) : zM G l 1 0 0 yX13_starts cX13_starts 3 none [.ref (zB G + v0), .int v1] (cn G kd N0 S) (zPo G kd N0 res) := zM.of (by decide) rfl (Nat.le_of_ble_eq_true rfl) (fun X _ C hr _ => (B_X13_starts C hr f).1 S v0 v1 res hT hpv0 hkv0 hF)
def F_X13_begins_0 (f : Nat) (rc : Nat → List Value → aS → aR) (v0 : Nat) (S : aS) : aR :=
  bV (F_X13_starts f 0 [.ref v0, .int 0] S) fun S1 => rc 1 [.ref v0, .int 0] S1
def F_X13_begins_1 (f : Nat) (rc : Nat → List Value → aS → aR) (v0 : Nat) (v1 : Int32) (S : aS) : aR :=
  if (8 : Int32) ≤ v1 then bX 0 250 fun q6 => fS (sI S (gR S v0 19) q6 0) fun S7 => fS (sI S7 v0 23 0) fun S8 => rc 2 [.ref v0, .int 0] S8 else bX ((28 : Int32) + v1) 828 fun q10 => fS (sI S (gR S v0 22) q10 ((-1000))) fun S11 => rc 1 [.ref v0, .int (v1 + 1)] S11
def F_X13_begins_2 (f : Nat) (rc : Nat → List Value → aS → aR) (v0 : Nat) (v1 : Int32) (S : aS) : aR :=
  if (4 : Int32) ≤ v1 then some (none, S) else bX v1 4 fun q16 => fS (sI S (gR S v0 24) q16 (vp_nar .boolean 0)) fun S17 => rc 2 [.ref v0, .int (v1 + 1)] S17
def F_X13_begins : Nat → Nat → List Value → aS → aR
  | 0, _, _, _ => none
  | f + 1, 0, vs, S => F_X13_begins_0 f (F_X13_begins f) (vR vs 0) S
  | f + 1, 1, vs, S => F_X13_begins_1 f (F_X13_begins f) (vR vs 0) (vI vs 1) S
  | f + 1, 2, vs, S => F_X13_begins_2 f (F_X13_begins f) (vR vs 0) (vI vs 1) S
  | _ + 1, _, _, _ => none
theorem dX13_begins_0 : decode cX13_begins 0 = .ok (.aload_n 0, 1) := by decide +kernel
theorem dX13_begins_1 : decode cX13_begins 1 = .ok (.iconst 0, 1) := by decide +kernel
theorem dX13_begins_2 : decode cX13_begins 2 = .ok (.invokevirtual 282, 3) := by decide +kernel
theorem dX13_begins_5 : decode cX13_begins 5 = .ok (.iconst 0, 1) := by decide +kernel
theorem dX13_begins_6 : decode cX13_begins 6 = .ok (.istore_n 1, 1) := by decide +kernel
theorem dX13_begins_7 : decode cX13_begins 7 = .ok (.iload_n 1, 1) := by decide +kernel
theorem dX13_begins_8 : decode cX13_begins 8 = .ok (.bipush 8, 2) := by decide +kernel
theorem dX13_begins_10 : decode cX13_begins 10 = .ok (.if_icmp .ge 21, 3) := by decide +kernel
theorem dX13_begins_13 : decode cX13_begins 13 = .ok (.aload_n 0, 1) := by decide +kernel
theorem dX13_begins_14 : decode cX13_begins 14 = .ok (.getfield 119, 3) := by decide +kernel
theorem dX13_begins_17 : decode cX13_begins 17 = .ok (.bipush 28, 2) := by decide +kernel
theorem dX13_begins_19 : decode cX13_begins 19 = .ok (.iload_n 1, 1) := by decide +kernel
theorem dX13_begins_20 : decode cX13_begins 20 = .ok (.iadd, 1) := by decide +kernel
theorem dX13_begins_21 : decode cX13_begins 21 = .ok (.sipush (-1000), 3) := by decide +kernel
theorem dX13_begins_24 : decode cX13_begins 24 = .ok (.iastore, 1) := by decide +kernel
theorem dX13_begins_25 : decode cX13_begins 25 = .ok (.iinc 1 1, 3) := by decide +kernel
theorem dX13_begins_28 : decode cX13_begins 28 = .ok (.goto (-21), 3) := by decide +kernel
theorem dX13_begins_31 : decode cX13_begins 31 = .ok (.aload_n 0, 1) := by decide +kernel
theorem dX13_begins_32 : decode cX13_begins 32 = .ok (.getfield 110, 3) := by decide +kernel
theorem dX13_begins_35 : decode cX13_begins 35 = .ok (.iconst 0, 1) := by decide +kernel
theorem dX13_begins_36 : decode cX13_begins 36 = .ok (.iconst 0, 1) := by decide +kernel
theorem dX13_begins_37 : decode cX13_begins 37 = .ok (.iastore, 1) := by decide +kernel
theorem dX13_begins_38 : decode cX13_begins 38 = .ok (.aload_n 0, 1) := by decide +kernel
theorem dX13_begins_39 : decode cX13_begins 39 = .ok (.iconst 0, 1) := by decide +kernel
theorem dX13_begins_40 : decode cX13_begins 40 = .ok (.putfield 285, 3) := by decide +kernel
theorem dX13_begins_43 : decode cX13_begins 43 = .ok (.iconst 0, 1) := by decide +kernel
theorem dX13_begins_44 : decode cX13_begins 44 = .ok (.istore_n 1, 1) := by decide +kernel
theorem dX13_begins_45 : decode cX13_begins 45 = .ok (.iload_n 1, 1) := by decide +kernel
theorem dX13_begins_46 : decode cX13_begins 46 = .ok (.iconst 4, 1) := by decide +kernel
theorem dX13_begins_47 : decode cX13_begins 47 = .ok (.if_icmp .ge 16, 3) := by decide +kernel
theorem dX13_begins_50 : decode cX13_begins 50 = .ok (.aload_n 0, 1) := by decide +kernel
theorem dX13_begins_51 : decode cX13_begins 51 = .ok (.getfield 122, 3) := by decide +kernel
theorem dX13_begins_54 : decode cX13_begins 54 = .ok (.iload_n 1, 1) := by decide +kernel
theorem dX13_begins_55 : decode cX13_begins 55 = .ok (.iconst 0, 1) := by decide +kernel
theorem dX13_begins_56 : decode cX13_begins 56 = .ok (.bastore, 1) := by decide +kernel
theorem dX13_begins_57 : decode cX13_begins 57 = .ok (.iinc 1 1, 3) := by decide +kernel
theorem dX13_begins_60 : decode cX13_begins 60 = .ok (.goto (-15), 3) := by decide +kernel
theorem dX13_begins_63 : decode cX13_begins 63 = .ok (.return_, 1) := by decide +kernel
set_option maxHeartbeats 4000000 in
set_option maxRecDepth 100000 in
theorem B_X13_begins {G : zG} {X : zX} {kd : kD} {N0 : Nat} (C : zCt G X 2 0 0 RX13 cX13_begins 2) (hr : (zXh X).sig.returnType = none) : ∀ f : Nat,
    (∀ (S : aS) (v0 : Nat) (res : Option Value × aS), zT0 kd N0 S → v0 < N0 → kd v0 = .inl 11 → F_X13_begins f 0 [.ref v0] S = some res → zV G X (zQX G X (zPo G kd N0 res) 0 0) 2 [some (.ref (zB G + v0)), none] [] (cn G kd N0 S) 0 0 0) ∧
    (∀ (S : aS) (v0 : Nat) (v1 : Int32) (res : Option Value × aS), zT0 kd N0 S → v0 < N0 → kd v0 = .inl 11 → F_X13_begins f 1 [.ref v0, .int v1] S = some res → zV G X (zQX G X (zPo G kd N0 res) 0 0) 2 [some (.ref (zB G + v0)), some (.int v1)] [] (cn G kd N0 S) 7 0 0) ∧
    (∀ (S : aS) (v0 : Nat) (v1 : Int32) (res : Option Value × aS), zT0 kd N0 S → v0 < N0 → kd v0 = .inl 11 → F_X13_begins f 2 [.ref v0, .int v1] S = some res → zV G X (zQX G X (zPo G kd N0 res) 0 0) 2 [some (.ref (zB G + v0)), some (.int v1)] [] (cn G kd N0 S) 45 0 0) := by
  intro f
  induction f with
  | zero => exact ⟨(fun _ _ _ _ _ _ h => by cases h), (fun _ _ _ _ _ _ _ h => by cases h), (fun _ _ _ _ _ _ _ h => by cases h)⟩
  | succ f ih =>
    obtain ⟨ih0, ih1, ih2⟩ := ih
    refine ⟨?_, ?_, ?_⟩
    · intro S v0 res hT hpv0 hkv0 hF
      replace hF : F_X13_begins_0 f (F_X13_begins f) v0 S = some res := hF
      unfold F_X13_begins_0 at hF
      refine z_aload_n C dX13_begins_0 rfl ?_
      refine z_iconst (v := 0) C dX13_begins_1 (by decide) ?_
      obtain ⟨S1, h1, hF⟩ := bV_some hF
      refine f_cV (st2 := []) C dX13_begins_2 zyX13_starts zvX13_starts lkRX13_282 (K_X13_starts (l := zXl X) hT hpv0 hkv0  h1) hpv0 hkv0 rfl (by decide) rfl rfl (Nat.le_of_ble_eq_true rfl) rfl (fun hT1 => ?_)
      refine z_iconst (v := 0) C dX13_begins_5 (by decide) ?_
      refine z_istore_n (lv2 := [some (.ref (zB G + v0)), some (.int 0)]) C dX13_begins_6 (by decide) rfl ?_
      exact ih1 S1 v0 0 res hT1 hpv0 hkv0  hF
    · intro S v0 v1 res hT hpv0 hkv0 hF
      replace hF : F_X13_begins_1 f (F_X13_begins f) v0 v1 S = some res := hF
      unfold F_X13_begins_1 at hF
      refine z_iload_n C dX13_begins_7 rfl ?_
      refine z_bipush (v := 8) C dX13_begins_8 (by decide) ?_
      refine z_icmp_ge C 31 dX13_begins_10 (by decide) (fun c4 => ?_) (fun c4 => ?_)
      · replace hF := ip hF c4
        refine z_aload_n C dX13_begins_31 rfl ?_
        refine f_getr C dX13_begins_32 zfRX13_110 hpv0 hkv0 rfl ?_
        obtain ⟨hp5, hk5⟩ := hT.1 v0 11 19 (.inr (0, 250)) hpv0 hkv0 rfl
        refine z_iconst (v := 0) C dX13_begins_35 (by decide) ?_
        refine z_iconst (v := 0) C dX13_begins_36 (by decide) ?_
        obtain ⟨hi6, hF⟩ := bX_some hF
        obtain ⟨q6, eq6⟩ : ∃ q : Nat, q = Int32.toNatClampNeg 0 := ⟨_, rfl⟩
        rw [← eq6] at hF
        refine f_iast C dX13_begins_37 hp5 hk5 hi6 ?_
        rw [← eq6]
        have hT7 : zT0 kd N0 (sI S (gR S v0 19) q6 0) := zT0_sI hT
        replace hF := fS_e hF
        generalize sI S (gR S v0 19) q6 0 = S7 at hF hT7 ⊢
        refine z_aload_n C dX13_begins_38 rfl ?_
        refine z_iconst (v := 0) C dX13_begins_39 (by decide) ?_
        refine f_puti C dX13_begins_40 zfRX13_285 fw11_23 hpv0 hkv0 rfl rfl rfl ?_
        have hT8 : zT0 kd N0 (sI S7 v0 23 0) := zT0_sI hT7
        replace hF := fS_e hF
        generalize sI S7 v0 23 0 = S8 at hF hT8 ⊢
        refine z_iconst (v := 0) C dX13_begins_43 (by decide) ?_
        refine z_istore_n (lv2 := [some (.ref (zB G + v0)), some (.int 0)]) C dX13_begins_44 (by decide) rfl ?_
        exact ih2 S8 v0 0 res hT8 hpv0 hkv0  hF
      · replace hF := im hF c4
        refine z_aload_n C dX13_begins_13 rfl ?_
        refine f_getr C dX13_begins_14 zfRX13_119 hpv0 hkv0 rfl ?_
        obtain ⟨hp9, hk9⟩ := hT.1 v0 11 22 (.inr (0, 828)) hpv0 hkv0 rfl
        refine z_bipush (v := 28) C dX13_begins_17 (by decide) ?_
        refine z_iload_n C dX13_begins_19 rfl ?_
        refine z_iadd C dX13_begins_20 ?_
        refine z_sipush (v := (-1000)) C dX13_begins_21 (by decide) ?_
        obtain ⟨hi10, hF⟩ := bX_some hF
        obtain ⟨q10, eq10⟩ : ∃ q : Nat, q = Int32.toNatClampNeg ((28 : Int32) + v1) := ⟨_, rfl⟩
        rw [← eq10] at hF
        refine f_iast C dX13_begins_24 hp9 hk9 hi10 ?_
        rw [← eq10]
        have hT11 : zT0 kd N0 (sI S (gR S v0 22) q10 ((-1000))) := zT0_sI hT
        replace hF := fS_e hF
        generalize sI S (gR S v0 22) q10 ((-1000)) = S11 at hF hT11 ⊢
        refine z_iinc (v := v1 + 1) (lv2 := [some (.ref (zB G + v0)), some (.int (v1 + 1))]) C dX13_begins_25 rfl (by rw [show Int32.ofInt 1 = (1 : Int32) from by decide]) rfl ?_
        refine z_goto C 7 dX13_begins_28 (by decide) ?_
        exact ih1 S11 v0 (v1 + 1) res hT11 hpv0 hkv0  hF
    · intro S v0 v1 res hT hpv0 hkv0 hF
      replace hF : F_X13_begins_2 f (F_X13_begins f) v0 v1 S = some res := hF
      unfold F_X13_begins_2 at hF
      refine z_iload_n C dX13_begins_45 rfl ?_
      refine z_iconst (v := 4) C dX13_begins_46 (by decide) ?_
      refine z_icmp_ge C 63 dX13_begins_47 (by decide) (fun c14 => ?_) (fun c14 => ?_)
      · replace hF := ip hF c14
        cases hF
        exact z_vret C hr dX13_begins_63 ⟨rfl, rfl, hT⟩
      · replace hF := im hF c14
        refine z_aload_n C dX13_begins_50 rfl ?_
        refine f_getr C dX13_begins_51 zfRX13_122 hpv0 hkv0 rfl ?_
        obtain ⟨hp15, hk15⟩ := hT.1 v0 11 24 (.inr (3, 4)) hpv0 hkv0 rfl
        refine z_iload_n C dX13_begins_54 rfl ?_
        refine z_iconst (v := 0) C dX13_begins_55 (by decide) ?_
        obtain ⟨hi16, hF⟩ := bX_some hF
        obtain ⟨q16, eq16⟩ : ∃ q : Nat, q = Int32.toNatClampNeg v1 := ⟨_, rfl⟩
        rw [← eq16] at hF
        refine f_zast C dX13_begins_56 hp15 hk15 hi16 ?_
        rw [← eq16]
        have hT17 : zT0 kd N0 (sI S (gR S v0 24) q16 (vp_nar .boolean 0)) := zT0_sI hT
        replace hF := fS_e hF
        generalize sI S (gR S v0 24) q16 (vp_nar .boolean 0) = S17 at hF hT17 ⊢
        refine z_iinc (v := v1 + 1) (lv2 := [some (.ref (zB G + v0)), some (.int (v1 + 1))]) C dX13_begins_57 rfl (by rw [show Int32.ofInt 1 = (1 : Int32) from by decide]) rfl ?_
        refine z_goto C 45 dX13_begins_60 (by decide) ?_
        exact ih2 S17 v0 (v1 + 1) res hT17 hpv0 hkv0  hF
theorem K_X13_begins {G : zG} {l : Launch} {kd : kD} {N0 f : Nat} {S : aS} {v0 : Nat} {res : Option Value × aS} (hT : zT0 kd N0 S) (hpv0 : v0 < N0) (hkv0 : kd v0 = .inl 11) (hF : F_X13_begins f 0 [.ref v0] S = some res) : zM G l 2 0 0 yX13_begins cX13_begins 2 none [.ref (zB G + v0)] (cn G kd N0 S) (zPo G kd N0 res) := zM.of (by decide) rfl (Nat.le_of_ble_eq_true rfl) (fun X _ C hr _ => (B_X13_begins C hr f).1 S v0 res hT hpv0 hkv0 hF)
def F_X13_takesOf_0 (f : Nat) (rc : Nat → List Value → aS → aR) (v0 : Nat) (v1 : Int32) (v2 : Int32) (S : aS) : aR :=
  bI (F_X13_lyingIn f 0 [.ref v0, .int v1] S) fun x2 S2 => bX 0 4 fun q3 => fS (sI S2 (gR S v0 20) q3 x2) fun S4 => bI (F_X13_nearOf f 0 [.ref v0, .int v1, .int ((-1))] S4) fun x6 S6 => bX 1 4 fun q7 => fS (sI S6 (gR S4 v0 20) q7 x6) fun S8 => bI (F_X13_personOf f 0 [.ref v0, .int v2, .int 2] S8) fun x10 S10 => bX 2 4 fun q11 => fS (sI S10 (gR S8 v0 20) q11 x10) fun S12 => bI (F_X13_personOf f 0 [.ref v0, .int v2, .int 1] S12) fun x14 S14 => bX 3 4 fun q15 => fS (sI S14 (gR S12 v0 20) q15 x14) fun S16 => bX 6 140 fun q18 => if (0 : Int32) ≤ (gI S16 (gR S16 v0 10) q18) then bX 6 140 fun q23 => bI (F_X13_worthAt f 0 [.ref v0, .int (gI S16 (gR S16 v0 10) q23)] S16) fun x24 S24 => rc 1 [.int x24] S24 else bX 2 4 fun q26 => rc 1 [.int (gI S16 (gR S16 v0 20) q26)] S16
def F_X13_takesOf_1 (f : Nat) (rc : Nat → List Value → aS → aR) (w0 : Int32) (S : aS) : aR :=
  some (some (.int (if (0 : Int32) ≤ w0 then if w0 ≤ (9 : Int32) then w0 else (9 : Int32) else (0 : Int32))), S)
def F_X13_takesOf : Nat → Nat → List Value → aS → aR
  | 0, _, _, _ => none
  | f + 1, 0, vs, S => F_X13_takesOf_0 f (F_X13_takesOf f) (vR vs 0) (vI vs 1) (vI vs 2) S
  | f + 1, 1, vs, S => F_X13_takesOf_1 f (F_X13_takesOf f) (vI vs 0) S
  | _ + 1, _, _, _ => none
theorem dX13_takesOf_0 : decode cX13_takesOf 0 = .ok (.aload_n 0, 1) := by decide +kernel
theorem dX13_takesOf_1 : decode cX13_takesOf 1 = .ok (.getfield 113, 3) := by decide +kernel
theorem dX13_takesOf_4 : decode cX13_takesOf 4 = .ok (.iconst 0, 1) := by decide +kernel
theorem dX13_takesOf_5 : decode cX13_takesOf 5 = .ok (.aload_n 0, 1) := by decide +kernel
theorem dX13_takesOf_6 : decode cX13_takesOf 6 = .ok (.iload_n 1, 1) := by decide +kernel
theorem dX13_takesOf_7 : decode cX13_takesOf 7 = .ok (.invokevirtual 299, 3) := by decide +kernel
theorem dX13_takesOf_10 : decode cX13_takesOf 10 = .ok (.iastore, 1) := by decide +kernel
theorem dX13_takesOf_11 : decode cX13_takesOf 11 = .ok (.aload_n 0, 1) := by decide +kernel
theorem dX13_takesOf_12 : decode cX13_takesOf 12 = .ok (.getfield 113, 3) := by decide +kernel
theorem dX13_takesOf_15 : decode cX13_takesOf 15 = .ok (.iconst 1, 1) := by decide +kernel
theorem dX13_takesOf_16 : decode cX13_takesOf 16 = .ok (.aload_n 0, 1) := by decide +kernel
theorem dX13_takesOf_17 : decode cX13_takesOf 17 = .ok (.iload_n 1, 1) := by decide +kernel
theorem dX13_takesOf_18 : decode cX13_takesOf 18 = .ok (.iconst (-1), 1) := by decide +kernel
theorem dX13_takesOf_19 : decode cX13_takesOf 19 = .ok (.invokevirtual 302, 3) := by decide +kernel
theorem dX13_takesOf_22 : decode cX13_takesOf 22 = .ok (.iastore, 1) := by decide +kernel
theorem dX13_takesOf_23 : decode cX13_takesOf 23 = .ok (.aload_n 0, 1) := by decide +kernel
theorem dX13_takesOf_24 : decode cX13_takesOf 24 = .ok (.getfield 113, 3) := by decide +kernel
theorem dX13_takesOf_27 : decode cX13_takesOf 27 = .ok (.iconst 2, 1) := by decide +kernel
theorem dX13_takesOf_28 : decode cX13_takesOf 28 = .ok (.aload_n 0, 1) := by decide +kernel
theorem dX13_takesOf_29 : decode cX13_takesOf 29 = .ok (.iload_n 2, 1) := by decide +kernel
theorem dX13_takesOf_30 : decode cX13_takesOf 30 = .ok (.iconst 2, 1) := by decide +kernel
theorem dX13_takesOf_31 : decode cX13_takesOf 31 = .ok (.invokevirtual 305, 3) := by decide +kernel
theorem dX13_takesOf_34 : decode cX13_takesOf 34 = .ok (.iastore, 1) := by decide +kernel
theorem dX13_takesOf_35 : decode cX13_takesOf 35 = .ok (.aload_n 0, 1) := by decide +kernel
theorem dX13_takesOf_36 : decode cX13_takesOf 36 = .ok (.getfield 113, 3) := by decide +kernel
theorem dX13_takesOf_39 : decode cX13_takesOf 39 = .ok (.iconst 3, 1) := by decide +kernel
theorem dX13_takesOf_40 : decode cX13_takesOf 40 = .ok (.aload_n 0, 1) := by decide +kernel
theorem dX13_takesOf_41 : decode cX13_takesOf 41 = .ok (.iload_n 2, 1) := by decide +kernel
theorem dX13_takesOf_42 : decode cX13_takesOf 42 = .ok (.iconst 1, 1) := by decide +kernel
theorem dX13_takesOf_43 : decode cX13_takesOf 43 = .ok (.invokevirtual 305, 3) := by decide +kernel
theorem dX13_takesOf_46 : decode cX13_takesOf 46 = .ok (.iastore, 1) := by decide +kernel
theorem dX13_takesOf_47 : decode cX13_takesOf 47 = .ok (.aload_n 0, 1) := by decide +kernel
theorem dX13_takesOf_48 : decode cX13_takesOf 48 = .ok (.getfield 95, 3) := by decide +kernel
theorem dX13_takesOf_51 : decode cX13_takesOf 51 = .ok (.bipush 6, 2) := by decide +kernel
theorem dX13_takesOf_53 : decode cX13_takesOf 53 = .ok (.iaload, 1) := by decide +kernel
theorem dX13_takesOf_54 : decode cX13_takesOf 54 = .ok (.ifCond .ge 12, 3) := by decide +kernel
theorem dX13_takesOf_57 : decode cX13_takesOf 57 = .ok (.aload_n 0, 1) := by decide +kernel
theorem dX13_takesOf_58 : decode cX13_takesOf 58 = .ok (.getfield 113, 3) := by decide +kernel
theorem dX13_takesOf_61 : decode cX13_takesOf 61 = .ok (.iconst 2, 1) := by decide +kernel
theorem dX13_takesOf_62 : decode cX13_takesOf 62 = .ok (.iaload, 1) := by decide +kernel
theorem dX13_takesOf_63 : decode cX13_takesOf 63 = .ok (.goto 14, 3) := by decide +kernel
theorem dX13_takesOf_66 : decode cX13_takesOf 66 = .ok (.aload_n 0, 1) := by decide +kernel
theorem dX13_takesOf_67 : decode cX13_takesOf 67 = .ok (.aload_n 0, 1) := by decide +kernel
theorem dX13_takesOf_68 : decode cX13_takesOf 68 = .ok (.getfield 95, 3) := by decide +kernel
theorem dX13_takesOf_71 : decode cX13_takesOf 71 = .ok (.bipush 6, 2) := by decide +kernel
theorem dX13_takesOf_73 : decode cX13_takesOf 73 = .ok (.iaload, 1) := by decide +kernel
theorem dX13_takesOf_74 : decode cX13_takesOf 74 = .ok (.invokevirtual 308, 3) := by decide +kernel
theorem dX13_takesOf_77 : decode cX13_takesOf 77 = .ok (.istore_n 3, 1) := by decide +kernel
theorem dX13_takesOf_78 : decode cX13_takesOf 78 = .ok (.iload_n 3, 1) := by decide +kernel
theorem dX13_takesOf_79 : decode cX13_takesOf 79 = .ok (.ifCond .ge 7, 3) := by decide +kernel
theorem dX13_takesOf_82 : decode cX13_takesOf 82 = .ok (.iconst 0, 1) := by decide +kernel
theorem dX13_takesOf_83 : decode cX13_takesOf 83 = .ok (.goto 15, 3) := by decide +kernel
theorem dX13_takesOf_86 : decode cX13_takesOf 86 = .ok (.iload_n 3, 1) := by decide +kernel
theorem dX13_takesOf_87 : decode cX13_takesOf 87 = .ok (.bipush 9, 2) := by decide +kernel
theorem dX13_takesOf_89 : decode cX13_takesOf 89 = .ok (.if_icmp .le 8, 3) := by decide +kernel
theorem dX13_takesOf_92 : decode cX13_takesOf 92 = .ok (.bipush 9, 2) := by decide +kernel
theorem dX13_takesOf_94 : decode cX13_takesOf 94 = .ok (.goto 4, 3) := by decide +kernel
theorem dX13_takesOf_97 : decode cX13_takesOf 97 = .ok (.iload_n 3, 1) := by decide +kernel
theorem dX13_takesOf_98 : decode cX13_takesOf 98 = .ok (.ireturn, 1) := by decide +kernel
set_option maxHeartbeats 4000000 in
set_option maxRecDepth 100000 in
theorem B_X13_takesOf {G : zG} {X : zX} {kd : kD} {N0 : Nat} (C : zCt G X 2 0 0 RX13 cX13_takesOf 4) (hr : (zXh X).sig.returnType = (some .int)) : ∀ f : Nat,
    (∀ (S : aS) (v0 : Nat) (v1 : Int32) (v2 : Int32) (res : Option Value × aS), zT0 kd N0 S → v0 < N0 → kd v0 = .inl 11 → F_X13_takesOf f 0 [.ref v0, .int v1, .int v2] S = some res → zV G X (zQX G X (zPo G kd N0 res) 0 0) 4 [some (.ref (zB G + v0)), some (.int v1), some (.int v2), none] [] (cn G kd N0 S) 0 0 0) ∧
    (∀ (S : aS) (w0 : Int32) (res : Option Value × aS), zT0 kd N0 S → F_X13_takesOf f 1 [.int w0] S = some res → zV G X (zQX G X (zPo G kd N0 res) 0 0) 4 [none, none, none, none] [.int w0] (cn G kd N0 S) 77 0 0) := by
  intro f
  induction f with
  | zero => exact ⟨(fun _ _ _ _ _ _ _ _ h => by cases h), (fun _ _ _ _ h => by cases h)⟩
  | succ f ih =>
    obtain ⟨ih0, ih1⟩ := ih
    refine ⟨?_, ?_⟩
    · intro S v0 v1 v2 res hT hpv0 hkv0 hF
      replace hF : F_X13_takesOf_0 f (F_X13_takesOf f) v0 v1 v2 S = some res := hF
      unfold F_X13_takesOf_0 at hF
      refine z_aload_n C dX13_takesOf_0 rfl ?_
      refine f_getr C dX13_takesOf_1 zfRX13_113 hpv0 hkv0 rfl ?_
      obtain ⟨hp1, hk1⟩ := hT.1 v0 11 20 (.inr (0, 4)) hpv0 hkv0 rfl
      refine z_iconst (v := 0) C dX13_takesOf_4 (by decide) ?_
      refine z_aload_n C dX13_takesOf_5 rfl ?_
      refine z_iload_n C dX13_takesOf_6 rfl ?_
      obtain ⟨x2, S2, h2, hF⟩ := bI_some hF
      refine f_cV (st2 := [.int x2, .int 0, .ref (zB G + (gR S v0 20))]) C dX13_takesOf_7 zyX13_lyingIn zvX13_lyingIn lkRX13_299 (K_X13_lyingIn (l := zXl X) hT hpv0 hkv0  h2) hpv0 hkv0 rfl (by decide) rfl rfl (Nat.le_of_ble_eq_true rfl) rfl (fun hT2 => ?_)
      obtain ⟨hi3, hF⟩ := bX_some hF
      obtain ⟨q3, eq3⟩ : ∃ q : Nat, q = Int32.toNatClampNeg 0 := ⟨_, rfl⟩
      rw [← eq3] at hF
      refine f_iast C dX13_takesOf_10 hp1 hk1 hi3 ?_
      rw [← eq3]
      have hT4 : zT0 kd N0 (sI S2 (gR S v0 20) q3 x2) := zT0_sI hT2
      replace hF := fS_e hF
      generalize sI S2 (gR S v0 20) q3 x2 = S4 at hF hT4 ⊢
      refine z_aload_n C dX13_takesOf_11 rfl ?_
      refine f_getr C dX13_takesOf_12 zfRX13_113 hpv0 hkv0 rfl ?_
      obtain ⟨hp5, hk5⟩ := hT4.1 v0 11 20 (.inr (0, 4)) hpv0 hkv0 rfl
      refine z_iconst (v := 1) C dX13_takesOf_15 (by decide) ?_
      refine z_aload_n C dX13_takesOf_16 rfl ?_
      refine z_iload_n C dX13_takesOf_17 rfl ?_
      refine z_iconst (v := (-1)) C dX13_takesOf_18 (by decide) ?_
      obtain ⟨x6, S6, h6, hF⟩ := bI_some hF
      refine f_cV (st2 := [.int x6, .int 1, .ref (zB G + (gR S4 v0 20))]) C dX13_takesOf_19 zyX13_nearOf zvX13_nearOf lkRX13_302 (K_X13_nearOf (l := zXl X) hT4 hpv0 hkv0   h6) hpv0 hkv0 rfl (by decide) rfl rfl (Nat.le_of_ble_eq_true rfl) rfl (fun hT6 => ?_)
      obtain ⟨hi7, hF⟩ := bX_some hF
      obtain ⟨q7, eq7⟩ : ∃ q : Nat, q = Int32.toNatClampNeg 1 := ⟨_, rfl⟩
      rw [← eq7] at hF
      refine f_iast C dX13_takesOf_22 hp5 hk5 hi7 ?_
      rw [← eq7]
      have hT8 : zT0 kd N0 (sI S6 (gR S4 v0 20) q7 x6) := zT0_sI hT6
      replace hF := fS_e hF
      generalize sI S6 (gR S4 v0 20) q7 x6 = S8 at hF hT8 ⊢
      refine z_aload_n C dX13_takesOf_23 rfl ?_
      refine f_getr C dX13_takesOf_24 zfRX13_113 hpv0 hkv0 rfl ?_
      obtain ⟨hp9, hk9⟩ := hT8.1 v0 11 20 (.inr (0, 4)) hpv0 hkv0 rfl
      refine z_iconst (v := 2) C dX13_takesOf_27 (by decide) ?_
      refine z_aload_n C dX13_takesOf_28 rfl ?_
      refine z_iload_n C dX13_takesOf_29 rfl ?_
      refine z_iconst (v := 2) C dX13_takesOf_30 (by decide) ?_
      obtain ⟨x10, S10, h10, hF⟩ := bI_some hF
      refine f_cV (st2 := [.int x10, .int 2, .ref (zB G + (gR S8 v0 20))]) C dX13_takesOf_31 zyX13_personOf zvX13_personOf lkRX13_305 (K_X13_personOf (l := zXl X) hT8 hpv0 hkv0   h10) hpv0 hkv0 rfl (by decide) rfl rfl (Nat.le_of_ble_eq_true rfl) rfl (fun hT10 => ?_)
      obtain ⟨hi11, hF⟩ := bX_some hF
      obtain ⟨q11, eq11⟩ : ∃ q : Nat, q = Int32.toNatClampNeg 2 := ⟨_, rfl⟩
      rw [← eq11] at hF
      refine f_iast C dX13_takesOf_34 hp9 hk9 hi11 ?_
      rw [← eq11]
      have hT12 : zT0 kd N0 (sI S10 (gR S8 v0 20) q11 x10) := zT0_sI hT10
      replace hF := fS_e hF
      generalize sI S10 (gR S8 v0 20) q11 x10 = S12 at hF hT12 ⊢
      refine z_aload_n C dX13_takesOf_35 rfl ?_
      refine f_getr C dX13_takesOf_36 zfRX13_113 hpv0 hkv0 rfl ?_
      obtain ⟨hp13, hk13⟩ := hT12.1 v0 11 20 (.inr (0, 4)) hpv0 hkv0 rfl
      refine z_iconst (v := 3) C dX13_takesOf_39 (by decide) ?_
      refine z_aload_n C dX13_takesOf_40 rfl ?_
      refine z_iload_n C dX13_takesOf_41 rfl ?_
      refine z_iconst (v := 1) C dX13_takesOf_42 (by decide) ?_
      obtain ⟨x14, S14, h14, hF⟩ := bI_some hF
      refine f_cV (st2 := [.int x14, .int 3, .ref (zB G + (gR S12 v0 20))]) C dX13_takesOf_43 zyX13_personOf zvX13_personOf lkRX13_305 (K_X13_personOf (l := zXl X) hT12 hpv0 hkv0   h14) hpv0 hkv0 rfl (by decide) rfl rfl (Nat.le_of_ble_eq_true rfl) rfl (fun hT14 => ?_)
      obtain ⟨hi15, hF⟩ := bX_some hF
      obtain ⟨q15, eq15⟩ : ∃ q : Nat, q = Int32.toNatClampNeg 3 := ⟨_, rfl⟩
      rw [← eq15] at hF
      refine f_iast C dX13_takesOf_46 hp13 hk13 hi15 ?_
      rw [← eq15]
      have hT16 : zT0 kd N0 (sI S14 (gR S12 v0 20) q15 x14) := zT0_sI hT14
      replace hF := fS_e hF
      generalize sI S14 (gR S12 v0 20) q15 x14 = S16 at hF hT16 ⊢
      refine z_aload_n C dX13_takesOf_47 rfl ?_
      refine f_getr C dX13_takesOf_48 zfRX13_95 hpv0 hkv0 rfl ?_
      obtain ⟨hp17, hk17⟩ := hT16.1 v0 11 10 (.inr (0, 140)) hpv0 hkv0 rfl
      refine z_bipush (v := 6) C dX13_takesOf_51 (by decide) ?_
      obtain ⟨hi18, hF⟩ := bX_some hF
      obtain ⟨q18, eq18⟩ : ∃ q : Nat, q = Int32.toNatClampNeg 6 := ⟨_, rfl⟩
      rw [← eq18] at hF
      refine f_iald C dX13_takesOf_53 hp17 hk17 hi18 ?_
      rw [← eq18]
      refine z_if_ge C 66 dX13_takesOf_54 (by decide) (fun c21 => ?_) (fun c21 => ?_)
      · replace hF := ip hF c21
        refine z_aload_n C dX13_takesOf_66 rfl ?_
        refine z_aload_n C dX13_takesOf_67 rfl ?_
        refine f_getr C dX13_takesOf_68 zfRX13_95 hpv0 hkv0 rfl ?_
        obtain ⟨hp22, hk22⟩ := hT16.1 v0 11 10 (.inr (0, 140)) hpv0 hkv0 rfl
        refine z_bipush (v := 6) C dX13_takesOf_71 (by decide) ?_
        obtain ⟨hi23, hF⟩ := bX_some hF
        obtain ⟨q23, eq23⟩ : ∃ q : Nat, q = Int32.toNatClampNeg 6 := ⟨_, rfl⟩
        rw [← eq23] at hF
        refine f_iald C dX13_takesOf_73 hp22 hk22 hi23 ?_
        rw [← eq23]
        obtain ⟨x24, S24, h24, hF⟩ := bI_some hF
        refine f_cV (st2 := [.int x24]) C dX13_takesOf_74 zyX13_worthAt zvX13_worthAt lkRX13_308 (K_X13_worthAt (l := zXl X) hT16 hpv0 hkv0  h24) hpv0 hkv0 rfl (by decide) rfl rfl (Nat.le_of_ble_eq_true rfl) rfl (fun hT24 => ?_)
        refine z_mask [false, false, false, true] ?_ rfl
        exact ih1 S24 x24 res hT24  hF
      · replace hF := im hF c21
        refine z_aload_n C dX13_takesOf_57 rfl ?_
        refine f_getr C dX13_takesOf_58 zfRX13_113 hpv0 hkv0 rfl ?_
        obtain ⟨hp25, hk25⟩ := hT16.1 v0 11 20 (.inr (0, 4)) hpv0 hkv0 rfl
        refine z_iconst (v := 2) C dX13_takesOf_61 (by decide) ?_
        obtain ⟨hi26, hF⟩ := bX_some hF
        obtain ⟨q26, eq26⟩ : ∃ q : Nat, q = Int32.toNatClampNeg 2 := ⟨_, rfl⟩
        rw [← eq26] at hF
        refine f_iald C dX13_takesOf_62 hp25 hk25 hi26 ?_
        rw [← eq26]
        refine z_goto C 77 dX13_takesOf_63 (by decide) ?_
        refine z_mask [false, false, false, true] ?_ rfl
        exact ih1 S16 (gI S16 (gR S16 v0 20) q26) res hT16  hF
    · intro S w0 res hT  hF
      replace hF : F_X13_takesOf_1 f (F_X13_takesOf f) w0 S = some res := hF
      unfold F_X13_takesOf_1 at hF
      refine z_istore_n (lv2 := [none, none, none, some (.int w0)]) C dX13_takesOf_77 (by decide) rfl ?_
      refine z_iload_n C dX13_takesOf_78 rfl ?_
      have hJ29 : zV G X (zQX G X (zPo G kd N0 res) 0 0) 4 [none, none, none, some (.int w0)] [.int (if (0 : Int32) ≤ w0 then if w0 ≤ (9 : Int32) then w0 else (9 : Int32) else (0 : Int32))] (cn G kd N0 S) 98 0 0 := by
        cases hF
        exact z_iret C hr dX13_takesOf_98 ⟨rfl, rfl, hT⟩
      refine z_if_ge C 86 dX13_takesOf_79 (by decide) (fun c27 => ?_) (fun c27 => ?_)
      · refine z_iload_n C dX13_takesOf_86 rfl ?_
        refine z_bipush (v := 9) C dX13_takesOf_87 (by decide) ?_
        refine z_icmp_le C 97 dX13_takesOf_89 (by decide) (fun c28 => ?_) (fun c28 => ?_)
        · refine z_iload_n C dX13_takesOf_97 rfl ?_
          exact zV.at hJ29 (by first | rfl | contradiction | (simp only [if_pos c27, if_pos c28]; done)) (by first | rfl | contradiction | (simp only [if_pos c27, if_pos c28]; done)) rfl rfl
        · refine z_bipush (v := 9) C dX13_takesOf_92 (by decide) ?_
          refine z_goto C 98 dX13_takesOf_94 (by decide) ?_
          exact zV.at hJ29 (by first | rfl | contradiction | (simp only [if_pos c27, if_neg c28]; done)) (by first | rfl | contradiction | (simp only [if_pos c27, if_neg c28]; done)) rfl rfl
      · refine z_iconst (v := 0) C dX13_takesOf_82 (by decide) ?_
        refine z_goto C 98 dX13_takesOf_83 (by decide) ?_
        exact zV.at hJ29 (by first | rfl | contradiction | (simp only [if_neg c27]; done)) (by first | rfl | contradiction | (simp only [if_neg c27]; done)) rfl rfl
theorem K_X13_takesOf {G : zG} {l : Launch} {kd : kD} {N0 f : Nat} {S : aS} {v0 : Nat} {v1 : Int32} {v2 : Int32} {res : Option Value × aS} (hT : zT0 kd N0 S) (hpv0 : v0 < N0) (hkv0 : kd v0 = .inl 11) (hF : F_X13_takesOf f 0 [.ref v0, .int v1, .int v2] S = some res) : zM G l 2 0 0 yX13_takesOf cX13_takesOf 4 (some .int) [.ref (zB G + v0), .int v1, .int v2] (cn G kd N0 S) (zPo G kd N0 res) := zM.of (by decide) rfl (Nat.le_of_ble_eq_true rfl) (fun X _ C hr _ => (B_X13_takesOf C hr f).1 S v0 v1 v2 res hT hpv0 hkv0 hF)
def F_X13_dropsOf_0 (f : Nat) (rc : Nat → List Value → aS → aR) (v0 : Nat) (v1 : Int32) (v2 : Int32) (v3 : Int32) (v4 : Int32) (v5 : Int32) (S : aS) : aR :=
  bI (F_X13_nearOf f 0 [.ref v0, .int v1, .int v3] S) fun x1 S1 => bI (F_X13_personOf f 0 [.ref v0, .int v2, .int 1] S1) fun x2 S2 => bI (F_X13_personOf f 0 [.ref v0, .int v2, .int 0] S2) fun x3 S3 => bX 5 140 fun q5 => if (gI S3 (gR S3 v0 10) q5) < (0 : Int32) then some (some (.int (if (0 : Int32) ≤ (if x3 = (2 : Int32) then if v4 ≤ (0 : Int32) then (0 : Int32) else v5 else if x3 = (1 : Int32) then if v4 ≤ (9 : Int32) then if x3 = (1 : Int32) then if x1 ≤ (x2 + (2 : Int32)) then (0 : Int32) else (1 : Int32) else if x1 ≤ x2 then (0 : Int32) else (1 : Int32) else v5 else if v4 ≤ (4 : Int32) then if x3 = (1 : Int32) then if x1 ≤ (x2 + (2 : Int32)) then (0 : Int32) else (1 : Int32) else if x1 ≤ x2 then (0 : Int32) else (1 : Int32) else v5) then if (if x3 = (2 : Int32) then if v4 ≤ (0 : Int32) then (0 : Int32) else v5 else if x3 = (1 : Int32) then if v4 ≤ (9 : Int32) then if x3 = (1 : Int32) then if x1 ≤ (x2 + (2 : Int32)) then (0 : Int32) else (1 : Int32) else if x1 ≤ x2 then (0 : Int32) else (1 : Int32) else v5 else if v4 ≤ (4 : Int32) then if x3 = (1 : Int32) then if x1 ≤ (x2 + (2 : Int32)) then (0 : Int32) else (1 : Int32) else if x1 ≤ x2 then (0 : Int32) else (1 : Int32) else v5) ≤ v5 then (if x3 = (2 : Int32) then if v4 ≤ (0 : Int32) then (0 : Int32) else v5 else if x3 = (1 : Int32) then if v4 ≤ (9 : Int32) then if x3 = (1 : Int32) then if x1 ≤ (x2 + (2 : Int32)) then (0 : Int32) else (1 : Int32) else if x1 ≤ x2 then (0 : Int32) else (1 : Int32) else v5 else if v4 ≤ (4 : Int32) then if x3 = (1 : Int32) then if x1 ≤ (x2 + (2 : Int32)) then (0 : Int32) else (1 : Int32) else if x1 ≤ x2 then (0 : Int32) else (1 : Int32) else v5) else v5 else (0 : Int32))), S3) else bX 0 4 fun q36 => fS (sI S3 (gR S3 v0 20) q36 v4) fun S37 => bX 1 4 fun q39 => fS (sI S37 (gR S37 v0 20) q39 x1) fun S40 => bX 2 4 fun q42 => fS (sI S40 (gR S40 v0 20) q42 v5) fun S43 => bX 3 4 fun q45 => fS (sI S43 (gR S43 v0 20) q45 x2) fun S46 => bX 5 140 fun q48 => bI (F_X13_worthAt f 0 [.ref v0, .int (gI S46 (gR S46 v0 10) q48)] S46) fun x49 S49 => rc 1 [.int v5, .int x49] S49
def F_X13_dropsOf_1 (f : Nat) (rc : Nat → List Value → aS → aR) (v0 : Int32) (v1 : Int32) (S : aS) : aR :=
  some (some (.int (if (0 : Int32) ≤ v1 then if v1 ≤ v0 then v1 else v0 else (0 : Int32))), S)
def F_X13_dropsOf : Nat → Nat → List Value → aS → aR
  | 0, _, _, _ => none
  | f + 1, 0, vs, S => F_X13_dropsOf_0 f (F_X13_dropsOf f) (vR vs 0) (vI vs 1) (vI vs 2) (vI vs 3) (vI vs 4) (vI vs 5) S
  | f + 1, 1, vs, S => F_X13_dropsOf_1 f (F_X13_dropsOf f) (vI vs 0) (vI vs 1) S
  | _ + 1, _, _, _ => none
theorem dX13_dropsOf_0 : decode cX13_dropsOf 0 = .ok (.aload_n 0, 1) := by decide +kernel
theorem dX13_dropsOf_1 : decode cX13_dropsOf 1 = .ok (.iload_n 1, 1) := by decide +kernel
theorem dX13_dropsOf_2 : decode cX13_dropsOf 2 = .ok (.iload_n 3, 1) := by decide +kernel
theorem dX13_dropsOf_3 : decode cX13_dropsOf 3 = .ok (.invokevirtual 302, 3) := by decide +kernel
theorem dX13_dropsOf_6 : decode cX13_dropsOf 6 = .ok (.istore 6, 2) := by decide +kernel
theorem dX13_dropsOf_8 : decode cX13_dropsOf 8 = .ok (.aload_n 0, 1) := by decide +kernel
theorem dX13_dropsOf_9 : decode cX13_dropsOf 9 = .ok (.iload_n 2, 1) := by decide +kernel
theorem dX13_dropsOf_10 : decode cX13_dropsOf 10 = .ok (.iconst 1, 1) := by decide +kernel
theorem dX13_dropsOf_11 : decode cX13_dropsOf 11 = .ok (.invokevirtual 305, 3) := by decide +kernel
theorem dX13_dropsOf_14 : decode cX13_dropsOf 14 = .ok (.istore 7, 2) := by decide +kernel
theorem dX13_dropsOf_16 : decode cX13_dropsOf 16 = .ok (.aload_n 0, 1) := by decide +kernel
theorem dX13_dropsOf_17 : decode cX13_dropsOf 17 = .ok (.iload_n 2, 1) := by decide +kernel
theorem dX13_dropsOf_18 : decode cX13_dropsOf 18 = .ok (.iconst 0, 1) := by decide +kernel
theorem dX13_dropsOf_19 : decode cX13_dropsOf 19 = .ok (.invokevirtual 305, 3) := by decide +kernel
theorem dX13_dropsOf_22 : decode cX13_dropsOf 22 = .ok (.istore 8, 2) := by decide +kernel
theorem dX13_dropsOf_24 : decode cX13_dropsOf 24 = .ok (.iconst 0, 1) := by decide +kernel
theorem dX13_dropsOf_25 : decode cX13_dropsOf 25 = .ok (.istore 9, 2) := by decide +kernel
theorem dX13_dropsOf_27 : decode cX13_dropsOf 27 = .ok (.aload_n 0, 1) := by decide +kernel
theorem dX13_dropsOf_28 : decode cX13_dropsOf 28 = .ok (.getfield 95, 3) := by decide +kernel
theorem dX13_dropsOf_31 : decode cX13_dropsOf 31 = .ok (.iconst 5, 1) := by decide +kernel
theorem dX13_dropsOf_32 : decode cX13_dropsOf 32 = .ok (.iaload, 1) := by decide +kernel
theorem dX13_dropsOf_33 : decode cX13_dropsOf 33 = .ok (.ifCond .lt 50, 3) := by decide +kernel
theorem dX13_dropsOf_36 : decode cX13_dropsOf 36 = .ok (.aload_n 0, 1) := by decide +kernel
theorem dX13_dropsOf_37 : decode cX13_dropsOf 37 = .ok (.getfield 113, 3) := by decide +kernel
theorem dX13_dropsOf_40 : decode cX13_dropsOf 40 = .ok (.iconst 0, 1) := by decide +kernel
theorem dX13_dropsOf_41 : decode cX13_dropsOf 41 = .ok (.iload 4, 2) := by decide +kernel
theorem dX13_dropsOf_43 : decode cX13_dropsOf 43 = .ok (.iastore, 1) := by decide +kernel
theorem dX13_dropsOf_44 : decode cX13_dropsOf 44 = .ok (.aload_n 0, 1) := by decide +kernel
theorem dX13_dropsOf_45 : decode cX13_dropsOf 45 = .ok (.getfield 113, 3) := by decide +kernel
theorem dX13_dropsOf_48 : decode cX13_dropsOf 48 = .ok (.iconst 1, 1) := by decide +kernel
theorem dX13_dropsOf_49 : decode cX13_dropsOf 49 = .ok (.iload 6, 2) := by decide +kernel
theorem dX13_dropsOf_51 : decode cX13_dropsOf 51 = .ok (.iastore, 1) := by decide +kernel
theorem dX13_dropsOf_52 : decode cX13_dropsOf 52 = .ok (.aload_n 0, 1) := by decide +kernel
theorem dX13_dropsOf_53 : decode cX13_dropsOf 53 = .ok (.getfield 113, 3) := by decide +kernel
theorem dX13_dropsOf_56 : decode cX13_dropsOf 56 = .ok (.iconst 2, 1) := by decide +kernel
theorem dX13_dropsOf_57 : decode cX13_dropsOf 57 = .ok (.iload 5, 2) := by decide +kernel
theorem dX13_dropsOf_59 : decode cX13_dropsOf 59 = .ok (.iastore, 1) := by decide +kernel
theorem dX13_dropsOf_60 : decode cX13_dropsOf 60 = .ok (.aload_n 0, 1) := by decide +kernel
theorem dX13_dropsOf_61 : decode cX13_dropsOf 61 = .ok (.getfield 113, 3) := by decide +kernel
theorem dX13_dropsOf_64 : decode cX13_dropsOf 64 = .ok (.iconst 3, 1) := by decide +kernel
theorem dX13_dropsOf_65 : decode cX13_dropsOf 65 = .ok (.iload 7, 2) := by decide +kernel
theorem dX13_dropsOf_67 : decode cX13_dropsOf 67 = .ok (.iastore, 1) := by decide +kernel
theorem dX13_dropsOf_68 : decode cX13_dropsOf 68 = .ok (.aload_n 0, 1) := by decide +kernel
theorem dX13_dropsOf_69 : decode cX13_dropsOf 69 = .ok (.aload_n 0, 1) := by decide +kernel
theorem dX13_dropsOf_70 : decode cX13_dropsOf 70 = .ok (.getfield 95, 3) := by decide +kernel
theorem dX13_dropsOf_73 : decode cX13_dropsOf 73 = .ok (.iconst 5, 1) := by decide +kernel
theorem dX13_dropsOf_74 : decode cX13_dropsOf 74 = .ok (.iaload, 1) := by decide +kernel
theorem dX13_dropsOf_75 : decode cX13_dropsOf 75 = .ok (.invokevirtual 308, 3) := by decide +kernel
theorem dX13_dropsOf_78 : decode cX13_dropsOf 78 = .ok (.istore 9, 2) := by decide +kernel
theorem dX13_dropsOf_80 : decode cX13_dropsOf 80 = .ok (.goto 74, 3) := by decide +kernel
theorem dX13_dropsOf_83 : decode cX13_dropsOf 83 = .ok (.iload 8, 2) := by decide +kernel
theorem dX13_dropsOf_85 : decode cX13_dropsOf 85 = .ok (.iconst 2, 1) := by decide +kernel
theorem dX13_dropsOf_86 : decode cX13_dropsOf 86 = .ok (.if_icmp .ne 19, 3) := by decide +kernel
theorem dX13_dropsOf_89 : decode cX13_dropsOf 89 = .ok (.iload 4, 2) := by decide +kernel
theorem dX13_dropsOf_91 : decode cX13_dropsOf 91 = .ok (.ifCond .le 8, 3) := by decide +kernel
theorem dX13_dropsOf_94 : decode cX13_dropsOf 94 = .ok (.iload 5, 2) := by decide +kernel
theorem dX13_dropsOf_96 : decode cX13_dropsOf 96 = .ok (.goto 4, 3) := by decide +kernel
theorem dX13_dropsOf_99 : decode cX13_dropsOf 99 = .ok (.iconst 0, 1) := by decide +kernel
theorem dX13_dropsOf_100 : decode cX13_dropsOf 100 = .ok (.istore 9, 2) := by decide +kernel
theorem dX13_dropsOf_102 : decode cX13_dropsOf 102 = .ok (.goto 52, 3) := by decide +kernel
theorem dX13_dropsOf_105 : decode cX13_dropsOf 105 = .ok (.iload 4, 2) := by decide +kernel
theorem dX13_dropsOf_107 : decode cX13_dropsOf 107 = .ok (.iload 8, 2) := by decide +kernel
theorem dX13_dropsOf_109 : decode cX13_dropsOf 109 = .ok (.iconst 1, 1) := by decide +kernel
theorem dX13_dropsOf_110 : decode cX13_dropsOf 110 = .ok (.if_icmp .ne 8, 3) := by decide +kernel
theorem dX13_dropsOf_113 : decode cX13_dropsOf 113 = .ok (.bipush 9, 2) := by decide +kernel
theorem dX13_dropsOf_115 : decode cX13_dropsOf 115 = .ok (.goto 4, 3) := by decide +kernel
theorem dX13_dropsOf_118 : decode cX13_dropsOf 118 = .ok (.iconst 4, 1) := by decide +kernel
theorem dX13_dropsOf_119 : decode cX13_dropsOf 119 = .ok (.if_icmp .le 8, 3) := by decide +kernel
theorem dX13_dropsOf_122 : decode cX13_dropsOf 122 = .ok (.iload 5, 2) := by decide +kernel
theorem dX13_dropsOf_124 : decode cX13_dropsOf 124 = .ok (.goto 28, 3) := by decide +kernel
theorem dX13_dropsOf_127 : decode cX13_dropsOf 127 = .ok (.iload 6, 2) := by decide +kernel
theorem dX13_dropsOf_129 : decode cX13_dropsOf 129 = .ok (.iload 8, 2) := by decide +kernel
theorem dX13_dropsOf_131 : decode cX13_dropsOf 131 = .ok (.iconst 1, 1) := by decide +kernel
theorem dX13_dropsOf_132 : decode cX13_dropsOf 132 = .ok (.if_icmp .ne 10, 3) := by decide +kernel
theorem dX13_dropsOf_135 : decode cX13_dropsOf 135 = .ok (.iload 7, 2) := by decide +kernel
theorem dX13_dropsOf_137 : decode cX13_dropsOf 137 = .ok (.iconst 2, 1) := by decide +kernel
theorem dX13_dropsOf_138 : decode cX13_dropsOf 138 = .ok (.iadd, 1) := by decide +kernel
theorem dX13_dropsOf_139 : decode cX13_dropsOf 139 = .ok (.goto 5, 3) := by decide +kernel
theorem dX13_dropsOf_142 : decode cX13_dropsOf 142 = .ok (.iload 7, 2) := by decide +kernel
theorem dX13_dropsOf_144 : decode cX13_dropsOf 144 = .ok (.if_icmp .le 7, 3) := by decide +kernel
theorem dX13_dropsOf_147 : decode cX13_dropsOf 147 = .ok (.iconst 1, 1) := by decide +kernel
theorem dX13_dropsOf_148 : decode cX13_dropsOf 148 = .ok (.goto 4, 3) := by decide +kernel
theorem dX13_dropsOf_151 : decode cX13_dropsOf 151 = .ok (.iconst 0, 1) := by decide +kernel
theorem dX13_dropsOf_152 : decode cX13_dropsOf 152 = .ok (.istore 9, 2) := by decide +kernel
theorem dX13_dropsOf_154 : decode cX13_dropsOf 154 = .ok (.iload 9, 2) := by decide +kernel
theorem dX13_dropsOf_156 : decode cX13_dropsOf 156 = .ok (.ifCond .ge 7, 3) := by decide +kernel
theorem dX13_dropsOf_159 : decode cX13_dropsOf 159 = .ok (.iconst 0, 1) := by decide +kernel
theorem dX13_dropsOf_160 : decode cX13_dropsOf 160 = .ok (.goto 17, 3) := by decide +kernel
theorem dX13_dropsOf_163 : decode cX13_dropsOf 163 = .ok (.iload 9, 2) := by decide +kernel
theorem dX13_dropsOf_165 : decode cX13_dropsOf 165 = .ok (.iload 5, 2) := by decide +kernel
theorem dX13_dropsOf_167 : decode cX13_dropsOf 167 = .ok (.if_icmp .le 8, 3) := by decide +kernel
theorem dX13_dropsOf_170 : decode cX13_dropsOf 170 = .ok (.iload 5, 2) := by decide +kernel
theorem dX13_dropsOf_172 : decode cX13_dropsOf 172 = .ok (.goto 5, 3) := by decide +kernel
theorem dX13_dropsOf_175 : decode cX13_dropsOf 175 = .ok (.iload 9, 2) := by decide +kernel
theorem dX13_dropsOf_177 : decode cX13_dropsOf 177 = .ok (.ireturn, 1) := by decide +kernel
set_option maxHeartbeats 4000000 in
set_option maxRecDepth 100000 in
theorem B_X13_dropsOf {G : zG} {X : zX} {kd : kD} {N0 : Nat} (C : zCt G X 2 0 0 RX13 cX13_dropsOf 10) (hr : (zXh X).sig.returnType = (some .int)) : ∀ f : Nat,
    (∀ (S : aS) (v0 : Nat) (v1 : Int32) (v2 : Int32) (v3 : Int32) (v4 : Int32) (v5 : Int32) (res : Option Value × aS), zT0 kd N0 S → v0 < N0 → kd v0 = .inl 11 → F_X13_dropsOf f 0 [.ref v0, .int v1, .int v2, .int v3, .int v4, .int v5] S = some res → zV G X (zQX G X (zPo G kd N0 res) 0 0) 10 [some (.ref (zB G + v0)), some (.int v1), some (.int v2), some (.int v3), some (.int v4), some (.int v5), none, none, none, none] [] (cn G kd N0 S) 0 0 0) ∧
    (∀ (S : aS) (v0 : Int32) (v1 : Int32) (res : Option Value × aS), zT0 kd N0 S → F_X13_dropsOf f 1 [.int v0, .int v1] S = some res → zV G X (zQX G X (zPo G kd N0 res) 0 0) 10 [none, none, none, none, none, some (.int v0), none, none, none, some (.int v1)] [] (cn G kd N0 S) 154 0 0) := by
  intro f
  induction f with
  | zero => exact ⟨(fun _ _ _ _ _ _ _ _ _ _ _ h => by cases h), (fun _ _ _ _ _ h => by cases h)⟩
  | succ f ih =>
    obtain ⟨ih0, ih1⟩ := ih
    refine ⟨?_, ?_⟩
    · intro S v0 v1 v2 v3 v4 v5 res hT hpv0 hkv0 hF
      replace hF : F_X13_dropsOf_0 f (F_X13_dropsOf f) v0 v1 v2 v3 v4 v5 S = some res := hF
      unfold F_X13_dropsOf_0 at hF
      refine z_aload_n C dX13_dropsOf_0 rfl ?_
      refine z_iload_n C dX13_dropsOf_1 rfl ?_
      refine z_iload_n C dX13_dropsOf_2 rfl ?_
      obtain ⟨x1, S1, h1, hF⟩ := bI_some hF
      refine f_cV (st2 := [.int x1]) C dX13_dropsOf_3 zyX13_nearOf zvX13_nearOf lkRX13_302 (K_X13_nearOf (l := zXl X) hT hpv0 hkv0   h1) hpv0 hkv0 rfl (by decide) rfl rfl (Nat.le_of_ble_eq_true rfl) rfl (fun hT1 => ?_)
      refine z_istore (lv2 := [some (.ref (zB G + v0)), some (.int v1), some (.int v2), some (.int v3), some (.int v4), some (.int v5), some (.int x1), none, none, none]) C dX13_dropsOf_6 (by decide) rfl ?_
      refine z_aload_n C dX13_dropsOf_8 rfl ?_
      refine z_iload_n C dX13_dropsOf_9 rfl ?_
      refine z_iconst (v := 1) C dX13_dropsOf_10 (by decide) ?_
      obtain ⟨x2, S2, h2, hF⟩ := bI_some hF
      refine f_cV (st2 := [.int x2]) C dX13_dropsOf_11 zyX13_personOf zvX13_personOf lkRX13_305 (K_X13_personOf (l := zXl X) hT1 hpv0 hkv0   h2) hpv0 hkv0 rfl (by decide) rfl rfl (Nat.le_of_ble_eq_true rfl) rfl (fun hT2 => ?_)
      refine z_istore (lv2 := [some (.ref (zB G + v0)), some (.int v1), some (.int v2), some (.int v3), some (.int v4), some (.int v5), some (.int x1), some (.int x2), none, none]) C dX13_dropsOf_14 (by decide) rfl ?_
      refine z_aload_n C dX13_dropsOf_16 rfl ?_
      refine z_iload_n C dX13_dropsOf_17 rfl ?_
      refine z_iconst (v := 0) C dX13_dropsOf_18 (by decide) ?_
      obtain ⟨x3, S3, h3, hF⟩ := bI_some hF
      refine f_cV (st2 := [.int x3]) C dX13_dropsOf_19 zyX13_personOf zvX13_personOf lkRX13_305 (K_X13_personOf (l := zXl X) hT2 hpv0 hkv0   h3) hpv0 hkv0 rfl (by decide) rfl rfl (Nat.le_of_ble_eq_true rfl) rfl (fun hT3 => ?_)
      refine z_istore (lv2 := [some (.ref (zB G + v0)), some (.int v1), some (.int v2), some (.int v3), some (.int v4), some (.int v5), some (.int x1), some (.int x2), some (.int x3), none]) C dX13_dropsOf_22 (by decide) rfl ?_
      refine z_iconst (v := 0) C dX13_dropsOf_24 (by decide) ?_
      refine z_istore (lv2 := [some (.ref (zB G + v0)), some (.int v1), some (.int v2), some (.int v3), some (.int v4), some (.int v5), some (.int x1), some (.int x2), some (.int x3), some (.int 0)]) C dX13_dropsOf_25 (by decide) rfl ?_
      refine z_aload_n C dX13_dropsOf_27 rfl ?_
      refine f_getr C dX13_dropsOf_28 zfRX13_95 hpv0 hkv0 rfl ?_
      obtain ⟨hp4, hk4⟩ := hT3.1 v0 11 10 (.inr (0, 140)) hpv0 hkv0 rfl
      refine z_iconst (v := 5) C dX13_dropsOf_31 (by decide) ?_
      obtain ⟨hi5, hF⟩ := bX_some hF
      obtain ⟨q5, eq5⟩ : ∃ q : Nat, q = Int32.toNatClampNeg 5 := ⟨_, rfl⟩
      rw [← eq5] at hF
      refine f_iald C dX13_dropsOf_32 hp4 hk4 hi5 ?_
      rw [← eq5]
      refine z_if_lt C 83 dX13_dropsOf_33 (by decide) (fun c19 => ?_) (fun c19 => ?_)
      · replace hF := ip hF c19
        refine z_iload C dX13_dropsOf_83 rfl ?_
        refine z_iconst (v := 2) C dX13_dropsOf_85 (by decide) ?_
        have hJ31 : zV G X (zQX G X (zPo G kd N0 res) 0 0) 10 [some (.ref (zB G + v0)), some (.int v1), some (.int v2), some (.int v3), some (.int v4), some (.int v5), some (.int x1), some (.int x2), some (.int x3), some (.int (if x3 = (2 : Int32) then if v4 ≤ (0 : Int32) then (0 : Int32) else v5 else if x3 = (1 : Int32) then if v4 ≤ (9 : Int32) then if x3 = (1 : Int32) then if x1 ≤ (x2 + (2 : Int32)) then (0 : Int32) else (1 : Int32) else if x1 ≤ x2 then (0 : Int32) else (1 : Int32) else v5 else if v4 ≤ (4 : Int32) then if x3 = (1 : Int32) then if x1 ≤ (x2 + (2 : Int32)) then (0 : Int32) else (1 : Int32) else if x1 ≤ x2 then (0 : Int32) else (1 : Int32) else v5))] [] (cn G kd N0 S3) 154 0 0 := by
          refine z_iload C dX13_dropsOf_154 rfl ?_
          have hJ34 : zV G X (zQX G X (zPo G kd N0 res) 0 0) 10 [some (.ref (zB G + v0)), some (.int v1), some (.int v2), some (.int v3), some (.int v4), some (.int v5), some (.int x1), some (.int x2), some (.int x3), some (.int (if x3 = (2 : Int32) then if v4 ≤ (0 : Int32) then (0 : Int32) else v5 else if x3 = (1 : Int32) then if v4 ≤ (9 : Int32) then if x3 = (1 : Int32) then if x1 ≤ (x2 + (2 : Int32)) then (0 : Int32) else (1 : Int32) else if x1 ≤ x2 then (0 : Int32) else (1 : Int32) else v5 else if v4 ≤ (4 : Int32) then if x3 = (1 : Int32) then if x1 ≤ (x2 + (2 : Int32)) then (0 : Int32) else (1 : Int32) else if x1 ≤ x2 then (0 : Int32) else (1 : Int32) else v5))] [.int (if (0 : Int32) ≤ (if x3 = (2 : Int32) then if v4 ≤ (0 : Int32) then (0 : Int32) else v5 else if x3 = (1 : Int32) then if v4 ≤ (9 : Int32) then if x3 = (1 : Int32) then if x1 ≤ (x2 + (2 : Int32)) then (0 : Int32) else (1 : Int32) else if x1 ≤ x2 then (0 : Int32) else (1 : Int32) else v5 else if v4 ≤ (4 : Int32) then if x3 = (1 : Int32) then if x1 ≤ (x2 + (2 : Int32)) then (0 : Int32) else (1 : Int32) else if x1 ≤ x2 then (0 : Int32) else (1 : Int32) else v5) then if (if x3 = (2 : Int32) then if v4 ≤ (0 : Int32) then (0 : Int32) else v5 else if x3 = (1 : Int32) then if v4 ≤ (9 : Int32) then if x3 = (1 : Int32) then if x1 ≤ (x2 + (2 : Int32)) then (0 : Int32) else (1 : Int32) else if x1 ≤ x2 then (0 : Int32) else (1 : Int32) else v5 else if v4 ≤ (4 : Int32) then if x3 = (1 : Int32) then if x1 ≤ (x2 + (2 : Int32)) then (0 : Int32) else (1 : Int32) else if x1 ≤ x2 then (0 : Int32) else (1 : Int32) else v5) ≤ v5 then (if x3 = (2 : Int32) then if v4 ≤ (0 : Int32) then (0 : Int32) else v5 else if x3 = (1 : Int32) then if v4 ≤ (9 : Int32) then if x3 = (1 : Int32) then if x1 ≤ (x2 + (2 : Int32)) then (0 : Int32) else (1 : Int32) else if x1 ≤ x2 then (0 : Int32) else (1 : Int32) else v5 else if v4 ≤ (4 : Int32) then if x3 = (1 : Int32) then if x1 ≤ (x2 + (2 : Int32)) then (0 : Int32) else (1 : Int32) else if x1 ≤ x2 then (0 : Int32) else (1 : Int32) else v5) else v5 else (0 : Int32))] (cn G kd N0 S3) 177 0 0 := by
            cases hF
            exact z_iret C hr dX13_dropsOf_177 ⟨rfl, rfl, hT3⟩
          refine z_if_ge C 163 dX13_dropsOf_156 (by decide) (fun c32 => ?_) (fun c32 => ?_)
          · refine z_iload C dX13_dropsOf_163 rfl ?_
            refine z_iload C dX13_dropsOf_165 rfl ?_
            refine z_icmp_le C 175 dX13_dropsOf_167 (by decide) (fun c33 => ?_) (fun c33 => ?_)
            · refine z_iload C dX13_dropsOf_175 rfl ?_
              exact zV.at hJ34 (by first | rfl | contradiction | (simp only [if_pos c32, if_pos c33]; done)) (by first | rfl | contradiction | (simp only [if_pos c32, if_pos c33]; done)) rfl rfl
            · refine z_iload C dX13_dropsOf_170 rfl ?_
              refine z_goto C 177 dX13_dropsOf_172 (by decide) ?_
              exact zV.at hJ34 (by first | rfl | contradiction | (simp only [if_pos c32, if_neg c33]; done)) (by first | rfl | contradiction | (simp only [if_pos c32, if_neg c33]; done)) rfl rfl
          · refine z_iconst (v := 0) C dX13_dropsOf_159 (by decide) ?_
            refine z_goto C 177 dX13_dropsOf_160 (by decide) ?_
            exact zV.at hJ34 (by first | rfl | contradiction | (simp only [if_neg c32]; done)) (by first | rfl | contradiction | (simp only [if_neg c32]; done)) rfl rfl
        refine z_icmp_ne C 105 dX13_dropsOf_86 (by decide) (fun c20 => ?_) (fun c20 => ?_)
        · refine z_iload C dX13_dropsOf_105 rfl ?_
          refine z_iload C dX13_dropsOf_107 rfl ?_
          refine z_iconst (v := 1) C dX13_dropsOf_109 (by decide) ?_
          refine z_icmp_ne C 118 dX13_dropsOf_110 (by decide) (fun c21 => ?_) (fun c21 => ?_)
          · refine z_iconst (v := 4) C dX13_dropsOf_118 (by decide) ?_
            refine z_icmp_le C 127 dX13_dropsOf_119 (by decide) (fun c22 => ?_) (fun c22 => ?_)
            · refine z_iload C dX13_dropsOf_127 rfl ?_
              refine z_iload C dX13_dropsOf_129 rfl ?_
              refine z_iconst (v := 1) C dX13_dropsOf_131 (by decide) ?_
              refine z_icmp_ne C 142 dX13_dropsOf_132 (by decide) (fun c23 => ?_) (fun c23 => ?_)
              · refine z_iload C dX13_dropsOf_142 rfl ?_
                refine z_icmp_le C 151 dX13_dropsOf_144 (by decide) (fun c24 => ?_) (fun c24 => ?_)
                · refine z_iconst (v := 0) C dX13_dropsOf_151 (by decide) ?_
                  refine z_istore (lv2 := [some (.ref (zB G + v0)), some (.int v1), some (.int v2), some (.int v3), some (.int v4), some (.int v5), some (.int x1), some (.int x2), some (.int x3), some (.int 0)]) C dX13_dropsOf_152 (by decide) rfl ?_
                  exact zV.at hJ31 (by first | rfl | contradiction | (simp only [if_neg c20, if_neg c21, if_pos c22, if_neg c23, if_pos c24]; done)) (by first | rfl | contradiction | (simp only [if_neg c20, if_neg c21, if_pos c22, if_neg c23, if_pos c24]; done)) rfl rfl
                · refine z_iconst (v := 1) C dX13_dropsOf_147 (by decide) ?_
                  refine z_goto C 152 dX13_dropsOf_148 (by decide) ?_
                  refine z_istore (lv2 := [some (.ref (zB G + v0)), some (.int v1), some (.int v2), some (.int v3), some (.int v4), some (.int v5), some (.int x1), some (.int x2), some (.int x3), some (.int 1)]) C dX13_dropsOf_152 (by decide) rfl ?_
                  exact zV.at hJ31 (by first | rfl | contradiction | (simp only [if_neg c20, if_neg c21, if_pos c22, if_neg c23, if_neg c24]; done)) (by first | rfl | contradiction | (simp only [if_neg c20, if_neg c21, if_pos c22, if_neg c23, if_neg c24]; done)) rfl rfl
              · refine z_iload C dX13_dropsOf_135 rfl ?_
                refine z_iconst (v := 2) C dX13_dropsOf_137 (by decide) ?_
                refine z_iadd C dX13_dropsOf_138 ?_
                refine z_goto C 144 dX13_dropsOf_139 (by decide) ?_
                refine z_icmp_le C 151 dX13_dropsOf_144 (by decide) (fun c25 => ?_) (fun c25 => ?_)
                · refine z_iconst (v := 0) C dX13_dropsOf_151 (by decide) ?_
                  refine z_istore (lv2 := [some (.ref (zB G + v0)), some (.int v1), some (.int v2), some (.int v3), some (.int v4), some (.int v5), some (.int x1), some (.int x2), some (.int x3), some (.int 0)]) C dX13_dropsOf_152 (by decide) rfl ?_
                  exact zV.at hJ31 (by first | rfl | contradiction | (simp only [if_neg c20, if_neg c21, if_pos c22, if_pos c23, if_pos c25]; done)) (by first | rfl | contradiction | (simp only [if_neg c20, if_neg c21, if_pos c22, if_pos c23, if_pos c25]; done)) rfl rfl
                · refine z_iconst (v := 1) C dX13_dropsOf_147 (by decide) ?_
                  refine z_goto C 152 dX13_dropsOf_148 (by decide) ?_
                  refine z_istore (lv2 := [some (.ref (zB G + v0)), some (.int v1), some (.int v2), some (.int v3), some (.int v4), some (.int v5), some (.int x1), some (.int x2), some (.int x3), some (.int 1)]) C dX13_dropsOf_152 (by decide) rfl ?_
                  exact zV.at hJ31 (by first | rfl | contradiction | (simp only [if_neg c20, if_neg c21, if_pos c22, if_pos c23, if_neg c25]; done)) (by first | rfl | contradiction | (simp only [if_neg c20, if_neg c21, if_pos c22, if_pos c23, if_neg c25]; done)) rfl rfl
            · refine z_iload C dX13_dropsOf_122 rfl ?_
              refine z_goto C 152 dX13_dropsOf_124 (by decide) ?_
              refine z_istore (lv2 := [some (.ref (zB G + v0)), some (.int v1), some (.int v2), some (.int v3), some (.int v4), some (.int v5), some (.int x1), some (.int x2), some (.int x3), some (.int v5)]) C dX13_dropsOf_152 (by decide) rfl ?_
              exact zV.at hJ31 (by first | rfl | contradiction | (simp only [if_neg c20, if_neg c21, if_neg c22]; done)) (by first | rfl | contradiction | (simp only [if_neg c20, if_neg c21, if_neg c22]; done)) rfl rfl
          · refine z_bipush (v := 9) C dX13_dropsOf_113 (by decide) ?_
            refine z_goto C 119 dX13_dropsOf_115 (by decide) ?_
            refine z_icmp_le C 127 dX13_dropsOf_119 (by decide) (fun c26 => ?_) (fun c26 => ?_)
            · refine z_iload C dX13_dropsOf_127 rfl ?_
              refine z_iload C dX13_dropsOf_129 rfl ?_
              refine z_iconst (v := 1) C dX13_dropsOf_131 (by decide) ?_
              refine z_icmp_ne C 142 dX13_dropsOf_132 (by decide) (fun c27 => ?_) (fun c27 => ?_)
              · refine z_iload C dX13_dropsOf_142 rfl ?_
                refine z_icmp_le C 151 dX13_dropsOf_144 (by decide) (fun c28 => ?_) (fun c28 => ?_)
                · refine z_iconst (v := 0) C dX13_dropsOf_151 (by decide) ?_
                  refine z_istore (lv2 := [some (.ref (zB G + v0)), some (.int v1), some (.int v2), some (.int v3), some (.int v4), some (.int v5), some (.int x1), some (.int x2), some (.int x3), some (.int 0)]) C dX13_dropsOf_152 (by decide) rfl ?_
                  exact zV.at hJ31 (by first | rfl | contradiction | (simp only [if_neg c20, if_pos c21, if_pos c26, if_neg c27, if_pos c28]; done)) (by first | rfl | contradiction | (simp only [if_neg c20, if_pos c21, if_pos c26, if_neg c27, if_pos c28]; done)) rfl rfl
                · refine z_iconst (v := 1) C dX13_dropsOf_147 (by decide) ?_
                  refine z_goto C 152 dX13_dropsOf_148 (by decide) ?_
                  refine z_istore (lv2 := [some (.ref (zB G + v0)), some (.int v1), some (.int v2), some (.int v3), some (.int v4), some (.int v5), some (.int x1), some (.int x2), some (.int x3), some (.int 1)]) C dX13_dropsOf_152 (by decide) rfl ?_
                  exact zV.at hJ31 (by first | rfl | contradiction | (simp only [if_neg c20, if_pos c21, if_pos c26, if_neg c27, if_neg c28]; done)) (by first | rfl | contradiction | (simp only [if_neg c20, if_pos c21, if_pos c26, if_neg c27, if_neg c28]; done)) rfl rfl
              · refine z_iload C dX13_dropsOf_135 rfl ?_
                refine z_iconst (v := 2) C dX13_dropsOf_137 (by decide) ?_
                refine z_iadd C dX13_dropsOf_138 ?_
                refine z_goto C 144 dX13_dropsOf_139 (by decide) ?_
                refine z_icmp_le C 151 dX13_dropsOf_144 (by decide) (fun c29 => ?_) (fun c29 => ?_)
                · refine z_iconst (v := 0) C dX13_dropsOf_151 (by decide) ?_
                  refine z_istore (lv2 := [some (.ref (zB G + v0)), some (.int v1), some (.int v2), some (.int v3), some (.int v4), some (.int v5), some (.int x1), some (.int x2), some (.int x3), some (.int 0)]) C dX13_dropsOf_152 (by decide) rfl ?_
                  exact zV.at hJ31 (by first | rfl | contradiction | (simp only [if_neg c20, if_pos c21, if_pos c26, if_pos c27, if_pos c29]; done)) (by first | rfl | contradiction | (simp only [if_neg c20, if_pos c21, if_pos c26, if_pos c27, if_pos c29]; done)) rfl rfl
                · refine z_iconst (v := 1) C dX13_dropsOf_147 (by decide) ?_
                  refine z_goto C 152 dX13_dropsOf_148 (by decide) ?_
                  refine z_istore (lv2 := [some (.ref (zB G + v0)), some (.int v1), some (.int v2), some (.int v3), some (.int v4), some (.int v5), some (.int x1), some (.int x2), some (.int x3), some (.int 1)]) C dX13_dropsOf_152 (by decide) rfl ?_
                  exact zV.at hJ31 (by first | rfl | contradiction | (simp only [if_neg c20, if_pos c21, if_pos c26, if_pos c27, if_neg c29]; done)) (by first | rfl | contradiction | (simp only [if_neg c20, if_pos c21, if_pos c26, if_pos c27, if_neg c29]; done)) rfl rfl
            · refine z_iload C dX13_dropsOf_122 rfl ?_
              refine z_goto C 152 dX13_dropsOf_124 (by decide) ?_
              refine z_istore (lv2 := [some (.ref (zB G + v0)), some (.int v1), some (.int v2), some (.int v3), some (.int v4), some (.int v5), some (.int x1), some (.int x2), some (.int x3), some (.int v5)]) C dX13_dropsOf_152 (by decide) rfl ?_
              exact zV.at hJ31 (by first | rfl | contradiction | (simp only [if_neg c20, if_pos c21, if_neg c26]; done)) (by first | rfl | contradiction | (simp only [if_neg c20, if_pos c21, if_neg c26]; done)) rfl rfl
        · refine z_iload C dX13_dropsOf_89 rfl ?_
          refine z_if_le C 99 dX13_dropsOf_91 (by decide) (fun c30 => ?_) (fun c30 => ?_)
          · refine z_iconst (v := 0) C dX13_dropsOf_99 (by decide) ?_
            refine z_istore (lv2 := [some (.ref (zB G + v0)), some (.int v1), some (.int v2), some (.int v3), some (.int v4), some (.int v5), some (.int x1), some (.int x2), some (.int x3), some (.int 0)]) C dX13_dropsOf_100 (by decide) rfl ?_
            refine z_goto C 154 dX13_dropsOf_102 (by decide) ?_
            exact zV.at hJ31 (by first | rfl | contradiction | (simp only [if_pos c20, if_pos c30]; done)) (by first | rfl | contradiction | (simp only [if_pos c20, if_pos c30]; done)) rfl rfl
          · refine z_iload C dX13_dropsOf_94 rfl ?_
            refine z_goto C 100 dX13_dropsOf_96 (by decide) ?_
            refine z_istore (lv2 := [some (.ref (zB G + v0)), some (.int v1), some (.int v2), some (.int v3), some (.int v4), some (.int v5), some (.int x1), some (.int x2), some (.int x3), some (.int v5)]) C dX13_dropsOf_100 (by decide) rfl ?_
            refine z_goto C 154 dX13_dropsOf_102 (by decide) ?_
            exact zV.at hJ31 (by first | rfl | contradiction | (simp only [if_pos c20, if_neg c30]; done)) (by first | rfl | contradiction | (simp only [if_pos c20, if_neg c30]; done)) rfl rfl
      · replace hF := im hF c19
        refine z_aload_n C dX13_dropsOf_36 rfl ?_
        refine f_getr C dX13_dropsOf_37 zfRX13_113 hpv0 hkv0 rfl ?_
        obtain ⟨hp35, hk35⟩ := hT3.1 v0 11 20 (.inr (0, 4)) hpv0 hkv0 rfl
        refine z_iconst (v := 0) C dX13_dropsOf_40 (by decide) ?_
        refine z_iload C dX13_dropsOf_41 rfl ?_
        obtain ⟨hi36, hF⟩ := bX_some hF
        obtain ⟨q36, eq36⟩ : ∃ q : Nat, q = Int32.toNatClampNeg 0 := ⟨_, rfl⟩
        rw [← eq36] at hF
        refine f_iast C dX13_dropsOf_43 hp35 hk35 hi36 ?_
        rw [← eq36]
        have hT37 : zT0 kd N0 (sI S3 (gR S3 v0 20) q36 v4) := zT0_sI hT3
        replace hF := fS_e hF
        generalize sI S3 (gR S3 v0 20) q36 v4 = S37 at hF hT37 ⊢
        refine z_aload_n C dX13_dropsOf_44 rfl ?_
        refine f_getr C dX13_dropsOf_45 zfRX13_113 hpv0 hkv0 rfl ?_
        obtain ⟨hp38, hk38⟩ := hT37.1 v0 11 20 (.inr (0, 4)) hpv0 hkv0 rfl
        refine z_iconst (v := 1) C dX13_dropsOf_48 (by decide) ?_
        refine z_iload C dX13_dropsOf_49 rfl ?_
        obtain ⟨hi39, hF⟩ := bX_some hF
        obtain ⟨q39, eq39⟩ : ∃ q : Nat, q = Int32.toNatClampNeg 1 := ⟨_, rfl⟩
        rw [← eq39] at hF
        refine f_iast C dX13_dropsOf_51 hp38 hk38 hi39 ?_
        rw [← eq39]
        have hT40 : zT0 kd N0 (sI S37 (gR S37 v0 20) q39 x1) := zT0_sI hT37
        replace hF := fS_e hF
        generalize sI S37 (gR S37 v0 20) q39 x1 = S40 at hF hT40 ⊢
        refine z_aload_n C dX13_dropsOf_52 rfl ?_
        refine f_getr C dX13_dropsOf_53 zfRX13_113 hpv0 hkv0 rfl ?_
        obtain ⟨hp41, hk41⟩ := hT40.1 v0 11 20 (.inr (0, 4)) hpv0 hkv0 rfl
        refine z_iconst (v := 2) C dX13_dropsOf_56 (by decide) ?_
        refine z_iload C dX13_dropsOf_57 rfl ?_
        obtain ⟨hi42, hF⟩ := bX_some hF
        obtain ⟨q42, eq42⟩ : ∃ q : Nat, q = Int32.toNatClampNeg 2 := ⟨_, rfl⟩
        rw [← eq42] at hF
        refine f_iast C dX13_dropsOf_59 hp41 hk41 hi42 ?_
        rw [← eq42]
        have hT43 : zT0 kd N0 (sI S40 (gR S40 v0 20) q42 v5) := zT0_sI hT40
        replace hF := fS_e hF
        generalize sI S40 (gR S40 v0 20) q42 v5 = S43 at hF hT43 ⊢
        refine z_aload_n C dX13_dropsOf_60 rfl ?_
        refine f_getr C dX13_dropsOf_61 zfRX13_113 hpv0 hkv0 rfl ?_
        obtain ⟨hp44, hk44⟩ := hT43.1 v0 11 20 (.inr (0, 4)) hpv0 hkv0 rfl
        refine z_iconst (v := 3) C dX13_dropsOf_64 (by decide) ?_
        refine z_iload C dX13_dropsOf_65 rfl ?_
        obtain ⟨hi45, hF⟩ := bX_some hF
        obtain ⟨q45, eq45⟩ : ∃ q : Nat, q = Int32.toNatClampNeg 3 := ⟨_, rfl⟩
        rw [← eq45] at hF
        refine f_iast C dX13_dropsOf_67 hp44 hk44 hi45 ?_
        rw [← eq45]
        have hT46 : zT0 kd N0 (sI S43 (gR S43 v0 20) q45 x2) := zT0_sI hT43
        replace hF := fS_e hF
        generalize sI S43 (gR S43 v0 20) q45 x2 = S46 at hF hT46 ⊢
        refine z_aload_n C dX13_dropsOf_68 rfl ?_
        refine z_aload_n C dX13_dropsOf_69 rfl ?_
        refine f_getr C dX13_dropsOf_70 zfRX13_95 hpv0 hkv0 rfl ?_
        obtain ⟨hp47, hk47⟩ := hT46.1 v0 11 10 (.inr (0, 140)) hpv0 hkv0 rfl
        refine z_iconst (v := 5) C dX13_dropsOf_73 (by decide) ?_
        obtain ⟨hi48, hF⟩ := bX_some hF
        obtain ⟨q48, eq48⟩ : ∃ q : Nat, q = Int32.toNatClampNeg 5 := ⟨_, rfl⟩
        rw [← eq48] at hF
        refine f_iald C dX13_dropsOf_74 hp47 hk47 hi48 ?_
        rw [← eq48]
        obtain ⟨x49, S49, h49, hF⟩ := bI_some hF
        refine f_cV (st2 := [.int x49]) C dX13_dropsOf_75 zyX13_worthAt zvX13_worthAt lkRX13_308 (K_X13_worthAt (l := zXl X) hT46 hpv0 hkv0  h49) hpv0 hkv0 rfl (by decide) rfl rfl (Nat.le_of_ble_eq_true rfl) rfl (fun hT49 => ?_)
        refine z_istore (lv2 := [some (.ref (zB G + v0)), some (.int v1), some (.int v2), some (.int v3), some (.int v4), some (.int v5), some (.int x1), some (.int x2), some (.int x3), some (.int x49)]) C dX13_dropsOf_78 (by decide) rfl ?_
        refine z_goto C 154 dX13_dropsOf_80 (by decide) ?_
        refine z_mask [false, false, false, false, false, true, false, false, false, true] ?_ rfl
        exact ih1 S49 v5 x49 res hT49   hF
    · intro S v0 v1 res hT  hF
      replace hF : F_X13_dropsOf_1 f (F_X13_dropsOf f) v0 v1 S = some res := hF
      unfold F_X13_dropsOf_1 at hF
      refine z_iload C dX13_dropsOf_154 rfl ?_
      have hJ52 : zV G X (zQX G X (zPo G kd N0 res) 0 0) 10 [none, none, none, none, none, some (.int v0), none, none, none, some (.int v1)] [.int (if (0 : Int32) ≤ v1 then if v1 ≤ v0 then v1 else v0 else (0 : Int32))] (cn G kd N0 S) 177 0 0 := by
        cases hF
        exact z_iret C hr dX13_dropsOf_177 ⟨rfl, rfl, hT⟩
      refine z_if_ge C 163 dX13_dropsOf_156 (by decide) (fun c50 => ?_) (fun c50 => ?_)
      · refine z_iload C dX13_dropsOf_163 rfl ?_
        refine z_iload C dX13_dropsOf_165 rfl ?_
        refine z_icmp_le C 175 dX13_dropsOf_167 (by decide) (fun c51 => ?_) (fun c51 => ?_)
        · refine z_iload C dX13_dropsOf_175 rfl ?_
          exact zV.at hJ52 (by first | rfl | contradiction | (simp only [if_pos c50, if_pos c51]; done)) (by first | rfl | contradiction | (simp only [if_pos c50, if_pos c51]; done)) rfl rfl
        · refine z_iload C dX13_dropsOf_170 rfl ?_
          refine z_goto C 177 dX13_dropsOf_172 (by decide) ?_
          exact zV.at hJ52 (by first | rfl | contradiction | (simp only [if_pos c50, if_neg c51]; done)) (by first | rfl | contradiction | (simp only [if_pos c50, if_neg c51]; done)) rfl rfl
      · refine z_iconst (v := 0) C dX13_dropsOf_159 (by decide) ?_
        refine z_goto C 177 dX13_dropsOf_160 (by decide) ?_
        exact zV.at hJ52 (by first | rfl | contradiction | (simp only [if_neg c50]; done)) (by first | rfl | contradiction | (simp only [if_neg c50]; done)) rfl rfl
theorem K_X13_dropsOf {G : zG} {l : Launch} {kd : kD} {N0 f : Nat} {S : aS} {v0 : Nat} {v1 : Int32} {v2 : Int32} {v3 : Int32} {v4 : Int32} {v5 : Int32} {res : Option Value × aS} (hT : zT0 kd N0 S) (hpv0 : v0 < N0) (hkv0 : kd v0 = .inl 11) (hF : F_X13_dropsOf f 0 [.ref v0, .int v1, .int v2, .int v3, .int v4, .int v5] S = some res) : zM G l 2 0 0 yX13_dropsOf cX13_dropsOf 10 (some .int) [.ref (zB G + v0), .int v1, .int v2, .int v3, .int v4, .int v5] (cn G kd N0 S) (zPo G kd N0 res) := zM.of (by decide) rfl (Nat.le_of_ble_eq_true rfl) (fun X _ C hr _ => (B_X13_dropsOf C hr f).1 S v0 v1 v2 v3 v4 v5 res hT hpv0 hkv0 hF)
def F_X13_walks_0 (f : Nat) (rc : Nat → List Value → aS → aR) (v0 : Nat) (v1 : Int32) (v2 : Int32) (S : aS) : aR :=
  bI (F_X13_takesOf f 0 [.ref v0, .int v1, .int v2] S) fun x1 S1 => fS (sI S1 v0 26 0) fun S2 => fS (sI S2 v0 27 0) fun S3 => fS (sI S3 v0 28 0) fun S4 => rc 1 [.ref v0, .int v1, .int v2, .int x1, .int 0] S4
def F_X13_walks_1 (f : Nat) (rc : Nat → List Value → aS → aR) (v0 : Nat) (v1 : Int32) (v2 : Int32) (v3 : Int32) (v4 : Int32) (S : aS) : aR :=
  bI (F_X13_yards f 0 [.ref v0] S) fun x5 S5 => if x5 ≤ v4 then bX (v1 + (1 : Int32)) 828 fun q9 => bX (v1 + (1 : Int32)) 828 fun q10 => fS (sI S5 (gR S5 v0 22) q10 ((gI S5 (gR S5 v0 22) q9) + v3)) fun S11 => some (some (.int v3), S11) else bI (F_X13_personOf f 0 [.ref v0, .int v2, .int 0] S5) fun x12 S12 => if x12 = (3 : Int32) then bI (F_X13_depositNow f 0 [.ref v0] S12) fun x15 S15 => rc 2 [.ref v0, .int v1, .int v2, .int v3, .int v4, .int x15] S15 else rc 2 [.ref v0, .int v1, .int v2, .int v3, .int v4, .int 0] S12
def F_X13_walks_2 (f : Nat) (rc : Nat → List Value → aS → aR) (v0 : Nat) (v1 : Int32) (v2 : Int32) (v3 : Int32) (v4 : Int32) (w0 : Int32) (S : aS) : aR :=
  bX ((v1 + (4 : Int32)) + v4) 828 fun q17 => if w0 ≤ (gI S (gR S v0 22) q17) then rc 3 [.ref v0, .int v1, .int v2, .int v3, .int v4, .int w0] S else bX ((v1 + (4 : Int32)) + v4) 828 fun q22 => rc 3 [.ref v0, .int v1, .int v2, .int v3, .int v4, .int (gI S (gR S v0 22) q22)] S
def F_X13_walks_3 (f : Nat) (rc : Nat → List Value → aS → aR) (v0 : Nat) (v1 : Int32) (v2 : Int32) (v3 : Int32) (v4 : Int32) (w0 : Int32) (S : aS) : aR :=
  bX ((v1 + (4 : Int32)) + v4) 828 fun q24 => bX ((v1 + (4 : Int32)) + v4) 828 fun q25 => fS (sI S (gR S v0 22) q25 ((gI S (gR S v0 22) q24) - w0)) fun S26 => bX (v1 + (2 : Int32)) 828 fun q28 => bX (v1 + (2 : Int32)) 828 fun q29 => fS (sI S26 (gR S26 v0 22) q29 ((gI S26 (gR S26 v0 22) q28) + w0)) fun S30 => bX ((v1 + (12 : Int32)) + v4) 828 fun q32 => bX ((v1 + (20 : Int32)) + v4) 828 fun q34 => lI ((gI S30 (gR S30 v0 22) q32) - (gI S30 (gR S30 v0 22) q34)) fun y35 => bX ((v1 + (20 : Int32)) + v4) 828 fun q39 => bX ((v1 + (20 : Int32)) + v4) 828 fun q40 => fS (sI S30 (gR S30 v0 22) q40 ((gI S30 (gR S30 v0 22) q39) + (if y35 ≤ v3 then y35 else v3))) fun S41 => bX ((v1 + (4 : Int32)) + v4) 828 fun q43 => bI (F_X13_dropsOf f 0 [.ref v0, .int v1, .int v2, .int v4, .int (gI S41 (gR S41 v0 22) q43), .int (v3 - (if y35 ≤ v3 then y35 else v3))] S41) fun x44 S44 => bX ((v1 + (4 : Int32)) + v4) 828 fun q47 => if ((gI S44 (gR S44 v0 22) q47) + x44) ≤ (999 : Int32) then bX ((v1 + (4 : Int32)) + v4) 828 fun q52 => rc 4 [.ref v0, .int v1, .int v2, .int ((v3 - (if y35 ≤ v3 then y35 else v3)) - x44), .int v4, .int (if y35 ≤ v3 then y35 else v3), .int x44, .int ((gI S44 (gR S44 v0 22) q52) + x44), .int ((v1 + (4 : Int32)) + v4), .ref (gR S44 v0 22)] S44 else rc 4 [.ref v0, .int v1, .int v2, .int ((v3 - (if y35 ≤ v3 then y35 else v3)) - x44), .int v4, .int (if y35 ≤ v3 then y35 else v3), .int x44, .int 999, .int ((v1 + (4 : Int32)) + v4), .ref (gR S44 v0 22)] S44
def F_X13_walks_4 (f : Nat) (rc : Nat → List Value → aS → aR) (v0 : Nat) (v1 : Int32) (v2 : Int32) (v3 : Int32) (v4 : Int32) (v5 : Int32) (v6 : Int32) (w0 : Int32) (w1 : Int32) (w2 : Nat) (S : aS) : aR :=
  bX w1 828 fun q53 => fS (sI S w2 q53 w0) fun S54 => fS (sI S54 v0 26 ((gI S54 v0 26) + v6)) fun S55 => fS (sI S55 v0 27 ((gI S55 v0 27) + v5)) fun S56 => fS (sI S56 v0 28 ((gI S56 v0 28) + (if v3 ≤ (0 : Int32) then (0 : Int32) else (1 : Int32)))) fun S59 => rc 1 [.ref v0, .int v1, .int v2, .int v3, .int (v4 + 1)] S59
def F_X13_walks : Nat → Nat → List Value → aS → aR
  | 0, _, _, _ => none
  | f + 1, 0, vs, S => F_X13_walks_0 f (F_X13_walks f) (vR vs 0) (vI vs 1) (vI vs 2) S
  | f + 1, 1, vs, S => F_X13_walks_1 f (F_X13_walks f) (vR vs 0) (vI vs 1) (vI vs 2) (vI vs 3) (vI vs 4) S
  | f + 1, 2, vs, S => F_X13_walks_2 f (F_X13_walks f) (vR vs 0) (vI vs 1) (vI vs 2) (vI vs 3) (vI vs 4) (vI vs 5) S
  | f + 1, 3, vs, S => F_X13_walks_3 f (F_X13_walks f) (vR vs 0) (vI vs 1) (vI vs 2) (vI vs 3) (vI vs 4) (vI vs 5) S
  | f + 1, 4, vs, S => F_X13_walks_4 f (F_X13_walks f) (vR vs 0) (vI vs 1) (vI vs 2) (vI vs 3) (vI vs 4) (vI vs 5) (vI vs 6) (vI vs 7) (vI vs 8) (vR vs 9) S
  | _ + 1, _, _, _ => none
theorem dX13_walks_0 : decode cX13_walks 0 = .ok (.aload_n 0, 1) := by decide +kernel
theorem dX13_walks_1 : decode cX13_walks 1 = .ok (.iload_n 1, 1) := by decide +kernel
theorem dX13_walks_2 : decode cX13_walks 2 = .ok (.iload_n 2, 1) := by decide +kernel
theorem dX13_walks_3 : decode cX13_walks 3 = .ok (.invokevirtual 311, 3) := by decide +kernel
theorem dX13_walks_6 : decode cX13_walks 6 = .ok (.istore_n 3, 1) := by decide +kernel
theorem dX13_walks_7 : decode cX13_walks 7 = .ok (.aload_n 0, 1) := by decide +kernel
theorem dX13_walks_8 : decode cX13_walks 8 = .ok (.iconst 0, 1) := by decide +kernel
theorem dX13_walks_9 : decode cX13_walks 9 = .ok (.putfield 314, 3) := by decide +kernel
theorem dX13_walks_12 : decode cX13_walks 12 = .ok (.aload_n 0, 1) := by decide +kernel
theorem dX13_walks_13 : decode cX13_walks 13 = .ok (.iconst 0, 1) := by decide +kernel
theorem dX13_walks_14 : decode cX13_walks 14 = .ok (.putfield 317, 3) := by decide +kernel
theorem dX13_walks_17 : decode cX13_walks 17 = .ok (.aload_n 0, 1) := by decide +kernel
theorem dX13_walks_18 : decode cX13_walks 18 = .ok (.iconst 0, 1) := by decide +kernel
theorem dX13_walks_19 : decode cX13_walks 19 = .ok (.putfield 320, 3) := by decide +kernel
theorem dX13_walks_22 : decode cX13_walks 22 = .ok (.iconst 0, 1) := by decide +kernel
theorem dX13_walks_23 : decode cX13_walks 23 = .ok (.istore 4, 2) := by decide +kernel
theorem dX13_walks_25 : decode cX13_walks 25 = .ok (.iload 4, 2) := by decide +kernel
theorem dX13_walks_27 : decode cX13_walks 27 = .ok (.aload_n 0, 1) := by decide +kernel
theorem dX13_walks_28 : decode cX13_walks 28 = .ok (.invokevirtual 279, 3) := by decide +kernel
theorem dX13_walks_31 : decode cX13_walks 31 = .ok (.if_icmp .ge 273, 3) := by decide +kernel
theorem dX13_walks_34 : decode cX13_walks 34 = .ok (.aload_n 0, 1) := by decide +kernel
theorem dX13_walks_35 : decode cX13_walks 35 = .ok (.iload_n 2, 1) := by decide +kernel
theorem dX13_walks_36 : decode cX13_walks 36 = .ok (.iconst 0, 1) := by decide +kernel
theorem dX13_walks_37 : decode cX13_walks 37 = .ok (.invokevirtual 305, 3) := by decide +kernel
theorem dX13_walks_40 : decode cX13_walks 40 = .ok (.iconst 3, 1) := by decide +kernel
theorem dX13_walks_41 : decode cX13_walks 41 = .ok (.if_icmp .ne 10, 3) := by decide +kernel
theorem dX13_walks_44 : decode cX13_walks 44 = .ok (.aload_n 0, 1) := by decide +kernel
theorem dX13_walks_45 : decode cX13_walks 45 = .ok (.invokevirtual 323, 3) := by decide +kernel
theorem dX13_walks_48 : decode cX13_walks 48 = .ok (.goto 4, 3) := by decide +kernel
theorem dX13_walks_51 : decode cX13_walks 51 = .ok (.iconst 0, 1) := by decide +kernel
theorem dX13_walks_52 : decode cX13_walks 52 = .ok (.istore 5, 2) := by decide +kernel
theorem dX13_walks_54 : decode cX13_walks 54 = .ok (.iload 5, 2) := by decide +kernel
theorem dX13_walks_56 : decode cX13_walks 56 = .ok (.aload_n 0, 1) := by decide +kernel
theorem dX13_walks_57 : decode cX13_walks 57 = .ok (.getfield 119, 3) := by decide +kernel
theorem dX13_walks_60 : decode cX13_walks 60 = .ok (.iload_n 1, 1) := by decide +kernel
theorem dX13_walks_61 : decode cX13_walks 61 = .ok (.iconst 4, 1) := by decide +kernel
theorem dX13_walks_62 : decode cX13_walks 62 = .ok (.iadd, 1) := by decide +kernel
theorem dX13_walks_63 : decode cX13_walks 63 = .ok (.iload 4, 2) := by decide +kernel
theorem dX13_walks_65 : decode cX13_walks 65 = .ok (.iadd, 1) := by decide +kernel
theorem dX13_walks_66 : decode cX13_walks 66 = .ok (.iaload, 1) := by decide +kernel
theorem dX13_walks_67 : decode cX13_walks 67 = .ok (.if_icmp .le 17, 3) := by decide +kernel
theorem dX13_walks_70 : decode cX13_walks 70 = .ok (.aload_n 0, 1) := by decide +kernel
theorem dX13_walks_71 : decode cX13_walks 71 = .ok (.getfield 119, 3) := by decide +kernel
theorem dX13_walks_74 : decode cX13_walks 74 = .ok (.iload_n 1, 1) := by decide +kernel
theorem dX13_walks_75 : decode cX13_walks 75 = .ok (.iconst 4, 1) := by decide +kernel
theorem dX13_walks_76 : decode cX13_walks 76 = .ok (.iadd, 1) := by decide +kernel
theorem dX13_walks_77 : decode cX13_walks 77 = .ok (.iload 4, 2) := by decide +kernel
theorem dX13_walks_79 : decode cX13_walks 79 = .ok (.iadd, 1) := by decide +kernel
theorem dX13_walks_80 : decode cX13_walks 80 = .ok (.iaload, 1) := by decide +kernel
theorem dX13_walks_81 : decode cX13_walks 81 = .ok (.goto 5, 3) := by decide +kernel
theorem dX13_walks_84 : decode cX13_walks 84 = .ok (.iload 5, 2) := by decide +kernel
theorem dX13_walks_86 : decode cX13_walks 86 = .ok (.istore 5, 2) := by decide +kernel
theorem dX13_walks_88 : decode cX13_walks 88 = .ok (.aload_n 0, 1) := by decide +kernel
theorem dX13_walks_89 : decode cX13_walks 89 = .ok (.getfield 119, 3) := by decide +kernel
theorem dX13_walks_92 : decode cX13_walks 92 = .ok (.iload_n 1, 1) := by decide +kernel
theorem dX13_walks_93 : decode cX13_walks 93 = .ok (.iconst 4, 1) := by decide +kernel
theorem dX13_walks_94 : decode cX13_walks 94 = .ok (.iadd, 1) := by decide +kernel
theorem dX13_walks_95 : decode cX13_walks 95 = .ok (.iload 4, 2) := by decide +kernel
theorem dX13_walks_97 : decode cX13_walks 97 = .ok (.iadd, 1) := by decide +kernel
theorem dX13_walks_98 : decode cX13_walks 98 = .ok (.dup2, 1) := by decide +kernel
theorem dX13_walks_99 : decode cX13_walks 99 = .ok (.iaload, 1) := by decide +kernel
theorem dX13_walks_100 : decode cX13_walks 100 = .ok (.iload 5, 2) := by decide +kernel
theorem dX13_walks_102 : decode cX13_walks 102 = .ok (.isub, 1) := by decide +kernel
theorem dX13_walks_103 : decode cX13_walks 103 = .ok (.iastore, 1) := by decide +kernel
theorem dX13_walks_104 : decode cX13_walks 104 = .ok (.aload_n 0, 1) := by decide +kernel
theorem dX13_walks_105 : decode cX13_walks 105 = .ok (.getfield 119, 3) := by decide +kernel
theorem dX13_walks_108 : decode cX13_walks 108 = .ok (.iload_n 1, 1) := by decide +kernel
theorem dX13_walks_109 : decode cX13_walks 109 = .ok (.iconst 2, 1) := by decide +kernel
theorem dX13_walks_110 : decode cX13_walks 110 = .ok (.iadd, 1) := by decide +kernel
theorem dX13_walks_111 : decode cX13_walks 111 = .ok (.dup2, 1) := by decide +kernel
theorem dX13_walks_112 : decode cX13_walks 112 = .ok (.iaload, 1) := by decide +kernel
theorem dX13_walks_113 : decode cX13_walks 113 = .ok (.iload 5, 2) := by decide +kernel
theorem dX13_walks_115 : decode cX13_walks 115 = .ok (.iadd, 1) := by decide +kernel
theorem dX13_walks_116 : decode cX13_walks 116 = .ok (.iastore, 1) := by decide +kernel
theorem dX13_walks_117 : decode cX13_walks 117 = .ok (.aload_n 0, 1) := by decide +kernel
theorem dX13_walks_118 : decode cX13_walks 118 = .ok (.getfield 119, 3) := by decide +kernel
theorem dX13_walks_121 : decode cX13_walks 121 = .ok (.iload_n 1, 1) := by decide +kernel
theorem dX13_walks_122 : decode cX13_walks 122 = .ok (.bipush 12, 2) := by decide +kernel
theorem dX13_walks_124 : decode cX13_walks 124 = .ok (.iadd, 1) := by decide +kernel
theorem dX13_walks_125 : decode cX13_walks 125 = .ok (.iload 4, 2) := by decide +kernel
theorem dX13_walks_127 : decode cX13_walks 127 = .ok (.iadd, 1) := by decide +kernel
theorem dX13_walks_128 : decode cX13_walks 128 = .ok (.iaload, 1) := by decide +kernel
theorem dX13_walks_129 : decode cX13_walks 129 = .ok (.aload_n 0, 1) := by decide +kernel
theorem dX13_walks_130 : decode cX13_walks 130 = .ok (.getfield 119, 3) := by decide +kernel
theorem dX13_walks_133 : decode cX13_walks 133 = .ok (.iload_n 1, 1) := by decide +kernel
theorem dX13_walks_134 : decode cX13_walks 134 = .ok (.bipush 20, 2) := by decide +kernel
theorem dX13_walks_136 : decode cX13_walks 136 = .ok (.iadd, 1) := by decide +kernel
theorem dX13_walks_137 : decode cX13_walks 137 = .ok (.iload 4, 2) := by decide +kernel
theorem dX13_walks_139 : decode cX13_walks 139 = .ok (.iadd, 1) := by decide +kernel
theorem dX13_walks_140 : decode cX13_walks 140 = .ok (.iaload, 1) := by decide +kernel
theorem dX13_walks_141 : decode cX13_walks 141 = .ok (.isub, 1) := by decide +kernel
theorem dX13_walks_142 : decode cX13_walks 142 = .ok (.istore 6, 2) := by decide +kernel
theorem dX13_walks_144 : decode cX13_walks 144 = .ok (.iload 6, 2) := by decide +kernel
theorem dX13_walks_146 : decode cX13_walks 146 = .ok (.iload_n 3, 1) := by decide +kernel
theorem dX13_walks_147 : decode cX13_walks 147 = .ok (.if_icmp .le 7, 3) := by decide +kernel
theorem dX13_walks_150 : decode cX13_walks 150 = .ok (.iload_n 3, 1) := by decide +kernel
theorem dX13_walks_151 : decode cX13_walks 151 = .ok (.goto 5, 3) := by decide +kernel
theorem dX13_walks_154 : decode cX13_walks 154 = .ok (.iload 6, 2) := by decide +kernel
theorem dX13_walks_156 : decode cX13_walks 156 = .ok (.istore 7, 2) := by decide +kernel
theorem dX13_walks_158 : decode cX13_walks 158 = .ok (.aload_n 0, 1) := by decide +kernel
theorem dX13_walks_159 : decode cX13_walks 159 = .ok (.getfield 119, 3) := by decide +kernel
theorem dX13_walks_162 : decode cX13_walks 162 = .ok (.iload_n 1, 1) := by decide +kernel
theorem dX13_walks_163 : decode cX13_walks 163 = .ok (.bipush 20, 2) := by decide +kernel
theorem dX13_walks_165 : decode cX13_walks 165 = .ok (.iadd, 1) := by decide +kernel
theorem dX13_walks_166 : decode cX13_walks 166 = .ok (.iload 4, 2) := by decide +kernel
theorem dX13_walks_168 : decode cX13_walks 168 = .ok (.iadd, 1) := by decide +kernel
theorem dX13_walks_169 : decode cX13_walks 169 = .ok (.dup2, 1) := by decide +kernel
theorem dX13_walks_170 : decode cX13_walks 170 = .ok (.iaload, 1) := by decide +kernel
theorem dX13_walks_171 : decode cX13_walks 171 = .ok (.iload 7, 2) := by decide +kernel
theorem dX13_walks_173 : decode cX13_walks 173 = .ok (.iadd, 1) := by decide +kernel
theorem dX13_walks_174 : decode cX13_walks 174 = .ok (.iastore, 1) := by decide +kernel
theorem dX13_walks_175 : decode cX13_walks 175 = .ok (.iload_n 3, 1) := by decide +kernel
theorem dX13_walks_176 : decode cX13_walks 176 = .ok (.iload 7, 2) := by decide +kernel
theorem dX13_walks_178 : decode cX13_walks 178 = .ok (.isub, 1) := by decide +kernel
theorem dX13_walks_179 : decode cX13_walks 179 = .ok (.istore_n 3, 1) := by decide +kernel
theorem dX13_walks_180 : decode cX13_walks 180 = .ok (.aload_n 0, 1) := by decide +kernel
theorem dX13_walks_181 : decode cX13_walks 181 = .ok (.iload_n 1, 1) := by decide +kernel
theorem dX13_walks_182 : decode cX13_walks 182 = .ok (.iload_n 2, 1) := by decide +kernel
theorem dX13_walks_183 : decode cX13_walks 183 = .ok (.iload 4, 2) := by decide +kernel
theorem dX13_walks_185 : decode cX13_walks 185 = .ok (.aload_n 0, 1) := by decide +kernel
theorem dX13_walks_186 : decode cX13_walks 186 = .ok (.getfield 119, 3) := by decide +kernel
theorem dX13_walks_189 : decode cX13_walks 189 = .ok (.iload_n 1, 1) := by decide +kernel
theorem dX13_walks_190 : decode cX13_walks 190 = .ok (.iconst 4, 1) := by decide +kernel
theorem dX13_walks_191 : decode cX13_walks 191 = .ok (.iadd, 1) := by decide +kernel
theorem dX13_walks_192 : decode cX13_walks 192 = .ok (.iload 4, 2) := by decide +kernel
theorem dX13_walks_194 : decode cX13_walks 194 = .ok (.iadd, 1) := by decide +kernel
theorem dX13_walks_195 : decode cX13_walks 195 = .ok (.iaload, 1) := by decide +kernel
theorem dX13_walks_196 : decode cX13_walks 196 = .ok (.iload_n 3, 1) := by decide +kernel
theorem dX13_walks_197 : decode cX13_walks 197 = .ok (.invokevirtual 326, 3) := by decide +kernel
theorem dX13_walks_200 : decode cX13_walks 200 = .ok (.istore 8, 2) := by decide +kernel
theorem dX13_walks_202 : decode cX13_walks 202 = .ok (.iload_n 3, 1) := by decide +kernel
theorem dX13_walks_203 : decode cX13_walks 203 = .ok (.iload 8, 2) := by decide +kernel
theorem dX13_walks_205 : decode cX13_walks 205 = .ok (.isub, 1) := by decide +kernel
theorem dX13_walks_206 : decode cX13_walks 206 = .ok (.istore_n 3, 1) := by decide +kernel
theorem dX13_walks_207 : decode cX13_walks 207 = .ok (.aload_n 0, 1) := by decide +kernel
theorem dX13_walks_208 : decode cX13_walks 208 = .ok (.getfield 119, 3) := by decide +kernel
theorem dX13_walks_211 : decode cX13_walks 211 = .ok (.iload_n 1, 1) := by decide +kernel
theorem dX13_walks_212 : decode cX13_walks 212 = .ok (.iconst 4, 1) := by decide +kernel
theorem dX13_walks_213 : decode cX13_walks 213 = .ok (.iadd, 1) := by decide +kernel
theorem dX13_walks_214 : decode cX13_walks 214 = .ok (.iload 4, 2) := by decide +kernel
theorem dX13_walks_216 : decode cX13_walks 216 = .ok (.iadd, 1) := by decide +kernel
theorem dX13_walks_217 : decode cX13_walks 217 = .ok (.aload_n 0, 1) := by decide +kernel
theorem dX13_walks_218 : decode cX13_walks 218 = .ok (.getfield 119, 3) := by decide +kernel
theorem dX13_walks_221 : decode cX13_walks 221 = .ok (.iload_n 1, 1) := by decide +kernel
theorem dX13_walks_222 : decode cX13_walks 222 = .ok (.iconst 4, 1) := by decide +kernel
theorem dX13_walks_223 : decode cX13_walks 223 = .ok (.iadd, 1) := by decide +kernel
theorem dX13_walks_224 : decode cX13_walks 224 = .ok (.iload 4, 2) := by decide +kernel
theorem dX13_walks_226 : decode cX13_walks 226 = .ok (.iadd, 1) := by decide +kernel
theorem dX13_walks_227 : decode cX13_walks 227 = .ok (.iaload, 1) := by decide +kernel
theorem dX13_walks_228 : decode cX13_walks 228 = .ok (.iload 8, 2) := by decide +kernel
theorem dX13_walks_230 : decode cX13_walks 230 = .ok (.iadd, 1) := by decide +kernel
theorem dX13_walks_231 : decode cX13_walks 231 = .ok (.sipush 999, 3) := by decide +kernel
theorem dX13_walks_234 : decode cX13_walks 234 = .ok (.if_icmp .le 9, 3) := by decide +kernel
theorem dX13_walks_237 : decode cX13_walks 237 = .ok (.sipush 999, 3) := by decide +kernel
theorem dX13_walks_240 : decode cX13_walks 240 = .ok (.goto 17, 3) := by decide +kernel
theorem dX13_walks_243 : decode cX13_walks 243 = .ok (.aload_n 0, 1) := by decide +kernel
theorem dX13_walks_244 : decode cX13_walks 244 = .ok (.getfield 119, 3) := by decide +kernel
theorem dX13_walks_247 : decode cX13_walks 247 = .ok (.iload_n 1, 1) := by decide +kernel
theorem dX13_walks_248 : decode cX13_walks 248 = .ok (.iconst 4, 1) := by decide +kernel
theorem dX13_walks_249 : decode cX13_walks 249 = .ok (.iadd, 1) := by decide +kernel
theorem dX13_walks_250 : decode cX13_walks 250 = .ok (.iload 4, 2) := by decide +kernel
theorem dX13_walks_252 : decode cX13_walks 252 = .ok (.iadd, 1) := by decide +kernel
theorem dX13_walks_253 : decode cX13_walks 253 = .ok (.iaload, 1) := by decide +kernel
theorem dX13_walks_254 : decode cX13_walks 254 = .ok (.iload 8, 2) := by decide +kernel
theorem dX13_walks_256 : decode cX13_walks 256 = .ok (.iadd, 1) := by decide +kernel
theorem dX13_walks_257 : decode cX13_walks 257 = .ok (.iastore, 1) := by decide +kernel
theorem dX13_walks_258 : decode cX13_walks 258 = .ok (.aload_n 0, 1) := by decide +kernel
theorem dX13_walks_259 : decode cX13_walks 259 = .ok (.dup, 1) := by decide +kernel
theorem dX13_walks_260 : decode cX13_walks 260 = .ok (.getfield 314, 3) := by decide +kernel
theorem dX13_walks_263 : decode cX13_walks 263 = .ok (.iload 8, 2) := by decide +kernel
theorem dX13_walks_265 : decode cX13_walks 265 = .ok (.iadd, 1) := by decide +kernel
theorem dX13_walks_266 : decode cX13_walks 266 = .ok (.putfield 314, 3) := by decide +kernel
theorem dX13_walks_269 : decode cX13_walks 269 = .ok (.aload_n 0, 1) := by decide +kernel
theorem dX13_walks_270 : decode cX13_walks 270 = .ok (.dup, 1) := by decide +kernel
theorem dX13_walks_271 : decode cX13_walks 271 = .ok (.getfield 317, 3) := by decide +kernel
theorem dX13_walks_274 : decode cX13_walks 274 = .ok (.iload 7, 2) := by decide +kernel
theorem dX13_walks_276 : decode cX13_walks 276 = .ok (.iadd, 1) := by decide +kernel
theorem dX13_walks_277 : decode cX13_walks 277 = .ok (.putfield 317, 3) := by decide +kernel
theorem dX13_walks_280 : decode cX13_walks 280 = .ok (.aload_n 0, 1) := by decide +kernel
theorem dX13_walks_281 : decode cX13_walks 281 = .ok (.dup, 1) := by decide +kernel
theorem dX13_walks_282 : decode cX13_walks 282 = .ok (.getfield 320, 3) := by decide +kernel
theorem dX13_walks_285 : decode cX13_walks 285 = .ok (.iload_n 3, 1) := by decide +kernel
theorem dX13_walks_286 : decode cX13_walks 286 = .ok (.ifCond .le 7, 3) := by decide +kernel
theorem dX13_walks_289 : decode cX13_walks 289 = .ok (.iconst 1, 1) := by decide +kernel
theorem dX13_walks_290 : decode cX13_walks 290 = .ok (.goto 4, 3) := by decide +kernel
theorem dX13_walks_293 : decode cX13_walks 293 = .ok (.iconst 0, 1) := by decide +kernel
theorem dX13_walks_294 : decode cX13_walks 294 = .ok (.iadd, 1) := by decide +kernel
theorem dX13_walks_295 : decode cX13_walks 295 = .ok (.putfield 320, 3) := by decide +kernel
theorem dX13_walks_298 : decode cX13_walks 298 = .ok (.iinc 4 1, 3) := by decide +kernel
theorem dX13_walks_301 : decode cX13_walks 301 = .ok (.goto (-276), 3) := by decide +kernel
theorem dX13_walks_304 : decode cX13_walks 304 = .ok (.aload_n 0, 1) := by decide +kernel
theorem dX13_walks_305 : decode cX13_walks 305 = .ok (.getfield 119, 3) := by decide +kernel
theorem dX13_walks_308 : decode cX13_walks 308 = .ok (.iload_n 1, 1) := by decide +kernel
theorem dX13_walks_309 : decode cX13_walks 309 = .ok (.iconst 1, 1) := by decide +kernel
theorem dX13_walks_310 : decode cX13_walks 310 = .ok (.iadd, 1) := by decide +kernel
theorem dX13_walks_311 : decode cX13_walks 311 = .ok (.dup2, 1) := by decide +kernel
theorem dX13_walks_312 : decode cX13_walks 312 = .ok (.iaload, 1) := by decide +kernel
theorem dX13_walks_313 : decode cX13_walks 313 = .ok (.iload_n 3, 1) := by decide +kernel
theorem dX13_walks_314 : decode cX13_walks 314 = .ok (.iadd, 1) := by decide +kernel
theorem dX13_walks_315 : decode cX13_walks 315 = .ok (.iastore, 1) := by decide +kernel
theorem dX13_walks_316 : decode cX13_walks 316 = .ok (.iload_n 3, 1) := by decide +kernel
theorem dX13_walks_317 : decode cX13_walks 317 = .ok (.ireturn, 1) := by decide +kernel
set_option maxHeartbeats 4000000 in
set_option maxRecDepth 100000 in
theorem B_X13_walks {G : zG} {X : zX} {kd : kD} {N0 : Nat} (C : zCt G X 3 0 0 RX13 cX13_walks 9) (hr : (zXh X).sig.returnType = (some .int)) : ∀ f : Nat,
    (∀ (S : aS) (v0 : Nat) (v1 : Int32) (v2 : Int32) (res : Option Value × aS), zT0 kd N0 S → v0 < N0 → kd v0 = .inl 11 → F_X13_walks f 0 [.ref v0, .int v1, .int v2] S = some res → zV G X (zQX G X (zPo G kd N0 res) 0 0) 9 [some (.ref (zB G + v0)), some (.int v1), some (.int v2), none, none, none, none, none, none] [] (cn G kd N0 S) 0 0 0) ∧
    (∀ (S : aS) (v0 : Nat) (v1 : Int32) (v2 : Int32) (v3 : Int32) (v4 : Int32) (res : Option Value × aS), zT0 kd N0 S → v0 < N0 → kd v0 = .inl 11 → F_X13_walks f 1 [.ref v0, .int v1, .int v2, .int v3, .int v4] S = some res → zV G X (zQX G X (zPo G kd N0 res) 0 0) 9 [some (.ref (zB G + v0)), some (.int v1), some (.int v2), some (.int v3), some (.int v4), none, none, none, none] [] (cn G kd N0 S) 25 0 0) ∧
    (∀ (S : aS) (v0 : Nat) (v1 : Int32) (v2 : Int32) (v3 : Int32) (v4 : Int32) (w0 : Int32) (res : Option Value × aS), zT0 kd N0 S → v0 < N0 → kd v0 = .inl 11 → F_X13_walks f 2 [.ref v0, .int v1, .int v2, .int v3, .int v4, .int w0] S = some res → zV G X (zQX G X (zPo G kd N0 res) 0 0) 9 [some (.ref (zB G + v0)), some (.int v1), some (.int v2), some (.int v3), some (.int v4), none, none, none, none] [.int w0] (cn G kd N0 S) 52 0 0) ∧
    (∀ (S : aS) (v0 : Nat) (v1 : Int32) (v2 : Int32) (v3 : Int32) (v4 : Int32) (w0 : Int32) (res : Option Value × aS), zT0 kd N0 S → v0 < N0 → kd v0 = .inl 11 → F_X13_walks f 3 [.ref v0, .int v1, .int v2, .int v3, .int v4, .int w0] S = some res → zV G X (zQX G X (zPo G kd N0 res) 0 0) 9 [some (.ref (zB G + v0)), some (.int v1), some (.int v2), some (.int v3), some (.int v4), none, none, none, none] [.int w0] (cn G kd N0 S) 86 0 0) ∧
    (∀ (S : aS) (v0 : Nat) (v1 : Int32) (v2 : Int32) (v3 : Int32) (v4 : Int32) (v5 : Int32) (v6 : Int32) (w0 : Int32) (w1 : Int32) (w2 : Nat) (res : Option Value × aS), zT0 kd N0 S → v0 < N0 → kd v0 = .inl 11 → w2 < N0 → kd w2 = .inr (0, 828) → F_X13_walks f 4 [.ref v0, .int v1, .int v2, .int v3, .int v4, .int v5, .int v6, .int w0, .int w1, .ref w2] S = some res → zV G X (zQX G X (zPo G kd N0 res) 0 0) 9 [some (.ref (zB G + v0)), some (.int v1), some (.int v2), some (.int v3), some (.int v4), none, none, some (.int v5), some (.int v6)] [.int w0, .int w1, .ref (zB G + w2)] (cn G kd N0 S) 257 0 0) := by
  intro f
  induction f with
  | zero => exact ⟨(fun _ _ _ _ _ _ _ _ h => by cases h), (fun _ _ _ _ _ _ _ _ _ _ h => by cases h), (fun _ _ _ _ _ _ _ _ _ _ _ h => by cases h), (fun _ _ _ _ _ _ _ _ _ _ _ h => by cases h), (fun _ _ _ _ _ _ _ _ _ _ _ _ _ _ _ _ _ h => by cases h)⟩
  | succ f ih =>
    obtain ⟨ih0, ih1, ih2, ih3, ih4⟩ := ih
    refine ⟨?_, ?_, ?_, ?_, ?_⟩
    · intro S v0 v1 v2 res hT hpv0 hkv0 hF
      replace hF : F_X13_walks_0 f (F_X13_walks f) v0 v1 v2 S = some res := hF
      unfold F_X13_walks_0 at hF
      refine z_aload_n C dX13_walks_0 rfl ?_
      refine z_iload_n C dX13_walks_1 rfl ?_
      refine z_iload_n C dX13_walks_2 rfl ?_
      obtain ⟨x1, S1, h1, hF⟩ := bI_some hF
      refine f_cV (st2 := [.int x1]) C dX13_walks_3 zyX13_takesOf zvX13_takesOf lkRX13_311 (K_X13_takesOf (l := zXl X) hT hpv0 hkv0   h1) hpv0 hkv0 rfl (by decide) rfl rfl (Nat.le_of_ble_eq_true rfl) rfl (fun hT1 => ?_)
      refine z_istore_n (lv2 := [some (.ref (zB G + v0)), some (.int v1), some (.int v2), some (.int x1), none, none, none, none, none]) C dX13_walks_6 (by decide) rfl ?_
      refine z_aload_n C dX13_walks_7 rfl ?_
      refine z_iconst (v := 0) C dX13_walks_8 (by decide) ?_
      refine f_puti C dX13_walks_9 zfRX13_314 fw11_26 hpv0 hkv0 rfl rfl rfl ?_
      have hT2 : zT0 kd N0 (sI S1 v0 26 0) := zT0_sI hT1
      replace hF := fS_e hF
      generalize sI S1 v0 26 0 = S2 at hF hT2 ⊢
      refine z_aload_n C dX13_walks_12 rfl ?_
      refine z_iconst (v := 0) C dX13_walks_13 (by decide) ?_
      refine f_puti C dX13_walks_14 zfRX13_317 fw11_27 hpv0 hkv0 rfl rfl rfl ?_
      have hT3 : zT0 kd N0 (sI S2 v0 27 0) := zT0_sI hT2
      replace hF := fS_e hF
      generalize sI S2 v0 27 0 = S3 at hF hT3 ⊢
      refine z_aload_n C dX13_walks_17 rfl ?_
      refine z_iconst (v := 0) C dX13_walks_18 (by decide) ?_
      refine f_puti C dX13_walks_19 zfRX13_320 fw11_28 hpv0 hkv0 rfl rfl rfl ?_
      have hT4 : zT0 kd N0 (sI S3 v0 28 0) := zT0_sI hT3
      replace hF := fS_e hF
      generalize sI S3 v0 28 0 = S4 at hF hT4 ⊢
      refine z_iconst (v := 0) C dX13_walks_22 (by decide) ?_
      refine z_istore (lv2 := [some (.ref (zB G + v0)), some (.int v1), some (.int v2), some (.int x1), some (.int 0), none, none, none, none]) C dX13_walks_23 (by decide) rfl ?_
      exact ih1 S4 v0 v1 v2 x1 0 res hT4 hpv0 hkv0     hF
    · intro S v0 v1 v2 v3 v4 res hT hpv0 hkv0 hF
      replace hF : F_X13_walks_1 f (F_X13_walks f) v0 v1 v2 v3 v4 S = some res := hF
      unfold F_X13_walks_1 at hF
      refine z_iload C dX13_walks_25 rfl ?_
      refine z_aload_n C dX13_walks_27 rfl ?_
      obtain ⟨x5, S5, h5, hF⟩ := bI_some hF
      refine f_cV (st2 := [.int x5, .int v4]) C dX13_walks_28 zyX13_yards zvX13_yards lkRX13_279 (K_X13_yards (l := zXl X) hT hpv0 hkv0 h5) hpv0 hkv0 rfl (by decide) rfl rfl (Nat.le_of_ble_eq_true rfl) rfl (fun hT5 => ?_)
      refine z_icmp_ge C 304 dX13_walks_31 (by decide) (fun c7 => ?_) (fun c7 => ?_)
      · replace hF := ip hF c7
        refine z_aload_n C dX13_walks_304 rfl ?_
        refine f_getr C dX13_walks_305 zfRX13_119 hpv0 hkv0 rfl ?_
        obtain ⟨hp8, hk8⟩ := hT5.1 v0 11 22 (.inr (0, 828)) hpv0 hkv0 rfl
        refine z_iload_n C dX13_walks_308 rfl ?_
        refine z_iconst (v := 1) C dX13_walks_309 (by decide) ?_
        refine z_iadd C dX13_walks_310 ?_
        refine z_dup2 C dX13_walks_311 rfl rfl ?_
        obtain ⟨hi9, hF⟩ := bX_some hF
        obtain ⟨q9, eq9⟩ : ∃ q : Nat, q = Int32.toNatClampNeg (v1 + (1 : Int32)) := ⟨_, rfl⟩
        rw [← eq9] at hF
        refine f_iald C dX13_walks_312 hp8 hk8 hi9 ?_
        rw [← eq9]
        refine z_iload_n C dX13_walks_313 rfl ?_
        refine z_iadd C dX13_walks_314 ?_
        obtain ⟨hi10, hF⟩ := bX_some hF
        obtain ⟨q10, eq10⟩ : ∃ q : Nat, q = Int32.toNatClampNeg (v1 + (1 : Int32)) := ⟨_, rfl⟩
        rw [← eq10] at hF
        refine f_iast C dX13_walks_315 hp8 hk8 hi10 ?_
        rw [← eq10]
        have hT11 : zT0 kd N0 (sI S5 (gR S5 v0 22) q10 ((gI S5 (gR S5 v0 22) q9) + v3)) := zT0_sI hT5
        replace hF := fS_e hF
        generalize sI S5 (gR S5 v0 22) q10 ((gI S5 (gR S5 v0 22) q9) + v3) = S11 at hF hT11 ⊢
        refine z_iload_n C dX13_walks_316 rfl ?_
        cases hF
        exact z_iret C hr dX13_walks_317 ⟨rfl, rfl, hT11⟩
      · replace hF := im hF c7
        refine z_aload_n C dX13_walks_34 rfl ?_
        refine z_iload_n C dX13_walks_35 rfl ?_
        refine z_iconst (v := 0) C dX13_walks_36 (by decide) ?_
        obtain ⟨x12, S12, h12, hF⟩ := bI_some hF
        refine f_cV (st2 := [.int x12]) C dX13_walks_37 zyX13_personOf zvX13_personOf lkRX13_305 (K_X13_personOf (l := zXl X) hT5 hpv0 hkv0   h12) hpv0 hkv0 rfl (by decide) rfl rfl (Nat.le_of_ble_eq_true rfl) rfl (fun hT12 => ?_)
        refine z_iconst (v := 3) C dX13_walks_40 (by decide) ?_
        refine z_icmp_ne C 51 dX13_walks_41 (by decide) (fun c14 => ?_) (fun c14 => ?_)
        · replace hF := im hF c14
          refine z_iconst (v := 0) C dX13_walks_51 (by decide) ?_
          exact ih2 S12 v0 v1 v2 v3 v4 0 res hT12 hpv0 hkv0      hF
        · replace hF := ip hF c14
          refine z_aload_n C dX13_walks_44 rfl ?_
          obtain ⟨x15, S15, h15, hF⟩ := bI_some hF
          refine f_cV (st2 := [.int x15]) C dX13_walks_45 zyX13_depositNow zvX13_depositNow lkRX13_323 (K_X13_depositNow (l := zXl X) hT12 hpv0 hkv0 h15) hpv0 hkv0 rfl (by decide) rfl rfl (Nat.le_of_ble_eq_true rfl) rfl (fun hT15 => ?_)
          refine z_goto C 52 dX13_walks_48 (by decide) ?_
          exact ih2 S15 v0 v1 v2 v3 v4 x15 res hT15 hpv0 hkv0      hF
    · intro S v0 v1 v2 v3 v4 w0 res hT hpv0 hkv0 hF
      replace hF : F_X13_walks_2 f (F_X13_walks f) v0 v1 v2 v3 v4 w0 S = some res := hF
      unfold F_X13_walks_2 at hF
      refine z_istore (lv2 := [some (.ref (zB G + v0)), some (.int v1), some (.int v2), some (.int v3), some (.int v4), some (.int w0), none, none, none]) C dX13_walks_52 (by decide) rfl ?_
      refine z_iload C dX13_walks_54 rfl ?_
      refine z_aload_n C dX13_walks_56 rfl ?_
      refine f_getr C dX13_walks_57 zfRX13_119 hpv0 hkv0 rfl ?_
      obtain ⟨hp16, hk16⟩ := hT.1 v0 11 22 (.inr (0, 828)) hpv0 hkv0 rfl
      refine z_iload_n C dX13_walks_60 rfl ?_
      refine z_iconst (v := 4) C dX13_walks_61 (by decide) ?_
      refine z_iadd C dX13_walks_62 ?_
      refine z_iload C dX13_walks_63 rfl ?_
      refine z_iadd C dX13_walks_65 ?_
      obtain ⟨hi17, hF⟩ := bX_some hF
      obtain ⟨q17, eq17⟩ : ∃ q : Nat, q = Int32.toNatClampNeg ((v1 + (4 : Int32)) + v4) := ⟨_, rfl⟩
      rw [← eq17] at hF
      refine f_iald C dX13_walks_66 hp16 hk16 hi17 ?_
      rw [← eq17]
      refine z_icmp_le C 84 dX13_walks_67 (by decide) (fun c20 => ?_) (fun c20 => ?_)
      · replace hF := ip hF c20
        refine z_iload C dX13_walks_84 rfl ?_
        refine z_mask [true, true, true, true, true, false, true, true, true] ?_ rfl
        exact ih3 S v0 v1 v2 v3 v4 w0 res hT hpv0 hkv0      hF
      · replace hF := im hF c20
        refine z_aload_n C dX13_walks_70 rfl ?_
        refine f_getr C dX13_walks_71 zfRX13_119 hpv0 hkv0 rfl ?_
        obtain ⟨hp21, hk21⟩ := hT.1 v0 11 22 (.inr (0, 828)) hpv0 hkv0 rfl
        refine z_iload_n C dX13_walks_74 rfl ?_
        refine z_iconst (v := 4) C dX13_walks_75 (by decide) ?_
        refine z_iadd C dX13_walks_76 ?_
        refine z_iload C dX13_walks_77 rfl ?_
        refine z_iadd C dX13_walks_79 ?_
        obtain ⟨hi22, hF⟩ := bX_some hF
        obtain ⟨q22, eq22⟩ : ∃ q : Nat, q = Int32.toNatClampNeg ((v1 + (4 : Int32)) + v4) := ⟨_, rfl⟩
        rw [← eq22] at hF
        refine f_iald C dX13_walks_80 hp21 hk21 hi22 ?_
        rw [← eq22]
        refine z_goto C 86 dX13_walks_81 (by decide) ?_
        refine z_mask [true, true, true, true, true, false, true, true, true] ?_ rfl
        exact ih3 S v0 v1 v2 v3 v4 (gI S (gR S v0 22) q22) res hT hpv0 hkv0      hF
    · intro S v0 v1 v2 v3 v4 w0 res hT hpv0 hkv0 hF
      replace hF : F_X13_walks_3 f (F_X13_walks f) v0 v1 v2 v3 v4 w0 S = some res := hF
      unfold F_X13_walks_3 at hF
      refine z_istore (lv2 := [some (.ref (zB G + v0)), some (.int v1), some (.int v2), some (.int v3), some (.int v4), some (.int w0), none, none, none]) C dX13_walks_86 (by decide) rfl ?_
      refine z_aload_n C dX13_walks_88 rfl ?_
      refine f_getr C dX13_walks_89 zfRX13_119 hpv0 hkv0 rfl ?_
      obtain ⟨hp23, hk23⟩ := hT.1 v0 11 22 (.inr (0, 828)) hpv0 hkv0 rfl
      refine z_iload_n C dX13_walks_92 rfl ?_
      refine z_iconst (v := 4) C dX13_walks_93 (by decide) ?_
      refine z_iadd C dX13_walks_94 ?_
      refine z_iload C dX13_walks_95 rfl ?_
      refine z_iadd C dX13_walks_97 ?_
      refine z_dup2 C dX13_walks_98 rfl rfl ?_
      obtain ⟨hi24, hF⟩ := bX_some hF
      obtain ⟨q24, eq24⟩ : ∃ q : Nat, q = Int32.toNatClampNeg ((v1 + (4 : Int32)) + v4) := ⟨_, rfl⟩
      rw [← eq24] at hF
      refine f_iald C dX13_walks_99 hp23 hk23 hi24 ?_
      rw [← eq24]
      refine z_iload C dX13_walks_100 rfl ?_
      refine z_isub C dX13_walks_102 ?_
      obtain ⟨hi25, hF⟩ := bX_some hF
      obtain ⟨q25, eq25⟩ : ∃ q : Nat, q = Int32.toNatClampNeg ((v1 + (4 : Int32)) + v4) := ⟨_, rfl⟩
      rw [← eq25] at hF
      refine f_iast C dX13_walks_103 hp23 hk23 hi25 ?_
      rw [← eq25]
      have hT26 : zT0 kd N0 (sI S (gR S v0 22) q25 ((gI S (gR S v0 22) q24) - w0)) := zT0_sI hT
      replace hF := fS_e hF
      generalize sI S (gR S v0 22) q25 ((gI S (gR S v0 22) q24) - w0) = S26 at hF hT26 ⊢
      refine z_aload_n C dX13_walks_104 rfl ?_
      refine f_getr C dX13_walks_105 zfRX13_119 hpv0 hkv0 rfl ?_
      obtain ⟨hp27, hk27⟩ := hT26.1 v0 11 22 (.inr (0, 828)) hpv0 hkv0 rfl
      refine z_iload_n C dX13_walks_108 rfl ?_
      refine z_iconst (v := 2) C dX13_walks_109 (by decide) ?_
      refine z_iadd C dX13_walks_110 ?_
      refine z_dup2 C dX13_walks_111 rfl rfl ?_
      obtain ⟨hi28, hF⟩ := bX_some hF
      obtain ⟨q28, eq28⟩ : ∃ q : Nat, q = Int32.toNatClampNeg (v1 + (2 : Int32)) := ⟨_, rfl⟩
      rw [← eq28] at hF
      refine f_iald C dX13_walks_112 hp27 hk27 hi28 ?_
      rw [← eq28]
      refine z_iload C dX13_walks_113 rfl ?_
      refine z_iadd C dX13_walks_115 ?_
      obtain ⟨hi29, hF⟩ := bX_some hF
      obtain ⟨q29, eq29⟩ : ∃ q : Nat, q = Int32.toNatClampNeg (v1 + (2 : Int32)) := ⟨_, rfl⟩
      rw [← eq29] at hF
      refine f_iast C dX13_walks_116 hp27 hk27 hi29 ?_
      rw [← eq29]
      have hT30 : zT0 kd N0 (sI S26 (gR S26 v0 22) q29 ((gI S26 (gR S26 v0 22) q28) + w0)) := zT0_sI hT26
      replace hF := fS_e hF
      generalize sI S26 (gR S26 v0 22) q29 ((gI S26 (gR S26 v0 22) q28) + w0) = S30 at hF hT30 ⊢
      refine z_aload_n C dX13_walks_117 rfl ?_
      refine f_getr C dX13_walks_118 zfRX13_119 hpv0 hkv0 rfl ?_
      obtain ⟨hp31, hk31⟩ := hT30.1 v0 11 22 (.inr (0, 828)) hpv0 hkv0 rfl
      refine z_iload_n C dX13_walks_121 rfl ?_
      refine z_bipush (v := 12) C dX13_walks_122 (by decide) ?_
      refine z_iadd C dX13_walks_124 ?_
      refine z_iload C dX13_walks_125 rfl ?_
      refine z_iadd C dX13_walks_127 ?_
      obtain ⟨hi32, hF⟩ := bX_some hF
      obtain ⟨q32, eq32⟩ : ∃ q : Nat, q = Int32.toNatClampNeg ((v1 + (12 : Int32)) + v4) := ⟨_, rfl⟩
      rw [← eq32] at hF
      refine f_iald C dX13_walks_128 hp31 hk31 hi32 ?_
      rw [← eq32]
      refine z_aload_n C dX13_walks_129 rfl ?_
      refine f_getr C dX13_walks_130 zfRX13_119 hpv0 hkv0 rfl ?_
      obtain ⟨hp33, hk33⟩ := hT30.1 v0 11 22 (.inr (0, 828)) hpv0 hkv0 rfl
      refine z_iload_n C dX13_walks_133 rfl ?_
      refine z_bipush (v := 20) C dX13_walks_134 (by decide) ?_
      refine z_iadd C dX13_walks_136 ?_
      refine z_iload C dX13_walks_137 rfl ?_
      refine z_iadd C dX13_walks_139 ?_
      obtain ⟨hi34, hF⟩ := bX_some hF
      obtain ⟨q34, eq34⟩ : ∃ q : Nat, q = Int32.toNatClampNeg ((v1 + (20 : Int32)) + v4) := ⟨_, rfl⟩
      rw [← eq34] at hF
      refine f_iald C dX13_walks_140 hp33 hk33 hi34 ?_
      rw [← eq34]
      refine z_isub C dX13_walks_141 ?_
      replace hF := lI_e hF
      generalize ((gI S30 (gR S30 v0 22) q32) - (gI S30 (gR S30 v0 22) q34)) = y35 at hF ⊢
      refine z_istore (lv2 := [some (.ref (zB G + v0)), some (.int v1), some (.int v2), some (.int v3), some (.int v4), some (.int w0), some (.int y35), none, none]) C dX13_walks_142 (by decide) rfl ?_
      refine z_iload C dX13_walks_144 rfl ?_
      refine z_iload_n C dX13_walks_146 rfl ?_
      have hJ37 : zV G X (zQX G X (zPo G kd N0 res) 0 0) 9 [some (.ref (zB G + v0)), some (.int v1), some (.int v2), some (.int v3), some (.int v4), some (.int w0), some (.int y35), none, none] [.int (if y35 ≤ v3 then y35 else v3)] (cn G kd N0 S30) 156 0 0 := by
        refine z_istore (lv2 := [some (.ref (zB G + v0)), some (.int v1), some (.int v2), some (.int v3), some (.int v4), some (.int w0), some (.int y35), some (.int (if y35 ≤ v3 then y35 else v3)), none]) C dX13_walks_156 (by decide) rfl ?_
        refine z_aload_n C dX13_walks_158 rfl ?_
        refine f_getr C dX13_walks_159 zfRX13_119 hpv0 hkv0 rfl ?_
        obtain ⟨hp38, hk38⟩ := hT30.1 v0 11 22 (.inr (0, 828)) hpv0 hkv0 rfl
        refine z_iload_n C dX13_walks_162 rfl ?_
        refine z_bipush (v := 20) C dX13_walks_163 (by decide) ?_
        refine z_iadd C dX13_walks_165 ?_
        refine z_iload C dX13_walks_166 rfl ?_
        refine z_iadd C dX13_walks_168 ?_
        refine z_dup2 C dX13_walks_169 rfl rfl ?_
        obtain ⟨hi39, hF⟩ := bX_some hF
        obtain ⟨q39, eq39⟩ : ∃ q : Nat, q = Int32.toNatClampNeg ((v1 + (20 : Int32)) + v4) := ⟨_, rfl⟩
        rw [← eq39] at hF
        refine f_iald C dX13_walks_170 hp38 hk38 hi39 ?_
        rw [← eq39]
        refine z_iload C dX13_walks_171 rfl ?_
        refine z_iadd C dX13_walks_173 ?_
        obtain ⟨hi40, hF⟩ := bX_some hF
        obtain ⟨q40, eq40⟩ : ∃ q : Nat, q = Int32.toNatClampNeg ((v1 + (20 : Int32)) + v4) := ⟨_, rfl⟩
        rw [← eq40] at hF
        refine f_iast C dX13_walks_174 hp38 hk38 hi40 ?_
        rw [← eq40]
        have hT41 : zT0 kd N0 (sI S30 (gR S30 v0 22) q40 ((gI S30 (gR S30 v0 22) q39) + (if y35 ≤ v3 then y35 else v3))) := zT0_sI hT30
        replace hF := fS_e hF
        generalize sI S30 (gR S30 v0 22) q40 ((gI S30 (gR S30 v0 22) q39) + (if y35 ≤ v3 then y35 else v3)) = S41 at hF hT41 ⊢
        refine z_iload_n C dX13_walks_175 rfl ?_
        refine z_iload C dX13_walks_176 rfl ?_
        refine z_isub C dX13_walks_178 ?_
        refine z_istore_n (lv2 := [some (.ref (zB G + v0)), some (.int v1), some (.int v2), some (.int (v3 - (if y35 ≤ v3 then y35 else v3))), some (.int v4), some (.int w0), some (.int y35), some (.int (if y35 ≤ v3 then y35 else v3)), none]) C dX13_walks_179 (by decide) rfl ?_
        refine z_aload_n C dX13_walks_180 rfl ?_
        refine z_iload_n C dX13_walks_181 rfl ?_
        refine z_iload_n C dX13_walks_182 rfl ?_
        refine z_iload C dX13_walks_183 rfl ?_
        refine z_aload_n C dX13_walks_185 rfl ?_
        refine f_getr C dX13_walks_186 zfRX13_119 hpv0 hkv0 rfl ?_
        obtain ⟨hp42, hk42⟩ := hT41.1 v0 11 22 (.inr (0, 828)) hpv0 hkv0 rfl
        refine z_iload_n C dX13_walks_189 rfl ?_
        refine z_iconst (v := 4) C dX13_walks_190 (by decide) ?_
        refine z_iadd C dX13_walks_191 ?_
        refine z_iload C dX13_walks_192 rfl ?_
        refine z_iadd C dX13_walks_194 ?_
        obtain ⟨hi43, hF⟩ := bX_some hF
        obtain ⟨q43, eq43⟩ : ∃ q : Nat, q = Int32.toNatClampNeg ((v1 + (4 : Int32)) + v4) := ⟨_, rfl⟩
        rw [← eq43] at hF
        refine f_iald C dX13_walks_195 hp42 hk42 hi43 ?_
        rw [← eq43]
        refine z_iload_n C dX13_walks_196 rfl ?_
        obtain ⟨x44, S44, h44, hF⟩ := bI_some hF
        refine f_cV (st2 := [.int x44]) C dX13_walks_197 zyX13_dropsOf zvX13_dropsOf lkRX13_326 (K_X13_dropsOf (l := zXl X) hT41 hpv0 hkv0      h44) hpv0 hkv0 rfl (by decide) rfl rfl (Nat.le_of_ble_eq_true rfl) rfl (fun hT44 => ?_)
        refine z_istore (lv2 := [some (.ref (zB G + v0)), some (.int v1), some (.int v2), some (.int (v3 - (if y35 ≤ v3 then y35 else v3))), some (.int v4), some (.int w0), some (.int y35), some (.int (if y35 ≤ v3 then y35 else v3)), some (.int x44)]) C dX13_walks_200 (by decide) rfl ?_
        refine z_iload_n C dX13_walks_202 rfl ?_
        refine z_iload C dX13_walks_203 rfl ?_
        refine z_isub C dX13_walks_205 ?_
        refine z_istore_n (lv2 := [some (.ref (zB G + v0)), some (.int v1), some (.int v2), some (.int ((v3 - (if y35 ≤ v3 then y35 else v3)) - x44)), some (.int v4), some (.int w0), some (.int y35), some (.int (if y35 ≤ v3 then y35 else v3)), some (.int x44)]) C dX13_walks_206 (by decide) rfl ?_
        refine z_aload_n C dX13_walks_207 rfl ?_
        refine f_getr C dX13_walks_208 zfRX13_119 hpv0 hkv0 rfl ?_
        obtain ⟨hp45, hk45⟩ := hT44.1 v0 11 22 (.inr (0, 828)) hpv0 hkv0 rfl
        refine z_iload_n C dX13_walks_211 rfl ?_
        refine z_iconst (v := 4) C dX13_walks_212 (by decide) ?_
        refine z_iadd C dX13_walks_213 ?_
        refine z_iload C dX13_walks_214 rfl ?_
        refine z_iadd C dX13_walks_216 ?_
        refine z_aload_n C dX13_walks_217 rfl ?_
        refine f_getr C dX13_walks_218 zfRX13_119 hpv0 hkv0 rfl ?_
        obtain ⟨hp46, hk46⟩ := hT44.1 v0 11 22 (.inr (0, 828)) hpv0 hkv0 rfl
        refine z_iload_n C dX13_walks_221 rfl ?_
        refine z_iconst (v := 4) C dX13_walks_222 (by decide) ?_
        refine z_iadd C dX13_walks_223 ?_
        refine z_iload C dX13_walks_224 rfl ?_
        refine z_iadd C dX13_walks_226 ?_
        obtain ⟨hi47, hF⟩ := bX_some hF
        obtain ⟨q47, eq47⟩ : ∃ q : Nat, q = Int32.toNatClampNeg ((v1 + (4 : Int32)) + v4) := ⟨_, rfl⟩
        rw [← eq47] at hF
        refine f_iald C dX13_walks_227 hp46 hk46 hi47 ?_
        rw [← eq47]
        refine z_iload C dX13_walks_228 rfl ?_
        refine z_iadd C dX13_walks_230 ?_
        refine z_sipush (v := 999) C dX13_walks_231 (by decide) ?_
        refine z_icmp_le C 243 dX13_walks_234 (by decide) (fun c50 => ?_) (fun c50 => ?_)
        · replace hF := ip hF c50
          refine z_aload_n C dX13_walks_243 rfl ?_
          refine f_getr C dX13_walks_244 zfRX13_119 hpv0 hkv0 rfl ?_
          obtain ⟨hp51, hk51⟩ := hT44.1 v0 11 22 (.inr (0, 828)) hpv0 hkv0 rfl
          refine z_iload_n C dX13_walks_247 rfl ?_
          refine z_iconst (v := 4) C dX13_walks_248 (by decide) ?_
          refine z_iadd C dX13_walks_249 ?_
          refine z_iload C dX13_walks_250 rfl ?_
          refine z_iadd C dX13_walks_252 ?_
          obtain ⟨hi52, hF⟩ := bX_some hF
          obtain ⟨q52, eq52⟩ : ∃ q : Nat, q = Int32.toNatClampNeg ((v1 + (4 : Int32)) + v4) := ⟨_, rfl⟩
          rw [← eq52] at hF
          refine f_iald C dX13_walks_253 hp51 hk51 hi52 ?_
          rw [← eq52]
          refine z_iload C dX13_walks_254 rfl ?_
          refine z_iadd C dX13_walks_256 ?_
          refine z_mask [true, true, true, true, true, false, false, true, true] ?_ rfl
          exact ih4 S44 v0 v1 v2 ((v3 - (if y35 ≤ v3 then y35 else v3)) - x44) v4 (if y35 ≤ v3 then y35 else v3) x44 ((gI S44 (gR S44 v0 22) q52) + x44) ((v1 + (4 : Int32)) + v4) (gR S44 v0 22) res hT44 hpv0 hkv0         hp45 hk45 hF
        · replace hF := im hF c50
          refine z_sipush (v := 999) C dX13_walks_237 (by decide) ?_
          refine z_goto C 257 dX13_walks_240 (by decide) ?_
          refine z_mask [true, true, true, true, true, false, false, true, true] ?_ rfl
          exact ih4 S44 v0 v1 v2 ((v3 - (if y35 ≤ v3 then y35 else v3)) - x44) v4 (if y35 ≤ v3 then y35 else v3) x44 999 ((v1 + (4 : Int32)) + v4) (gR S44 v0 22) res hT44 hpv0 hkv0         hp45 hk45 hF
      refine z_icmp_le C 154 dX13_walks_147 (by decide) (fun c36 => ?_) (fun c36 => ?_)
      · refine z_iload C dX13_walks_154 rfl ?_
        exact zV.at hJ37 (by first | rfl | contradiction | (simp only [if_pos c36]; done)) (by first | rfl | contradiction | (simp only [if_pos c36]; done)) rfl rfl
      · refine z_iload_n C dX13_walks_150 rfl ?_
        refine z_goto C 156 dX13_walks_151 (by decide) ?_
        exact zV.at hJ37 (by first | rfl | contradiction | (simp only [if_neg c36]; done)) (by first | rfl | contradiction | (simp only [if_neg c36]; done)) rfl rfl
    · intro S v0 v1 v2 v3 v4 v5 v6 w0 w1 w2 res hT hpv0 hkv0 hpw2 hkw2 hF
      replace hF : F_X13_walks_4 f (F_X13_walks f) v0 v1 v2 v3 v4 v5 v6 w0 w1 w2 S = some res := hF
      unfold F_X13_walks_4 at hF
      obtain ⟨hi53, hF⟩ := bX_some hF
      obtain ⟨q53, eq53⟩ : ∃ q : Nat, q = Int32.toNatClampNeg w1 := ⟨_, rfl⟩
      rw [← eq53] at hF
      refine f_iast C dX13_walks_257 hpw2 hkw2 hi53 ?_
      rw [← eq53]
      have hT54 : zT0 kd N0 (sI S w2 q53 w0) := zT0_sI hT
      replace hF := fS_e hF
      generalize sI S w2 q53 w0 = S54 at hF hT54 ⊢
      refine z_aload_n C dX13_walks_258 rfl ?_
      refine z_dup C dX13_walks_259 rfl ?_
      refine f_geti C dX13_walks_260 zfRX13_314 hpv0 hkv0 rfl ?_
      refine z_iload C dX13_walks_263 rfl ?_
      refine z_iadd C dX13_walks_265 ?_
      refine f_puti C dX13_walks_266 zfRX13_314 fw11_26 hpv0 hkv0 rfl rfl rfl ?_
      have hT55 : zT0 kd N0 (sI S54 v0 26 ((gI S54 v0 26) + v6)) := zT0_sI hT54
      replace hF := fS_e hF
      generalize sI S54 v0 26 ((gI S54 v0 26) + v6) = S55 at hF hT55 ⊢
      refine z_aload_n C dX13_walks_269 rfl ?_
      refine z_dup C dX13_walks_270 rfl ?_
      refine f_geti C dX13_walks_271 zfRX13_317 hpv0 hkv0 rfl ?_
      refine z_iload C dX13_walks_274 rfl ?_
      refine z_iadd C dX13_walks_276 ?_
      refine f_puti C dX13_walks_277 zfRX13_317 fw11_27 hpv0 hkv0 rfl rfl rfl ?_
      have hT56 : zT0 kd N0 (sI S55 v0 27 ((gI S55 v0 27) + v5)) := zT0_sI hT55
      replace hF := fS_e hF
      generalize sI S55 v0 27 ((gI S55 v0 27) + v5) = S56 at hF hT56 ⊢
      refine z_aload_n C dX13_walks_280 rfl ?_
      refine z_dup C dX13_walks_281 rfl ?_
      refine f_geti C dX13_walks_282 zfRX13_320 hpv0 hkv0 rfl ?_
      refine z_iload_n C dX13_walks_285 rfl ?_
      have hJ58 : zV G X (zQX G X (zPo G kd N0 res) 0 0) 9 [some (.ref (zB G + v0)), some (.int v1), some (.int v2), some (.int v3), some (.int v4), none, none, some (.int v5), some (.int v6)] [.int (if v3 ≤ (0 : Int32) then (0 : Int32) else (1 : Int32)), .int (gI S56 v0 28), .ref (zB G + v0)] (cn G kd N0 S56) 294 0 0 := by
        refine z_iadd C dX13_walks_294 ?_
        refine f_puti C dX13_walks_295 zfRX13_320 fw11_28 hpv0 hkv0 rfl rfl rfl ?_
        have hT59 : zT0 kd N0 (sI S56 v0 28 ((gI S56 v0 28) + (if v3 ≤ (0 : Int32) then (0 : Int32) else (1 : Int32)))) := zT0_sI hT56
        replace hF := fS_e hF
        generalize sI S56 v0 28 ((gI S56 v0 28) + (if v3 ≤ (0 : Int32) then (0 : Int32) else (1 : Int32))) = S59 at hF hT59 ⊢
        refine z_iinc (v := v4 + 1) (lv2 := [some (.ref (zB G + v0)), some (.int v1), some (.int v2), some (.int v3), some (.int (v4 + 1)), none, none, some (.int v5), some (.int v6)]) C dX13_walks_298 rfl (by rw [show Int32.ofInt 1 = (1 : Int32) from by decide]) rfl ?_
        refine z_goto C 25 dX13_walks_301 (by decide) ?_
        refine z_mask [true, true, true, true, true, true, true, false, false] ?_ rfl
        exact ih1 S59 v0 v1 v2 v3 (v4 + 1) res hT59 hpv0 hkv0     hF
      refine z_if_le C 293 dX13_walks_286 (by decide) (fun c57 => ?_) (fun c57 => ?_)
      · refine z_iconst (v := 0) C dX13_walks_293 (by decide) ?_
        exact zV.at hJ58 (by first | rfl | contradiction | (simp only [if_pos c57]; done)) (by first | rfl | contradiction | (simp only [if_pos c57]; done)) rfl rfl
      · refine z_iconst (v := 1) C dX13_walks_289 (by decide) ?_
        refine z_goto C 294 dX13_walks_290 (by decide) ?_
        exact zV.at hJ58 (by first | rfl | contradiction | (simp only [if_neg c57]; done)) (by first | rfl | contradiction | (simp only [if_neg c57]; done)) rfl rfl
theorem K_X13_walks {G : zG} {l : Launch} {kd : kD} {N0 f : Nat} {S : aS} {v0 : Nat} {v1 : Int32} {v2 : Int32} {res : Option Value × aS} (hT : zT0 kd N0 S) (hpv0 : v0 < N0) (hkv0 : kd v0 = .inl 11) (hF : F_X13_walks f 0 [.ref v0, .int v1, .int v2] S = some res) : zM G l 3 0 0 yX13_walks cX13_walks 9 (some .int) [.ref (zB G + v0), .int v1, .int v2] (cn G kd N0 S) (zPo G kd N0 res) := zM.of (by decide) rfl (Nat.le_of_ble_eq_true rfl) (fun X _ C hr _ => (B_X13_walks C hr f).1 S v0 v1 v2 res hT hpv0 hkv0 hF)
def F_X13_allWalk_0 (f : Nat) (rc : Nat → List Value → aS → aR) (v0 : Nat) (v1 : Int32) (v2 : Int32) (S : aS) : aR :=
  rc 1 [.ref v0, .int v1, .int v2, .int 0] S
def F_X13_allWalk_1 (f : Nat) (rc : Nat → List Value → aS → aR) (v0 : Nat) (v1 : Int32) (v2 : Int32) (v3 : Int32) (S : aS) : aR :=
  bI (F_X13_people f 0 [.ref v0] S) fun x1 S1 => if x1 ≤ v3 then some (none, S1) else if ((v2 >>> (v3 &&& 31)) &&& (1 : Int32)) = (0 : Int32) then bI (F_X13_walks f 0 [.ref v0, .int v1, .int v3] S1) fun x7 S7 => rc 2 [.ref v0, .int v1, .int v2, .int v3] S7 else rc 2 [.ref v0, .int v1, .int v2, .int v3] S1
def F_X13_allWalk_2 (f : Nat) (rc : Nat → List Value → aS → aR) (v0 : Nat) (v1 : Int32) (v2 : Int32) (v3 : Int32) (S : aS) : aR :=
  rc 1 [.ref v0, .int v1, .int v2, .int (v3 + 1)] S
def F_X13_allWalk : Nat → Nat → List Value → aS → aR
  | 0, _, _, _ => none
  | f + 1, 0, vs, S => F_X13_allWalk_0 f (F_X13_allWalk f) (vR vs 0) (vI vs 1) (vI vs 2) S
  | f + 1, 1, vs, S => F_X13_allWalk_1 f (F_X13_allWalk f) (vR vs 0) (vI vs 1) (vI vs 2) (vI vs 3) S
  | f + 1, 2, vs, S => F_X13_allWalk_2 f (F_X13_allWalk f) (vR vs 0) (vI vs 1) (vI vs 2) (vI vs 3) S
  | _ + 1, _, _, _ => none
theorem dX13_allWalk_0 : decode cX13_allWalk 0 = .ok (.iconst 0, 1) := by decide +kernel
theorem dX13_allWalk_1 : decode cX13_allWalk 1 = .ok (.istore_n 3, 1) := by decide +kernel
theorem dX13_allWalk_2 : decode cX13_allWalk 2 = .ok (.iload_n 3, 1) := by decide +kernel
theorem dX13_allWalk_3 : decode cX13_allWalk 3 = .ok (.aload_n 0, 1) := by decide +kernel
theorem dX13_allWalk_4 : decode cX13_allWalk 4 = .ok (.invokevirtual 292, 3) := by decide +kernel
theorem dX13_allWalk_7 : decode cX13_allWalk 7 = .ok (.if_icmp .ge 24, 3) := by decide +kernel
theorem dX13_allWalk_10 : decode cX13_allWalk 10 = .ok (.iload_n 2, 1) := by decide +kernel
theorem dX13_allWalk_11 : decode cX13_allWalk 11 = .ok (.iload_n 3, 1) := by decide +kernel
theorem dX13_allWalk_12 : decode cX13_allWalk 12 = .ok (.ishr, 1) := by decide +kernel
theorem dX13_allWalk_13 : decode cX13_allWalk 13 = .ok (.iconst 1, 1) := by decide +kernel
theorem dX13_allWalk_14 : decode cX13_allWalk 14 = .ok (.iand, 1) := by decide +kernel
theorem dX13_allWalk_15 : decode cX13_allWalk 15 = .ok (.ifCond .ne 10, 3) := by decide +kernel
theorem dX13_allWalk_18 : decode cX13_allWalk 18 = .ok (.aload_n 0, 1) := by decide +kernel
theorem dX13_allWalk_19 : decode cX13_allWalk 19 = .ok (.iload_n 1, 1) := by decide +kernel
theorem dX13_allWalk_20 : decode cX13_allWalk 20 = .ok (.iload_n 3, 1) := by decide +kernel
theorem dX13_allWalk_21 : decode cX13_allWalk 21 = .ok (.invokevirtual 330, 3) := by decide +kernel
theorem dX13_allWalk_24 : decode cX13_allWalk 24 = .ok (.pop, 1) := by decide +kernel
theorem dX13_allWalk_25 : decode cX13_allWalk 25 = .ok (.iinc 3 1, 3) := by decide +kernel
theorem dX13_allWalk_28 : decode cX13_allWalk 28 = .ok (.goto (-26), 3) := by decide +kernel
theorem dX13_allWalk_31 : decode cX13_allWalk 31 = .ok (.return_, 1) := by decide +kernel
set_option maxHeartbeats 4000000 in
set_option maxRecDepth 100000 in
theorem B_X13_allWalk {G : zG} {X : zX} {kd : kD} {N0 : Nat} (C : zCt G X 4 0 0 RX13 cX13_allWalk 4) (hr : (zXh X).sig.returnType = none) : ∀ f : Nat,
    (∀ (S : aS) (v0 : Nat) (v1 : Int32) (v2 : Int32) (res : Option Value × aS), zT0 kd N0 S → v0 < N0 → kd v0 = .inl 11 → F_X13_allWalk f 0 [.ref v0, .int v1, .int v2] S = some res → zV G X (zQX G X (zPo G kd N0 res) 0 0) 4 [some (.ref (zB G + v0)), some (.int v1), some (.int v2), none] [] (cn G kd N0 S) 0 0 0) ∧
    (∀ (S : aS) (v0 : Nat) (v1 : Int32) (v2 : Int32) (v3 : Int32) (res : Option Value × aS), zT0 kd N0 S → v0 < N0 → kd v0 = .inl 11 → F_X13_allWalk f 1 [.ref v0, .int v1, .int v2, .int v3] S = some res → zV G X (zQX G X (zPo G kd N0 res) 0 0) 4 [some (.ref (zB G + v0)), some (.int v1), some (.int v2), some (.int v3)] [] (cn G kd N0 S) 2 0 0) ∧
    (∀ (S : aS) (v0 : Nat) (v1 : Int32) (v2 : Int32) (v3 : Int32) (res : Option Value × aS), zT0 kd N0 S → v0 < N0 → kd v0 = .inl 11 → F_X13_allWalk f 2 [.ref v0, .int v1, .int v2, .int v3] S = some res → zV G X (zQX G X (zPo G kd N0 res) 0 0) 4 [some (.ref (zB G + v0)), some (.int v1), some (.int v2), some (.int v3)] [] (cn G kd N0 S) 25 0 0) := by
  intro f
  induction f with
  | zero => exact ⟨(fun _ _ _ _ _ _ _ _ h => by cases h), (fun _ _ _ _ _ _ _ _ _ h => by cases h), (fun _ _ _ _ _ _ _ _ _ h => by cases h)⟩
  | succ f ih =>
    obtain ⟨ih0, ih1, ih2⟩ := ih
    refine ⟨?_, ?_, ?_⟩
    · intro S v0 v1 v2 res hT hpv0 hkv0 hF
      replace hF : F_X13_allWalk_0 f (F_X13_allWalk f) v0 v1 v2 S = some res := hF
      unfold F_X13_allWalk_0 at hF
      refine z_iconst (v := 0) C dX13_allWalk_0 (by decide) ?_
      refine z_istore_n (lv2 := [some (.ref (zB G + v0)), some (.int v1), some (.int v2), some (.int 0)]) C dX13_allWalk_1 (by decide) rfl ?_
      exact ih1 S v0 v1 v2 0 res hT hpv0 hkv0    hF
    · intro S v0 v1 v2 v3 res hT hpv0 hkv0 hF
      replace hF : F_X13_allWalk_1 f (F_X13_allWalk f) v0 v1 v2 v3 S = some res := hF
      unfold F_X13_allWalk_1 at hF
      refine z_iload_n C dX13_allWalk_2 rfl ?_
      refine z_aload_n C dX13_allWalk_3 rfl ?_
      obtain ⟨x1, S1, h1, hF⟩ := bI_some hF
      refine f_cV (st2 := [.int x1, .int v3]) C dX13_allWalk_4 zyX13_people zvX13_people lkRX13_292 (K_X13_people (l := zXl X) hT hpv0 hkv0 h1) hpv0 hkv0 rfl (by decide) rfl rfl (Nat.le_of_ble_eq_true rfl) rfl (fun hT1 => ?_)
      refine z_icmp_ge C 31 dX13_allWalk_7 (by decide) (fun c4 => ?_) (fun c4 => ?_)
      · replace hF := ip hF c4
        cases hF
        exact z_vret C hr dX13_allWalk_31 ⟨rfl, rfl, hT1⟩
      · replace hF := im hF c4
        refine z_iload_n C dX13_allWalk_10 rfl ?_
        refine z_iload_n C dX13_allWalk_11 rfl ?_
        refine z_ishr C dX13_allWalk_12 ?_
        refine z_iconst (v := 1) C dX13_allWalk_13 (by decide) ?_
        refine z_iand C dX13_allWalk_14 ?_
        refine z_if_ne C 25 dX13_allWalk_15 (by decide) (fun c6 => ?_) (fun c6 => ?_)
        · replace hF := im hF c6
          exact ih2 S1 v0 v1 v2 v3 res hT1 hpv0 hkv0    hF
        · replace hF := ip hF c6
          refine z_aload_n C dX13_allWalk_18 rfl ?_
          refine z_iload_n C dX13_allWalk_19 rfl ?_
          refine z_iload_n C dX13_allWalk_20 rfl ?_
          obtain ⟨x7, S7, h7, hF⟩ := bI_some hF
          refine f_cV (st2 := [.int x7]) C dX13_allWalk_21 zyX13_walks zvX13_walks lkRX13_330 (K_X13_walks (l := zXl X) hT1 hpv0 hkv0   h7) hpv0 hkv0 rfl (by decide) rfl rfl (Nat.le_of_ble_eq_true rfl) rfl (fun hT7 => ?_)
          refine z_pop C dX13_allWalk_24 rfl ?_
          exact ih2 S7 v0 v1 v2 v3 res hT7 hpv0 hkv0    hF
    · intro S v0 v1 v2 v3 res hT hpv0 hkv0 hF
      replace hF : F_X13_allWalk_2 f (F_X13_allWalk f) v0 v1 v2 v3 S = some res := hF
      unfold F_X13_allWalk_2 at hF
      refine z_iinc (v := v3 + 1) (lv2 := [some (.ref (zB G + v0)), some (.int v1), some (.int v2), some (.int (v3 + 1))]) C dX13_allWalk_25 rfl (by rw [show Int32.ofInt 1 = (1 : Int32) from by decide]) rfl ?_
      refine z_goto C 2 dX13_allWalk_28 (by decide) ?_
      exact ih1 S v0 v1 v2 (v3 + 1) res hT hpv0 hkv0    hF
theorem K_X13_allWalk {G : zG} {l : Launch} {kd : kD} {N0 f : Nat} {S : aS} {v0 : Nat} {v1 : Int32} {v2 : Int32} {res : Option Value × aS} (hT : zT0 kd N0 S) (hpv0 : v0 < N0) (hkv0 : kd v0 = .inl 11) (hF : F_X13_allWalk f 0 [.ref v0, .int v1, .int v2] S = some res) : zM G l 4 0 0 yX13_allWalk cX13_allWalk 4 none [.ref (zB G + v0), .int v1, .int v2] (cn G kd N0 S) (zPo G kd N0 res) := zM.of (by decide) rfl (Nat.le_of_ble_eq_true rfl) (fun X _ C hr _ => (B_X13_allWalk C hr f).1 S v0 v1 v2 res hT hpv0 hkv0 hF)
def F_X13_person_0 (f : Nat) (rc : Nat → List Value → aS → aR) (v0 : Nat) (v1 : Int32) (v2 : Int32) (S : aS) : aR :=
  fS (sI S v0 0 0) fun S1 => bI (F_X13_isPerson f 0 [.ref v0, .int v1] S1) fun x2 S2 => if x2 = (0 : Int32) then rc 1 [] S2 else bI (F_X13_within f 0 [.int v2, .int 0, .int 3] S2) fun x4 S4 => if x4 = (0 : Int32) then rc 1 [] S4 else if (3 : Int32) ≤ v2 then bI (F_X13_takesOf f 0 [.ref v0, .int 0, .int v1] S4) fun x8 S8 => rc 2 [.int x8] S8 else bI (F_X13_personOf f 0 [.ref v0, .int v1, .int v2] S4) fun x9 S9 => rc 2 [.int x9] S9
def F_X13_person_1 (f : Nat) (rc : Nat → List Value → aS → aR)  (S : aS) : aR :=
  some (some (.int ((-1))), S)
def F_X13_person_2 (f : Nat) (rc : Nat → List Value → aS → aR) (w0 : Int32) (S : aS) : aR :=
  some (some (.int w0), S)
def F_X13_person : Nat → Nat → List Value → aS → aR
  | 0, _, _, _ => none
  | f + 1, 0, vs, S => F_X13_person_0 f (F_X13_person f) (vR vs 0) (vI vs 1) (vI vs 2) S
  | f + 1, 1, vs, S => F_X13_person_1 f (F_X13_person f)  S
  | f + 1, 2, vs, S => F_X13_person_2 f (F_X13_person f) (vI vs 0) S
  | _ + 1, _, _, _ => none
theorem dX13_person_0 : decode cX13_person 0 = .ok (.aload_n 0, 1) := by decide +kernel
theorem dX13_person_1 : decode cX13_person 1 = .ok (.iconst 0, 1) := by decide +kernel
theorem dX13_person_2 : decode cX13_person 2 = .ok (.putfield 1, 3) := by decide +kernel
theorem dX13_person_5 : decode cX13_person 5 = .ok (.aload_n 0, 1) := by decide +kernel
theorem dX13_person_6 : decode cX13_person 6 = .ok (.iload_n 1, 1) := by decide +kernel
theorem dX13_person_7 : decode cX13_person 7 = .ok (.invokevirtual 343, 3) := by decide +kernel
theorem dX13_person_10 : decode cX13_person 10 = .ok (.ifCond .eq 12, 3) := by decide +kernel
theorem dX13_person_13 : decode cX13_person 13 = .ok (.iload_n 2, 1) := by decide +kernel
theorem dX13_person_14 : decode cX13_person 14 = .ok (.iconst 0, 1) := by decide +kernel
theorem dX13_person_15 : decode cX13_person 15 = .ok (.iconst 3, 1) := by decide +kernel
theorem dX13_person_16 : decode cX13_person 16 = .ok (.invokestatic 339, 3) := by decide +kernel
theorem dX13_person_19 : decode cX13_person 19 = .ok (.ifCond .ne 5, 3) := by decide +kernel
theorem dX13_person_22 : decode cX13_person 22 = .ok (.iconst (-1), 1) := by decide +kernel
theorem dX13_person_23 : decode cX13_person 23 = .ok (.ireturn, 1) := by decide +kernel
theorem dX13_person_24 : decode cX13_person 24 = .ok (.iload_n 2, 1) := by decide +kernel
theorem dX13_person_25 : decode cX13_person 25 = .ok (.iconst 3, 1) := by decide +kernel
theorem dX13_person_26 : decode cX13_person 26 = .ok (.if_icmp .ge 12, 3) := by decide +kernel
theorem dX13_person_29 : decode cX13_person 29 = .ok (.aload_n 0, 1) := by decide +kernel
theorem dX13_person_30 : decode cX13_person 30 = .ok (.iload_n 1, 1) := by decide +kernel
theorem dX13_person_31 : decode cX13_person 31 = .ok (.iload_n 2, 1) := by decide +kernel
theorem dX13_person_32 : decode cX13_person 32 = .ok (.invokevirtual 305, 3) := by decide +kernel
theorem dX13_person_35 : decode cX13_person 35 = .ok (.goto 9, 3) := by decide +kernel
theorem dX13_person_38 : decode cX13_person 38 = .ok (.aload_n 0, 1) := by decide +kernel
theorem dX13_person_39 : decode cX13_person 39 = .ok (.iconst 0, 1) := by decide +kernel
theorem dX13_person_40 : decode cX13_person 40 = .ok (.iload_n 1, 1) := by decide +kernel
theorem dX13_person_41 : decode cX13_person 41 = .ok (.invokevirtual 311, 3) := by decide +kernel
theorem dX13_person_44 : decode cX13_person 44 = .ok (.ireturn, 1) := by decide +kernel
set_option maxHeartbeats 4000000 in
set_option maxRecDepth 100000 in
theorem B_X13_person {G : zG} {X : zX} {kd : kD} {N0 : Nat} (C : zCt G X 3 0 0 RX13 cX13_person 3) (hr : (zXh X).sig.returnType = (some .int)) : ∀ f : Nat,
    (∀ (S : aS) (v0 : Nat) (v1 : Int32) (v2 : Int32) (res : Option Value × aS), zT0 kd N0 S → v0 < N0 → kd v0 = .inl 11 → F_X13_person f 0 [.ref v0, .int v1, .int v2] S = some res → zV G X (zQX G X (zPo G kd N0 res) 0 0) 3 [some (.ref (zB G + v0)), some (.int v1), some (.int v2)] [] (cn G kd N0 S) 0 0 0) ∧
    (∀ (S : aS)  (res : Option Value × aS), zT0 kd N0 S → F_X13_person f 1 [] S = some res → zV G X (zQX G X (zPo G kd N0 res) 0 0) 3 [none, none, none] [] (cn G kd N0 S) 22 0 0) ∧
    (∀ (S : aS) (w0 : Int32) (res : Option Value × aS), zT0 kd N0 S → F_X13_person f 2 [.int w0] S = some res → zV G X (zQX G X (zPo G kd N0 res) 0 0) 3 [none, none, none] [.int w0] (cn G kd N0 S) 44 0 0) := by
  intro f
  induction f with
  | zero => exact ⟨(fun _ _ _ _ _ _ _ _ h => by cases h), (fun _ _ _ h => by cases h), (fun _ _ _ _ h => by cases h)⟩
  | succ f ih =>
    obtain ⟨ih0, ih1, ih2⟩ := ih
    refine ⟨?_, ?_, ?_⟩
    · intro S v0 v1 v2 res hT hpv0 hkv0 hF
      replace hF : F_X13_person_0 f (F_X13_person f) v0 v1 v2 S = some res := hF
      unfold F_X13_person_0 at hF
      refine z_aload_n C dX13_person_0 rfl ?_
      refine z_iconst (v := 0) C dX13_person_1 (by decide) ?_
      refine f_puti C dX13_person_2 zfRX13_1 fw11_0 hpv0 hkv0 rfl rfl rfl ?_
      have hT1 : zT0 kd N0 (sI S v0 0 0) := zT0_sI hT
      replace hF := fS_e hF
      generalize sI S v0 0 0 = S1 at hF hT1 ⊢
      refine z_aload_n C dX13_person_5 rfl ?_
      refine z_iload_n C dX13_person_6 rfl ?_
      obtain ⟨x2, S2, h2, hF⟩ := bI_some hF
      refine f_cV (st2 := [.int x2]) C dX13_person_7 zyX13_isPerson zvX13_isPerson lkRX13_343 (K_X13_isPerson (l := zXl X) hT1 hpv0 hkv0  h2) hpv0 hkv0 rfl (by decide) rfl rfl (Nat.le_of_ble_eq_true rfl) rfl (fun hT2 => ?_)
      refine z_if_eq C 22 dX13_person_10 (by decide) (fun c3 => ?_) (fun c3 => ?_)
      · replace hF := ip hF c3
        refine z_mask [false, false, false] ?_ rfl
        exact ih1 S2  res hT2  hF
      · replace hF := im hF c3
        refine z_iload_n C dX13_person_13 rfl ?_
        refine z_iconst (v := 0) C dX13_person_14 (by decide) ?_
        refine z_iconst (v := 3) C dX13_person_15 (by decide) ?_
        obtain ⟨x4, S4, h4, hF⟩ := bI_some hF
        refine f_cS (st2 := [.int x4]) C dX13_person_16 zyX13_within zsX13_within lkRX13_339 (K_X13_within (l := zXl X) hT2    h4) (by decide) rfl rfl (Nat.le_of_ble_eq_true rfl) rfl (fun hT4 => ?_)
        refine z_if_ne C 24 dX13_person_19 (by decide) (fun c5 => ?_) (fun c5 => ?_)
        · replace hF := im hF c5
          refine z_iload_n C dX13_person_24 rfl ?_
          refine z_iconst (v := 3) C dX13_person_25 (by decide) ?_
          refine z_icmp_ge C 38 dX13_person_26 (by decide) (fun c7 => ?_) (fun c7 => ?_)
          · replace hF := ip hF c7
            refine z_aload_n C dX13_person_38 rfl ?_
            refine z_iconst (v := 0) C dX13_person_39 (by decide) ?_
            refine z_iload_n C dX13_person_40 rfl ?_
            obtain ⟨x8, S8, h8, hF⟩ := bI_some hF
            refine f_cV (st2 := [.int x8]) C dX13_person_41 zyX13_takesOf zvX13_takesOf lkRX13_311 (K_X13_takesOf (l := zXl X) hT4 hpv0 hkv0   h8) hpv0 hkv0 rfl (by decide) rfl rfl (Nat.le_of_ble_eq_true rfl) rfl (fun hT8 => ?_)
            refine z_mask [false, false, false] ?_ rfl
            exact ih2 S8 x8 res hT8  hF
          · replace hF := im hF c7
            refine z_aload_n C dX13_person_29 rfl ?_
            refine z_iload_n C dX13_person_30 rfl ?_
            refine z_iload_n C dX13_person_31 rfl ?_
            obtain ⟨x9, S9, h9, hF⟩ := bI_some hF
            refine f_cV (st2 := [.int x9]) C dX13_person_32 zyX13_personOf zvX13_personOf lkRX13_305 (K_X13_personOf (l := zXl X) hT4 hpv0 hkv0   h9) hpv0 hkv0 rfl (by decide) rfl rfl (Nat.le_of_ble_eq_true rfl) rfl (fun hT9 => ?_)
            refine z_goto C 44 dX13_person_35 (by decide) ?_
            refine z_mask [false, false, false] ?_ rfl
            exact ih2 S9 x9 res hT9  hF
        · replace hF := ip hF c5
          refine z_mask [false, false, false] ?_ rfl
          exact ih1 S4  res hT4  hF
    · intro S  res hT  hF
      replace hF : F_X13_person_1 f (F_X13_person f)  S = some res := hF
      unfold F_X13_person_1 at hF
      refine z_iconst (v := (-1)) C dX13_person_22 (by decide) ?_
      cases hF
      exact z_iret C hr dX13_person_23 ⟨rfl, rfl, hT⟩
    · intro S w0 res hT  hF
      replace hF : F_X13_person_2 f (F_X13_person f) w0 S = some res := hF
      unfold F_X13_person_2 at hF
      cases hF
      exact z_iret C hr dX13_person_44 ⟨rfl, rfl, hT⟩
theorem K_X13_person {G : zG} {l : Launch} {kd : kD} {N0 f : Nat} {S : aS} {v0 : Nat} {v1 : Int32} {v2 : Int32} {res : Option Value × aS} (hT : zT0 kd N0 S) (hpv0 : v0 < N0) (hkv0 : kd v0 = .inl 11) (hF : F_X13_person f 0 [.ref v0, .int v1, .int v2] S = some res) : zM G l 3 0 0 yX13_person cX13_person 3 (some .int) [.ref (zB G + v0), .int v1, .int v2] (cn G kd N0 S) (zPo G kd N0 res) := zM.of (by decide) rfl (Nat.le_of_ble_eq_true rfl) (fun X _ C hr _ => (B_X13_person C hr f).1 S v0 v1 v2 res hT hpv0 hkv0 hF)
def F_X13_walk_0 (f : Nat) (rc : Nat → List Value → aS → aR) (v0 : Nat) (v1 : Int32) (S : aS) : aR :=
  fS (sI S v0 0 0) fun S1 => bI (F_X13_isPerson f 0 [.ref v0, .int v1] S1) fun x2 S2 => if x2 = (0 : Int32) then some (some (.int ((-1))), S2) else bV (F_X13_keeps f 0 [.ref v0] S2) fun S4 => bI (F_X13_walks f 0 [.ref v0, .int 0, .int v1] S4) fun x5 S5 => some (some (.int x5), S5)
def F_X13_walk : Nat → Nat → List Value → aS → aR
  | 0, _, _, _ => none
  | f + 1, 0, vs, S => F_X13_walk_0 f (F_X13_walk f) (vR vs 0) (vI vs 1) S
  | _ + 1, _, _, _ => none
theorem dX13_walk_0 : decode cX13_walk 0 = .ok (.aload_n 0, 1) := by decide +kernel
theorem dX13_walk_1 : decode cX13_walk 1 = .ok (.iconst 0, 1) := by decide +kernel
theorem dX13_walk_2 : decode cX13_walk 2 = .ok (.putfield 1, 3) := by decide +kernel
theorem dX13_walk_5 : decode cX13_walk 5 = .ok (.aload_n 0, 1) := by decide +kernel
theorem dX13_walk_6 : decode cX13_walk 6 = .ok (.iload_n 1, 1) := by decide +kernel
theorem dX13_walk_7 : decode cX13_walk 7 = .ok (.invokevirtual 343, 3) := by decide +kernel
theorem dX13_walk_10 : decode cX13_walk 10 = .ok (.ifCond .ne 5, 3) := by decide +kernel
theorem dX13_walk_13 : decode cX13_walk 13 = .ok (.iconst (-1), 1) := by decide +kernel
theorem dX13_walk_14 : decode cX13_walk 14 = .ok (.ireturn, 1) := by decide +kernel
theorem dX13_walk_15 : decode cX13_walk 15 = .ok (.aload_n 0, 1) := by decide +kernel
theorem dX13_walk_16 : decode cX13_walk 16 = .ok (.invokevirtual 346, 3) := by decide +kernel
theorem dX13_walk_19 : decode cX13_walk 19 = .ok (.aload_n 0, 1) := by decide +kernel
theorem dX13_walk_20 : decode cX13_walk 20 = .ok (.iconst 0, 1) := by decide +kernel
theorem dX13_walk_21 : decode cX13_walk 21 = .ok (.iload_n 1, 1) := by decide +kernel
theorem dX13_walk_22 : decode cX13_walk 22 = .ok (.invokevirtual 330, 3) := by decide +kernel
theorem dX13_walk_25 : decode cX13_walk 25 = .ok (.ireturn, 1) := by decide +kernel
set_option maxHeartbeats 4000000 in
set_option maxRecDepth 100000 in
theorem B_X13_walk {G : zG} {X : zX} {kd : kD} {N0 : Nat} (C : zCt G X 4 0 0 RX13 cX13_walk 2) (hr : (zXh X).sig.returnType = (some .int)) : ∀ f : Nat,
    (∀ (S : aS) (v0 : Nat) (v1 : Int32) (res : Option Value × aS), zT0 kd N0 S → v0 < N0 → kd v0 = .inl 11 → F_X13_walk f 0 [.ref v0, .int v1] S = some res → zV G X (zQX G X (zPo G kd N0 res) 0 0) 2 [some (.ref (zB G + v0)), some (.int v1)] [] (cn G kd N0 S) 0 0 0) := by
  intro f
  induction f with
  | zero => exact (fun _ _ _ _ _ _ _ h => by cases h)
  | succ f ih =>
    have ih0 := ih
    intro S v0 v1 res hT hpv0 hkv0 hF
    replace hF : F_X13_walk_0 f (F_X13_walk f) v0 v1 S = some res := hF
    unfold F_X13_walk_0 at hF
    refine z_aload_n C dX13_walk_0 rfl ?_
    refine z_iconst (v := 0) C dX13_walk_1 (by decide) ?_
    refine f_puti C dX13_walk_2 zfRX13_1 fw11_0 hpv0 hkv0 rfl rfl rfl ?_
    have hT1 : zT0 kd N0 (sI S v0 0 0) := zT0_sI hT
    replace hF := fS_e hF
    generalize sI S v0 0 0 = S1 at hF hT1 ⊢
    refine z_aload_n C dX13_walk_5 rfl ?_
    refine z_iload_n C dX13_walk_6 rfl ?_
    obtain ⟨x2, S2, h2, hF⟩ := bI_some hF
    refine f_cV (st2 := [.int x2]) C dX13_walk_7 zyX13_isPerson zvX13_isPerson lkRX13_343 (K_X13_isPerson (l := zXl X) hT1 hpv0 hkv0  h2) hpv0 hkv0 rfl (by decide) rfl rfl (Nat.le_of_ble_eq_true rfl) rfl (fun hT2 => ?_)
    refine z_if_ne C 15 dX13_walk_10 (by decide) (fun c3 => ?_) (fun c3 => ?_)
    · replace hF := im hF c3
      refine z_aload_n C dX13_walk_15 rfl ?_
      obtain ⟨S4, h4, hF⟩ := bV_some hF
      refine f_cV (st2 := []) C dX13_walk_16 zyX13_keeps zvX13_keeps lkRX13_346 (K_X13_keeps (l := zXl X) hT2 hpv0 hkv0 h4) hpv0 hkv0 rfl (by decide) rfl rfl (Nat.le_of_ble_eq_true rfl) rfl (fun hT4 => ?_)
      refine z_aload_n C dX13_walk_19 rfl ?_
      refine z_iconst (v := 0) C dX13_walk_20 (by decide) ?_
      refine z_iload_n C dX13_walk_21 rfl ?_
      obtain ⟨x5, S5, h5, hF⟩ := bI_some hF
      refine f_cV (st2 := [.int x5]) C dX13_walk_22 zyX13_walks zvX13_walks lkRX13_330 (K_X13_walks (l := zXl X) hT4 hpv0 hkv0   h5) hpv0 hkv0 rfl (by decide) rfl rfl (Nat.le_of_ble_eq_true rfl) rfl (fun hT5 => ?_)
      cases hF
      exact z_iret C hr dX13_walk_25 ⟨rfl, rfl, hT5⟩
    · replace hF := ip hF c3
      refine z_iconst (v := (-1)) C dX13_walk_13 (by decide) ?_
      cases hF
      exact z_iret C hr dX13_walk_14 ⟨rfl, rfl, hT2⟩
theorem K_X13_walk {G : zG} {l : Launch} {kd : kD} {N0 f : Nat} {S : aS} {v0 : Nat} {v1 : Int32} {res : Option Value × aS} (hT : zT0 kd N0 S) (hpv0 : v0 < N0) (hkv0 : kd v0 = .inl 11) (hF : F_X13_walk f 0 [.ref v0, .int v1] S = some res) : zM G l 4 0 0 yX13_walk cX13_walk 2 (some .int) [.ref (zB G + v0), .int v1] (cn G kd N0 S) (zPo G kd N0 res) := zM.of (by decide) rfl (Nat.le_of_ble_eq_true rfl) (fun X _ C hr _ => (B_X13_walk C hr f) S v0 v1 res hT hpv0 hkv0 hF)
def F_X13_does_0 (f : Nat) (rc : Nat → List Value → aS → aR) (v0 : Nat) (v1 : Int32) (v2 : Int32) (v3 : Int32) (S : aS) : aR :=
  if v1 = (0 : Int32) then rc 1 [.ref v0, .int v1, .int v2, .int v3] S else if v1 = (5 : Int32) then rc 1 [.ref v0, .int v1, .int v2, .int v3] S else bI (F_X13_isYard f 0 [.ref v0, .int v2] S) fun x6 S6 => if x6 = (0 : Int32) then rc 2 [.ref v0, .int v1, .int v2, .int v3] S6 else if v1 = (4 : Int32) then rc 1 [.ref v0, .int v1, .int v2, .int v3] S6 else bI (F_X13_isBin f 0 [.ref v0, .int 756, .int v2] S6) fun x12 S12 => lI (if x12 = (if v1 = (2 : Int32) then (0 : Int32) else (1 : Int32)) then (1 : Int32) else (0 : Int32)) fun y17 => if y17 = (0 : Int32) then rc 3 [.ref v0, .int v1, .int v2, .int v3, .int y17] S12 else if v1 = (0 : Int32) then bI (F_X13_walks f 0 [.ref v0, .int 756, .int v2] S12) fun x32 S32 => rc 4 [.int y17] S32 else rc 3 [.ref v0, .int v1, .int v2, .int v3, .int y17] S12
def F_X13_does_1 (f : Nat) (rc : Nat → List Value → aS → aR) (v0 : Nat) (v1 : Int32) (v2 : Int32) (v3 : Int32) (S : aS) : aR :=
  rc 5 [.ref v0, .int v1, .int v2, .int v3, .int 1] S
def F_X13_does_2 (f : Nat) (rc : Nat → List Value → aS → aR) (v0 : Nat) (v1 : Int32) (v2 : Int32) (v3 : Int32) (S : aS) : aR :=
  rc 5 [.ref v0, .int v1, .int v2, .int v3, .int 0] S
def F_X13_does_3 (f : Nat) (rc : Nat → List Value → aS → aR) (v0 : Nat) (v1 : Int32) (v2 : Int32) (v3 : Int32) (v4 : Int32) (S : aS) : aR :=
  if v4 = (0 : Int32) then rc 6 [.ref v0, .int v1, .int v2, .int v3, .int v4] S else if v1 = (1 : Int32) then bI (F_X13_empties f 0 [.ref v0, .int 756, .int v2] S) fun x45 S45 => rc 4 [.int v4] S45 else rc 6 [.ref v0, .int v1, .int v2, .int v3, .int v4] S
def F_X13_does_4 (f : Nat) (rc : Nat → List Value → aS → aR) (v0 : Int32) (S : aS) : aR :=
  bZ v0 (some (some (.int v0), S))
def F_X13_does_5 (f : Nat) (rc : Nat → List Value → aS → aR) (v0 : Nat) (v1 : Int32) (v2 : Int32) (v3 : Int32) (w0 : Int32) (S : aS) : aR :=
  if w0 = (0 : Int32) then rc 3 [.ref v0, .int v1, .int v2, .int v3, .int w0] S else if v1 = (0 : Int32) then bI (F_X13_walks f 0 [.ref v0, .int 756, .int v2] S) fun x60 S60 => rc 4 [.int w0] S60 else rc 3 [.ref v0, .int v1, .int v2, .int v3, .int w0] S
def F_X13_does_6 (f : Nat) (rc : Nat → List Value → aS → aR) (v0 : Nat) (v1 : Int32) (v2 : Int32) (v3 : Int32) (v4 : Int32) (S : aS) : aR :=
  if v4 = (0 : Int32) then rc 7 [.ref v0, .int v1, .int v2, .int v4] S else if v1 = (2 : Int32) then bX ((768 : Int32) + v2) 828 fun q72 => fS (sI S (gR S v0 22) q72 v3) fun S73 => rc 4 [.int v4] S73 else rc 7 [.ref v0, .int v1, .int v2, .int v4] S
def F_X13_does_7 (f : Nat) (rc : Nat → List Value → aS → aR) (v0 : Nat) (v1 : Int32) (v2 : Int32) (v3 : Int32) (S : aS) : aR :=
  if v3 = (0 : Int32) then rc 8 [.ref v0, .int v1, .int v2, .int v3] S else if v1 = (3 : Int32) then bI (F_X13_offs f 0 [.ref v0, .int 756, .int v2] S) fun x82 S82 => rc 4 [.int v3] S82 else rc 8 [.ref v0, .int v1, .int v2, .int v3] S
def F_X13_does_8 (f : Nat) (rc : Nat → List Value → aS → aR) (v0 : Nat) (v1 : Int32) (v2 : Int32) (v3 : Int32) (S : aS) : aR :=
  if v3 = (0 : Int32) then rc 9 [.ref v0, .int v3] S else if v1 = (4 : Int32) then bX ((760 : Int32) + v2) 828 fun q90 => fS (sI S (gR S v0 22) q90 0) fun S91 => rc 4 [.int v3] S91 else rc 9 [.ref v0, .int v3] S
def F_X13_does_9 (f : Nat) (rc : Nat → List Value → aS → aR) (v0 : Nat) (v1 : Int32) (S : aS) : aR :=
  if v1 = (0 : Int32) then rc 4 [.int v1] S else bI (F_X13_passes f 0 [.ref v0, .int 756] S) fun x94 S94 => rc 4 [.int v1] S94
def F_X13_does : Nat → Nat → List Value → aS → aR
  | 0, _, _, _ => none
  | f + 1, 0, vs, S => F_X13_does_0 f (F_X13_does f) (vR vs 0) (vI vs 1) (vI vs 2) (vI vs 3) S
  | f + 1, 1, vs, S => F_X13_does_1 f (F_X13_does f) (vR vs 0) (vI vs 1) (vI vs 2) (vI vs 3) S
  | f + 1, 2, vs, S => F_X13_does_2 f (F_X13_does f) (vR vs 0) (vI vs 1) (vI vs 2) (vI vs 3) S
  | f + 1, 3, vs, S => F_X13_does_3 f (F_X13_does f) (vR vs 0) (vI vs 1) (vI vs 2) (vI vs 3) (vI vs 4) S
  | f + 1, 4, vs, S => F_X13_does_4 f (F_X13_does f) (vI vs 0) S
  | f + 1, 5, vs, S => F_X13_does_5 f (F_X13_does f) (vR vs 0) (vI vs 1) (vI vs 2) (vI vs 3) (vI vs 4) S
  | f + 1, 6, vs, S => F_X13_does_6 f (F_X13_does f) (vR vs 0) (vI vs 1) (vI vs 2) (vI vs 3) (vI vs 4) S
  | f + 1, 7, vs, S => F_X13_does_7 f (F_X13_does f) (vR vs 0) (vI vs 1) (vI vs 2) (vI vs 3) S
  | f + 1, 8, vs, S => F_X13_does_8 f (F_X13_does f) (vR vs 0) (vI vs 1) (vI vs 2) (vI vs 3) S
  | f + 1, 9, vs, S => F_X13_does_9 f (F_X13_does f) (vR vs 0) (vI vs 1) S
  | _ + 1, _, _, _ => none
theorem dX13_does_0 : decode cX13_does 0 = .ok (.iload_n 1, 1) := by decide +kernel
theorem dX13_does_1 : decode cX13_does 1 = .ok (.ifCond .eq 42, 3) := by decide +kernel
theorem dX13_does_4 : decode cX13_does 4 = .ok (.iload_n 1, 1) := by decide +kernel
theorem dX13_does_5 : decode cX13_does 5 = .ok (.iconst 5, 1) := by decide +kernel
theorem dX13_does_6 : decode cX13_does 6 = .ok (.if_icmp .eq 37, 3) := by decide +kernel
theorem dX13_does_9 : decode cX13_does 9 = .ok (.aload_n 0, 1) := by decide +kernel
theorem dX13_does_10 : decode cX13_does 10 = .ok (.iload_n 2, 1) := by decide +kernel
theorem dX13_does_11 : decode cX13_does 11 = .ok (.invokevirtual 336, 3) := by decide +kernel
theorem dX13_does_14 : decode cX13_does 14 = .ok (.ifCond .eq 33, 3) := by decide +kernel
theorem dX13_does_17 : decode cX13_does 17 = .ok (.iload_n 1, 1) := by decide +kernel
theorem dX13_does_18 : decode cX13_does 18 = .ok (.iconst 4, 1) := by decide +kernel
theorem dX13_does_19 : decode cX13_does 19 = .ok (.if_icmp .eq 24, 3) := by decide +kernel
theorem dX13_does_22 : decode cX13_does 22 = .ok (.aload_n 0, 1) := by decide +kernel
theorem dX13_does_23 : decode cX13_does 23 = .ok (.sipush 756, 3) := by decide +kernel
theorem dX13_does_26 : decode cX13_does 26 = .ok (.iload_n 2, 1) := by decide +kernel
theorem dX13_does_27 : decode cX13_does 27 = .ok (.invokevirtual 349, 3) := by decide +kernel
theorem dX13_does_30 : decode cX13_does 30 = .ok (.iload_n 1, 1) := by decide +kernel
theorem dX13_does_31 : decode cX13_does 31 = .ok (.iconst 2, 1) := by decide +kernel
theorem dX13_does_32 : decode cX13_does 32 = .ok (.if_icmp .eq 7, 3) := by decide +kernel
theorem dX13_does_35 : decode cX13_does 35 = .ok (.iconst 1, 1) := by decide +kernel
theorem dX13_does_36 : decode cX13_does 36 = .ok (.goto 4, 3) := by decide +kernel
theorem dX13_does_39 : decode cX13_does 39 = .ok (.iconst 0, 1) := by decide +kernel
theorem dX13_does_40 : decode cX13_does 40 = .ok (.if_icmp .ne 7, 3) := by decide +kernel
theorem dX13_does_43 : decode cX13_does 43 = .ok (.iconst 1, 1) := by decide +kernel
theorem dX13_does_44 : decode cX13_does 44 = .ok (.goto 4, 3) := by decide +kernel
theorem dX13_does_47 : decode cX13_does 47 = .ok (.iconst 0, 1) := by decide +kernel
theorem dX13_does_48 : decode cX13_does 48 = .ok (.istore 4, 2) := by decide +kernel
theorem dX13_does_50 : decode cX13_does 50 = .ok (.iload 4, 2) := by decide +kernel
theorem dX13_does_52 : decode cX13_does 52 = .ok (.ifCond .eq 19, 3) := by decide +kernel
theorem dX13_does_55 : decode cX13_does 55 = .ok (.iload_n 1, 1) := by decide +kernel
theorem dX13_does_56 : decode cX13_does 56 = .ok (.ifCond .ne 15, 3) := by decide +kernel
theorem dX13_does_59 : decode cX13_does 59 = .ok (.aload_n 0, 1) := by decide +kernel
theorem dX13_does_60 : decode cX13_does 60 = .ok (.sipush 756, 3) := by decide +kernel
theorem dX13_does_63 : decode cX13_does 63 = .ok (.iload_n 2, 1) := by decide +kernel
theorem dX13_does_64 : decode cX13_does 64 = .ok (.invokevirtual 330, 3) := by decide +kernel
theorem dX13_does_67 : decode cX13_does 67 = .ok (.pop, 1) := by decide +kernel
theorem dX13_does_68 : decode cX13_does 68 = .ok (.goto 108, 3) := by decide +kernel
theorem dX13_does_71 : decode cX13_does 71 = .ok (.iload 4, 2) := by decide +kernel
theorem dX13_does_73 : decode cX13_does 73 = .ok (.ifCond .eq 20, 3) := by decide +kernel
theorem dX13_does_76 : decode cX13_does 76 = .ok (.iload_n 1, 1) := by decide +kernel
theorem dX13_does_77 : decode cX13_does 77 = .ok (.iconst 1, 1) := by decide +kernel
theorem dX13_does_78 : decode cX13_does 78 = .ok (.if_icmp .ne 15, 3) := by decide +kernel
theorem dX13_does_81 : decode cX13_does 81 = .ok (.aload_n 0, 1) := by decide +kernel
theorem dX13_does_82 : decode cX13_does 82 = .ok (.sipush 756, 3) := by decide +kernel
theorem dX13_does_85 : decode cX13_does 85 = .ok (.iload_n 2, 1) := by decide +kernel
theorem dX13_does_86 : decode cX13_does 86 = .ok (.invokevirtual 352, 3) := by decide +kernel
theorem dX13_does_89 : decode cX13_does 89 = .ok (.pop, 1) := by decide +kernel
theorem dX13_does_90 : decode cX13_does 90 = .ok (.goto 86, 3) := by decide +kernel
theorem dX13_does_93 : decode cX13_does 93 = .ok (.iload 4, 2) := by decide +kernel
theorem dX13_does_95 : decode cX13_does 95 = .ok (.ifCond .eq 22, 3) := by decide +kernel
theorem dX13_does_98 : decode cX13_does 98 = .ok (.iload_n 1, 1) := by decide +kernel
theorem dX13_does_99 : decode cX13_does 99 = .ok (.iconst 2, 1) := by decide +kernel
theorem dX13_does_100 : decode cX13_does 100 = .ok (.if_icmp .ne 17, 3) := by decide +kernel
theorem dX13_does_103 : decode cX13_does 103 = .ok (.aload_n 0, 1) := by decide +kernel
theorem dX13_does_104 : decode cX13_does 104 = .ok (.getfield 119, 3) := by decide +kernel
theorem dX13_does_107 : decode cX13_does 107 = .ok (.sipush 768, 3) := by decide +kernel
theorem dX13_does_110 : decode cX13_does 110 = .ok (.iload_n 2, 1) := by decide +kernel
theorem dX13_does_111 : decode cX13_does 111 = .ok (.iadd, 1) := by decide +kernel
theorem dX13_does_112 : decode cX13_does 112 = .ok (.iload_n 3, 1) := by decide +kernel
theorem dX13_does_113 : decode cX13_does 113 = .ok (.iastore, 1) := by decide +kernel
theorem dX13_does_114 : decode cX13_does 114 = .ok (.goto 62, 3) := by decide +kernel
theorem dX13_does_117 : decode cX13_does 117 = .ok (.iload 4, 2) := by decide +kernel
theorem dX13_does_119 : decode cX13_does 119 = .ok (.ifCond .eq 20, 3) := by decide +kernel
theorem dX13_does_122 : decode cX13_does 122 = .ok (.iload_n 1, 1) := by decide +kernel
theorem dX13_does_123 : decode cX13_does 123 = .ok (.iconst 3, 1) := by decide +kernel
theorem dX13_does_124 : decode cX13_does 124 = .ok (.if_icmp .ne 15, 3) := by decide +kernel
theorem dX13_does_127 : decode cX13_does 127 = .ok (.aload_n 0, 1) := by decide +kernel
theorem dX13_does_128 : decode cX13_does 128 = .ok (.sipush 756, 3) := by decide +kernel
theorem dX13_does_131 : decode cX13_does 131 = .ok (.iload_n 2, 1) := by decide +kernel
theorem dX13_does_132 : decode cX13_does 132 = .ok (.invokevirtual 355, 3) := by decide +kernel
theorem dX13_does_135 : decode cX13_does 135 = .ok (.pop, 1) := by decide +kernel
theorem dX13_does_136 : decode cX13_does 136 = .ok (.goto 40, 3) := by decide +kernel
theorem dX13_does_139 : decode cX13_does 139 = .ok (.iload 4, 2) := by decide +kernel
theorem dX13_does_141 : decode cX13_does 141 = .ok (.ifCond .eq 22, 3) := by decide +kernel
theorem dX13_does_144 : decode cX13_does 144 = .ok (.iload_n 1, 1) := by decide +kernel
theorem dX13_does_145 : decode cX13_does 145 = .ok (.iconst 4, 1) := by decide +kernel
theorem dX13_does_146 : decode cX13_does 146 = .ok (.if_icmp .ne 17, 3) := by decide +kernel
theorem dX13_does_149 : decode cX13_does 149 = .ok (.aload_n 0, 1) := by decide +kernel
theorem dX13_does_150 : decode cX13_does 150 = .ok (.getfield 119, 3) := by decide +kernel
theorem dX13_does_153 : decode cX13_does 153 = .ok (.sipush 760, 3) := by decide +kernel
theorem dX13_does_156 : decode cX13_does 156 = .ok (.iload_n 2, 1) := by decide +kernel
theorem dX13_does_157 : decode cX13_does 157 = .ok (.iadd, 1) := by decide +kernel
theorem dX13_does_158 : decode cX13_does 158 = .ok (.iconst 0, 1) := by decide +kernel
theorem dX13_does_159 : decode cX13_does 159 = .ok (.iastore, 1) := by decide +kernel
theorem dX13_does_160 : decode cX13_does 160 = .ok (.goto 16, 3) := by decide +kernel
theorem dX13_does_163 : decode cX13_does 163 = .ok (.iload 4, 2) := by decide +kernel
theorem dX13_does_165 : decode cX13_does 165 = .ok (.ifCond .eq 11, 3) := by decide +kernel
theorem dX13_does_168 : decode cX13_does 168 = .ok (.aload_n 0, 1) := by decide +kernel
theorem dX13_does_169 : decode cX13_does 169 = .ok (.sipush 756, 3) := by decide +kernel
theorem dX13_does_172 : decode cX13_does 172 = .ok (.invokevirtual 358, 3) := by decide +kernel
theorem dX13_does_175 : decode cX13_does 175 = .ok (.pop, 1) := by decide +kernel
theorem dX13_does_176 : decode cX13_does 176 = .ok (.iload 4, 2) := by decide +kernel
theorem dX13_does_178 : decode cX13_does 178 = .ok (.ireturn, 1) := by decide +kernel
set_option maxHeartbeats 4000000 in
set_option maxRecDepth 100000 in
theorem B_X13_does {G : zG} {X : zX} {kd : kD} {N0 : Nat} (C : zCt G X 4 0 0 RX13 cX13_does 5) (hr : (zXh X).sig.returnType = (some .boolean)) : ∀ f : Nat,
    (∀ (S : aS) (v0 : Nat) (v1 : Int32) (v2 : Int32) (v3 : Int32) (res : Option Value × aS), zT0 kd N0 S → v0 < N0 → kd v0 = .inl 11 → F_X13_does f 0 [.ref v0, .int v1, .int v2, .int v3] S = some res → zV G X (zQX G X (zPo G kd N0 res) 0 0) 5 [some (.ref (zB G + v0)), some (.int v1), some (.int v2), some (.int v3), none] [] (cn G kd N0 S) 0 0 0) ∧
    (∀ (S : aS) (v0 : Nat) (v1 : Int32) (v2 : Int32) (v3 : Int32) (res : Option Value × aS), zT0 kd N0 S → v0 < N0 → kd v0 = .inl 11 → F_X13_does f 1 [.ref v0, .int v1, .int v2, .int v3] S = some res → zV G X (zQX G X (zPo G kd N0 res) 0 0) 5 [some (.ref (zB G + v0)), some (.int v1), some (.int v2), some (.int v3), none] [] (cn G kd N0 S) 43 0 0) ∧
    (∀ (S : aS) (v0 : Nat) (v1 : Int32) (v2 : Int32) (v3 : Int32) (res : Option Value × aS), zT0 kd N0 S → v0 < N0 → kd v0 = .inl 11 → F_X13_does f 2 [.ref v0, .int v1, .int v2, .int v3] S = some res → zV G X (zQX G X (zPo G kd N0 res) 0 0) 5 [some (.ref (zB G + v0)), some (.int v1), some (.int v2), some (.int v3), none] [] (cn G kd N0 S) 47 0 0) ∧
    (∀ (S : aS) (v0 : Nat) (v1 : Int32) (v2 : Int32) (v3 : Int32) (v4 : Int32) (res : Option Value × aS), zT0 kd N0 S → v0 < N0 → kd v0 = .inl 11 → F_X13_does f 3 [.ref v0, .int v1, .int v2, .int v3, .int v4] S = some res → zV G X (zQX G X (zPo G kd N0 res) 0 0) 5 [some (.ref (zB G + v0)), some (.int v1), some (.int v2), some (.int v3), some (.int v4)] [] (cn G kd N0 S) 71 0 0) ∧
    (∀ (S : aS) (v0 : Int32) (res : Option Value × aS), zT0 kd N0 S → F_X13_does f 4 [.int v0] S = some res → zV G X (zQX G X (zPo G kd N0 res) 0 0) 5 [none, none, none, none, some (.int v0)] [] (cn G kd N0 S) 176 0 0) ∧
    (∀ (S : aS) (v0 : Nat) (v1 : Int32) (v2 : Int32) (v3 : Int32) (w0 : Int32) (res : Option Value × aS), zT0 kd N0 S → v0 < N0 → kd v0 = .inl 11 → F_X13_does f 5 [.ref v0, .int v1, .int v2, .int v3, .int w0] S = some res → zV G X (zQX G X (zPo G kd N0 res) 0 0) 5 [some (.ref (zB G + v0)), some (.int v1), some (.int v2), some (.int v3), none] [.int w0] (cn G kd N0 S) 48 0 0) ∧
    (∀ (S : aS) (v0 : Nat) (v1 : Int32) (v2 : Int32) (v3 : Int32) (v4 : Int32) (res : Option Value × aS), zT0 kd N0 S → v0 < N0 → kd v0 = .inl 11 → F_X13_does f 6 [.ref v0, .int v1, .int v2, .int v3, .int v4] S = some res → zV G X (zQX G X (zPo G kd N0 res) 0 0) 5 [some (.ref (zB G + v0)), some (.int v1), some (.int v2), some (.int v3), some (.int v4)] [] (cn G kd N0 S) 93 0 0) ∧
    (∀ (S : aS) (v0 : Nat) (v1 : Int32) (v2 : Int32) (v3 : Int32) (res : Option Value × aS), zT0 kd N0 S → v0 < N0 → kd v0 = .inl 11 → F_X13_does f 7 [.ref v0, .int v1, .int v2, .int v3] S = some res → zV G X (zQX G X (zPo G kd N0 res) 0 0) 5 [some (.ref (zB G + v0)), some (.int v1), some (.int v2), none, some (.int v3)] [] (cn G kd N0 S) 117 0 0) ∧
    (∀ (S : aS) (v0 : Nat) (v1 : Int32) (v2 : Int32) (v3 : Int32) (res : Option Value × aS), zT0 kd N0 S → v0 < N0 → kd v0 = .inl 11 → F_X13_does f 8 [.ref v0, .int v1, .int v2, .int v3] S = some res → zV G X (zQX G X (zPo G kd N0 res) 0 0) 5 [some (.ref (zB G + v0)), some (.int v1), some (.int v2), none, some (.int v3)] [] (cn G kd N0 S) 139 0 0) ∧
    (∀ (S : aS) (v0 : Nat) (v1 : Int32) (res : Option Value × aS), zT0 kd N0 S → v0 < N0 → kd v0 = .inl 11 → F_X13_does f 9 [.ref v0, .int v1] S = some res → zV G X (zQX G X (zPo G kd N0 res) 0 0) 5 [some (.ref (zB G + v0)), none, none, none, some (.int v1)] [] (cn G kd N0 S) 163 0 0) := by
  intro f
  induction f with
  | zero => exact ⟨(fun _ _ _ _ _ _ _ _ _ h => by cases h), (fun _ _ _ _ _ _ _ _ _ h => by cases h), (fun _ _ _ _ _ _ _ _ _ h => by cases h), (fun _ _ _ _ _ _ _ _ _ _ h => by cases h), (fun _ _ _ _ h => by cases h), (fun _ _ _ _ _ _ _ _ _ _ h => by cases h), (fun _ _ _ _ _ _ _ _ _ _ h => by cases h), (fun _ _ _ _ _ _ _ _ _ h => by cases h), (fun _ _ _ _ _ _ _ _ _ h => by cases h), (fun _ _ _ _ _ _ _ h => by cases h)⟩
  | succ f ih =>
    obtain ⟨ih0, ih1, ih2, ih3, ih4, ih5, ih6, ih7, ih8, ih9⟩ := ih
    refine ⟨?_, ?_, ?_, ?_, ?_, ?_, ?_, ?_, ?_, ?_⟩
    · intro S v0 v1 v2 v3 res hT hpv0 hkv0 hF
      replace hF : F_X13_does_0 f (F_X13_does f) v0 v1 v2 v3 S = some res := hF
      unfold F_X13_does_0 at hF
      refine z_iload_n C dX13_does_0 rfl ?_
      refine z_if_eq C 43 dX13_does_1 (by decide) (fun c3 => ?_) (fun c3 => ?_)
      · replace hF := ip hF c3
        exact ih1 S v0 v1 v2 v3 res hT hpv0 hkv0    hF
      · replace hF := im hF c3
        refine z_iload_n C dX13_does_4 rfl ?_
        refine z_iconst (v := 5) C dX13_does_5 (by decide) ?_
        refine z_icmp_eq C 43 dX13_does_6 (by decide) (fun c5 => ?_) (fun c5 => ?_)
        · replace hF := ip hF c5
          exact ih1 S v0 v1 v2 v3 res hT hpv0 hkv0    hF
        · replace hF := im hF c5
          refine z_aload_n C dX13_does_9 rfl ?_
          refine z_iload_n C dX13_does_10 rfl ?_
          obtain ⟨x6, S6, h6, hF⟩ := bI_some hF
          refine f_cV (st2 := [.int x6]) C dX13_does_11 zyX13_isYard zvX13_isYard lkRX13_336 (K_X13_isYard (l := zXl X) hT hpv0 hkv0  h6) hpv0 hkv0 rfl (by decide) rfl rfl (Nat.le_of_ble_eq_true rfl) rfl (fun hT6 => ?_)
          refine z_if_eq C 47 dX13_does_14 (by decide) (fun c9 => ?_) (fun c9 => ?_)
          · replace hF := ip hF c9
            exact ih2 S6 v0 v1 v2 v3 res hT6 hpv0 hkv0    hF
          · replace hF := im hF c9
            refine z_iload_n C dX13_does_17 rfl ?_
            refine z_iconst (v := 4) C dX13_does_18 (by decide) ?_
            refine z_icmp_eq C 43 dX13_does_19 (by decide) (fun c11 => ?_) (fun c11 => ?_)
            · replace hF := ip hF c11
              exact ih1 S6 v0 v1 v2 v3 res hT6 hpv0 hkv0    hF
            · replace hF := im hF c11
              refine z_aload_n C dX13_does_22 rfl ?_
              refine z_sipush (v := 756) C dX13_does_23 (by decide) ?_
              refine z_iload_n C dX13_does_26 rfl ?_
              obtain ⟨x12, S12, h12, hF⟩ := bI_some hF
              refine f_cV (st2 := [.int x12]) C dX13_does_27 zyX13_isBin zvX13_isBin lkRX13_349 (K_X13_isBin (l := zXl X) hT6 hpv0 hkv0   h12) hpv0 hkv0 rfl (by decide) rfl rfl (Nat.le_of_ble_eq_true rfl) rfl (fun hT12 => ?_)
              refine z_iload_n C dX13_does_30 rfl ?_
              refine z_iconst (v := 2) C dX13_does_31 (by decide) ?_
              have hJ14 : zV G X (zQX G X (zPo G kd N0 res) 0 0) 5 [some (.ref (zB G + v0)), some (.int v1), some (.int v2), some (.int v3), none] [.int (if v1 = (2 : Int32) then (0 : Int32) else (1 : Int32)), .int x12] (cn G kd N0 S12) 40 0 0 := by
                have hJ16 : zV G X (zQX G X (zPo G kd N0 res) 0 0) 5 [some (.ref (zB G + v0)), some (.int v1), some (.int v2), some (.int v3), none] [.int (if x12 = (if v1 = (2 : Int32) then (0 : Int32) else (1 : Int32)) then (1 : Int32) else (0 : Int32))] (cn G kd N0 S12) 48 0 0 := by
                  replace hF := lI_e hF
                  generalize (if x12 = (if v1 = (2 : Int32) then (0 : Int32) else (1 : Int32)) then (1 : Int32) else (0 : Int32)) = y17 at hF ⊢
                  refine z_istore (lv2 := [some (.ref (zB G + v0)), some (.int v1), some (.int v2), some (.int v3), some (.int y17)]) C dX13_does_48 (by decide) rfl ?_
                  refine z_iload C dX13_does_50 rfl ?_
                  refine z_if_eq C 71 dX13_does_52 (by decide) (fun c24 => ?_) (fun c24 => ?_)
                  · replace hF := ip hF c24
                    exact ih3 S12 v0 v1 v2 v3 y17 res hT12 hpv0 hkv0     hF
                  · replace hF := im hF c24
                    refine z_iload_n C dX13_does_55 rfl ?_
                    refine z_if_ne C 71 dX13_does_56 (by decide) (fun c31 => ?_) (fun c31 => ?_)
                    · replace hF := im hF c31
                      exact ih3 S12 v0 v1 v2 v3 y17 res hT12 hpv0 hkv0     hF
                    · replace hF := ip hF c31
                      refine z_aload_n C dX13_does_59 rfl ?_
                      refine z_sipush (v := 756) C dX13_does_60 (by decide) ?_
                      refine z_iload_n C dX13_does_63 rfl ?_
                      obtain ⟨x32, S32, h32, hF⟩ := bI_some hF
                      refine f_cV (st2 := [.int x32]) C dX13_does_64 zyX13_walks zvX13_walks lkRX13_330 (K_X13_walks (l := zXl X) hT12 hpv0 hkv0   h32) hpv0 hkv0 rfl (by decide) rfl rfl (Nat.le_of_ble_eq_true rfl) rfl (fun hT32 => ?_)
                      refine z_pop C dX13_does_67 rfl ?_
                      refine z_goto C 176 dX13_does_68 (by decide) ?_
                      refine z_mask [false, false, false, false, true] ?_ rfl
                      exact ih4 S32 y17 res hT32  hF
                refine z_icmp_ne C 47 dX13_does_40 (by decide) (fun c15 => ?_) (fun c15 => ?_)
                · refine z_iconst (v := 0) C dX13_does_47 (by decide) ?_
                  exact zV.at hJ16 (by first | rfl | contradiction | (simp only [if_neg c15]; done)) (by first | rfl | contradiction | (simp only [if_neg c15]; done)) rfl rfl
                · refine z_iconst (v := 1) C dX13_does_43 (by decide) ?_
                  refine z_goto C 48 dX13_does_44 (by decide) ?_
                  exact zV.at hJ16 (by first | rfl | contradiction | (simp only [if_pos c15]; done)) (by first | rfl | contradiction | (simp only [if_pos c15]; done)) rfl rfl
              refine z_icmp_eq C 39 dX13_does_32 (by decide) (fun c13 => ?_) (fun c13 => ?_)
              · refine z_iconst (v := 0) C dX13_does_39 (by decide) ?_
                exact zV.at hJ14 (by first | rfl | contradiction | (simp only [if_pos c13]; done)) (by first | rfl | contradiction | (simp only [if_pos c13]; done)) rfl rfl
              · refine z_iconst (v := 1) C dX13_does_35 (by decide) ?_
                refine z_goto C 40 dX13_does_36 (by decide) ?_
                exact zV.at hJ14 (by first | rfl | contradiction | (simp only [if_neg c13]; done)) (by first | rfl | contradiction | (simp only [if_neg c13]; done)) rfl rfl
    · intro S v0 v1 v2 v3 res hT hpv0 hkv0 hF
      replace hF : F_X13_does_1 f (F_X13_does f) v0 v1 v2 v3 S = some res := hF
      unfold F_X13_does_1 at hF
      refine z_iconst (v := 1) C dX13_does_43 (by decide) ?_
      refine z_goto C 48 dX13_does_44 (by decide) ?_
      exact ih5 S v0 v1 v2 v3 1 res hT hpv0 hkv0     hF
    · intro S v0 v1 v2 v3 res hT hpv0 hkv0 hF
      replace hF : F_X13_does_2 f (F_X13_does f) v0 v1 v2 v3 S = some res := hF
      unfold F_X13_does_2 at hF
      refine z_iconst (v := 0) C dX13_does_47 (by decide) ?_
      exact ih5 S v0 v1 v2 v3 0 res hT hpv0 hkv0     hF
    · intro S v0 v1 v2 v3 v4 res hT hpv0 hkv0 hF
      replace hF : F_X13_does_3 f (F_X13_does f) v0 v1 v2 v3 v4 S = some res := hF
      unfold F_X13_does_3 at hF
      refine z_iload C dX13_does_71 rfl ?_
      refine z_if_eq C 93 dX13_does_73 (by decide) (fun c38 => ?_) (fun c38 => ?_)
      · replace hF := ip hF c38
        exact ih6 S v0 v1 v2 v3 v4 res hT hpv0 hkv0     hF
      · replace hF := im hF c38
        refine z_iload_n C dX13_does_76 rfl ?_
        refine z_iconst (v := 1) C dX13_does_77 (by decide) ?_
        refine z_icmp_ne C 93 dX13_does_78 (by decide) (fun c44 => ?_) (fun c44 => ?_)
        · replace hF := im hF c44
          exact ih6 S v0 v1 v2 v3 v4 res hT hpv0 hkv0     hF
        · replace hF := ip hF c44
          refine z_aload_n C dX13_does_81 rfl ?_
          refine z_sipush (v := 756) C dX13_does_82 (by decide) ?_
          refine z_iload_n C dX13_does_85 rfl ?_
          obtain ⟨x45, S45, h45, hF⟩ := bI_some hF
          refine f_cV (st2 := [.int x45]) C dX13_does_86 zyX13_empties zvX13_empties lkRX13_352 (K_X13_empties (l := zXl X) hT hpv0 hkv0   h45) hpv0 hkv0 rfl (by decide) rfl rfl (Nat.le_of_ble_eq_true rfl) rfl (fun hT45 => ?_)
          refine z_pop C dX13_does_89 rfl ?_
          refine z_goto C 176 dX13_does_90 (by decide) ?_
          refine z_mask [false, false, false, false, true] ?_ rfl
          exact ih4 S45 v4 res hT45  hF
    · intro S v0 res hT  hF
      replace hF : F_X13_does_4 f (F_X13_does f) v0 S = some res := hF
      unfold F_X13_does_4 at hF
      refine z_iload C dX13_does_176 rfl ?_
      obtain ⟨hz, hF⟩ := bZ_some hF
      cases hF
      exact z_zret C hr hz.1 dX13_does_178 ⟨rfl, rfl, hT⟩
    · intro S v0 v1 v2 v3 w0 res hT hpv0 hkv0 hF
      replace hF : F_X13_does_5 f (F_X13_does f) v0 v1 v2 v3 w0 S = some res := hF
      unfold F_X13_does_5 at hF
      refine z_istore (lv2 := [some (.ref (zB G + v0)), some (.int v1), some (.int v2), some (.int v3), some (.int w0)]) C dX13_does_48 (by decide) rfl ?_
      refine z_iload C dX13_does_50 rfl ?_
      refine z_if_eq C 71 dX13_does_52 (by decide) (fun c52 => ?_) (fun c52 => ?_)
      · replace hF := ip hF c52
        exact ih3 S v0 v1 v2 v3 w0 res hT hpv0 hkv0     hF
      · replace hF := im hF c52
        refine z_iload_n C dX13_does_55 rfl ?_
        refine z_if_ne C 71 dX13_does_56 (by decide) (fun c59 => ?_) (fun c59 => ?_)
        · replace hF := im hF c59
          exact ih3 S v0 v1 v2 v3 w0 res hT hpv0 hkv0     hF
        · replace hF := ip hF c59
          refine z_aload_n C dX13_does_59 rfl ?_
          refine z_sipush (v := 756) C dX13_does_60 (by decide) ?_
          refine z_iload_n C dX13_does_63 rfl ?_
          obtain ⟨x60, S60, h60, hF⟩ := bI_some hF
          refine f_cV (st2 := [.int x60]) C dX13_does_64 zyX13_walks zvX13_walks lkRX13_330 (K_X13_walks (l := zXl X) hT hpv0 hkv0   h60) hpv0 hkv0 rfl (by decide) rfl rfl (Nat.le_of_ble_eq_true rfl) rfl (fun hT60 => ?_)
          refine z_pop C dX13_does_67 rfl ?_
          refine z_goto C 176 dX13_does_68 (by decide) ?_
          refine z_mask [false, false, false, false, true] ?_ rfl
          exact ih4 S60 w0 res hT60  hF
    · intro S v0 v1 v2 v3 v4 res hT hpv0 hkv0 hF
      replace hF : F_X13_does_6 f (F_X13_does f) v0 v1 v2 v3 v4 S = some res := hF
      unfold F_X13_does_6 at hF
      refine z_iload C dX13_does_93 rfl ?_
      refine z_if_eq C 117 dX13_does_95 (by decide) (fun c65 => ?_) (fun c65 => ?_)
      · replace hF := ip hF c65
        refine z_mask [true, true, true, false, true] ?_ rfl
        exact ih7 S v0 v1 v2 v4 res hT hpv0 hkv0    hF
      · replace hF := im hF c65
        refine z_iload_n C dX13_does_98 rfl ?_
        refine z_iconst (v := 2) C dX13_does_99 (by decide) ?_
        refine z_icmp_ne C 117 dX13_does_100 (by decide) (fun c70 => ?_) (fun c70 => ?_)
        · replace hF := im hF c70
          refine z_mask [true, true, true, false, true] ?_ rfl
          exact ih7 S v0 v1 v2 v4 res hT hpv0 hkv0    hF
        · replace hF := ip hF c70
          refine z_aload_n C dX13_does_103 rfl ?_
          refine f_getr C dX13_does_104 zfRX13_119 hpv0 hkv0 rfl ?_
          obtain ⟨hp71, hk71⟩ := hT.1 v0 11 22 (.inr (0, 828)) hpv0 hkv0 rfl
          refine z_sipush (v := 768) C dX13_does_107 (by decide) ?_
          refine z_iload_n C dX13_does_110 rfl ?_
          refine z_iadd C dX13_does_111 ?_
          refine z_iload_n C dX13_does_112 rfl ?_
          obtain ⟨hi72, hF⟩ := bX_some hF
          obtain ⟨q72, eq72⟩ : ∃ q : Nat, q = Int32.toNatClampNeg ((768 : Int32) + v2) := ⟨_, rfl⟩
          rw [← eq72] at hF
          refine f_iast C dX13_does_113 hp71 hk71 hi72 ?_
          rw [← eq72]
          have hT73 : zT0 kd N0 (sI S (gR S v0 22) q72 v3) := zT0_sI hT
          replace hF := fS_e hF
          generalize sI S (gR S v0 22) q72 v3 = S73 at hF hT73 ⊢
          refine z_goto C 176 dX13_does_114 (by decide) ?_
          refine z_mask [false, false, false, false, true] ?_ rfl
          exact ih4 S73 v4 res hT73  hF
    · intro S v0 v1 v2 v3 res hT hpv0 hkv0 hF
      replace hF : F_X13_does_7 f (F_X13_does f) v0 v1 v2 v3 S = some res := hF
      unfold F_X13_does_7 at hF
      refine z_iload C dX13_does_117 rfl ?_
      refine z_if_eq C 139 dX13_does_119 (by decide) (fun c77 => ?_) (fun c77 => ?_)
      · replace hF := ip hF c77
        exact ih8 S v0 v1 v2 v3 res hT hpv0 hkv0    hF
      · replace hF := im hF c77
        refine z_iload_n C dX13_does_122 rfl ?_
        refine z_iconst (v := 3) C dX13_does_123 (by decide) ?_
        refine z_icmp_ne C 139 dX13_does_124 (by decide) (fun c81 => ?_) (fun c81 => ?_)
        · replace hF := im hF c81
          exact ih8 S v0 v1 v2 v3 res hT hpv0 hkv0    hF
        · replace hF := ip hF c81
          refine z_aload_n C dX13_does_127 rfl ?_
          refine z_sipush (v := 756) C dX13_does_128 (by decide) ?_
          refine z_iload_n C dX13_does_131 rfl ?_
          obtain ⟨x82, S82, h82, hF⟩ := bI_some hF
          refine f_cV (st2 := [.int x82]) C dX13_does_132 zyX13_offs zvX13_offs lkRX13_355 (K_X13_offs (l := zXl X) hT hpv0 hkv0   h82) hpv0 hkv0 rfl (by decide) rfl rfl (Nat.le_of_ble_eq_true rfl) rfl (fun hT82 => ?_)
          refine z_pop C dX13_does_135 rfl ?_
          refine z_goto C 176 dX13_does_136 (by decide) ?_
          refine z_mask [false, false, false, true, true] ?_ rfl
          exact ih4 S82 v3 res hT82  hF
    · intro S v0 v1 v2 v3 res hT hpv0 hkv0 hF
      replace hF : F_X13_does_8 f (F_X13_does f) v0 v1 v2 v3 S = some res := hF
      unfold F_X13_does_8 at hF
      refine z_iload C dX13_does_139 rfl ?_
      refine z_if_eq C 163 dX13_does_141 (by decide) (fun c85 => ?_) (fun c85 => ?_)
      · replace hF := ip hF c85
        refine z_mask [true, false, false, true, true] ?_ rfl
        exact ih9 S v0 v3 res hT hpv0 hkv0  hF
      · replace hF := im hF c85
        refine z_iload_n C dX13_does_144 rfl ?_
        refine z_iconst (v := 4) C dX13_does_145 (by decide) ?_
        refine z_icmp_ne C 163 dX13_does_146 (by decide) (fun c88 => ?_) (fun c88 => ?_)
        · replace hF := im hF c88
          refine z_mask [true, false, false, true, true] ?_ rfl
          exact ih9 S v0 v3 res hT hpv0 hkv0  hF
        · replace hF := ip hF c88
          refine z_aload_n C dX13_does_149 rfl ?_
          refine f_getr C dX13_does_150 zfRX13_119 hpv0 hkv0 rfl ?_
          obtain ⟨hp89, hk89⟩ := hT.1 v0 11 22 (.inr (0, 828)) hpv0 hkv0 rfl
          refine z_sipush (v := 760) C dX13_does_153 (by decide) ?_
          refine z_iload_n C dX13_does_156 rfl ?_
          refine z_iadd C dX13_does_157 ?_
          refine z_iconst (v := 0) C dX13_does_158 (by decide) ?_
          obtain ⟨hi90, hF⟩ := bX_some hF
          obtain ⟨q90, eq90⟩ : ∃ q : Nat, q = Int32.toNatClampNeg ((760 : Int32) + v2) := ⟨_, rfl⟩
          rw [← eq90] at hF
          refine f_iast C dX13_does_159 hp89 hk89 hi90 ?_
          rw [← eq90]
          have hT91 : zT0 kd N0 (sI S (gR S v0 22) q90 0) := zT0_sI hT
          replace hF := fS_e hF
          generalize sI S (gR S v0 22) q90 0 = S91 at hF hT91 ⊢
          refine z_goto C 176 dX13_does_160 (by decide) ?_
          refine z_mask [false, false, false, true, true] ?_ rfl
          exact ih4 S91 v3 res hT91  hF
    · intro S v0 v1 res hT hpv0 hkv0 hF
      replace hF : F_X13_does_9 f (F_X13_does f) v0 v1 S = some res := hF
      unfold F_X13_does_9 at hF
      refine z_iload C dX13_does_163 rfl ?_
      refine z_if_eq C 176 dX13_does_165 (by decide) (fun c93 => ?_) (fun c93 => ?_)
      · replace hF := ip hF c93
        refine z_mask [false, true, true, true, true] ?_ rfl
        exact ih4 S v1 res hT  hF
      · replace hF := im hF c93
        refine z_aload_n C dX13_does_168 rfl ?_
        refine z_sipush (v := 756) C dX13_does_169 (by decide) ?_
        obtain ⟨x94, S94, h94, hF⟩ := bI_some hF
        refine f_cV (st2 := [.int x94]) C dX13_does_172 zyX13_passes zvX13_passes lkRX13_358 (K_X13_passes (l := zXl X) hT hpv0 hkv0  h94) hpv0 hkv0 rfl (by decide) rfl rfl (Nat.le_of_ble_eq_true rfl) rfl (fun hT94 => ?_)
        refine z_pop C dX13_does_175 rfl ?_
        refine z_mask [false, true, true, true, true] ?_ rfl
        exact ih4 S94 v1 res hT94  hF
theorem K_X13_does {G : zG} {l : Launch} {kd : kD} {N0 f : Nat} {S : aS} {v0 : Nat} {v1 : Int32} {v2 : Int32} {v3 : Int32} {res : Option Value × aS} (hT : zT0 kd N0 S) (hpv0 : v0 < N0) (hkv0 : kd v0 = .inl 11) (hF : F_X13_does f 0 [.ref v0, .int v1, .int v2, .int v3] S = some res) : zM G l 4 0 0 yX13_does cX13_does 5 (some .boolean) [.ref (zB G + v0), .int v1, .int v2, .int v3] (cn G kd N0 S) (zPo G kd N0 res) := zM.of (by decide) rfl (Nat.le_of_ble_eq_true rfl) (fun X _ C hr _ => (B_X13_does C hr f).1 S v0 v1 v2 v3 res hT hpv0 hkv0 hF)
def F_X13_judged_0 (f : Nat) (rc : Nat → List Value → aS → aR) (v0 : Nat) (v1 : Int32) (S : aS) : aR :=
  fS (sI S v0 0 0) fun S1 => bI (F_X13_within f 0 [.int v1, .int 0, .int 2] S1) fun x2 S2 => if x2 = (0 : Int32) then some (some (.int ((-2))), S2) else bV (F_X13_starts f 0 [.ref v0, .int 756] S2) fun S4 => rc 1 [.ref v0, .int v1, .int ((-1)), .int ((-1)), .int 0] S4
def F_X13_judged_1 (f : Nat) (rc : Nat → List Value → aS → aR) (v0 : Nat) (v1 : Int32) (v2 : Int32) (v3 : Int32) (v4 : Int32) (S : aS) : aR :=
  bX 0 250 fun q6 => if (gI S (gR S v0 19) q6) ≤ v4 then if v1 = (0 : Int32) then rc 2 [.int v2] S else if v1 = (1 : Int32) then rc 2 [.int v3] S else bI (F_X13_lyingIn f 0 [.ref v0, .int 756] S) fun x15 S15 => rc 2 [.int x15] S15 else bX ((1 : Int32) + ((3 : Int32) * v4)) 250 fun q17 => bX ((2 : Int32) + ((3 : Int32) * v4)) 250 fun q19 => bX ((3 : Int32) + ((3 : Int32) * v4)) 250 fun q21 => bI (F_X13_does f 0 [.ref v0, .int (gI S (gR S v0 19) q17), .int (gI S (gR S v0 19) q19), .int (gI S (gR S v0 19) q21)] S) fun x22 S22 => lI (if x22 = (0 : Int32) then if (0 : Int32) ≤ v2 then v2 else v4 else v2) fun y26 => lI (if (gI S (gR S v0 19) q17) = (0 : Int32) then if (gI S22 v0 26) ≤ (0 : Int32) then v3 else if (0 : Int32) ≤ v3 then v3 else v4 else v3) fun y31 => rc 1 [.ref v0, .int v1, .int y26, .int y31, .int (v4 + 1)] S22
def F_X13_judged_2 (f : Nat) (rc : Nat → List Value → aS → aR) (w0 : Int32) (S : aS) : aR :=
  some (some (.int w0), S)
def F_X13_judged : Nat → Nat → List Value → aS → aR
  | 0, _, _, _ => none
  | f + 1, 0, vs, S => F_X13_judged_0 f (F_X13_judged f) (vR vs 0) (vI vs 1) S
  | f + 1, 1, vs, S => F_X13_judged_1 f (F_X13_judged f) (vR vs 0) (vI vs 1) (vI vs 2) (vI vs 3) (vI vs 4) S
  | f + 1, 2, vs, S => F_X13_judged_2 f (F_X13_judged f) (vI vs 0) S
  | _ + 1, _, _, _ => none
theorem dX13_judged_0 : decode cX13_judged 0 = .ok (.aload_n 0, 1) := by decide +kernel
theorem dX13_judged_1 : decode cX13_judged 1 = .ok (.iconst 0, 1) := by decide +kernel
theorem dX13_judged_2 : decode cX13_judged 2 = .ok (.putfield 1, 3) := by decide +kernel
theorem dX13_judged_5 : decode cX13_judged 5 = .ok (.iload_n 1, 1) := by decide +kernel
theorem dX13_judged_6 : decode cX13_judged 6 = .ok (.iconst 0, 1) := by decide +kernel
theorem dX13_judged_7 : decode cX13_judged 7 = .ok (.iconst 2, 1) := by decide +kernel
theorem dX13_judged_8 : decode cX13_judged 8 = .ok (.invokestatic 339, 3) := by decide +kernel
theorem dX13_judged_11 : decode cX13_judged 11 = .ok (.ifCond .ne 6, 3) := by decide +kernel
theorem dX13_judged_14 : decode cX13_judged 14 = .ok (.bipush (-2), 2) := by decide +kernel
theorem dX13_judged_16 : decode cX13_judged 16 = .ok (.ireturn, 1) := by decide +kernel
theorem dX13_judged_17 : decode cX13_judged 17 = .ok (.aload_n 0, 1) := by decide +kernel
theorem dX13_judged_18 : decode cX13_judged 18 = .ok (.sipush 756, 3) := by decide +kernel
theorem dX13_judged_21 : decode cX13_judged 21 = .ok (.invokevirtual 282, 3) := by decide +kernel
theorem dX13_judged_24 : decode cX13_judged 24 = .ok (.iconst (-1), 1) := by decide +kernel
theorem dX13_judged_25 : decode cX13_judged 25 = .ok (.istore_n 2, 1) := by decide +kernel
theorem dX13_judged_26 : decode cX13_judged 26 = .ok (.iconst (-1), 1) := by decide +kernel
theorem dX13_judged_27 : decode cX13_judged 27 = .ok (.istore_n 3, 1) := by decide +kernel
theorem dX13_judged_28 : decode cX13_judged 28 = .ok (.iconst 0, 1) := by decide +kernel
theorem dX13_judged_29 : decode cX13_judged 29 = .ok (.istore 4, 2) := by decide +kernel
theorem dX13_judged_31 : decode cX13_judged 31 = .ok (.iload 4, 2) := by decide +kernel
theorem dX13_judged_33 : decode cX13_judged 33 = .ok (.aload_n 0, 1) := by decide +kernel
theorem dX13_judged_34 : decode cX13_judged 34 = .ok (.getfield 110, 3) := by decide +kernel
theorem dX13_judged_37 : decode cX13_judged 37 = .ok (.iconst 0, 1) := by decide +kernel
theorem dX13_judged_38 : decode cX13_judged 38 = .ok (.iaload, 1) := by decide +kernel
theorem dX13_judged_39 : decode cX13_judged 39 = .ok (.if_icmp .ge 91, 3) := by decide +kernel
theorem dX13_judged_42 : decode cX13_judged 42 = .ok (.aload_n 0, 1) := by decide +kernel
theorem dX13_judged_43 : decode cX13_judged 43 = .ok (.getfield 110, 3) := by decide +kernel
theorem dX13_judged_46 : decode cX13_judged 46 = .ok (.iconst 1, 1) := by decide +kernel
theorem dX13_judged_47 : decode cX13_judged 47 = .ok (.iconst 3, 1) := by decide +kernel
theorem dX13_judged_48 : decode cX13_judged 48 = .ok (.iload 4, 2) := by decide +kernel
theorem dX13_judged_50 : decode cX13_judged 50 = .ok (.imul, 1) := by decide +kernel
theorem dX13_judged_51 : decode cX13_judged 51 = .ok (.iadd, 1) := by decide +kernel
theorem dX13_judged_52 : decode cX13_judged 52 = .ok (.iaload, 1) := by decide +kernel
theorem dX13_judged_53 : decode cX13_judged 53 = .ok (.istore 5, 2) := by decide +kernel
theorem dX13_judged_55 : decode cX13_judged 55 = .ok (.aload_n 0, 1) := by decide +kernel
theorem dX13_judged_56 : decode cX13_judged 56 = .ok (.iload 5, 2) := by decide +kernel
theorem dX13_judged_58 : decode cX13_judged 58 = .ok (.aload_n 0, 1) := by decide +kernel
theorem dX13_judged_59 : decode cX13_judged 59 = .ok (.getfield 110, 3) := by decide +kernel
theorem dX13_judged_62 : decode cX13_judged 62 = .ok (.iconst 2, 1) := by decide +kernel
theorem dX13_judged_63 : decode cX13_judged 63 = .ok (.iconst 3, 1) := by decide +kernel
theorem dX13_judged_64 : decode cX13_judged 64 = .ok (.iload 4, 2) := by decide +kernel
theorem dX13_judged_66 : decode cX13_judged 66 = .ok (.imul, 1) := by decide +kernel
theorem dX13_judged_67 : decode cX13_judged 67 = .ok (.iadd, 1) := by decide +kernel
theorem dX13_judged_68 : decode cX13_judged 68 = .ok (.iaload, 1) := by decide +kernel
theorem dX13_judged_69 : decode cX13_judged 69 = .ok (.aload_n 0, 1) := by decide +kernel
theorem dX13_judged_70 : decode cX13_judged 70 = .ok (.getfield 110, 3) := by decide +kernel
theorem dX13_judged_73 : decode cX13_judged 73 = .ok (.iconst 3, 1) := by decide +kernel
theorem dX13_judged_74 : decode cX13_judged 74 = .ok (.iconst 3, 1) := by decide +kernel
theorem dX13_judged_75 : decode cX13_judged 75 = .ok (.iload 4, 2) := by decide +kernel
theorem dX13_judged_77 : decode cX13_judged 77 = .ok (.imul, 1) := by decide +kernel
theorem dX13_judged_78 : decode cX13_judged 78 = .ok (.iadd, 1) := by decide +kernel
theorem dX13_judged_79 : decode cX13_judged 79 = .ok (.iaload, 1) := by decide +kernel
theorem dX13_judged_80 : decode cX13_judged 80 = .ok (.invokevirtual 361, 3) := by decide +kernel
theorem dX13_judged_83 : decode cX13_judged 83 = .ok (.istore 6, 2) := by decide +kernel
theorem dX13_judged_85 : decode cX13_judged 85 = .ok (.iload 6, 2) := by decide +kernel
theorem dX13_judged_87 : decode cX13_judged 87 = .ok (.ifCond .ne 12, 3) := by decide +kernel
theorem dX13_judged_90 : decode cX13_judged 90 = .ok (.iload_n 2, 1) := by decide +kernel
theorem dX13_judged_91 : decode cX13_judged 91 = .ok (.ifCond .ge 8, 3) := by decide +kernel
theorem dX13_judged_94 : decode cX13_judged 94 = .ok (.iload 4, 2) := by decide +kernel
theorem dX13_judged_96 : decode cX13_judged 96 = .ok (.goto 4, 3) := by decide +kernel
theorem dX13_judged_99 : decode cX13_judged 99 = .ok (.iload_n 2, 1) := by decide +kernel
theorem dX13_judged_100 : decode cX13_judged 100 = .ok (.istore_n 2, 1) := by decide +kernel
theorem dX13_judged_101 : decode cX13_judged 101 = .ok (.iload 5, 2) := by decide +kernel
theorem dX13_judged_103 : decode cX13_judged 103 = .ok (.ifCond .ne 19, 3) := by decide +kernel
theorem dX13_judged_106 : decode cX13_judged 106 = .ok (.aload_n 0, 1) := by decide +kernel
theorem dX13_judged_107 : decode cX13_judged 107 = .ok (.getfield 314, 3) := by decide +kernel
theorem dX13_judged_110 : decode cX13_judged 110 = .ok (.ifCond .le 12, 3) := by decide +kernel
theorem dX13_judged_113 : decode cX13_judged 113 = .ok (.iload_n 3, 1) := by decide +kernel
theorem dX13_judged_114 : decode cX13_judged 114 = .ok (.ifCond .ge 8, 3) := by decide +kernel
theorem dX13_judged_117 : decode cX13_judged 117 = .ok (.iload 4, 2) := by decide +kernel
theorem dX13_judged_119 : decode cX13_judged 119 = .ok (.goto 4, 3) := by decide +kernel
theorem dX13_judged_122 : decode cX13_judged 122 = .ok (.iload_n 3, 1) := by decide +kernel
theorem dX13_judged_123 : decode cX13_judged 123 = .ok (.istore_n 3, 1) := by decide +kernel
theorem dX13_judged_124 : decode cX13_judged 124 = .ok (.iinc 4 1, 3) := by decide +kernel
theorem dX13_judged_127 : decode cX13_judged 127 = .ok (.goto (-96), 3) := by decide +kernel
theorem dX13_judged_130 : decode cX13_judged 130 = .ok (.iload_n 1, 1) := by decide +kernel
theorem dX13_judged_131 : decode cX13_judged 131 = .ok (.ifCond .ne 7, 3) := by decide +kernel
theorem dX13_judged_134 : decode cX13_judged 134 = .ok (.iload_n 2, 1) := by decide +kernel
theorem dX13_judged_135 : decode cX13_judged 135 = .ok (.goto 19, 3) := by decide +kernel
theorem dX13_judged_138 : decode cX13_judged 138 = .ok (.iload_n 1, 1) := by decide +kernel
theorem dX13_judged_139 : decode cX13_judged 139 = .ok (.iconst 1, 1) := by decide +kernel
theorem dX13_judged_140 : decode cX13_judged 140 = .ok (.if_icmp .ne 7, 3) := by decide +kernel
theorem dX13_judged_143 : decode cX13_judged 143 = .ok (.iload_n 3, 1) := by decide +kernel
theorem dX13_judged_144 : decode cX13_judged 144 = .ok (.goto 10, 3) := by decide +kernel
theorem dX13_judged_147 : decode cX13_judged 147 = .ok (.aload_n 0, 1) := by decide +kernel
theorem dX13_judged_148 : decode cX13_judged 148 = .ok (.sipush 756, 3) := by decide +kernel
theorem dX13_judged_151 : decode cX13_judged 151 = .ok (.invokevirtual 299, 3) := by decide +kernel
theorem dX13_judged_154 : decode cX13_judged 154 = .ok (.ireturn, 1) := by decide +kernel
set_option maxHeartbeats 4000000 in
set_option maxRecDepth 100000 in
theorem B_X13_judged {G : zG} {X : zX} {kd : kD} {N0 : Nat} (C : zCt G X 5 0 0 RX13 cX13_judged 7) (hr : (zXh X).sig.returnType = (some .int)) : ∀ f : Nat,
    (∀ (S : aS) (v0 : Nat) (v1 : Int32) (res : Option Value × aS), zT0 kd N0 S → v0 < N0 → kd v0 = .inl 11 → F_X13_judged f 0 [.ref v0, .int v1] S = some res → zV G X (zQX G X (zPo G kd N0 res) 0 0) 7 [some (.ref (zB G + v0)), some (.int v1), none, none, none, none, none] [] (cn G kd N0 S) 0 0 0) ∧
    (∀ (S : aS) (v0 : Nat) (v1 : Int32) (v2 : Int32) (v3 : Int32) (v4 : Int32) (res : Option Value × aS), zT0 kd N0 S → v0 < N0 → kd v0 = .inl 11 → F_X13_judged f 1 [.ref v0, .int v1, .int v2, .int v3, .int v4] S = some res → zV G X (zQX G X (zPo G kd N0 res) 0 0) 7 [some (.ref (zB G + v0)), some (.int v1), some (.int v2), some (.int v3), some (.int v4), none, none] [] (cn G kd N0 S) 31 0 0) ∧
    (∀ (S : aS) (w0 : Int32) (res : Option Value × aS), zT0 kd N0 S → F_X13_judged f 2 [.int w0] S = some res → zV G X (zQX G X (zPo G kd N0 res) 0 0) 7 [none, none, none, none, none, none, none] [.int w0] (cn G kd N0 S) 154 0 0) := by
  intro f
  induction f with
  | zero => exact ⟨(fun _ _ _ _ _ _ _ h => by cases h), (fun _ _ _ _ _ _ _ _ _ _ h => by cases h), (fun _ _ _ _ h => by cases h)⟩
  | succ f ih =>
    obtain ⟨ih0, ih1, ih2⟩ := ih
    refine ⟨?_, ?_, ?_⟩
    · intro S v0 v1 res hT hpv0 hkv0 hF
      replace hF : F_X13_judged_0 f (F_X13_judged f) v0 v1 S = some res := hF
      unfold F_X13_judged_0 at hF
      refine z_aload_n C dX13_judged_0 rfl ?_
      refine z_iconst (v := 0) C dX13_judged_1 (by decide) ?_
      refine f_puti C dX13_judged_2 zfRX13_1 fw11_0 hpv0 hkv0 rfl rfl rfl ?_
      have hT1 : zT0 kd N0 (sI S v0 0 0) := zT0_sI hT
      replace hF := fS_e hF
      generalize sI S v0 0 0 = S1 at hF hT1 ⊢
      refine z_iload_n C dX13_judged_5 rfl ?_
      refine z_iconst (v := 0) C dX13_judged_6 (by decide) ?_
      refine z_iconst (v := 2) C dX13_judged_7 (by decide) ?_
      obtain ⟨x2, S2, h2, hF⟩ := bI_some hF
      refine f_cS (st2 := [.int x2]) C dX13_judged_8 zyX13_within zsX13_within lkRX13_339 (K_X13_within (l := zXl X) hT1    h2) (by decide) rfl rfl (Nat.le_of_ble_eq_true rfl) rfl (fun hT2 => ?_)
      refine z_if_ne C 17 dX13_judged_11 (by decide) (fun c3 => ?_) (fun c3 => ?_)
      · replace hF := im hF c3
        refine z_aload_n C dX13_judged_17 rfl ?_
        refine z_sipush (v := 756) C dX13_judged_18 (by decide) ?_
        obtain ⟨S4, h4, hF⟩ := bV_some hF
        refine f_cV (st2 := []) C dX13_judged_21 zyX13_starts zvX13_starts lkRX13_282 (K_X13_starts (l := zXl X) hT2 hpv0 hkv0  h4) hpv0 hkv0 rfl (by decide) rfl rfl (Nat.le_of_ble_eq_true rfl) rfl (fun hT4 => ?_)
        refine z_iconst (v := (-1)) C dX13_judged_24 (by decide) ?_
        refine z_istore_n (lv2 := [some (.ref (zB G + v0)), some (.int v1), some (.int ((-1))), none, none, none, none]) C dX13_judged_25 (by decide) rfl ?_
        refine z_iconst (v := (-1)) C dX13_judged_26 (by decide) ?_
        refine z_istore_n (lv2 := [some (.ref (zB G + v0)), some (.int v1), some (.int ((-1))), some (.int ((-1))), none, none, none]) C dX13_judged_27 (by decide) rfl ?_
        refine z_iconst (v := 0) C dX13_judged_28 (by decide) ?_
        refine z_istore (lv2 := [some (.ref (zB G + v0)), some (.int v1), some (.int ((-1))), some (.int ((-1))), some (.int 0), none, none]) C dX13_judged_29 (by decide) rfl ?_
        exact ih1 S4 v0 v1 ((-1)) ((-1)) 0 res hT4 hpv0 hkv0     hF
      · replace hF := ip hF c3
        refine z_bipush (v := (-2)) C dX13_judged_14 (by decide) ?_
        cases hF
        exact z_iret C hr dX13_judged_16 ⟨rfl, rfl, hT2⟩
    · intro S v0 v1 v2 v3 v4 res hT hpv0 hkv0 hF
      replace hF : F_X13_judged_1 f (F_X13_judged f) v0 v1 v2 v3 v4 S = some res := hF
      unfold F_X13_judged_1 at hF
      refine z_iload C dX13_judged_31 rfl ?_
      refine z_aload_n C dX13_judged_33 rfl ?_
      refine f_getr C dX13_judged_34 zfRX13_110 hpv0 hkv0 rfl ?_
      obtain ⟨hp5, hk5⟩ := hT.1 v0 11 19 (.inr (0, 250)) hpv0 hkv0 rfl
      refine z_iconst (v := 0) C dX13_judged_37 (by decide) ?_
      obtain ⟨hi6, hF⟩ := bX_some hF
      obtain ⟨q6, eq6⟩ : ∃ q : Nat, q = Int32.toNatClampNeg 0 := ⟨_, rfl⟩
      rw [← eq6] at hF
      refine f_iald C dX13_judged_38 hp5 hk5 hi6 ?_
      rw [← eq6]
      refine z_icmp_ge C 130 dX13_judged_39 (by decide) (fun c9 => ?_) (fun c9 => ?_)
      · replace hF := ip hF c9
        refine z_iload_n C dX13_judged_130 rfl ?_
        refine z_if_ne C 138 dX13_judged_131 (by decide) (fun c12 => ?_) (fun c12 => ?_)
        · replace hF := im hF c12
          refine z_iload_n C dX13_judged_138 rfl ?_
          refine z_iconst (v := 1) C dX13_judged_139 (by decide) ?_
          refine z_icmp_ne C 147 dX13_judged_140 (by decide) (fun c14 => ?_) (fun c14 => ?_)
          · replace hF := im hF c14
            refine z_aload_n C dX13_judged_147 rfl ?_
            refine z_sipush (v := 756) C dX13_judged_148 (by decide) ?_
            obtain ⟨x15, S15, h15, hF⟩ := bI_some hF
            refine f_cV (st2 := [.int x15]) C dX13_judged_151 zyX13_lyingIn zvX13_lyingIn lkRX13_299 (K_X13_lyingIn (l := zXl X) hT hpv0 hkv0  h15) hpv0 hkv0 rfl (by decide) rfl rfl (Nat.le_of_ble_eq_true rfl) rfl (fun hT15 => ?_)
            refine z_mask [false, false, false, false, false, true, true] ?_ rfl
            exact ih2 S15 x15 res hT15  hF
          · replace hF := ip hF c14
            refine z_iload_n C dX13_judged_143 rfl ?_
            refine z_goto C 154 dX13_judged_144 (by decide) ?_
            refine z_mask [false, false, false, false, false, true, true] ?_ rfl
            exact ih2 S v3 res hT  hF
        · replace hF := ip hF c12
          refine z_iload_n C dX13_judged_134 rfl ?_
          refine z_goto C 154 dX13_judged_135 (by decide) ?_
          refine z_mask [false, false, false, false, false, true, true] ?_ rfl
          exact ih2 S v2 res hT  hF
      · replace hF := im hF c9
        refine z_aload_n C dX13_judged_42 rfl ?_
        refine f_getr C dX13_judged_43 zfRX13_110 hpv0 hkv0 rfl ?_
        obtain ⟨hp16, hk16⟩ := hT.1 v0 11 19 (.inr (0, 250)) hpv0 hkv0 rfl
        refine z_iconst (v := 1) C dX13_judged_46 (by decide) ?_
        refine z_iconst (v := 3) C dX13_judged_47 (by decide) ?_
        refine z_iload C dX13_judged_48 rfl ?_
        refine z_imul C dX13_judged_50 ?_
        refine z_iadd C dX13_judged_51 ?_
        obtain ⟨hi17, hF⟩ := bX_some hF
        obtain ⟨q17, eq17⟩ : ∃ q : Nat, q = Int32.toNatClampNeg ((1 : Int32) + ((3 : Int32) * v4)) := ⟨_, rfl⟩
        rw [← eq17] at hF
        refine f_iald C dX13_judged_52 hp16 hk16 hi17 ?_
        rw [← eq17]
        refine z_istore (lv2 := [some (.ref (zB G + v0)), some (.int v1), some (.int v2), some (.int v3), some (.int v4), some (.int (gI S (gR S v0 19) q17)), none]) C dX13_judged_53 (by decide) rfl ?_
        refine z_aload_n C dX13_judged_55 rfl ?_
        refine z_iload C dX13_judged_56 rfl ?_
        refine z_aload_n C dX13_judged_58 rfl ?_
        refine f_getr C dX13_judged_59 zfRX13_110 hpv0 hkv0 rfl ?_
        obtain ⟨hp18, hk18⟩ := hT.1 v0 11 19 (.inr (0, 250)) hpv0 hkv0 rfl
        refine z_iconst (v := 2) C dX13_judged_62 (by decide) ?_
        refine z_iconst (v := 3) C dX13_judged_63 (by decide) ?_
        refine z_iload C dX13_judged_64 rfl ?_
        refine z_imul C dX13_judged_66 ?_
        refine z_iadd C dX13_judged_67 ?_
        obtain ⟨hi19, hF⟩ := bX_some hF
        obtain ⟨q19, eq19⟩ : ∃ q : Nat, q = Int32.toNatClampNeg ((2 : Int32) + ((3 : Int32) * v4)) := ⟨_, rfl⟩
        rw [← eq19] at hF
        refine f_iald C dX13_judged_68 hp18 hk18 hi19 ?_
        rw [← eq19]
        refine z_aload_n C dX13_judged_69 rfl ?_
        refine f_getr C dX13_judged_70 zfRX13_110 hpv0 hkv0 rfl ?_
        obtain ⟨hp20, hk20⟩ := hT.1 v0 11 19 (.inr (0, 250)) hpv0 hkv0 rfl
        refine z_iconst (v := 3) C dX13_judged_73 (by decide) ?_
        refine z_iconst (v := 3) C dX13_judged_74 (by decide) ?_
        refine z_iload C dX13_judged_75 rfl ?_
        refine z_imul C dX13_judged_77 ?_
        refine z_iadd C dX13_judged_78 ?_
        obtain ⟨hi21, hF⟩ := bX_some hF
        obtain ⟨q21, eq21⟩ : ∃ q : Nat, q = Int32.toNatClampNeg ((3 : Int32) + ((3 : Int32) * v4)) := ⟨_, rfl⟩
        rw [← eq21] at hF
        refine f_iald C dX13_judged_79 hp20 hk20 hi21 ?_
        rw [← eq21]
        obtain ⟨x22, S22, h22, hF⟩ := bI_some hF
        refine f_cV (st2 := [.int x22]) C dX13_judged_80 zyX13_does zvX13_does lkRX13_361 (K_X13_does (l := zXl X) hT hpv0 hkv0    h22) hpv0 hkv0 rfl (by decide) rfl rfl (Nat.le_of_ble_eq_true rfl) rfl (fun hT22 => ?_)
        refine z_istore (lv2 := [some (.ref (zB G + v0)), some (.int v1), some (.int v2), some (.int v3), some (.int v4), some (.int (gI S (gR S v0 19) q17)), some (.int x22)]) C dX13_judged_83 (by decide) rfl ?_
        refine z_iload C dX13_judged_85 rfl ?_
        have hJ25 : zV G X (zQX G X (zPo G kd N0 res) 0 0) 7 [some (.ref (zB G + v0)), some (.int v1), some (.int v2), some (.int v3), some (.int v4), some (.int (gI S (gR S v0 19) q17)), some (.int x22)] [.int (if x22 = (0 : Int32) then if (0 : Int32) ≤ v2 then v2 else v4 else v2)] (cn G kd N0 S22) 100 0 0 := by
          replace hF := lI_e hF
          generalize (if x22 = (0 : Int32) then if (0 : Int32) ≤ v2 then v2 else v4 else v2) = y26 at hF ⊢
          refine z_istore_n (lv2 := [some (.ref (zB G + v0)), some (.int v1), some (.int y26), some (.int v3), some (.int v4), some (.int (gI S (gR S v0 19) q17)), some (.int x22)]) C dX13_judged_100 (by decide) rfl ?_
          refine z_iload C dX13_judged_101 rfl ?_
          have hJ30 : zV G X (zQX G X (zPo G kd N0 res) 0 0) 7 [some (.ref (zB G + v0)), some (.int v1), some (.int y26), some (.int v3), some (.int v4), some (.int (gI S (gR S v0 19) q17)), some (.int x22)] [.int (if (gI S (gR S v0 19) q17) = (0 : Int32) then if (gI S22 v0 26) ≤ (0 : Int32) then v3 else if (0 : Int32) ≤ v3 then v3 else v4 else v3)] (cn G kd N0 S22) 123 0 0 := by
            replace hF := lI_e hF
            generalize (if (gI S (gR S v0 19) q17) = (0 : Int32) then if (gI S22 v0 26) ≤ (0 : Int32) then v3 else if (0 : Int32) ≤ v3 then v3 else v4 else v3) = y31 at hF ⊢
            refine z_istore_n (lv2 := [some (.ref (zB G + v0)), some (.int v1), some (.int y26), some (.int y31), some (.int v4), some (.int (gI S (gR S v0 19) q17)), some (.int x22)]) C dX13_judged_123 (by decide) rfl ?_
            refine z_iinc (v := v4 + 1) (lv2 := [some (.ref (zB G + v0)), some (.int v1), some (.int y26), some (.int y31), some (.int (v4 + 1)), some (.int (gI S (gR S v0 19) q17)), some (.int x22)]) C dX13_judged_124 rfl (by rw [show Int32.ofInt 1 = (1 : Int32) from by decide]) rfl ?_
            refine z_goto C 31 dX13_judged_127 (by decide) ?_
            refine z_mask [true, true, true, true, true, false, false] ?_ rfl
            exact ih1 S22 v0 v1 y26 y31 (v4 + 1) res hT22 hpv0 hkv0     hF
          refine z_if_ne C 122 dX13_judged_103 (by decide) (fun c27 => ?_) (fun c27 => ?_)
          · refine z_iload_n C dX13_judged_122 rfl ?_
            exact zV.at hJ30 (by first | rfl | contradiction | (simp only [if_neg c27]; done)) (by first | rfl | contradiction | (simp only [if_neg c27]; done)) rfl rfl
          · refine z_aload_n C dX13_judged_106 rfl ?_
            refine f_geti C dX13_judged_107 zfRX13_314 hpv0 hkv0 rfl ?_
            refine z_if_le C 122 dX13_judged_110 (by decide) (fun c28 => ?_) (fun c28 => ?_)
            · refine z_iload_n C dX13_judged_122 rfl ?_
              exact zV.at hJ30 (by first | rfl | contradiction | (simp only [if_pos c27, if_pos c28]; done)) (by first | rfl | contradiction | (simp only [if_pos c27, if_pos c28]; done)) rfl rfl
            · refine z_iload_n C dX13_judged_113 rfl ?_
              refine z_if_ge C 122 dX13_judged_114 (by decide) (fun c29 => ?_) (fun c29 => ?_)
              · refine z_iload_n C dX13_judged_122 rfl ?_
                exact zV.at hJ30 (by first | rfl | contradiction | (simp only [if_pos c27, if_neg c28, if_pos c29]; done)) (by first | rfl | contradiction | (simp only [if_pos c27, if_neg c28, if_pos c29]; done)) rfl rfl
              · refine z_iload C dX13_judged_117 rfl ?_
                refine z_goto C 123 dX13_judged_119 (by decide) ?_
                exact zV.at hJ30 (by first | rfl | contradiction | (simp only [if_pos c27, if_neg c28, if_neg c29]; done)) (by first | rfl | contradiction | (simp only [if_pos c27, if_neg c28, if_neg c29]; done)) rfl rfl
        refine z_if_ne C 99 dX13_judged_87 (by decide) (fun c23 => ?_) (fun c23 => ?_)
        · refine z_iload_n C dX13_judged_99 rfl ?_
          exact zV.at hJ25 (by first | rfl | contradiction | (simp only [if_neg c23]; done)) (by first | rfl | contradiction | (simp only [if_neg c23]; done)) rfl rfl
        · refine z_iload_n C dX13_judged_90 rfl ?_
          refine z_if_ge C 99 dX13_judged_91 (by decide) (fun c24 => ?_) (fun c24 => ?_)
          · refine z_iload_n C dX13_judged_99 rfl ?_
            exact zV.at hJ25 (by first | rfl | contradiction | (simp only [if_pos c23, if_pos c24]; done)) (by first | rfl | contradiction | (simp only [if_pos c23, if_pos c24]; done)) rfl rfl
          · refine z_iload C dX13_judged_94 rfl ?_
            refine z_goto C 100 dX13_judged_96 (by decide) ?_
            exact zV.at hJ25 (by first | rfl | contradiction | (simp only [if_pos c23, if_neg c24]; done)) (by first | rfl | contradiction | (simp only [if_pos c23, if_neg c24]; done)) rfl rfl
    · intro S w0 res hT  hF
      replace hF : F_X13_judged_2 f (F_X13_judged f) w0 S = some res := hF
      unfold F_X13_judged_2 at hF
      cases hF
      exact z_iret C hr dX13_judged_154 ⟨rfl, rfl, hT⟩
theorem K_X13_judged {G : zG} {l : Launch} {kd : kD} {N0 f : Nat} {S : aS} {v0 : Nat} {v1 : Int32} {res : Option Value × aS} (hT : zT0 kd N0 S) (hpv0 : v0 < N0) (hkv0 : kd v0 = .inl 11) (hF : F_X13_judged f 0 [.ref v0, .int v1] S = some res) : zM G l 5 0 0 yX13_judged cX13_judged 7 (some .int) [.ref (zB G + v0), .int v1] (cn G kd N0 S) (zPo G kd N0 res) := zM.of (by decide) rfl (Nat.le_of_ble_eq_true rfl) (fun X _ C hr _ => (B_X13_judged C hr f).1 S v0 v1 res hT hpv0 hkv0 hF)
def F_X13_leaves_0 (f : Nat) (rc : Nat → List Value → aS → aR) (v0 : Nat) (v1 : Int32) (v2 : Int32) (S : aS) : aR :=
  fS (sI S v0 0 0) fun S1 => bI (F_X13_isPerson f 0 [.ref v0, .int v1] S1) fun x2 S2 => if x2 = (0 : Int32) then rc 1 [] S2 else bI (F_X13_within f 0 [.int v2, .int 0, .int 11] S2) fun x4 S4 => if x4 = (0 : Int32) then rc 1 [] S4 else bV (F_X13_copies f 0 [.ref v0, .int 0, .int 756, .int 28] S4) fun S6 => bI (F_X13_walks f 0 [.ref v0, .int 756, .int v1] S6) fun x7 S7 => if (8 : Int32) ≤ v2 then if v2 = (8 : Int32) then bI (F_X13_lyingIn f 0 [.ref v0, .int 756] S7) fun x25 S25 => bI (F_X13_lyingIn f 0 [.ref v0, .int 0] S25) fun x26 S26 => rc 2 [.int (x25 - x26)] S26 else if v2 = (9 : Int32) then rc 2 [.int x7] S7 else if v2 = (10 : Int32) then rc 2 [.int (gI S7 v0 27)] S7 else bX 758 828 fun q22 => bX 2 828 fun q24 => rc 2 [.int ((gI S7 (gR S7 v0 22) q22) - (gI S7 (gR S7 v0 22) q24))] S7 else bI (F_X13_isYard f 0 [.ref v0, .int v2] S7) fun x27 S27 => if x27 = (0 : Int32) then rc 3 [.int 0] S27 else bX ((760 : Int32) + v2) 828 fun q32 => bX ((4 : Int32) + v2) 828 fun q34 => rc 3 [.int ((gI S27 (gR S27 v0 22) q32) - (gI S27 (gR S27 v0 22) q34))] S27
def F_X13_leaves_1 (f : Nat) (rc : Nat → List Value → aS → aR)  (S : aS) : aR :=
  some (some (.int ((-1000))), S)
def F_X13_leaves_2 (f : Nat) (rc : Nat → List Value → aS → aR) (w0 : Int32) (S : aS) : aR :=
  some (some (.int w0), S)
def F_X13_leaves_3 (f : Nat) (rc : Nat → List Value → aS → aR) (w0 : Int32) (S : aS) : aR :=
  some (some (.int w0), S)
def F_X13_leaves : Nat → Nat → List Value → aS → aR
  | 0, _, _, _ => none
  | f + 1, 0, vs, S => F_X13_leaves_0 f (F_X13_leaves f) (vR vs 0) (vI vs 1) (vI vs 2) S
  | f + 1, 1, vs, S => F_X13_leaves_1 f (F_X13_leaves f)  S
  | f + 1, 2, vs, S => F_X13_leaves_2 f (F_X13_leaves f) (vI vs 0) S
  | f + 1, 3, vs, S => F_X13_leaves_3 f (F_X13_leaves f) (vI vs 0) S
  | _ + 1, _, _, _ => none
theorem dX13_leaves_0 : decode cX13_leaves 0 = .ok (.aload_n 0, 1) := by decide +kernel
theorem dX13_leaves_1 : decode cX13_leaves 1 = .ok (.iconst 0, 1) := by decide +kernel
theorem dX13_leaves_2 : decode cX13_leaves 2 = .ok (.putfield 1, 3) := by decide +kernel
theorem dX13_leaves_5 : decode cX13_leaves 5 = .ok (.aload_n 0, 1) := by decide +kernel
theorem dX13_leaves_6 : decode cX13_leaves 6 = .ok (.iload_n 1, 1) := by decide +kernel
theorem dX13_leaves_7 : decode cX13_leaves 7 = .ok (.invokevirtual 343, 3) := by decide +kernel
theorem dX13_leaves_10 : decode cX13_leaves 10 = .ok (.ifCond .eq 13, 3) := by decide +kernel
theorem dX13_leaves_13 : decode cX13_leaves 13 = .ok (.iload_n 2, 1) := by decide +kernel
theorem dX13_leaves_14 : decode cX13_leaves 14 = .ok (.iconst 0, 1) := by decide +kernel
theorem dX13_leaves_15 : decode cX13_leaves 15 = .ok (.bipush 11, 2) := by decide +kernel
theorem dX13_leaves_17 : decode cX13_leaves 17 = .ok (.invokestatic 339, 3) := by decide +kernel
theorem dX13_leaves_20 : decode cX13_leaves 20 = .ok (.ifCond .ne 7, 3) := by decide +kernel
theorem dX13_leaves_23 : decode cX13_leaves 23 = .ok (.sipush (-1000), 3) := by decide +kernel
theorem dX13_leaves_26 : decode cX13_leaves 26 = .ok (.ireturn, 1) := by decide +kernel
theorem dX13_leaves_27 : decode cX13_leaves 27 = .ok (.aload_n 0, 1) := by decide +kernel
theorem dX13_leaves_28 : decode cX13_leaves 28 = .ok (.iconst 0, 1) := by decide +kernel
theorem dX13_leaves_29 : decode cX13_leaves 29 = .ok (.sipush 756, 3) := by decide +kernel
theorem dX13_leaves_32 : decode cX13_leaves 32 = .ok (.bipush 28, 2) := by decide +kernel
theorem dX13_leaves_34 : decode cX13_leaves 34 = .ok (.invokevirtual 288, 3) := by decide +kernel
theorem dX13_leaves_37 : decode cX13_leaves 37 = .ok (.aload_n 0, 1) := by decide +kernel
theorem dX13_leaves_38 : decode cX13_leaves 38 = .ok (.sipush 756, 3) := by decide +kernel
theorem dX13_leaves_41 : decode cX13_leaves 41 = .ok (.iload_n 1, 1) := by decide +kernel
theorem dX13_leaves_42 : decode cX13_leaves 42 = .ok (.invokevirtual 330, 3) := by decide +kernel
theorem dX13_leaves_45 : decode cX13_leaves 45 = .ok (.istore_n 3, 1) := by decide +kernel
theorem dX13_leaves_46 : decode cX13_leaves 46 = .ok (.iload_n 2, 1) := by decide +kernel
theorem dX13_leaves_47 : decode cX13_leaves 47 = .ok (.bipush 8, 2) := by decide +kernel
theorem dX13_leaves_49 : decode cX13_leaves 49 = .ok (.if_icmp .ge 35, 3) := by decide +kernel
theorem dX13_leaves_52 : decode cX13_leaves 52 = .ok (.aload_n 0, 1) := by decide +kernel
theorem dX13_leaves_53 : decode cX13_leaves 53 = .ok (.iload_n 2, 1) := by decide +kernel
theorem dX13_leaves_54 : decode cX13_leaves 54 = .ok (.invokevirtual 336, 3) := by decide +kernel
theorem dX13_leaves_57 : decode cX13_leaves 57 = .ok (.ifCond .eq 25, 3) := by decide +kernel
theorem dX13_leaves_60 : decode cX13_leaves 60 = .ok (.aload_n 0, 1) := by decide +kernel
theorem dX13_leaves_61 : decode cX13_leaves 61 = .ok (.getfield 119, 3) := by decide +kernel
theorem dX13_leaves_64 : decode cX13_leaves 64 = .ok (.sipush 760, 3) := by decide +kernel
theorem dX13_leaves_67 : decode cX13_leaves 67 = .ok (.iload_n 2, 1) := by decide +kernel
theorem dX13_leaves_68 : decode cX13_leaves 68 = .ok (.iadd, 1) := by decide +kernel
theorem dX13_leaves_69 : decode cX13_leaves 69 = .ok (.iaload, 1) := by decide +kernel
theorem dX13_leaves_70 : decode cX13_leaves 70 = .ok (.aload_n 0, 1) := by decide +kernel
theorem dX13_leaves_71 : decode cX13_leaves 71 = .ok (.getfield 119, 3) := by decide +kernel
theorem dX13_leaves_74 : decode cX13_leaves 74 = .ok (.iconst 4, 1) := by decide +kernel
theorem dX13_leaves_75 : decode cX13_leaves 75 = .ok (.iload_n 2, 1) := by decide +kernel
theorem dX13_leaves_76 : decode cX13_leaves 76 = .ok (.iadd, 1) := by decide +kernel
theorem dX13_leaves_77 : decode cX13_leaves 77 = .ok (.iaload, 1) := by decide +kernel
theorem dX13_leaves_78 : decode cX13_leaves 78 = .ok (.isub, 1) := by decide +kernel
theorem dX13_leaves_79 : decode cX13_leaves 79 = .ok (.goto 4, 3) := by decide +kernel
theorem dX13_leaves_82 : decode cX13_leaves 82 = .ok (.iconst 0, 1) := by decide +kernel
theorem dX13_leaves_83 : decode cX13_leaves 83 = .ok (.ireturn, 1) := by decide +kernel
theorem dX13_leaves_84 : decode cX13_leaves 84 = .ok (.iload_n 2, 1) := by decide +kernel
theorem dX13_leaves_85 : decode cX13_leaves 85 = .ok (.bipush 8, 2) := by decide +kernel
theorem dX13_leaves_87 : decode cX13_leaves 87 = .ok (.if_icmp .ne 19, 3) := by decide +kernel
theorem dX13_leaves_90 : decode cX13_leaves 90 = .ok (.aload_n 0, 1) := by decide +kernel
theorem dX13_leaves_91 : decode cX13_leaves 91 = .ok (.sipush 756, 3) := by decide +kernel
theorem dX13_leaves_94 : decode cX13_leaves 94 = .ok (.invokevirtual 299, 3) := by decide +kernel
theorem dX13_leaves_97 : decode cX13_leaves 97 = .ok (.aload_n 0, 1) := by decide +kernel
theorem dX13_leaves_98 : decode cX13_leaves 98 = .ok (.iconst 0, 1) := by decide +kernel
theorem dX13_leaves_99 : decode cX13_leaves 99 = .ok (.invokevirtual 299, 3) := by decide +kernel
theorem dX13_leaves_102 : decode cX13_leaves 102 = .ok (.isub, 1) := by decide +kernel
theorem dX13_leaves_103 : decode cX13_leaves 103 = .ok (.goto 41, 3) := by decide +kernel
theorem dX13_leaves_106 : decode cX13_leaves 106 = .ok (.iload_n 2, 1) := by decide +kernel
theorem dX13_leaves_107 : decode cX13_leaves 107 = .ok (.bipush 9, 2) := by decide +kernel
theorem dX13_leaves_109 : decode cX13_leaves 109 = .ok (.if_icmp .ne 7, 3) := by decide +kernel
theorem dX13_leaves_112 : decode cX13_leaves 112 = .ok (.iload_n 3, 1) := by decide +kernel
theorem dX13_leaves_113 : decode cX13_leaves 113 = .ok (.goto 31, 3) := by decide +kernel
theorem dX13_leaves_116 : decode cX13_leaves 116 = .ok (.iload_n 2, 1) := by decide +kernel
theorem dX13_leaves_117 : decode cX13_leaves 117 = .ok (.bipush 10, 2) := by decide +kernel
theorem dX13_leaves_119 : decode cX13_leaves 119 = .ok (.if_icmp .ne 10, 3) := by decide +kernel
theorem dX13_leaves_122 : decode cX13_leaves 122 = .ok (.aload_n 0, 1) := by decide +kernel
theorem dX13_leaves_123 : decode cX13_leaves 123 = .ok (.getfield 317, 3) := by decide +kernel
theorem dX13_leaves_126 : decode cX13_leaves 126 = .ok (.goto 18, 3) := by decide +kernel
theorem dX13_leaves_129 : decode cX13_leaves 129 = .ok (.aload_n 0, 1) := by decide +kernel
theorem dX13_leaves_130 : decode cX13_leaves 130 = .ok (.getfield 119, 3) := by decide +kernel
theorem dX13_leaves_133 : decode cX13_leaves 133 = .ok (.sipush 758, 3) := by decide +kernel
theorem dX13_leaves_136 : decode cX13_leaves 136 = .ok (.iaload, 1) := by decide +kernel
theorem dX13_leaves_137 : decode cX13_leaves 137 = .ok (.aload_n 0, 1) := by decide +kernel
theorem dX13_leaves_138 : decode cX13_leaves 138 = .ok (.getfield 119, 3) := by decide +kernel
theorem dX13_leaves_141 : decode cX13_leaves 141 = .ok (.iconst 2, 1) := by decide +kernel
theorem dX13_leaves_142 : decode cX13_leaves 142 = .ok (.iaload, 1) := by decide +kernel
theorem dX13_leaves_143 : decode cX13_leaves 143 = .ok (.isub, 1) := by decide +kernel
theorem dX13_leaves_144 : decode cX13_leaves 144 = .ok (.ireturn, 1) := by decide +kernel
set_option maxHeartbeats 4000000 in
set_option maxRecDepth 100000 in
theorem B_X13_leaves {G : zG} {X : zX} {kd : kD} {N0 : Nat} (C : zCt G X 4 0 0 RX13 cX13_leaves 4) (hr : (zXh X).sig.returnType = (some .int)) : ∀ f : Nat,
    (∀ (S : aS) (v0 : Nat) (v1 : Int32) (v2 : Int32) (res : Option Value × aS), zT0 kd N0 S → v0 < N0 → kd v0 = .inl 11 → F_X13_leaves f 0 [.ref v0, .int v1, .int v2] S = some res → zV G X (zQX G X (zPo G kd N0 res) 0 0) 4 [some (.ref (zB G + v0)), some (.int v1), some (.int v2), none] [] (cn G kd N0 S) 0 0 0) ∧
    (∀ (S : aS)  (res : Option Value × aS), zT0 kd N0 S → F_X13_leaves f 1 [] S = some res → zV G X (zQX G X (zPo G kd N0 res) 0 0) 4 [none, none, none, none] [] (cn G kd N0 S) 23 0 0) ∧
    (∀ (S : aS) (w0 : Int32) (res : Option Value × aS), zT0 kd N0 S → F_X13_leaves f 2 [.int w0] S = some res → zV G X (zQX G X (zPo G kd N0 res) 0 0) 4 [none, none, none, none] [.int w0] (cn G kd N0 S) 144 0 0) ∧
    (∀ (S : aS) (w0 : Int32) (res : Option Value × aS), zT0 kd N0 S → F_X13_leaves f 3 [.int w0] S = some res → zV G X (zQX G X (zPo G kd N0 res) 0 0) 4 [none, none, none, none] [.int w0] (cn G kd N0 S) 83 0 0) := by
  intro f
  induction f with
  | zero => exact ⟨(fun _ _ _ _ _ _ _ _ h => by cases h), (fun _ _ _ h => by cases h), (fun _ _ _ _ h => by cases h), (fun _ _ _ _ h => by cases h)⟩
  | succ f ih =>
    obtain ⟨ih0, ih1, ih2, ih3⟩ := ih
    refine ⟨?_, ?_, ?_, ?_⟩
    · intro S v0 v1 v2 res hT hpv0 hkv0 hF
      replace hF : F_X13_leaves_0 f (F_X13_leaves f) v0 v1 v2 S = some res := hF
      unfold F_X13_leaves_0 at hF
      refine z_aload_n C dX13_leaves_0 rfl ?_
      refine z_iconst (v := 0) C dX13_leaves_1 (by decide) ?_
      refine f_puti C dX13_leaves_2 zfRX13_1 fw11_0 hpv0 hkv0 rfl rfl rfl ?_
      have hT1 : zT0 kd N0 (sI S v0 0 0) := zT0_sI hT
      replace hF := fS_e hF
      generalize sI S v0 0 0 = S1 at hF hT1 ⊢
      refine z_aload_n C dX13_leaves_5 rfl ?_
      refine z_iload_n C dX13_leaves_6 rfl ?_
      obtain ⟨x2, S2, h2, hF⟩ := bI_some hF
      refine f_cV (st2 := [.int x2]) C dX13_leaves_7 zyX13_isPerson zvX13_isPerson lkRX13_343 (K_X13_isPerson (l := zXl X) hT1 hpv0 hkv0  h2) hpv0 hkv0 rfl (by decide) rfl rfl (Nat.le_of_ble_eq_true rfl) rfl (fun hT2 => ?_)
      refine z_if_eq C 23 dX13_leaves_10 (by decide) (fun c3 => ?_) (fun c3 => ?_)
      · replace hF := ip hF c3
        refine z_mask [false, false, false, true] ?_ rfl
        exact ih1 S2  res hT2  hF
      · replace hF := im hF c3
        refine z_iload_n C dX13_leaves_13 rfl ?_
        refine z_iconst (v := 0) C dX13_leaves_14 (by decide) ?_
        refine z_bipush (v := 11) C dX13_leaves_15 (by decide) ?_
        obtain ⟨x4, S4, h4, hF⟩ := bI_some hF
        refine f_cS (st2 := [.int x4]) C dX13_leaves_17 zyX13_within zsX13_within lkRX13_339 (K_X13_within (l := zXl X) hT2    h4) (by decide) rfl rfl (Nat.le_of_ble_eq_true rfl) rfl (fun hT4 => ?_)
        refine z_if_ne C 27 dX13_leaves_20 (by decide) (fun c5 => ?_) (fun c5 => ?_)
        · replace hF := im hF c5
          refine z_aload_n C dX13_leaves_27 rfl ?_
          refine z_iconst (v := 0) C dX13_leaves_28 (by decide) ?_
          refine z_sipush (v := 756) C dX13_leaves_29 (by decide) ?_
          refine z_bipush (v := 28) C dX13_leaves_32 (by decide) ?_
          obtain ⟨S6, h6, hF⟩ := bV_some hF
          refine f_cV (st2 := []) C dX13_leaves_34 zyX13_copies zvX13_copies lkRX13_288 (K_X13_copies (l := zXl X) hT4 hpv0 hkv0    h6) hpv0 hkv0 rfl (by decide) rfl rfl (Nat.le_of_ble_eq_true rfl) rfl (fun hT6 => ?_)
          refine z_aload_n C dX13_leaves_37 rfl ?_
          refine z_sipush (v := 756) C dX13_leaves_38 (by decide) ?_
          refine z_iload_n C dX13_leaves_41 rfl ?_
          obtain ⟨x7, S7, h7, hF⟩ := bI_some hF
          refine f_cV (st2 := [.int x7]) C dX13_leaves_42 zyX13_walks zvX13_walks lkRX13_330 (K_X13_walks (l := zXl X) hT6 hpv0 hkv0   h7) hpv0 hkv0 rfl (by decide) rfl rfl (Nat.le_of_ble_eq_true rfl) rfl (fun hT7 => ?_)
          refine z_istore_n (lv2 := [some (.ref (zB G + v0)), some (.int v1), some (.int v2), some (.int x7)]) C dX13_leaves_45 (by decide) rfl ?_
          refine z_iload_n C dX13_leaves_46 rfl ?_
          refine z_bipush (v := 8) C dX13_leaves_47 (by decide) ?_
          refine z_icmp_ge C 84 dX13_leaves_49 (by decide) (fun c8 => ?_) (fun c8 => ?_)
          · replace hF := ip hF c8
            refine z_iload_n C dX13_leaves_84 rfl ?_
            refine z_bipush (v := 8) C dX13_leaves_85 (by decide) ?_
            refine z_icmp_ne C 106 dX13_leaves_87 (by decide) (fun c13 => ?_) (fun c13 => ?_)
            · replace hF := im hF c13
              refine z_iload_n C dX13_leaves_106 rfl ?_
              refine z_bipush (v := 9) C dX13_leaves_107 (by decide) ?_
              refine z_icmp_ne C 116 dX13_leaves_109 (by decide) (fun c17 => ?_) (fun c17 => ?_)
              · replace hF := im hF c17
                refine z_iload_n C dX13_leaves_116 rfl ?_
                refine z_bipush (v := 10) C dX13_leaves_117 (by decide) ?_
                refine z_icmp_ne C 129 dX13_leaves_119 (by decide) (fun c20 => ?_) (fun c20 => ?_)
                · replace hF := im hF c20
                  refine z_aload_n C dX13_leaves_129 rfl ?_
                  refine f_getr C dX13_leaves_130 zfRX13_119 hpv0 hkv0 rfl ?_
                  obtain ⟨hp21, hk21⟩ := hT7.1 v0 11 22 (.inr (0, 828)) hpv0 hkv0 rfl
                  refine z_sipush (v := 758) C dX13_leaves_133 (by decide) ?_
                  obtain ⟨hi22, hF⟩ := bX_some hF
                  obtain ⟨q22, eq22⟩ : ∃ q : Nat, q = Int32.toNatClampNeg 758 := ⟨_, rfl⟩
                  rw [← eq22] at hF
                  refine f_iald C dX13_leaves_136 hp21 hk21 hi22 ?_
                  rw [← eq22]
                  refine z_aload_n C dX13_leaves_137 rfl ?_
                  refine f_getr C dX13_leaves_138 zfRX13_119 hpv0 hkv0 rfl ?_
                  obtain ⟨hp23, hk23⟩ := hT7.1 v0 11 22 (.inr (0, 828)) hpv0 hkv0 rfl
                  refine z_iconst (v := 2) C dX13_leaves_141 (by decide) ?_
                  obtain ⟨hi24, hF⟩ := bX_some hF
                  obtain ⟨q24, eq24⟩ : ∃ q : Nat, q = Int32.toNatClampNeg 2 := ⟨_, rfl⟩
                  rw [← eq24] at hF
                  refine f_iald C dX13_leaves_142 hp23 hk23 hi24 ?_
                  rw [← eq24]
                  refine z_isub C dX13_leaves_143 ?_
                  refine z_mask [false, false, false, false] ?_ rfl
                  exact ih2 S7 ((gI S7 (gR S7 v0 22) q22) - (gI S7 (gR S7 v0 22) q24)) res hT7  hF
                · replace hF := ip hF c20
                  refine z_aload_n C dX13_leaves_122 rfl ?_
                  refine f_geti C dX13_leaves_123 zfRX13_317 hpv0 hkv0 rfl ?_
                  refine z_goto C 144 dX13_leaves_126 (by decide) ?_
                  refine z_mask [false, false, false, false] ?_ rfl
                  exact ih2 S7 (gI S7 v0 27) res hT7  hF
              · replace hF := ip hF c17
                refine z_iload_n C dX13_leaves_112 rfl ?_
                refine z_goto C 144 dX13_leaves_113 (by decide) ?_
                refine z_mask [false, false, false, false] ?_ rfl
                exact ih2 S7 x7 res hT7  hF
            · replace hF := ip hF c13
              refine z_aload_n C dX13_leaves_90 rfl ?_
              refine z_sipush (v := 756) C dX13_leaves_91 (by decide) ?_
              obtain ⟨x25, S25, h25, hF⟩ := bI_some hF
              refine f_cV (st2 := [.int x25]) C dX13_leaves_94 zyX13_lyingIn zvX13_lyingIn lkRX13_299 (K_X13_lyingIn (l := zXl X) hT7 hpv0 hkv0  h25) hpv0 hkv0 rfl (by decide) rfl rfl (Nat.le_of_ble_eq_true rfl) rfl (fun hT25 => ?_)
              refine z_aload_n C dX13_leaves_97 rfl ?_
              refine z_iconst (v := 0) C dX13_leaves_98 (by decide) ?_
              obtain ⟨x26, S26, h26, hF⟩ := bI_some hF
              refine f_cV (st2 := [.int x26, .int x25]) C dX13_leaves_99 zyX13_lyingIn zvX13_lyingIn lkRX13_299 (K_X13_lyingIn (l := zXl X) hT25 hpv0 hkv0  h26) hpv0 hkv0 rfl (by decide) rfl rfl (Nat.le_of_ble_eq_true rfl) rfl (fun hT26 => ?_)
              refine z_isub C dX13_leaves_102 ?_
              refine z_goto C 144 dX13_leaves_103 (by decide) ?_
              refine z_mask [false, false, false, false] ?_ rfl
              exact ih2 S26 (x25 - x26) res hT26  hF
          · replace hF := im hF c8
            refine z_aload_n C dX13_leaves_52 rfl ?_
            refine z_iload_n C dX13_leaves_53 rfl ?_
            obtain ⟨x27, S27, h27, hF⟩ := bI_some hF
            refine f_cV (st2 := [.int x27]) C dX13_leaves_54 zyX13_isYard zvX13_isYard lkRX13_336 (K_X13_isYard (l := zXl X) hT7 hpv0 hkv0  h27) hpv0 hkv0 rfl (by decide) rfl rfl (Nat.le_of_ble_eq_true rfl) rfl (fun hT27 => ?_)
            refine z_if_eq C 82 dX13_leaves_57 (by decide) (fun c30 => ?_) (fun c30 => ?_)
            · replace hF := ip hF c30
              refine z_iconst (v := 0) C dX13_leaves_82 (by decide) ?_
              refine z_mask [false, false, false, false] ?_ rfl
              exact ih3 S27 0 res hT27  hF
            · replace hF := im hF c30
              refine z_aload_n C dX13_leaves_60 rfl ?_
              refine f_getr C dX13_leaves_61 zfRX13_119 hpv0 hkv0 rfl ?_
              obtain ⟨hp31, hk31⟩ := hT27.1 v0 11 22 (.inr (0, 828)) hpv0 hkv0 rfl
              refine z_sipush (v := 760) C dX13_leaves_64 (by decide) ?_
              refine z_iload_n C dX13_leaves_67 rfl ?_
              refine z_iadd C dX13_leaves_68 ?_
              obtain ⟨hi32, hF⟩ := bX_some hF
              obtain ⟨q32, eq32⟩ : ∃ q : Nat, q = Int32.toNatClampNeg ((760 : Int32) + v2) := ⟨_, rfl⟩
              rw [← eq32] at hF
              refine f_iald C dX13_leaves_69 hp31 hk31 hi32 ?_
              rw [← eq32]
              refine z_aload_n C dX13_leaves_70 rfl ?_
              refine f_getr C dX13_leaves_71 zfRX13_119 hpv0 hkv0 rfl ?_
              obtain ⟨hp33, hk33⟩ := hT27.1 v0 11 22 (.inr (0, 828)) hpv0 hkv0 rfl
              refine z_iconst (v := 4) C dX13_leaves_74 (by decide) ?_
              refine z_iload_n C dX13_leaves_75 rfl ?_
              refine z_iadd C dX13_leaves_76 ?_
              obtain ⟨hi34, hF⟩ := bX_some hF
              obtain ⟨q34, eq34⟩ : ∃ q : Nat, q = Int32.toNatClampNeg ((4 : Int32) + v2) := ⟨_, rfl⟩
              rw [← eq34] at hF
              refine f_iald C dX13_leaves_77 hp33 hk33 hi34 ?_
              rw [← eq34]
              refine z_isub C dX13_leaves_78 ?_
              refine z_goto C 83 dX13_leaves_79 (by decide) ?_
              refine z_mask [false, false, false, false] ?_ rfl
              exact ih3 S27 ((gI S27 (gR S27 v0 22) q32) - (gI S27 (gR S27 v0 22) q34)) res hT27  hF
        · replace hF := ip hF c5
          refine z_mask [false, false, false, true] ?_ rfl
          exact ih1 S4  res hT4  hF
    · intro S  res hT  hF
      replace hF : F_X13_leaves_1 f (F_X13_leaves f)  S = some res := hF
      unfold F_X13_leaves_1 at hF
      refine z_sipush (v := (-1000)) C dX13_leaves_23 (by decide) ?_
      cases hF
      exact z_iret C hr dX13_leaves_26 ⟨rfl, rfl, hT⟩
    · intro S w0 res hT  hF
      replace hF : F_X13_leaves_2 f (F_X13_leaves f) w0 S = some res := hF
      unfold F_X13_leaves_2 at hF
      cases hF
      exact z_iret C hr dX13_leaves_144 ⟨rfl, rfl, hT⟩
    · intro S w0 res hT  hF
      replace hF : F_X13_leaves_3 f (F_X13_leaves f) w0 S = some res := hF
      unfold F_X13_leaves_3 at hF
      cases hF
      exact z_iret C hr dX13_leaves_83 ⟨rfl, rfl, hT⟩
theorem K_X13_leaves {G : zG} {l : Launch} {kd : kD} {N0 f : Nat} {S : aS} {v0 : Nat} {v1 : Int32} {v2 : Int32} {res : Option Value × aS} (hT : zT0 kd N0 S) (hpv0 : v0 < N0) (hkv0 : kd v0 = .inl 11) (hF : F_X13_leaves f 0 [.ref v0, .int v1, .int v2] S = some res) : zM G l 4 0 0 yX13_leaves cX13_leaves 4 (some .int) [.ref (zB G + v0), .int v1, .int v2] (cn G kd N0 S) (zPo G kd N0 res) := zM.of (by decide) rfl (Nat.le_of_ble_eq_true rfl) (fun X _ C hr _ => (B_X13_leaves C hr f).1 S v0 v1 v2 res hT hpv0 hkv0 hF)
def F_X13_all_0 (f : Nat) (rc : Nat → List Value → aS → aR) (v0 : Nat) (S : aS) : aR :=
  fS (sI S v0 0 0) fun S1 => bV (F_X13_copies f 0 [.ref v0, .int 0, .int 756, .int 28] S1) fun S2 => bV (F_X13_allWalk f 0 [.ref v0, .int 756, .int 0] S2) fun S3 => bI (F_X13_lyingIn f 0 [.ref v0, .int 756] S3) fun x4 S4 => some (some (.int x4), S4)
def F_X13_all : Nat → Nat → List Value → aS → aR
  | 0, _, _, _ => none
  | f + 1, 0, vs, S => F_X13_all_0 f (F_X13_all f) (vR vs 0) S
  | _ + 1, _, _, _ => none
theorem dX13_all_0 : decode cX13_all 0 = .ok (.aload_n 0, 1) := by decide +kernel
theorem dX13_all_1 : decode cX13_all 1 = .ok (.iconst 0, 1) := by decide +kernel
theorem dX13_all_2 : decode cX13_all 2 = .ok (.putfield 1, 3) := by decide +kernel
theorem dX13_all_5 : decode cX13_all 5 = .ok (.aload_n 0, 1) := by decide +kernel
theorem dX13_all_6 : decode cX13_all 6 = .ok (.iconst 0, 1) := by decide +kernel
theorem dX13_all_7 : decode cX13_all 7 = .ok (.sipush 756, 3) := by decide +kernel
theorem dX13_all_10 : decode cX13_all 10 = .ok (.bipush 28, 2) := by decide +kernel
theorem dX13_all_12 : decode cX13_all 12 = .ok (.invokevirtual 288, 3) := by decide +kernel
theorem dX13_all_15 : decode cX13_all 15 = .ok (.aload_n 0, 1) := by decide +kernel
theorem dX13_all_16 : decode cX13_all 16 = .ok (.sipush 756, 3) := by decide +kernel
theorem dX13_all_19 : decode cX13_all 19 = .ok (.iconst 0, 1) := by decide +kernel
theorem dX13_all_20 : decode cX13_all 20 = .ok (.invokevirtual 364, 3) := by decide +kernel
theorem dX13_all_23 : decode cX13_all 23 = .ok (.aload_n 0, 1) := by decide +kernel
theorem dX13_all_24 : decode cX13_all 24 = .ok (.sipush 756, 3) := by decide +kernel
theorem dX13_all_27 : decode cX13_all 27 = .ok (.invokevirtual 299, 3) := by decide +kernel
theorem dX13_all_30 : decode cX13_all 30 = .ok (.ireturn, 1) := by decide +kernel
set_option maxHeartbeats 4000000 in
set_option maxRecDepth 100000 in
theorem B_X13_all {G : zG} {X : zX} {kd : kD} {N0 : Nat} (C : zCt G X 5 0 0 RX13 cX13_all 1) (hr : (zXh X).sig.returnType = (some .int)) : ∀ f : Nat,
    (∀ (S : aS) (v0 : Nat) (res : Option Value × aS), zT0 kd N0 S → v0 < N0 → kd v0 = .inl 11 → F_X13_all f 0 [.ref v0] S = some res → zV G X (zQX G X (zPo G kd N0 res) 0 0) 1 [some (.ref (zB G + v0))] [] (cn G kd N0 S) 0 0 0) := by
  intro f
  induction f with
  | zero => exact (fun _ _ _ _ _ _ h => by cases h)
  | succ f ih =>
    have ih0 := ih
    intro S v0 res hT hpv0 hkv0 hF
    replace hF : F_X13_all_0 f (F_X13_all f) v0 S = some res := hF
    unfold F_X13_all_0 at hF
    refine z_aload_n C dX13_all_0 rfl ?_
    refine z_iconst (v := 0) C dX13_all_1 (by decide) ?_
    refine f_puti C dX13_all_2 zfRX13_1 fw11_0 hpv0 hkv0 rfl rfl rfl ?_
    have hT1 : zT0 kd N0 (sI S v0 0 0) := zT0_sI hT
    replace hF := fS_e hF
    generalize sI S v0 0 0 = S1 at hF hT1 ⊢
    refine z_aload_n C dX13_all_5 rfl ?_
    refine z_iconst (v := 0) C dX13_all_6 (by decide) ?_
    refine z_sipush (v := 756) C dX13_all_7 (by decide) ?_
    refine z_bipush (v := 28) C dX13_all_10 (by decide) ?_
    obtain ⟨S2, h2, hF⟩ := bV_some hF
    refine f_cV (st2 := []) C dX13_all_12 zyX13_copies zvX13_copies lkRX13_288 (K_X13_copies (l := zXl X) hT1 hpv0 hkv0    h2) hpv0 hkv0 rfl (by decide) rfl rfl (Nat.le_of_ble_eq_true rfl) rfl (fun hT2 => ?_)
    refine z_aload_n C dX13_all_15 rfl ?_
    refine z_sipush (v := 756) C dX13_all_16 (by decide) ?_
    refine z_iconst (v := 0) C dX13_all_19 (by decide) ?_
    obtain ⟨S3, h3, hF⟩ := bV_some hF
    refine f_cV (st2 := []) C dX13_all_20 zyX13_allWalk zvX13_allWalk lkRX13_364 (K_X13_allWalk (l := zXl X) hT2 hpv0 hkv0   h3) hpv0 hkv0 rfl (by decide) rfl rfl (Nat.le_of_ble_eq_true rfl) rfl (fun hT3 => ?_)
    refine z_aload_n C dX13_all_23 rfl ?_
    refine z_sipush (v := 756) C dX13_all_24 (by decide) ?_
    obtain ⟨x4, S4, h4, hF⟩ := bI_some hF
    refine f_cV (st2 := [.int x4]) C dX13_all_27 zyX13_lyingIn zvX13_lyingIn lkRX13_299 (K_X13_lyingIn (l := zXl X) hT3 hpv0 hkv0  h4) hpv0 hkv0 rfl (by decide) rfl rfl (Nat.le_of_ble_eq_true rfl) rfl (fun hT4 => ?_)
    cases hF
    exact z_iret C hr dX13_all_30 ⟨rfl, rfl, hT4⟩
theorem K_X13_all {G : zG} {l : Launch} {kd : kD} {N0 f : Nat} {S : aS} {v0 : Nat} {res : Option Value × aS} (hT : zT0 kd N0 S) (hpv0 : v0 < N0) (hkv0 : kd v0 = .inl 11) (hF : F_X13_all f 0 [.ref v0] S = some res) : zM G l 5 0 0 yX13_all cX13_all 1 (some .int) [.ref (zB G + v0)] (cn G kd N0 S) (zPo G kd N0 res) := zM.of (by decide) rfl (Nat.le_of_ble_eq_true rfl) (fun X _ C hr _ => (B_X13_all C hr f) S v0 res hT hpv0 hkv0 hF)
def F_X13_without_0 (f : Nat) (rc : Nat → List Value → aS → aR) (v0 : Nat) (v1 : Int32) (S : aS) : aR :=
  fS (sI S v0 0 0) fun S1 => bI (F_X13_isPerson f 0 [.ref v0, .int v1] S1) fun x2 S2 => if x2 = (0 : Int32) then some (some (.int ((-1))), S2) else bV (F_X13_copies f 0 [.ref v0, .int 0, .int 756, .int 28] S2) fun S4 => bV (F_X13_allWalk f 0 [.ref v0, .int 756, .int ((1 : Int32) <<< (v1 &&& 31))] S4) fun S5 => bI (F_X13_lyingIn f 0 [.ref v0, .int 756] S5) fun x6 S6 => some (some (.int x6), S6)
def F_X13_without : Nat → Nat → List Value → aS → aR
  | 0, _, _, _ => none
  | f + 1, 0, vs, S => F_X13_without_0 f (F_X13_without f) (vR vs 0) (vI vs 1) S
  | _ + 1, _, _, _ => none
theorem dX13_without_0 : decode cX13_without 0 = .ok (.aload_n 0, 1) := by decide +kernel
theorem dX13_without_1 : decode cX13_without 1 = .ok (.iconst 0, 1) := by decide +kernel
theorem dX13_without_2 : decode cX13_without 2 = .ok (.putfield 1, 3) := by decide +kernel
theorem dX13_without_5 : decode cX13_without 5 = .ok (.aload_n 0, 1) := by decide +kernel
theorem dX13_without_6 : decode cX13_without 6 = .ok (.iload_n 1, 1) := by decide +kernel
theorem dX13_without_7 : decode cX13_without 7 = .ok (.invokevirtual 343, 3) := by decide +kernel
theorem dX13_without_10 : decode cX13_without 10 = .ok (.ifCond .ne 5, 3) := by decide +kernel
theorem dX13_without_13 : decode cX13_without 13 = .ok (.iconst (-1), 1) := by decide +kernel
theorem dX13_without_14 : decode cX13_without 14 = .ok (.ireturn, 1) := by decide +kernel
theorem dX13_without_15 : decode cX13_without 15 = .ok (.aload_n 0, 1) := by decide +kernel
theorem dX13_without_16 : decode cX13_without 16 = .ok (.iconst 0, 1) := by decide +kernel
theorem dX13_without_17 : decode cX13_without 17 = .ok (.sipush 756, 3) := by decide +kernel
theorem dX13_without_20 : decode cX13_without 20 = .ok (.bipush 28, 2) := by decide +kernel
theorem dX13_without_22 : decode cX13_without 22 = .ok (.invokevirtual 288, 3) := by decide +kernel
theorem dX13_without_25 : decode cX13_without 25 = .ok (.aload_n 0, 1) := by decide +kernel
theorem dX13_without_26 : decode cX13_without 26 = .ok (.sipush 756, 3) := by decide +kernel
theorem dX13_without_29 : decode cX13_without 29 = .ok (.iconst 1, 1) := by decide +kernel
theorem dX13_without_30 : decode cX13_without 30 = .ok (.iload_n 1, 1) := by decide +kernel
theorem dX13_without_31 : decode cX13_without 31 = .ok (.ishl, 1) := by decide +kernel
theorem dX13_without_32 : decode cX13_without 32 = .ok (.invokevirtual 364, 3) := by decide +kernel
theorem dX13_without_35 : decode cX13_without 35 = .ok (.aload_n 0, 1) := by decide +kernel
theorem dX13_without_36 : decode cX13_without 36 = .ok (.sipush 756, 3) := by decide +kernel
theorem dX13_without_39 : decode cX13_without 39 = .ok (.invokevirtual 299, 3) := by decide +kernel
theorem dX13_without_42 : decode cX13_without 42 = .ok (.ireturn, 1) := by decide +kernel
set_option maxHeartbeats 4000000 in
set_option maxRecDepth 100000 in
theorem B_X13_without {G : zG} {X : zX} {kd : kD} {N0 : Nat} (C : zCt G X 5 0 0 RX13 cX13_without 2) (hr : (zXh X).sig.returnType = (some .int)) : ∀ f : Nat,
    (∀ (S : aS) (v0 : Nat) (v1 : Int32) (res : Option Value × aS), zT0 kd N0 S → v0 < N0 → kd v0 = .inl 11 → F_X13_without f 0 [.ref v0, .int v1] S = some res → zV G X (zQX G X (zPo G kd N0 res) 0 0) 2 [some (.ref (zB G + v0)), some (.int v1)] [] (cn G kd N0 S) 0 0 0) := by
  intro f
  induction f with
  | zero => exact (fun _ _ _ _ _ _ _ h => by cases h)
  | succ f ih =>
    have ih0 := ih
    intro S v0 v1 res hT hpv0 hkv0 hF
    replace hF : F_X13_without_0 f (F_X13_without f) v0 v1 S = some res := hF
    unfold F_X13_without_0 at hF
    refine z_aload_n C dX13_without_0 rfl ?_
    refine z_iconst (v := 0) C dX13_without_1 (by decide) ?_
    refine f_puti C dX13_without_2 zfRX13_1 fw11_0 hpv0 hkv0 rfl rfl rfl ?_
    have hT1 : zT0 kd N0 (sI S v0 0 0) := zT0_sI hT
    replace hF := fS_e hF
    generalize sI S v0 0 0 = S1 at hF hT1 ⊢
    refine z_aload_n C dX13_without_5 rfl ?_
    refine z_iload_n C dX13_without_6 rfl ?_
    obtain ⟨x2, S2, h2, hF⟩ := bI_some hF
    refine f_cV (st2 := [.int x2]) C dX13_without_7 zyX13_isPerson zvX13_isPerson lkRX13_343 (K_X13_isPerson (l := zXl X) hT1 hpv0 hkv0  h2) hpv0 hkv0 rfl (by decide) rfl rfl (Nat.le_of_ble_eq_true rfl) rfl (fun hT2 => ?_)
    refine z_if_ne C 15 dX13_without_10 (by decide) (fun c3 => ?_) (fun c3 => ?_)
    · replace hF := im hF c3
      refine z_aload_n C dX13_without_15 rfl ?_
      refine z_iconst (v := 0) C dX13_without_16 (by decide) ?_
      refine z_sipush (v := 756) C dX13_without_17 (by decide) ?_
      refine z_bipush (v := 28) C dX13_without_20 (by decide) ?_
      obtain ⟨S4, h4, hF⟩ := bV_some hF
      refine f_cV (st2 := []) C dX13_without_22 zyX13_copies zvX13_copies lkRX13_288 (K_X13_copies (l := zXl X) hT2 hpv0 hkv0    h4) hpv0 hkv0 rfl (by decide) rfl rfl (Nat.le_of_ble_eq_true rfl) rfl (fun hT4 => ?_)
      refine z_aload_n C dX13_without_25 rfl ?_
      refine z_sipush (v := 756) C dX13_without_26 (by decide) ?_
      refine z_iconst (v := 1) C dX13_without_29 (by decide) ?_
      refine z_iload_n C dX13_without_30 rfl ?_
      refine z_ishl C dX13_without_31 ?_
      obtain ⟨S5, h5, hF⟩ := bV_some hF
      refine f_cV (st2 := []) C dX13_without_32 zyX13_allWalk zvX13_allWalk lkRX13_364 (K_X13_allWalk (l := zXl X) hT4 hpv0 hkv0   h5) hpv0 hkv0 rfl (by decide) rfl rfl (Nat.le_of_ble_eq_true rfl) rfl (fun hT5 => ?_)
      refine z_aload_n C dX13_without_35 rfl ?_
      refine z_sipush (v := 756) C dX13_without_36 (by decide) ?_
      obtain ⟨x6, S6, h6, hF⟩ := bI_some hF
      refine f_cV (st2 := [.int x6]) C dX13_without_39 zyX13_lyingIn zvX13_lyingIn lkRX13_299 (K_X13_lyingIn (l := zXl X) hT5 hpv0 hkv0  h6) hpv0 hkv0 rfl (by decide) rfl rfl (Nat.le_of_ble_eq_true rfl) rfl (fun hT6 => ?_)
      cases hF
      exact z_iret C hr dX13_without_42 ⟨rfl, rfl, hT6⟩
    · replace hF := ip hF c3
      refine z_iconst (v := (-1)) C dX13_without_13 (by decide) ?_
      cases hF
      exact z_iret C hr dX13_without_14 ⟨rfl, rfl, hT2⟩
theorem K_X13_without {G : zG} {l : Launch} {kd : kD} {N0 f : Nat} {S : aS} {v0 : Nat} {v1 : Int32} {res : Option Value × aS} (hT : zT0 kd N0 S) (hpv0 : v0 < N0) (hkv0 : kd v0 = .inl 11) (hF : F_X13_without f 0 [.ref v0, .int v1] S = some res) : zM G l 5 0 0 yX13_without cX13_without 2 (some .int) [.ref (zB G + v0), .int v1] (cn G kd N0 S) (zPo G kd N0 res) := zM.of (by decide) rfl (Nat.le_of_ble_eq_true rfl) (fun X _ C hr _ => (B_X13_without C hr f) S v0 v1 res hT hpv0 hkv0 hF)

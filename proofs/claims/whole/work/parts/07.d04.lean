def F_X13_sweep_0 (f : Nat) (rc : Nat → List Value → aS → aR) (v0 : Nat) (v1 : Int32) (S : aS) : aR :=
  fS (sI S v0 0 0) fun S1 => bI (F_X13_isYard f 0 [.ref v0, .int v1] S1) fun x2 S2 => if x2 = (0 : Int32) then some (some (.int ((-1))), S2) else bV (F_X13_keeps f 0 [.ref v0] S2) fun S4 => bX ((4 : Int32) + v1) 828 fun q6 => bX ((4 : Int32) + v1) 828 fun q8 => fS (sI S4 (gR S4 v0 22) q8 0) fun S9 => some (some (.int (gI S4 (gR S4 v0 22) q6)), S9)
def F_X13_sweep : Nat → Nat → List Value → aS → aR
  | 0, _, _, _ => none
  | f + 1, 0, vs, S => F_X13_sweep_0 f (F_X13_sweep f) (vR vs 0) (vI vs 1) S
  | _ + 1, _, _, _ => none
theorem dX13_sweep_0 : decode cX13_sweep 0 = .ok (.aload_n 0, 1) := by decide +kernel
theorem dX13_sweep_1 : decode cX13_sweep 1 = .ok (.iconst 0, 1) := by decide +kernel
theorem dX13_sweep_2 : decode cX13_sweep 2 = .ok (.putfield 1, 3) := by decide +kernel
theorem dX13_sweep_5 : decode cX13_sweep 5 = .ok (.aload_n 0, 1) := by decide +kernel
theorem dX13_sweep_6 : decode cX13_sweep 6 = .ok (.iload_n 1, 1) := by decide +kernel
theorem dX13_sweep_7 : decode cX13_sweep 7 = .ok (.invokevirtual 336, 3) := by decide +kernel
theorem dX13_sweep_10 : decode cX13_sweep 10 = .ok (.ifCond .ne 5, 3) := by decide +kernel
theorem dX13_sweep_13 : decode cX13_sweep 13 = .ok (.iconst (-1), 1) := by decide +kernel
theorem dX13_sweep_14 : decode cX13_sweep 14 = .ok (.ireturn, 1) := by decide +kernel
theorem dX13_sweep_15 : decode cX13_sweep 15 = .ok (.aload_n 0, 1) := by decide +kernel
theorem dX13_sweep_16 : decode cX13_sweep 16 = .ok (.invokevirtual 346, 3) := by decide +kernel
theorem dX13_sweep_19 : decode cX13_sweep 19 = .ok (.aload_n 0, 1) := by decide +kernel
theorem dX13_sweep_20 : decode cX13_sweep 20 = .ok (.getfield 119, 3) := by decide +kernel
theorem dX13_sweep_23 : decode cX13_sweep 23 = .ok (.iconst 4, 1) := by decide +kernel
theorem dX13_sweep_24 : decode cX13_sweep 24 = .ok (.iload_n 1, 1) := by decide +kernel
theorem dX13_sweep_25 : decode cX13_sweep 25 = .ok (.iadd, 1) := by decide +kernel
theorem dX13_sweep_26 : decode cX13_sweep 26 = .ok (.iaload, 1) := by decide +kernel
theorem dX13_sweep_27 : decode cX13_sweep 27 = .ok (.istore_n 2, 1) := by decide +kernel
theorem dX13_sweep_28 : decode cX13_sweep 28 = .ok (.aload_n 0, 1) := by decide +kernel
theorem dX13_sweep_29 : decode cX13_sweep 29 = .ok (.getfield 119, 3) := by decide +kernel
theorem dX13_sweep_32 : decode cX13_sweep 32 = .ok (.iconst 4, 1) := by decide +kernel
theorem dX13_sweep_33 : decode cX13_sweep 33 = .ok (.iload_n 1, 1) := by decide +kernel
theorem dX13_sweep_34 : decode cX13_sweep 34 = .ok (.iadd, 1) := by decide +kernel
theorem dX13_sweep_35 : decode cX13_sweep 35 = .ok (.iconst 0, 1) := by decide +kernel
theorem dX13_sweep_36 : decode cX13_sweep 36 = .ok (.iastore, 1) := by decide +kernel
theorem dX13_sweep_37 : decode cX13_sweep 37 = .ok (.iload_n 2, 1) := by decide +kernel
theorem dX13_sweep_38 : decode cX13_sweep 38 = .ok (.ireturn, 1) := by decide +kernel
set_option maxHeartbeats 4000000 in
set_option maxRecDepth 100000 in
theorem B_X13_sweep {G : zG} {X : zX} {kd : kD} {N0 : Nat} (C : zCt G X 2 0 0 RX13 cX13_sweep 3) (hr : (zXh X).sig.returnType = (some .int)) : ∀ f : Nat,
    (∀ (S : aS) (v0 : Nat) (v1 : Int32) (res : Option Value × aS), zT0 kd N0 S → v0 < N0 → kd v0 = .inl 11 → F_X13_sweep f 0 [.ref v0, .int v1] S = some res → zV G X (zQX G X (zPo G kd N0 res) 0 0) 3 [some (.ref (zB G + v0)), some (.int v1), none] [] (cn G kd N0 S) 0 0 0) := by
  intro f
  induction f with
  | zero => exact (fun _ _ _ _ _ _ _ h => by cases h)
  | succ f ih =>
    have ih0 := ih
    intro S v0 v1 res hT hpv0 hkv0 hF
    replace hF : F_X13_sweep_0 f (F_X13_sweep f) v0 v1 S = some res := hF
    unfold F_X13_sweep_0 at hF
    refine z_aload_n C dX13_sweep_0 rfl ?_
    refine z_iconst (v := 0) C dX13_sweep_1 (by decide) ?_
    refine f_puti C dX13_sweep_2 zfRX13_1 fw11_0 hpv0 hkv0 rfl rfl rfl ?_
    have hT1 : zT0 kd N0 (sI S v0 0 0) := zT0_sI hT
    replace hF := fS_e hF
    generalize sI S v0 0 0 = S1 at hF hT1 ⊢
    refine z_aload_n C dX13_sweep_5 rfl ?_
    refine z_iload_n C dX13_sweep_6 rfl ?_
    obtain ⟨x2, S2, h2, hF⟩ := bI_some hF
    refine f_cV (st2 := [.int x2]) C dX13_sweep_7 zyX13_isYard zvX13_isYard lkRX13_336 (K_X13_isYard (l := zXl X) hT1 hpv0 hkv0  h2) hpv0 hkv0 rfl (by decide) rfl rfl (Nat.le_of_ble_eq_true rfl) rfl (fun hT2 => ?_)
    refine z_if_ne C 15 dX13_sweep_10 (by decide) (fun c3 => ?_) (fun c3 => ?_)
    · replace hF := im hF c3
      refine z_aload_n C dX13_sweep_15 rfl ?_
      obtain ⟨S4, h4, hF⟩ := bV_some hF
      refine f_cV (st2 := []) C dX13_sweep_16 zyX13_keeps zvX13_keeps lkRX13_346 (K_X13_keeps (l := zXl X) hT2 hpv0 hkv0 h4) hpv0 hkv0 rfl (by decide) rfl rfl (Nat.le_of_ble_eq_true rfl) rfl (fun hT4 => ?_)
      refine z_aload_n C dX13_sweep_19 rfl ?_
      refine f_getr C dX13_sweep_20 zfRX13_119 hpv0 hkv0 rfl ?_
      obtain ⟨hp5, hk5⟩ := hT4.1 v0 11 22 (.inr (0, 828)) hpv0 hkv0 rfl
      refine z_iconst (v := 4) C dX13_sweep_23 (by decide) ?_
      refine z_iload_n C dX13_sweep_24 rfl ?_
      refine z_iadd C dX13_sweep_25 ?_
      obtain ⟨hi6, hF⟩ := bX_some hF
      obtain ⟨q6, eq6⟩ : ∃ q : Nat, q = Int32.toNatClampNeg ((4 : Int32) + v1) := ⟨_, rfl⟩
      rw [← eq6] at hF
      refine f_iald C dX13_sweep_26 hp5 hk5 hi6 ?_
      rw [← eq6]
      refine z_istore_n (lv2 := [some (.ref (zB G + v0)), some (.int v1), some (.int (gI S4 (gR S4 v0 22) q6))]) C dX13_sweep_27 (by decide) rfl ?_
      refine z_aload_n C dX13_sweep_28 rfl ?_
      refine f_getr C dX13_sweep_29 zfRX13_119 hpv0 hkv0 rfl ?_
      obtain ⟨hp7, hk7⟩ := hT4.1 v0 11 22 (.inr (0, 828)) hpv0 hkv0 rfl
      refine z_iconst (v := 4) C dX13_sweep_32 (by decide) ?_
      refine z_iload_n C dX13_sweep_33 rfl ?_
      refine z_iadd C dX13_sweep_34 ?_
      refine z_iconst (v := 0) C dX13_sweep_35 (by decide) ?_
      obtain ⟨hi8, hF⟩ := bX_some hF
      obtain ⟨q8, eq8⟩ : ∃ q : Nat, q = Int32.toNatClampNeg ((4 : Int32) + v1) := ⟨_, rfl⟩
      rw [← eq8] at hF
      refine f_iast C dX13_sweep_36 hp7 hk7 hi8 ?_
      rw [← eq8]
      have hT9 : zT0 kd N0 (sI S4 (gR S4 v0 22) q8 0) := zT0_sI hT4
      replace hF := fS_e hF
      generalize sI S4 (gR S4 v0 22) q8 0 = S9 at hF hT9 ⊢
      refine z_iload_n C dX13_sweep_37 rfl ?_
      cases hF
      exact z_iret C hr dX13_sweep_38 ⟨rfl, rfl, hT9⟩
    · replace hF := ip hF c3
      refine z_iconst (v := (-1)) C dX13_sweep_13 (by decide) ?_
      cases hF
      exact z_iret C hr dX13_sweep_14 ⟨rfl, rfl, hT2⟩
theorem K_X13_sweep {G : zG} {l : Launch} {kd : kD} {N0 f : Nat} {S : aS} {v0 : Nat} {v1 : Int32} {res : Option Value × aS} (hT : zT0 kd N0 S) (hpv0 : v0 < N0) (hkv0 : kd v0 = .inl 11) (hF : F_X13_sweep f 0 [.ref v0, .int v1] S = some res) : zM G l 2 0 0 yX13_sweep cX13_sweep 3 (some .int) [.ref (zB G + v0), .int v1] (cn G kd N0 S) (zPo G kd N0 res) := zM.of (by decide) rfl (Nat.le_of_ble_eq_true rfl) (fun X _ C hr _ => (B_X13_sweep C hr f) S v0 v1 res hT hpv0 hkv0 hF)
def F_X13_hour_0 (f : Nat) (rc : Nat → List Value → aS → aR) (v0 : Nat) (S : aS) : aR :=
  fS (sI S v0 0 0) fun S1 => bV (F_X13_keeps f 0 [.ref v0] S1) fun S2 => bI (F_X13_passes f 0 [.ref v0, .int 0] S2) fun x3 S3 => some (some (.int x3), S3)
def F_X13_hour : Nat → Nat → List Value → aS → aR
  | 0, _, _, _ => none
  | f + 1, 0, vs, S => F_X13_hour_0 f (F_X13_hour f) (vR vs 0) S
  | _ + 1, _, _, _ => none
theorem dX13_hour_0 : decode cX13_hour 0 = .ok (.aload_n 0, 1) := by decide +kernel
theorem dX13_hour_1 : decode cX13_hour 1 = .ok (.iconst 0, 1) := by decide +kernel
theorem dX13_hour_2 : decode cX13_hour 2 = .ok (.putfield 1, 3) := by decide +kernel
theorem dX13_hour_5 : decode cX13_hour 5 = .ok (.aload_n 0, 1) := by decide +kernel
theorem dX13_hour_6 : decode cX13_hour 6 = .ok (.invokevirtual 346, 3) := by decide +kernel
theorem dX13_hour_9 : decode cX13_hour 9 = .ok (.aload_n 0, 1) := by decide +kernel
theorem dX13_hour_10 : decode cX13_hour 10 = .ok (.iconst 0, 1) := by decide +kernel
theorem dX13_hour_11 : decode cX13_hour 11 = .ok (.invokevirtual 358, 3) := by decide +kernel
theorem dX13_hour_14 : decode cX13_hour 14 = .ok (.ireturn, 1) := by decide +kernel
set_option maxHeartbeats 4000000 in
set_option maxRecDepth 100000 in
theorem B_X13_hour {G : zG} {X : zX} {kd : kD} {N0 : Nat} (C : zCt G X 3 0 0 RX13 cX13_hour 1) (hr : (zXh X).sig.returnType = (some .int)) : ∀ f : Nat,
    (∀ (S : aS) (v0 : Nat) (res : Option Value × aS), zT0 kd N0 S → v0 < N0 → kd v0 = .inl 11 → F_X13_hour f 0 [.ref v0] S = some res → zV G X (zQX G X (zPo G kd N0 res) 0 0) 1 [some (.ref (zB G + v0))] [] (cn G kd N0 S) 0 0 0) := by
  intro f
  induction f with
  | zero => exact (fun _ _ _ _ _ _ h => by cases h)
  | succ f ih =>
    have ih0 := ih
    intro S v0 res hT hpv0 hkv0 hF
    replace hF : F_X13_hour_0 f (F_X13_hour f) v0 S = some res := hF
    unfold F_X13_hour_0 at hF
    refine z_aload_n C dX13_hour_0 rfl ?_
    refine z_iconst (v := 0) C dX13_hour_1 (by decide) ?_
    refine f_puti C dX13_hour_2 zfRX13_1 fw11_0 hpv0 hkv0 rfl rfl rfl ?_
    have hT1 : zT0 kd N0 (sI S v0 0 0) := zT0_sI hT
    replace hF := fS_e hF
    generalize sI S v0 0 0 = S1 at hF hT1 ⊢
    refine z_aload_n C dX13_hour_5 rfl ?_
    obtain ⟨S2, h2, hF⟩ := bV_some hF
    refine f_cV (st2 := []) C dX13_hour_6 zyX13_keeps zvX13_keeps lkRX13_346 (K_X13_keeps (l := zXl X) hT1 hpv0 hkv0 h2) hpv0 hkv0 rfl (by decide) rfl rfl (Nat.le_of_ble_eq_true rfl) rfl (fun hT2 => ?_)
    refine z_aload_n C dX13_hour_9 rfl ?_
    refine z_iconst (v := 0) C dX13_hour_10 (by decide) ?_
    obtain ⟨x3, S3, h3, hF⟩ := bI_some hF
    refine f_cV (st2 := [.int x3]) C dX13_hour_11 zyX13_passes zvX13_passes lkRX13_358 (K_X13_passes (l := zXl X) hT2 hpv0 hkv0  h3) hpv0 hkv0 rfl (by decide) rfl rfl (Nat.le_of_ble_eq_true rfl) rfl (fun hT3 => ?_)
    cases hF
    exact z_iret C hr dX13_hour_14 ⟨rfl, rfl, hT3⟩
theorem K_X13_hour {G : zG} {l : Launch} {kd : kD} {N0 f : Nat} {S : aS} {v0 : Nat} {res : Option Value × aS} (hT : zT0 kd N0 S) (hpv0 : v0 < N0) (hkv0 : kd v0 = .inl 11) (hF : F_X13_hour f 0 [.ref v0] S = some res) : zM G l 3 0 0 yX13_hour cX13_hour 1 (some .int) [.ref (zB G + v0)] (cn G kd N0 S) (zPo G kd N0 res) := zM.of (by decide) rfl (Nat.le_of_ble_eq_true rfl) (fun X _ C hr _ => (B_X13_hour C hr f) S v0 res hT hpv0 hkv0 hF)
def F_X13_undo_0 (f : Nat) (rc : Nat → List Value → aS → aR) (v0 : Nat) (S : aS) : aR :=
  fS (sI S v0 0 0) fun S1 => if (gI S1 v0 23) = (0 : Int32) then bZ 0 (some (some (.int 0), S1)) else fS (sI S1 v0 23 ((gI S1 v0 23) - (1 : Int32))) fun S3 => bV (F_X13_copies f 0 [.ref v0, .int ((36 : Int32) * ((5 : Int32) + (gI S3 v0 23))), .int 0, .int 28] S3) fun S4 => bZ 1 (some (some (.int 1), S4))
def F_X13_undo : Nat → Nat → List Value → aS → aR
  | 0, _, _, _ => none
  | f + 1, 0, vs, S => F_X13_undo_0 f (F_X13_undo f) (vR vs 0) S
  | _ + 1, _, _, _ => none
theorem dX13_undo_0 : decode cX13_undo 0 = .ok (.aload_n 0, 1) := by decide +kernel
theorem dX13_undo_1 : decode cX13_undo 1 = .ok (.iconst 0, 1) := by decide +kernel
theorem dX13_undo_2 : decode cX13_undo 2 = .ok (.putfield 1, 3) := by decide +kernel
theorem dX13_undo_5 : decode cX13_undo 5 = .ok (.aload_n 0, 1) := by decide +kernel
theorem dX13_undo_6 : decode cX13_undo 6 = .ok (.getfield 285, 3) := by decide +kernel
theorem dX13_undo_9 : decode cX13_undo 9 = .ok (.ifCond .ne 5, 3) := by decide +kernel
theorem dX13_undo_12 : decode cX13_undo 12 = .ok (.iconst 0, 1) := by decide +kernel
theorem dX13_undo_13 : decode cX13_undo 13 = .ok (.ireturn, 1) := by decide +kernel
theorem dX13_undo_14 : decode cX13_undo 14 = .ok (.aload_n 0, 1) := by decide +kernel
theorem dX13_undo_15 : decode cX13_undo 15 = .ok (.dup, 1) := by decide +kernel
theorem dX13_undo_16 : decode cX13_undo 16 = .ok (.getfield 285, 3) := by decide +kernel
theorem dX13_undo_19 : decode cX13_undo 19 = .ok (.iconst 1, 1) := by decide +kernel
theorem dX13_undo_20 : decode cX13_undo 20 = .ok (.isub, 1) := by decide +kernel
theorem dX13_undo_21 : decode cX13_undo 21 = .ok (.putfield 285, 3) := by decide +kernel
theorem dX13_undo_24 : decode cX13_undo 24 = .ok (.aload_n 0, 1) := by decide +kernel
theorem dX13_undo_25 : decode cX13_undo 25 = .ok (.bipush 36, 2) := by decide +kernel
theorem dX13_undo_27 : decode cX13_undo 27 = .ok (.iconst 5, 1) := by decide +kernel
theorem dX13_undo_28 : decode cX13_undo 28 = .ok (.aload_n 0, 1) := by decide +kernel
theorem dX13_undo_29 : decode cX13_undo 29 = .ok (.getfield 285, 3) := by decide +kernel
theorem dX13_undo_32 : decode cX13_undo 32 = .ok (.iadd, 1) := by decide +kernel
theorem dX13_undo_33 : decode cX13_undo 33 = .ok (.imul, 1) := by decide +kernel
theorem dX13_undo_34 : decode cX13_undo 34 = .ok (.iconst 0, 1) := by decide +kernel
theorem dX13_undo_35 : decode cX13_undo 35 = .ok (.bipush 28, 2) := by decide +kernel
theorem dX13_undo_37 : decode cX13_undo 37 = .ok (.invokevirtual 288, 3) := by decide +kernel
theorem dX13_undo_40 : decode cX13_undo 40 = .ok (.iconst 1, 1) := by decide +kernel
theorem dX13_undo_41 : decode cX13_undo 41 = .ok (.ireturn, 1) := by decide +kernel
set_option maxHeartbeats 4000000 in
set_option maxRecDepth 100000 in
theorem B_X13_undo {G : zG} {X : zX} {kd : kD} {N0 : Nat} (C : zCt G X 1 0 0 RX13 cX13_undo 1) (hr : (zXh X).sig.returnType = (some .boolean)) : ∀ f : Nat,
    (∀ (S : aS) (v0 : Nat) (res : Option Value × aS), zT0 kd N0 S → v0 < N0 → kd v0 = .inl 11 → F_X13_undo f 0 [.ref v0] S = some res → zV G X (zQX G X (zPo G kd N0 res) 0 0) 1 [some (.ref (zB G + v0))] [] (cn G kd N0 S) 0 0 0) := by
  intro f
  induction f with
  | zero => exact (fun _ _ _ _ _ _ h => by cases h)
  | succ f ih =>
    have ih0 := ih
    intro S v0 res hT hpv0 hkv0 hF
    replace hF : F_X13_undo_0 f (F_X13_undo f) v0 S = some res := hF
    unfold F_X13_undo_0 at hF
    refine z_aload_n C dX13_undo_0 rfl ?_
    refine z_iconst (v := 0) C dX13_undo_1 (by decide) ?_
    refine f_puti C dX13_undo_2 zfRX13_1 fw11_0 hpv0 hkv0 rfl rfl rfl ?_
    have hT1 : zT0 kd N0 (sI S v0 0 0) := zT0_sI hT
    replace hF := fS_e hF
    generalize sI S v0 0 0 = S1 at hF hT1 ⊢
    refine z_aload_n C dX13_undo_5 rfl ?_
    refine f_geti C dX13_undo_6 zfRX13_285 hpv0 hkv0 rfl ?_
    refine z_if_ne C 14 dX13_undo_9 (by decide) (fun c2 => ?_) (fun c2 => ?_)
    · replace hF := im hF c2
      refine z_aload_n C dX13_undo_14 rfl ?_
      refine z_dup C dX13_undo_15 rfl ?_
      refine f_geti C dX13_undo_16 zfRX13_285 hpv0 hkv0 rfl ?_
      refine z_iconst (v := 1) C dX13_undo_19 (by decide) ?_
      refine z_isub C dX13_undo_20 ?_
      refine f_puti C dX13_undo_21 zfRX13_285 fw11_23 hpv0 hkv0 rfl rfl rfl ?_
      have hT3 : zT0 kd N0 (sI S1 v0 23 ((gI S1 v0 23) - (1 : Int32))) := zT0_sI hT1
      replace hF := fS_e hF
      generalize sI S1 v0 23 ((gI S1 v0 23) - (1 : Int32)) = S3 at hF hT3 ⊢
      refine z_aload_n C dX13_undo_24 rfl ?_
      refine z_bipush (v := 36) C dX13_undo_25 (by decide) ?_
      refine z_iconst (v := 5) C dX13_undo_27 (by decide) ?_
      refine z_aload_n C dX13_undo_28 rfl ?_
      refine f_geti C dX13_undo_29 zfRX13_285 hpv0 hkv0 rfl ?_
      refine z_iadd C dX13_undo_32 ?_
      refine z_imul C dX13_undo_33 ?_
      refine z_iconst (v := 0) C dX13_undo_34 (by decide) ?_
      refine z_bipush (v := 28) C dX13_undo_35 (by decide) ?_
      obtain ⟨S4, h4, hF⟩ := bV_some hF
      refine f_cV (st2 := []) C dX13_undo_37 zyX13_copies zvX13_copies lkRX13_288 (K_X13_copies (l := zXl X) hT3 hpv0 hkv0    h4) hpv0 hkv0 rfl (by decide) rfl rfl (Nat.le_of_ble_eq_true rfl) rfl (fun hT4 => ?_)
      refine z_iconst (v := 1) C dX13_undo_40 (by decide) ?_
      obtain ⟨hz, hF⟩ := bZ_some hF
      cases hF
      exact z_zret C hr hz.1 dX13_undo_41 ⟨rfl, rfl, hT4⟩
    · replace hF := ip hF c2
      refine z_iconst (v := 0) C dX13_undo_12 (by decide) ?_
      obtain ⟨hz, hF⟩ := bZ_some hF
      cases hF
      exact z_zret C hr hz.1 dX13_undo_13 ⟨rfl, rfl, hT1⟩
theorem K_X13_undo {G : zG} {l : Launch} {kd : kD} {N0 f : Nat} {S : aS} {v0 : Nat} {res : Option Value × aS} (hT : zT0 kd N0 S) (hpv0 : v0 < N0) (hkv0 : kd v0 = .inl 11) (hF : F_X13_undo f 0 [.ref v0] S = some res) : zM G l 1 0 0 yX13_undo cX13_undo 1 (some .boolean) [.ref (zB G + v0)] (cn G kd N0 S) (zPo G kd N0 res) := zM.of (by decide) rfl (Nat.le_of_ble_eq_true rfl) (fun X _ C hr _ => (B_X13_undo C hr f) S v0 res hT hpv0 hkv0 hF)
def F_X13_bits_0 (f : Nat) (rc : Nat → List Value → aS → aR) (v0 : Int32) (S : aS) : aR :=
  rc 1 [.int v0, .int 0, .int 0] S
def F_X13_bits_1 (f : Nat) (rc : Nat → List Value → aS → aR) (v0 : Int32) (v1 : Int32) (v2 : Int32) (S : aS) : aR :=
  if (30 : Int32) ≤ v2 then some (some (.int v1), S) else rc 1 [.int v0, .int (v1 + ((v0 >>> (v2 &&& 31)) &&& (1 : Int32))), .int (v2 + 1)] S
def F_X13_bits : Nat → Nat → List Value → aS → aR
  | 0, _, _, _ => none
  | f + 1, 0, vs, S => F_X13_bits_0 f (F_X13_bits f) (vI vs 0) S
  | f + 1, 1, vs, S => F_X13_bits_1 f (F_X13_bits f) (vI vs 0) (vI vs 1) (vI vs 2) S
  | _ + 1, _, _, _ => none
theorem dX13_bits_0 : decode cX13_bits 0 = .ok (.iconst 0, 1) := by decide +kernel
theorem dX13_bits_1 : decode cX13_bits 1 = .ok (.istore_n 1, 1) := by decide +kernel
theorem dX13_bits_2 : decode cX13_bits 2 = .ok (.iconst 0, 1) := by decide +kernel
theorem dX13_bits_3 : decode cX13_bits 3 = .ok (.istore_n 2, 1) := by decide +kernel
theorem dX13_bits_4 : decode cX13_bits 4 = .ok (.iload_n 2, 1) := by decide +kernel
theorem dX13_bits_5 : decode cX13_bits 5 = .ok (.bipush 30, 2) := by decide +kernel
theorem dX13_bits_7 : decode cX13_bits 7 = .ok (.if_icmp .ge 17, 3) := by decide +kernel
theorem dX13_bits_10 : decode cX13_bits 10 = .ok (.iload_n 1, 1) := by decide +kernel
theorem dX13_bits_11 : decode cX13_bits 11 = .ok (.iload_n 0, 1) := by decide +kernel
theorem dX13_bits_12 : decode cX13_bits 12 = .ok (.iload_n 2, 1) := by decide +kernel
theorem dX13_bits_13 : decode cX13_bits 13 = .ok (.ishr, 1) := by decide +kernel
theorem dX13_bits_14 : decode cX13_bits 14 = .ok (.iconst 1, 1) := by decide +kernel
theorem dX13_bits_15 : decode cX13_bits 15 = .ok (.iand, 1) := by decide +kernel
theorem dX13_bits_16 : decode cX13_bits 16 = .ok (.iadd, 1) := by decide +kernel
theorem dX13_bits_17 : decode cX13_bits 17 = .ok (.istore_n 1, 1) := by decide +kernel
theorem dX13_bits_18 : decode cX13_bits 18 = .ok (.iinc 2 1, 3) := by decide +kernel
theorem dX13_bits_21 : decode cX13_bits 21 = .ok (.goto (-17), 3) := by decide +kernel
theorem dX13_bits_24 : decode cX13_bits 24 = .ok (.iload_n 1, 1) := by decide +kernel
theorem dX13_bits_25 : decode cX13_bits 25 = .ok (.ireturn, 1) := by decide +kernel
set_option maxHeartbeats 4000000 in
set_option maxRecDepth 100000 in
theorem B_X13_bits {G : zG} {X : zX} {kd : kD} {N0 : Nat} (C : zCt G X 0 0 0 RX13 cX13_bits 3) (hr : (zXh X).sig.returnType = (some .int)) : ∀ f : Nat,
    (∀ (S : aS) (v0 : Int32) (res : Option Value × aS), zT0 kd N0 S → F_X13_bits f 0 [.int v0] S = some res → zV G X (zQX G X (zPo G kd N0 res) 0 0) 3 [some (.int v0), none, none] [] (cn G kd N0 S) 0 0 0) ∧
    (∀ (S : aS) (v0 : Int32) (v1 : Int32) (v2 : Int32) (res : Option Value × aS), zT0 kd N0 S → F_X13_bits f 1 [.int v0, .int v1, .int v2] S = some res → zV G X (zQX G X (zPo G kd N0 res) 0 0) 3 [some (.int v0), some (.int v1), some (.int v2)] [] (cn G kd N0 S) 4 0 0) := by
  intro f
  induction f with
  | zero => exact ⟨(fun _ _ _ _ h => by cases h), (fun _ _ _ _ _ _ h => by cases h)⟩
  | succ f ih =>
    obtain ⟨ih0, ih1⟩ := ih
    refine ⟨?_, ?_⟩
    · intro S v0 res hT  hF
      replace hF : F_X13_bits_0 f (F_X13_bits f) v0 S = some res := hF
      unfold F_X13_bits_0 at hF
      refine z_iconst (v := 0) C dX13_bits_0 (by decide) ?_
      refine z_istore_n (lv2 := [some (.int v0), some (.int 0), none]) C dX13_bits_1 (by decide) rfl ?_
      refine z_iconst (v := 0) C dX13_bits_2 (by decide) ?_
      refine z_istore_n (lv2 := [some (.int v0), some (.int 0), some (.int 0)]) C dX13_bits_3 (by decide) rfl ?_
      exact ih1 S v0 0 0 res hT    hF
    · intro S v0 v1 v2 res hT  hF
      replace hF : F_X13_bits_1 f (F_X13_bits f) v0 v1 v2 S = some res := hF
      unfold F_X13_bits_1 at hF
      refine z_iload_n C dX13_bits_4 rfl ?_
      refine z_bipush (v := 30) C dX13_bits_5 (by decide) ?_
      refine z_icmp_ge C 24 dX13_bits_7 (by decide) (fun c2 => ?_) (fun c2 => ?_)
      · replace hF := ip hF c2
        refine z_iload_n C dX13_bits_24 rfl ?_
        cases hF
        exact z_iret C hr dX13_bits_25 ⟨rfl, rfl, hT⟩
      · replace hF := im hF c2
        refine z_iload_n C dX13_bits_10 rfl ?_
        refine z_iload_n C dX13_bits_11 rfl ?_
        refine z_iload_n C dX13_bits_12 rfl ?_
        refine z_ishr C dX13_bits_13 ?_
        refine z_iconst (v := 1) C dX13_bits_14 (by decide) ?_
        refine z_iand C dX13_bits_15 ?_
        refine z_iadd C dX13_bits_16 ?_
        refine z_istore_n (lv2 := [some (.int v0), some (.int (v1 + ((v0 >>> (v2 &&& 31)) &&& (1 : Int32)))), some (.int v2)]) C dX13_bits_17 (by decide) rfl ?_
        refine z_iinc (v := v2 + 1) (lv2 := [some (.int v0), some (.int (v1 + ((v0 >>> (v2 &&& 31)) &&& (1 : Int32)))), some (.int (v2 + 1))]) C dX13_bits_18 rfl (by rw [show Int32.ofInt 1 = (1 : Int32) from by decide]) rfl ?_
        refine z_goto C 4 dX13_bits_21 (by decide) ?_
        exact ih1 S v0 (v1 + ((v0 >>> (v2 &&& 31)) &&& (1 : Int32))) (v2 + 1) res hT    hF
theorem K_X13_bits {G : zG} {l : Launch} {kd : kD} {N0 f : Nat} {S : aS} {v0 : Int32} {res : Option Value × aS} (hT : zT0 kd N0 S)  (hF : F_X13_bits f 0 [.int v0] S = some res) : zM G l 0 0 0 yX13_bits cX13_bits 3 (some .int) [.int v0] (cn G kd N0 S) (zPo G kd N0 res) := zM.of (by decide) rfl (Nat.le_of_ble_eq_true rfl) (fun X _ C hr _ => (B_X13_bits C hr f).1 S v0 res hT  hF)
def F_X13_saves_0 (f : Nat) (rc : Nat → List Value → aS → aR) (v0 : Nat) (v1 : Int32) (S : aS) : aR :=
  rc 1 [.ref v0, .int v1, .int 0] S
def F_X13_saves_1 (f : Nat) (rc : Nat → List Value → aS → aR) (v0 : Nat) (v1 : Int32) (v2 : Int32) (S : aS) : aR :=
  if (36 : Int32) ≤ v2 then some (none, S) else bX ((756 : Int32) + v2) 828 fun q7 => bX (((36 : Int32) * v1) + v2) 252 fun q8 => fS (sI S (gR S v0 30) q8 (gI S (gR S v0 22) q7)) fun S9 => rc 1 [.ref v0, .int v1, .int (v2 + 1)] S9
def F_X13_saves : Nat → Nat → List Value → aS → aR
  | 0, _, _, _ => none
  | f + 1, 0, vs, S => F_X13_saves_0 f (F_X13_saves f) (vR vs 0) (vI vs 1) S
  | f + 1, 1, vs, S => F_X13_saves_1 f (F_X13_saves f) (vR vs 0) (vI vs 1) (vI vs 2) S
  | _ + 1, _, _, _ => none
theorem dX13_saves_0 : decode cX13_saves 0 = .ok (.iconst 0, 1) := by decide +kernel
theorem dX13_saves_1 : decode cX13_saves 1 = .ok (.istore_n 2, 1) := by decide +kernel
theorem dX13_saves_2 : decode cX13_saves 2 = .ok (.iload_n 2, 1) := by decide +kernel
theorem dX13_saves_3 : decode cX13_saves 3 = .ok (.bipush 36, 2) := by decide +kernel
theorem dX13_saves_5 : decode cX13_saves 5 = .ok (.if_icmp .ge 30, 3) := by decide +kernel
theorem dX13_saves_8 : decode cX13_saves 8 = .ok (.aload_n 0, 1) := by decide +kernel
theorem dX13_saves_9 : decode cX13_saves 9 = .ok (.getfield 132, 3) := by decide +kernel
theorem dX13_saves_12 : decode cX13_saves 12 = .ok (.bipush 36, 2) := by decide +kernel
theorem dX13_saves_14 : decode cX13_saves 14 = .ok (.iload_n 1, 1) := by decide +kernel
theorem dX13_saves_15 : decode cX13_saves 15 = .ok (.imul, 1) := by decide +kernel
theorem dX13_saves_16 : decode cX13_saves 16 = .ok (.iload_n 2, 1) := by decide +kernel
theorem dX13_saves_17 : decode cX13_saves 17 = .ok (.iadd, 1) := by decide +kernel
theorem dX13_saves_18 : decode cX13_saves 18 = .ok (.aload_n 0, 1) := by decide +kernel
theorem dX13_saves_19 : decode cX13_saves 19 = .ok (.getfield 119, 3) := by decide +kernel
theorem dX13_saves_22 : decode cX13_saves 22 = .ok (.sipush 756, 3) := by decide +kernel
theorem dX13_saves_25 : decode cX13_saves 25 = .ok (.iload_n 2, 1) := by decide +kernel
theorem dX13_saves_26 : decode cX13_saves 26 = .ok (.iadd, 1) := by decide +kernel
theorem dX13_saves_27 : decode cX13_saves 27 = .ok (.iaload, 1) := by decide +kernel
theorem dX13_saves_28 : decode cX13_saves 28 = .ok (.iastore, 1) := by decide +kernel
theorem dX13_saves_29 : decode cX13_saves 29 = .ok (.iinc 2 1, 3) := by decide +kernel
theorem dX13_saves_32 : decode cX13_saves 32 = .ok (.goto (-30), 3) := by decide +kernel
theorem dX13_saves_35 : decode cX13_saves 35 = .ok (.return_, 1) := by decide +kernel
set_option maxHeartbeats 4000000 in
set_option maxRecDepth 100000 in
theorem B_X13_saves {G : zG} {X : zX} {kd : kD} {N0 : Nat} (C : zCt G X 0 0 0 RX13 cX13_saves 3) (hr : (zXh X).sig.returnType = none) : ∀ f : Nat,
    (∀ (S : aS) (v0 : Nat) (v1 : Int32) (res : Option Value × aS), zT0 kd N0 S → v0 < N0 → kd v0 = .inl 11 → F_X13_saves f 0 [.ref v0, .int v1] S = some res → zV G X (zQX G X (zPo G kd N0 res) 0 0) 3 [some (.ref (zB G + v0)), some (.int v1), none] [] (cn G kd N0 S) 0 0 0) ∧
    (∀ (S : aS) (v0 : Nat) (v1 : Int32) (v2 : Int32) (res : Option Value × aS), zT0 kd N0 S → v0 < N0 → kd v0 = .inl 11 → F_X13_saves f 1 [.ref v0, .int v1, .int v2] S = some res → zV G X (zQX G X (zPo G kd N0 res) 0 0) 3 [some (.ref (zB G + v0)), some (.int v1), some (.int v2)] [] (cn G kd N0 S) 2 0 0) := by
  intro f
  induction f with
  | zero => exact ⟨(fun _ _ _ _ _ _ _ h => by cases h), (fun _ _ _ _ _ _ _ _ h => by cases h)⟩
  | succ f ih =>
    obtain ⟨ih0, ih1⟩ := ih
    refine ⟨?_, ?_⟩
    · intro S v0 v1 res hT hpv0 hkv0 hF
      replace hF : F_X13_saves_0 f (F_X13_saves f) v0 v1 S = some res := hF
      unfold F_X13_saves_0 at hF
      refine z_iconst (v := 0) C dX13_saves_0 (by decide) ?_
      refine z_istore_n (lv2 := [some (.ref (zB G + v0)), some (.int v1), some (.int 0)]) C dX13_saves_1 (by decide) rfl ?_
      exact ih1 S v0 v1 0 res hT hpv0 hkv0   hF
    · intro S v0 v1 v2 res hT hpv0 hkv0 hF
      replace hF : F_X13_saves_1 f (F_X13_saves f) v0 v1 v2 S = some res := hF
      unfold F_X13_saves_1 at hF
      refine z_iload_n C dX13_saves_2 rfl ?_
      refine z_bipush (v := 36) C dX13_saves_3 (by decide) ?_
      refine z_icmp_ge C 35 dX13_saves_5 (by decide) (fun c4 => ?_) (fun c4 => ?_)
      · replace hF := ip hF c4
        cases hF
        exact z_vret C hr dX13_saves_35 ⟨rfl, rfl, hT⟩
      · replace hF := im hF c4
        refine z_aload_n C dX13_saves_8 rfl ?_
        refine f_getr C dX13_saves_9 zfRX13_132 hpv0 hkv0 rfl ?_
        obtain ⟨hp5, hk5⟩ := hT.1 v0 11 30 (.inr (0, 252)) hpv0 hkv0 rfl
        refine z_bipush (v := 36) C dX13_saves_12 (by decide) ?_
        refine z_iload_n C dX13_saves_14 rfl ?_
        refine z_imul C dX13_saves_15 ?_
        refine z_iload_n C dX13_saves_16 rfl ?_
        refine z_iadd C dX13_saves_17 ?_
        refine z_aload_n C dX13_saves_18 rfl ?_
        refine f_getr C dX13_saves_19 zfRX13_119 hpv0 hkv0 rfl ?_
        obtain ⟨hp6, hk6⟩ := hT.1 v0 11 22 (.inr (0, 828)) hpv0 hkv0 rfl
        refine z_sipush (v := 756) C dX13_saves_22 (by decide) ?_
        refine z_iload_n C dX13_saves_25 rfl ?_
        refine z_iadd C dX13_saves_26 ?_
        obtain ⟨hi7, hF⟩ := bX_some hF
        obtain ⟨q7, eq7⟩ : ∃ q : Nat, q = Int32.toNatClampNeg ((756 : Int32) + v2) := ⟨_, rfl⟩
        rw [← eq7] at hF
        refine f_iald C dX13_saves_27 hp6 hk6 hi7 ?_
        rw [← eq7]
        obtain ⟨hi8, hF⟩ := bX_some hF
        obtain ⟨q8, eq8⟩ : ∃ q : Nat, q = Int32.toNatClampNeg (((36 : Int32) * v1) + v2) := ⟨_, rfl⟩
        rw [← eq8] at hF
        refine f_iast C dX13_saves_28 hp5 hk5 hi8 ?_
        rw [← eq8]
        have hT9 : zT0 kd N0 (sI S (gR S v0 30) q8 (gI S (gR S v0 22) q7)) := zT0_sI hT
        replace hF := fS_e hF
        generalize sI S (gR S v0 30) q8 (gI S (gR S v0 22) q7) = S9 at hF hT9 ⊢
        refine z_iinc (v := v2 + 1) (lv2 := [some (.ref (zB G + v0)), some (.int v1), some (.int (v2 + 1))]) C dX13_saves_29 rfl (by rw [show Int32.ofInt 1 = (1 : Int32) from by decide]) rfl ?_
        refine z_goto C 2 dX13_saves_32 (by decide) ?_
        exact ih1 S9 v0 v1 (v2 + 1) res hT9 hpv0 hkv0   hF
theorem K_X13_saves {G : zG} {l : Launch} {kd : kD} {N0 f : Nat} {S : aS} {v0 : Nat} {v1 : Int32} {res : Option Value × aS} (hT : zT0 kd N0 S) (hpv0 : v0 < N0) (hkv0 : kd v0 = .inl 11) (hF : F_X13_saves f 0 [.ref v0, .int v1] S = some res) : zM G l 0 0 0 yX13_saves cX13_saves 3 none [.ref (zB G + v0), .int v1] (cn G kd N0 S) (zPo G kd N0 res) := zM.of (by decide) rfl (Nat.le_of_ble_eq_true rfl) (fun X _ C hr _ => (B_X13_saves C hr f).1 S v0 v1 res hT hpv0 hkv0 hF)
def F_X13_loads_0 (f : Nat) (rc : Nat → List Value → aS → aR) (v0 : Nat) (v1 : Int32) (S : aS) : aR :=
  rc 1 [.ref v0, .int v1, .int 0] S
def F_X13_loads_1 (f : Nat) (rc : Nat → List Value → aS → aR) (v0 : Nat) (v1 : Int32) (v2 : Int32) (S : aS) : aR :=
  if (36 : Int32) ≤ v2 then some (none, S) else bX (((36 : Int32) * v1) + v2) 252 fun q7 => bX ((756 : Int32) + v2) 828 fun q8 => fS (sI S (gR S v0 22) q8 (gI S (gR S v0 30) q7)) fun S9 => rc 1 [.ref v0, .int v1, .int (v2 + 1)] S9
def F_X13_loads : Nat → Nat → List Value → aS → aR
  | 0, _, _, _ => none
  | f + 1, 0, vs, S => F_X13_loads_0 f (F_X13_loads f) (vR vs 0) (vI vs 1) S
  | f + 1, 1, vs, S => F_X13_loads_1 f (F_X13_loads f) (vR vs 0) (vI vs 1) (vI vs 2) S
  | _ + 1, _, _, _ => none
theorem dX13_loads_0 : decode cX13_loads 0 = .ok (.iconst 0, 1) := by decide +kernel
theorem dX13_loads_1 : decode cX13_loads 1 = .ok (.istore_n 2, 1) := by decide +kernel
theorem dX13_loads_2 : decode cX13_loads 2 = .ok (.iload_n 2, 1) := by decide +kernel
theorem dX13_loads_3 : decode cX13_loads 3 = .ok (.bipush 36, 2) := by decide +kernel
theorem dX13_loads_5 : decode cX13_loads 5 = .ok (.if_icmp .ge 30, 3) := by decide +kernel
theorem dX13_loads_8 : decode cX13_loads 8 = .ok (.aload_n 0, 1) := by decide +kernel
theorem dX13_loads_9 : decode cX13_loads 9 = .ok (.getfield 119, 3) := by decide +kernel
theorem dX13_loads_12 : decode cX13_loads 12 = .ok (.sipush 756, 3) := by decide +kernel
theorem dX13_loads_15 : decode cX13_loads 15 = .ok (.iload_n 2, 1) := by decide +kernel
theorem dX13_loads_16 : decode cX13_loads 16 = .ok (.iadd, 1) := by decide +kernel
theorem dX13_loads_17 : decode cX13_loads 17 = .ok (.aload_n 0, 1) := by decide +kernel
theorem dX13_loads_18 : decode cX13_loads 18 = .ok (.getfield 132, 3) := by decide +kernel
theorem dX13_loads_21 : decode cX13_loads 21 = .ok (.bipush 36, 2) := by decide +kernel
theorem dX13_loads_23 : decode cX13_loads 23 = .ok (.iload_n 1, 1) := by decide +kernel
theorem dX13_loads_24 : decode cX13_loads 24 = .ok (.imul, 1) := by decide +kernel
theorem dX13_loads_25 : decode cX13_loads 25 = .ok (.iload_n 2, 1) := by decide +kernel
theorem dX13_loads_26 : decode cX13_loads 26 = .ok (.iadd, 1) := by decide +kernel
theorem dX13_loads_27 : decode cX13_loads 27 = .ok (.iaload, 1) := by decide +kernel
theorem dX13_loads_28 : decode cX13_loads 28 = .ok (.iastore, 1) := by decide +kernel
theorem dX13_loads_29 : decode cX13_loads 29 = .ok (.iinc 2 1, 3) := by decide +kernel
theorem dX13_loads_32 : decode cX13_loads 32 = .ok (.goto (-30), 3) := by decide +kernel
theorem dX13_loads_35 : decode cX13_loads 35 = .ok (.return_, 1) := by decide +kernel
set_option maxHeartbeats 4000000 in
set_option maxRecDepth 100000 in
theorem B_X13_loads {G : zG} {X : zX} {kd : kD} {N0 : Nat} (C : zCt G X 0 0 0 RX13 cX13_loads 3) (hr : (zXh X).sig.returnType = none) : ∀ f : Nat,
    (∀ (S : aS) (v0 : Nat) (v1 : Int32) (res : Option Value × aS), zT0 kd N0 S → v0 < N0 → kd v0 = .inl 11 → F_X13_loads f 0 [.ref v0, .int v1] S = some res → zV G X (zQX G X (zPo G kd N0 res) 0 0) 3 [some (.ref (zB G + v0)), some (.int v1), none] [] (cn G kd N0 S) 0 0 0) ∧
    (∀ (S : aS) (v0 : Nat) (v1 : Int32) (v2 : Int32) (res : Option Value × aS), zT0 kd N0 S → v0 < N0 → kd v0 = .inl 11 → F_X13_loads f 1 [.ref v0, .int v1, .int v2] S = some res → zV G X (zQX G X (zPo G kd N0 res) 0 0) 3 [some (.ref (zB G + v0)), some (.int v1), some (.int v2)] [] (cn G kd N0 S) 2 0 0) := by
  intro f
  induction f with
  | zero => exact ⟨(fun _ _ _ _ _ _ _ h => by cases h), (fun _ _ _ _ _ _ _ _ h => by cases h)⟩
  | succ f ih =>
    obtain ⟨ih0, ih1⟩ := ih
    refine ⟨?_, ?_⟩
    · intro S v0 v1 res hT hpv0 hkv0 hF
      replace hF : F_X13_loads_0 f (F_X13_loads f) v0 v1 S = some res := hF
      unfold F_X13_loads_0 at hF
      refine z_iconst (v := 0) C dX13_loads_0 (by decide) ?_
      refine z_istore_n (lv2 := [some (.ref (zB G + v0)), some (.int v1), some (.int 0)]) C dX13_loads_1 (by decide) rfl ?_
      exact ih1 S v0 v1 0 res hT hpv0 hkv0   hF
    · intro S v0 v1 v2 res hT hpv0 hkv0 hF
      replace hF : F_X13_loads_1 f (F_X13_loads f) v0 v1 v2 S = some res := hF
      unfold F_X13_loads_1 at hF
      refine z_iload_n C dX13_loads_2 rfl ?_
      refine z_bipush (v := 36) C dX13_loads_3 (by decide) ?_
      refine z_icmp_ge C 35 dX13_loads_5 (by decide) (fun c4 => ?_) (fun c4 => ?_)
      · replace hF := ip hF c4
        cases hF
        exact z_vret C hr dX13_loads_35 ⟨rfl, rfl, hT⟩
      · replace hF := im hF c4
        refine z_aload_n C dX13_loads_8 rfl ?_
        refine f_getr C dX13_loads_9 zfRX13_119 hpv0 hkv0 rfl ?_
        obtain ⟨hp5, hk5⟩ := hT.1 v0 11 22 (.inr (0, 828)) hpv0 hkv0 rfl
        refine z_sipush (v := 756) C dX13_loads_12 (by decide) ?_
        refine z_iload_n C dX13_loads_15 rfl ?_
        refine z_iadd C dX13_loads_16 ?_
        refine z_aload_n C dX13_loads_17 rfl ?_
        refine f_getr C dX13_loads_18 zfRX13_132 hpv0 hkv0 rfl ?_
        obtain ⟨hp6, hk6⟩ := hT.1 v0 11 30 (.inr (0, 252)) hpv0 hkv0 rfl
        refine z_bipush (v := 36) C dX13_loads_21 (by decide) ?_
        refine z_iload_n C dX13_loads_23 rfl ?_
        refine z_imul C dX13_loads_24 ?_
        refine z_iload_n C dX13_loads_25 rfl ?_
        refine z_iadd C dX13_loads_26 ?_
        obtain ⟨hi7, hF⟩ := bX_some hF
        obtain ⟨q7, eq7⟩ : ∃ q : Nat, q = Int32.toNatClampNeg (((36 : Int32) * v1) + v2) := ⟨_, rfl⟩
        rw [← eq7] at hF
        refine f_iald C dX13_loads_27 hp6 hk6 hi7 ?_
        rw [← eq7]
        obtain ⟨hi8, hF⟩ := bX_some hF
        obtain ⟨q8, eq8⟩ : ∃ q : Nat, q = Int32.toNatClampNeg ((756 : Int32) + v2) := ⟨_, rfl⟩
        rw [← eq8] at hF
        refine f_iast C dX13_loads_28 hp5 hk5 hi8 ?_
        rw [← eq8]
        have hT9 : zT0 kd N0 (sI S (gR S v0 22) q8 (gI S (gR S v0 30) q7)) := zT0_sI hT
        replace hF := fS_e hF
        generalize sI S (gR S v0 22) q8 (gI S (gR S v0 30) q7) = S9 at hF hT9 ⊢
        refine z_iinc (v := v2 + 1) (lv2 := [some (.ref (zB G + v0)), some (.int v1), some (.int (v2 + 1))]) C dX13_loads_29 rfl (by rw [show Int32.ofInt 1 = (1 : Int32) from by decide]) rfl ?_
        refine z_goto C 2 dX13_loads_32 (by decide) ?_
        exact ih1 S9 v0 v1 (v2 + 1) res hT9 hpv0 hkv0   hF
theorem K_X13_loads {G : zG} {l : Launch} {kd : kD} {N0 f : Nat} {S : aS} {v0 : Nat} {v1 : Int32} {res : Option Value × aS} (hT : zT0 kd N0 S) (hpv0 : v0 < N0) (hkv0 : kd v0 = .inl 11) (hF : F_X13_loads f 0 [.ref v0, .int v1] S = some res) : zM G l 0 0 0 yX13_loads cX13_loads 3 none [.ref (zB G + v0), .int v1] (cn G kd N0 S) (zPo G kd N0 res) := zM.of (by decide) rfl (Nat.le_of_ble_eq_true rfl) (fun X _ C hr _ => (B_X13_loads C hr f).1 S v0 v1 res hT hpv0 hkv0 hF)
def F_X13_find_0 (f : Nat) (rc : Nat → List Value → aS → aR) (v0 : Nat) (v1 : Int32) (v2 : Int32) (S : aS) : aR :=
  fS (sI S v0 0 0) fun S1 => bI (F_X13_isYard f 0 [.ref v0, .int v1] S1) fun x2 S2 => if x2 = (0 : Int32) then rc 1 [] S2 else bI (F_X13_within f 0 [.int v2, .int ((-99)), .int 99] S2) fun x4 S4 => if x4 = (0 : Int32) then rc 1 [] S4 else bX ((28 : Int32) + v1) 828 fun q7 => fS (sI S4 (gR S4 v0 22) q7 v2) fun S8 => bZ 1 (some (some (.int 1), S8))
def F_X13_find_1 (f : Nat) (rc : Nat → List Value → aS → aR)  (S : aS) : aR :=
  bZ 0 (some (some (.int 0), S))
def F_X13_find : Nat → Nat → List Value → aS → aR
  | 0, _, _, _ => none
  | f + 1, 0, vs, S => F_X13_find_0 f (F_X13_find f) (vR vs 0) (vI vs 1) (vI vs 2) S
  | f + 1, 1, vs, S => F_X13_find_1 f (F_X13_find f)  S
  | _ + 1, _, _, _ => none
theorem dX13_find_0 : decode cX13_find 0 = .ok (.aload_n 0, 1) := by decide +kernel
theorem dX13_find_1 : decode cX13_find 1 = .ok (.iconst 0, 1) := by decide +kernel
theorem dX13_find_2 : decode cX13_find 2 = .ok (.putfield 1, 3) := by decide +kernel
theorem dX13_find_5 : decode cX13_find 5 = .ok (.aload_n 0, 1) := by decide +kernel
theorem dX13_find_6 : decode cX13_find 6 = .ok (.iload_n 1, 1) := by decide +kernel
theorem dX13_find_7 : decode cX13_find 7 = .ok (.invokevirtual 336, 3) := by decide +kernel
theorem dX13_find_10 : decode cX13_find 10 = .ok (.ifCond .eq 14, 3) := by decide +kernel
theorem dX13_find_13 : decode cX13_find 13 = .ok (.iload_n 2, 1) := by decide +kernel
theorem dX13_find_14 : decode cX13_find 14 = .ok (.bipush (-99), 2) := by decide +kernel
theorem dX13_find_16 : decode cX13_find 16 = .ok (.bipush 99, 2) := by decide +kernel
theorem dX13_find_18 : decode cX13_find 18 = .ok (.invokestatic 339, 3) := by decide +kernel
theorem dX13_find_21 : decode cX13_find 21 = .ok (.ifCond .ne 5, 3) := by decide +kernel
theorem dX13_find_24 : decode cX13_find 24 = .ok (.iconst 0, 1) := by decide +kernel
theorem dX13_find_25 : decode cX13_find 25 = .ok (.ireturn, 1) := by decide +kernel
theorem dX13_find_26 : decode cX13_find 26 = .ok (.aload_n 0, 1) := by decide +kernel
theorem dX13_find_27 : decode cX13_find 27 = .ok (.getfield 119, 3) := by decide +kernel
theorem dX13_find_30 : decode cX13_find 30 = .ok (.bipush 28, 2) := by decide +kernel
theorem dX13_find_32 : decode cX13_find 32 = .ok (.iload_n 1, 1) := by decide +kernel
theorem dX13_find_33 : decode cX13_find 33 = .ok (.iadd, 1) := by decide +kernel
theorem dX13_find_34 : decode cX13_find 34 = .ok (.iload_n 2, 1) := by decide +kernel
theorem dX13_find_35 : decode cX13_find 35 = .ok (.iastore, 1) := by decide +kernel
theorem dX13_find_36 : decode cX13_find 36 = .ok (.iconst 1, 1) := by decide +kernel
theorem dX13_find_37 : decode cX13_find 37 = .ok (.ireturn, 1) := by decide +kernel
set_option maxHeartbeats 4000000 in
set_option maxRecDepth 100000 in
theorem B_X13_find {G : zG} {X : zX} {kd : kD} {N0 : Nat} (C : zCt G X 2 0 0 RX13 cX13_find 3) (hr : (zXh X).sig.returnType = (some .boolean)) : ∀ f : Nat,
    (∀ (S : aS) (v0 : Nat) (v1 : Int32) (v2 : Int32) (res : Option Value × aS), zT0 kd N0 S → v0 < N0 → kd v0 = .inl 11 → F_X13_find f 0 [.ref v0, .int v1, .int v2] S = some res → zV G X (zQX G X (zPo G kd N0 res) 0 0) 3 [some (.ref (zB G + v0)), some (.int v1), some (.int v2)] [] (cn G kd N0 S) 0 0 0) ∧
    (∀ (S : aS)  (res : Option Value × aS), zT0 kd N0 S → F_X13_find f 1 [] S = some res → zV G X (zQX G X (zPo G kd N0 res) 0 0) 3 [none, none, none] [] (cn G kd N0 S) 24 0 0) := by
  intro f
  induction f with
  | zero => exact ⟨(fun _ _ _ _ _ _ _ _ h => by cases h), (fun _ _ _ h => by cases h)⟩
  | succ f ih =>
    obtain ⟨ih0, ih1⟩ := ih
    refine ⟨?_, ?_⟩
    · intro S v0 v1 v2 res hT hpv0 hkv0 hF
      replace hF : F_X13_find_0 f (F_X13_find f) v0 v1 v2 S = some res := hF
      unfold F_X13_find_0 at hF
      refine z_aload_n C dX13_find_0 rfl ?_
      refine z_iconst (v := 0) C dX13_find_1 (by decide) ?_
      refine f_puti C dX13_find_2 zfRX13_1 fw11_0 hpv0 hkv0 rfl rfl rfl ?_
      have hT1 : zT0 kd N0 (sI S v0 0 0) := zT0_sI hT
      replace hF := fS_e hF
      generalize sI S v0 0 0 = S1 at hF hT1 ⊢
      refine z_aload_n C dX13_find_5 rfl ?_
      refine z_iload_n C dX13_find_6 rfl ?_
      obtain ⟨x2, S2, h2, hF⟩ := bI_some hF
      refine f_cV (st2 := [.int x2]) C dX13_find_7 zyX13_isYard zvX13_isYard lkRX13_336 (K_X13_isYard (l := zXl X) hT1 hpv0 hkv0  h2) hpv0 hkv0 rfl (by decide) rfl rfl (Nat.le_of_ble_eq_true rfl) rfl (fun hT2 => ?_)
      refine z_if_eq C 24 dX13_find_10 (by decide) (fun c3 => ?_) (fun c3 => ?_)
      · replace hF := ip hF c3
        refine z_mask [false, false, false] ?_ rfl
        exact ih1 S2  res hT2  hF
      · replace hF := im hF c3
        refine z_iload_n C dX13_find_13 rfl ?_
        refine z_bipush (v := (-99)) C dX13_find_14 (by decide) ?_
        refine z_bipush (v := 99) C dX13_find_16 (by decide) ?_
        obtain ⟨x4, S4, h4, hF⟩ := bI_some hF
        refine f_cS (st2 := [.int x4]) C dX13_find_18 zyX13_within zsX13_within lkRX13_339 (K_X13_within (l := zXl X) hT2    h4) (by decide) rfl rfl (Nat.le_of_ble_eq_true rfl) rfl (fun hT4 => ?_)
        refine z_if_ne C 26 dX13_find_21 (by decide) (fun c5 => ?_) (fun c5 => ?_)
        · replace hF := im hF c5
          refine z_aload_n C dX13_find_26 rfl ?_
          refine f_getr C dX13_find_27 zfRX13_119 hpv0 hkv0 rfl ?_
          obtain ⟨hp6, hk6⟩ := hT4.1 v0 11 22 (.inr (0, 828)) hpv0 hkv0 rfl
          refine z_bipush (v := 28) C dX13_find_30 (by decide) ?_
          refine z_iload_n C dX13_find_32 rfl ?_
          refine z_iadd C dX13_find_33 ?_
          refine z_iload_n C dX13_find_34 rfl ?_
          obtain ⟨hi7, hF⟩ := bX_some hF
          obtain ⟨q7, eq7⟩ : ∃ q : Nat, q = Int32.toNatClampNeg ((28 : Int32) + v1) := ⟨_, rfl⟩
          rw [← eq7] at hF
          refine f_iast C dX13_find_35 hp6 hk6 hi7 ?_
          rw [← eq7]
          have hT8 : zT0 kd N0 (sI S4 (gR S4 v0 22) q7 v2) := zT0_sI hT4
          replace hF := fS_e hF
          generalize sI S4 (gR S4 v0 22) q7 v2 = S8 at hF hT8 ⊢
          refine z_iconst (v := 1) C dX13_find_36 (by decide) ?_
          obtain ⟨hz, hF⟩ := bZ_some hF
          cases hF
          exact z_zret C hr hz.1 dX13_find_37 ⟨rfl, rfl, hT8⟩
        · replace hF := ip hF c5
          refine z_mask [false, false, false] ?_ rfl
          exact ih1 S4  res hT4  hF
    · intro S  res hT  hF
      replace hF : F_X13_find_1 f (F_X13_find f)  S = some res := hF
      unfold F_X13_find_1 at hF
      refine z_iconst (v := 0) C dX13_find_24 (by decide) ?_
      obtain ⟨hz, hF⟩ := bZ_some hF
      cases hF
      exact z_zret C hr hz.1 dX13_find_25 ⟨rfl, rfl, hT⟩
theorem K_X13_find {G : zG} {l : Launch} {kd : kD} {N0 f : Nat} {S : aS} {v0 : Nat} {v1 : Int32} {v2 : Int32} {res : Option Value × aS} (hT : zT0 kd N0 S) (hpv0 : v0 < N0) (hkv0 : kd v0 = .inl 11) (hF : F_X13_find f 0 [.ref v0, .int v1, .int v2] S = some res) : zM G l 2 0 0 yX13_find cX13_find 3 (some .boolean) [.ref (zB G + v0), .int v1, .int v2] (cn G kd N0 S) (zPo G kd N0 res) := zM.of (by decide) rfl (Nat.le_of_ble_eq_true rfl) (fun X _ C hr _ => (B_X13_find C hr f).1 S v0 v1 v2 res hT hpv0 hkv0 hF)
def F_X13_getsBy_0 (f : Nat) (rc : Nat → List Value → aS → aR) (v0 : Int32) (v1 : Int32) (v2 : Int32) (v3 : Int32) (S : aS) : aR :=
  some (some (.int (if v0 = (1 : Int32) then if v1 = (1 : Int32) then (v2 - (v3 / (2 : Int32))) else (v2 - v3) else if v1 = (1 : Int32) then v2 else (0 : Int32))), S)
def F_X13_getsBy : Nat → Nat → List Value → aS → aR
  | 0, _, _, _ => none
  | f + 1, 0, vs, S => F_X13_getsBy_0 f (F_X13_getsBy f) (vI vs 0) (vI vs 1) (vI vs 2) (vI vs 3) S
  | _ + 1, _, _, _ => none
theorem dX13_getsBy_0 : decode cX13_getsBy 0 = .ok (.iload_n 0, 1) := by decide +kernel
theorem dX13_getsBy_1 : decode cX13_getsBy 1 = .ok (.iconst 1, 1) := by decide +kernel
theorem dX13_getsBy_2 : decode cX13_getsBy 2 = .ok (.if_icmp .ne 20, 3) := by decide +kernel
theorem dX13_getsBy_5 : decode cX13_getsBy 5 = .ok (.iload_n 2, 1) := by decide +kernel
theorem dX13_getsBy_6 : decode cX13_getsBy 6 = .ok (.iload_n 1, 1) := by decide +kernel
theorem dX13_getsBy_7 : decode cX13_getsBy 7 = .ok (.iconst 1, 1) := by decide +kernel
theorem dX13_getsBy_8 : decode cX13_getsBy 8 = .ok (.if_icmp .ne 9, 3) := by decide +kernel
theorem dX13_getsBy_11 : decode cX13_getsBy 11 = .ok (.iload_n 3, 1) := by decide +kernel
theorem dX13_getsBy_12 : decode cX13_getsBy 12 = .ok (.iconst 2, 1) := by decide +kernel
theorem dX13_getsBy_13 : decode cX13_getsBy 13 = .ok (.idiv, 1) := by decide +kernel
theorem dX13_getsBy_14 : decode cX13_getsBy 14 = .ok (.goto 4, 3) := by decide +kernel
theorem dX13_getsBy_17 : decode cX13_getsBy 17 = .ok (.iload_n 3, 1) := by decide +kernel
theorem dX13_getsBy_18 : decode cX13_getsBy 18 = .ok (.isub, 1) := by decide +kernel
theorem dX13_getsBy_19 : decode cX13_getsBy 19 = .ok (.goto 13, 3) := by decide +kernel
theorem dX13_getsBy_22 : decode cX13_getsBy 22 = .ok (.iload_n 1, 1) := by decide +kernel
theorem dX13_getsBy_23 : decode cX13_getsBy 23 = .ok (.iconst 1, 1) := by decide +kernel
theorem dX13_getsBy_24 : decode cX13_getsBy 24 = .ok (.if_icmp .ne 7, 3) := by decide +kernel
theorem dX13_getsBy_27 : decode cX13_getsBy 27 = .ok (.iload_n 2, 1) := by decide +kernel
theorem dX13_getsBy_28 : decode cX13_getsBy 28 = .ok (.goto 4, 3) := by decide +kernel
theorem dX13_getsBy_31 : decode cX13_getsBy 31 = .ok (.iconst 0, 1) := by decide +kernel
theorem dX13_getsBy_32 : decode cX13_getsBy 32 = .ok (.ireturn, 1) := by decide +kernel
set_option maxHeartbeats 4000000 in
set_option maxRecDepth 100000 in
theorem B_X13_getsBy {G : zG} {X : zX} {kd : kD} {N0 : Nat} (C : zCt G X 0 0 0 RX13 cX13_getsBy 4) (hr : (zXh X).sig.returnType = (some .int)) : ∀ f : Nat,
    (∀ (S : aS) (v0 : Int32) (v1 : Int32) (v2 : Int32) (v3 : Int32) (res : Option Value × aS), zT0 kd N0 S → F_X13_getsBy f 0 [.int v0, .int v1, .int v2, .int v3] S = some res → zV G X (zQX G X (zPo G kd N0 res) 0 0) 4 [some (.int v0), some (.int v1), some (.int v2), some (.int v3)] [] (cn G kd N0 S) 0 0 0) := by
  intro f
  induction f with
  | zero => exact (fun _ _ _ _ _ _ _ h => by cases h)
  | succ f ih =>
    have ih0 := ih
    intro S v0 v1 v2 v3 res hT  hF
    replace hF : F_X13_getsBy_0 f (F_X13_getsBy f) v0 v1 v2 v3 S = some res := hF
    unfold F_X13_getsBy_0 at hF
    refine z_iload_n C dX13_getsBy_0 rfl ?_
    refine z_iconst (v := 1) C dX13_getsBy_1 (by decide) ?_
    have hJ4 : zV G X (zQX G X (zPo G kd N0 res) 0 0) 4 [some (.int v0), some (.int v1), some (.int v2), some (.int v3)] [.int (if v0 = (1 : Int32) then if v1 = (1 : Int32) then (v2 - (v3 / (2 : Int32))) else (v2 - v3) else if v1 = (1 : Int32) then v2 else (0 : Int32))] (cn G kd N0 S) 32 0 0 := by
      cases hF
      exact z_iret C hr dX13_getsBy_32 ⟨rfl, rfl, hT⟩
    refine z_icmp_ne C 22 dX13_getsBy_2 (by decide) (fun c1 => ?_) (fun c1 => ?_)
    · refine z_iload_n C dX13_getsBy_22 rfl ?_
      refine z_iconst (v := 1) C dX13_getsBy_23 (by decide) ?_
      refine z_icmp_ne C 31 dX13_getsBy_24 (by decide) (fun c2 => ?_) (fun c2 => ?_)
      · refine z_iconst (v := 0) C dX13_getsBy_31 (by decide) ?_
        exact zV.at hJ4 (by first | rfl | contradiction | (simp only [if_neg c1, if_neg c2]; done)) (by first | rfl | contradiction | (simp only [if_neg c1, if_neg c2]; done)) rfl rfl
      · refine z_iload_n C dX13_getsBy_27 rfl ?_
        refine z_goto C 32 dX13_getsBy_28 (by decide) ?_
        exact zV.at hJ4 (by first | rfl | contradiction | (simp only [if_neg c1, if_pos c2]; done)) (by first | rfl | contradiction | (simp only [if_neg c1, if_pos c2]; done)) rfl rfl
    · refine z_iload_n C dX13_getsBy_5 rfl ?_
      refine z_iload_n C dX13_getsBy_6 rfl ?_
      refine z_iconst (v := 1) C dX13_getsBy_7 (by decide) ?_
      refine z_icmp_ne C 17 dX13_getsBy_8 (by decide) (fun c3 => ?_) (fun c3 => ?_)
      · refine z_iload_n C dX13_getsBy_17 rfl ?_
        refine z_isub C dX13_getsBy_18 ?_
        refine z_goto C 32 dX13_getsBy_19 (by decide) ?_
        exact zV.at hJ4 (by first | rfl | contradiction | (simp only [if_pos c1, if_neg c3]; done)) (by first | rfl | contradiction | (simp only [if_pos c1, if_neg c3]; done)) rfl rfl
      · refine z_iload_n C dX13_getsBy_11 rfl ?_
        refine z_iconst (v := 2) C dX13_getsBy_12 (by decide) ?_
        refine z_idiv C dX13_getsBy_13 (by decide) ?_
        refine z_goto C 18 dX13_getsBy_14 (by decide) ?_
        refine z_isub C dX13_getsBy_18 ?_
        refine z_goto C 32 dX13_getsBy_19 (by decide) ?_
        exact zV.at hJ4 (by first | rfl | contradiction | (simp only [if_pos c1, if_pos c3]; done)) (by first | rfl | contradiction | (simp only [if_pos c1, if_pos c3]; done)) rfl rfl
theorem K_X13_getsBy {G : zG} {l : Launch} {kd : kD} {N0 f : Nat} {S : aS} {v0 : Int32} {v1 : Int32} {v2 : Int32} {v3 : Int32} {res : Option Value × aS} (hT : zT0 kd N0 S)  (hF : F_X13_getsBy f 0 [.int v0, .int v1, .int v2, .int v3] S = some res) : zM G l 0 0 0 yX13_getsBy cX13_getsBy 4 (some .int) [.int v0, .int v1, .int v2, .int v3] (cn G kd N0 S) (zPo G kd N0 res) := zM.of (by decide) rfl (Nat.le_of_ble_eq_true rfl) (fun X _ C hr _ => (B_X13_getsBy C hr f) S v0 v1 v2 v3 res hT  hF)
def F_X13_rests_0 (f : Nat) (rc : Nat → List Value → aS → aR) (v0 : Nat) (v1 : Int32) (v2 : Int32) (v3 : Int32) (S : aS) : aR :=
  bI (F_X13_within f 0 [.int v1, .int 0, .int 9] S) fun x1 S1 => if x1 = (0 : Int32) then rc 1 [.ref v0, .int v1, .int v2, .int v3] S1 else bI (F_X13_within f 0 [.int v2, .int 0, .int 9] S1) fun x4 S4 => lI (if x4 = (0 : Int32) then (0 : Int32) else if v3 < (-1 : Int32) then (0 : Int32) else (1 : Int32)) fun y8 => rc 2 [.ref v0, .int v1, .int v2, .int v3, .int y8, .int 0, .int ((-1)), .int 0] S4
def F_X13_rests_1 (f : Nat) (rc : Nat → List Value → aS → aR) (v0 : Nat) (v1 : Int32) (v2 : Int32) (v3 : Int32) (S : aS) : aR :=
  rc 3 [.ref v0, .int v1, .int v2, .int v3, .int 0] S
def F_X13_rests_2 (f : Nat) (rc : Nat → List Value → aS → aR) (v0 : Nat) (v1 : Int32) (v2 : Int32) (v3 : Int32) (v4 : Int32) (v5 : Int32) (v6 : Int32) (v7 : Int32) (S : aS) : aR :=
  if (4 : Int32) ≤ v7 then rc 4 [.ref v0, .int v3, .int v4, .int v5, .int v6] S else if v4 = (0 : Int32) then rc 4 [.ref v0, .int v3, .int v4, .int v5, .int v6] S else bI (F_X13_getsBy f 0 [.int ((1 : Int32) - (v7 / (2 : Int32))), .int (v7 - v7 / (2 : Int32) * (2 : Int32)), .int v1, .int v2] S) fun x14 S14 => bI (F_X13_getsBy f 0 [.int (v7 / (2 : Int32)), .int (v7 - v7 / (2 : Int32) * (2 : Int32)), .int v1, .int v2] S14) fun x15 S15 => if x15 < x14 then rc 5 [.ref v0, .int v1, .int v2, .int v3, .int v4, .int v5, .int v6, .int v7] S15 else bI (F_X13_getsBy f 0 [.int ((1 : Int32) - (v7 - v7 / (2 : Int32) * (2 : Int32))), .int (v7 / (2 : Int32)), .int v1, .int v2] S15) fun x18 S18 => bI (F_X13_getsBy f 0 [.int (v7 - v7 / (2 : Int32) * (2 : Int32)), .int (v7 / (2 : Int32)), .int v1, .int v2] S18) fun x19 S19 => lI (if (if x19 < x18 then (0 : Int32) else (1 : Int32)) = (0 : Int32) then v6 else if v5 = v3 then v7 else v6) fun y25 => lI (v5 + (if (if x19 < x18 then (0 : Int32) else (1 : Int32)) = (0 : Int32) then (0 : Int32) else (1 : Int32))) fun y28 => rc 2 [.ref v0, .int v1, .int v2, .int v3, .int v4, .int y28, .int y25, .int (v7 + 1)] S19
def F_X13_rests_3 (f : Nat) (rc : Nat → List Value → aS → aR) (v0 : Nat) (v1 : Int32) (v2 : Int32) (v3 : Int32) (w0 : Int32) (S : aS) : aR :=
  rc 2 [.ref v0, .int v1, .int v2, .int v3, .int w0, .int 0, .int ((-1)), .int 0] S
def F_X13_rests_4 (f : Nat) (rc : Nat → List Value → aS → aR) (v0 : Nat) (v1 : Int32) (v2 : Int32) (v3 : Int32) (v4 : Int32) (S : aS) : aR :=
  fS (sI S v0 0 (if v2 = (0 : Int32) then (1 : Int32) else if v1 < (0 : Int32) then (0 : Int32) else if v4 < (0 : Int32) then (1 : Int32) else (0 : Int32))) fun S33 => some (some (.int (if (gI S33 v0 0) ≤ (0 : Int32) then if (0 : Int32) ≤ v1 then v4 else v3 else (0 : Int32))), S33)
def F_X13_rests_5 (f : Nat) (rc : Nat → List Value → aS → aR) (v0 : Nat) (v1 : Int32) (v2 : Int32) (v3 : Int32) (v4 : Int32) (v5 : Int32) (v6 : Int32) (v7 : Int32) (S : aS) : aR :=
  rc 6 [.ref v0, .int v1, .int v2, .int v3, .int v4, .int v5, .int v6, .int v7, .int 0] S
def F_X13_rests_6 (f : Nat) (rc : Nat → List Value → aS → aR) (v0 : Nat) (v1 : Int32) (v2 : Int32) (v3 : Int32) (v4 : Int32) (v5 : Int32) (v6 : Int32) (v7 : Int32) (w0 : Int32) (S : aS) : aR :=
  lI (if w0 = (0 : Int32) then v6 else if v5 = v3 then v7 else v6) fun y40 => lI (v5 + (if w0 = (0 : Int32) then (0 : Int32) else (1 : Int32))) fun y43 => rc 2 [.ref v0, .int v1, .int v2, .int v3, .int v4, .int y43, .int y40, .int (v7 + 1)] S
def F_X13_rests : Nat → Nat → List Value → aS → aR
  | 0, _, _, _ => none
  | f + 1, 0, vs, S => F_X13_rests_0 f (F_X13_rests f) (vR vs 0) (vI vs 1) (vI vs 2) (vI vs 3) S
  | f + 1, 1, vs, S => F_X13_rests_1 f (F_X13_rests f) (vR vs 0) (vI vs 1) (vI vs 2) (vI vs 3) S
  | f + 1, 2, vs, S => F_X13_rests_2 f (F_X13_rests f) (vR vs 0) (vI vs 1) (vI vs 2) (vI vs 3) (vI vs 4) (vI vs 5) (vI vs 6) (vI vs 7) S
  | f + 1, 3, vs, S => F_X13_rests_3 f (F_X13_rests f) (vR vs 0) (vI vs 1) (vI vs 2) (vI vs 3) (vI vs 4) S
  | f + 1, 4, vs, S => F_X13_rests_4 f (F_X13_rests f) (vR vs 0) (vI vs 1) (vI vs 2) (vI vs 3) (vI vs 4) S
  | f + 1, 5, vs, S => F_X13_rests_5 f (F_X13_rests f) (vR vs 0) (vI vs 1) (vI vs 2) (vI vs 3) (vI vs 4) (vI vs 5) (vI vs 6) (vI vs 7) S
  | f + 1, 6, vs, S => F_X13_rests_6 f (F_X13_rests f) (vR vs 0) (vI vs 1) (vI vs 2) (vI vs 3) (vI vs 4) (vI vs 5) (vI vs 6) (vI vs 7) (vI vs 8) S
  | _ + 1, _, _, _ => none
theorem dX13_rests_0 : decode cX13_rests 0 = .ok (.iload_n 1, 1) := by decide +kernel
theorem dX13_rests_1 : decode cX13_rests 1 = .ok (.iconst 0, 1) := by decide +kernel
theorem dX13_rests_2 : decode cX13_rests 2 = .ok (.bipush 9, 2) := by decide +kernel
theorem dX13_rests_4 : decode cX13_rests 4 = .ok (.invokestatic 339, 3) := by decide +kernel
theorem dX13_rests_7 : decode cX13_rests 7 = .ok (.ifCond .eq 22, 3) := by decide +kernel
theorem dX13_rests_10 : decode cX13_rests 10 = .ok (.iload_n 2, 1) := by decide +kernel
theorem dX13_rests_11 : decode cX13_rests 11 = .ok (.iconst 0, 1) := by decide +kernel
theorem dX13_rests_12 : decode cX13_rests 12 = .ok (.bipush 9, 2) := by decide +kernel
theorem dX13_rests_14 : decode cX13_rests 14 = .ok (.invokestatic 339, 3) := by decide +kernel
theorem dX13_rests_17 : decode cX13_rests 17 = .ok (.ifCond .eq 12, 3) := by decide +kernel
theorem dX13_rests_20 : decode cX13_rests 20 = .ok (.iload_n 3, 1) := by decide +kernel
theorem dX13_rests_21 : decode cX13_rests 21 = .ok (.iconst (-1), 1) := by decide +kernel
theorem dX13_rests_22 : decode cX13_rests 22 = .ok (.if_icmp .lt 7, 3) := by decide +kernel
theorem dX13_rests_25 : decode cX13_rests 25 = .ok (.iconst 1, 1) := by decide +kernel
theorem dX13_rests_26 : decode cX13_rests 26 = .ok (.goto 4, 3) := by decide +kernel
theorem dX13_rests_29 : decode cX13_rests 29 = .ok (.iconst 0, 1) := by decide +kernel
theorem dX13_rests_30 : decode cX13_rests 30 = .ok (.istore 4, 2) := by decide +kernel
theorem dX13_rests_32 : decode cX13_rests 32 = .ok (.iconst 0, 1) := by decide +kernel
theorem dX13_rests_33 : decode cX13_rests 33 = .ok (.istore 5, 2) := by decide +kernel
theorem dX13_rests_35 : decode cX13_rests 35 = .ok (.iconst (-1), 1) := by decide +kernel
theorem dX13_rests_36 : decode cX13_rests 36 = .ok (.istore 6, 2) := by decide +kernel
theorem dX13_rests_38 : decode cX13_rests 38 = .ok (.iconst 0, 1) := by decide +kernel
theorem dX13_rests_39 : decode cX13_rests 39 = .ok (.istore 7, 2) := by decide +kernel
theorem dX13_rests_41 : decode cX13_rests 41 = .ok (.iload 7, 2) := by decide +kernel
theorem dX13_rests_43 : decode cX13_rests 43 = .ok (.iconst 4, 1) := by decide +kernel
theorem dX13_rests_44 : decode cX13_rests 44 = .ok (.if_icmp .ge 114, 3) := by decide +kernel
theorem dX13_rests_47 : decode cX13_rests 47 = .ok (.iload 4, 2) := by decide +kernel
theorem dX13_rests_49 : decode cX13_rests 49 = .ok (.ifCond .eq 109, 3) := by decide +kernel
theorem dX13_rests_52 : decode cX13_rests 52 = .ok (.iload 7, 2) := by decide +kernel
theorem dX13_rests_54 : decode cX13_rests 54 = .ok (.iconst 2, 1) := by decide +kernel
theorem dX13_rests_55 : decode cX13_rests 55 = .ok (.idiv, 1) := by decide +kernel
theorem dX13_rests_56 : decode cX13_rests 56 = .ok (.istore 8, 2) := by decide +kernel
theorem dX13_rests_58 : decode cX13_rests 58 = .ok (.iload 7, 2) := by decide +kernel
theorem dX13_rests_60 : decode cX13_rests 60 = .ok (.iconst 2, 1) := by decide +kernel
theorem dX13_rests_61 : decode cX13_rests 61 = .ok (.irem, 1) := by decide +kernel
theorem dX13_rests_62 : decode cX13_rests 62 = .ok (.istore 9, 2) := by decide +kernel
theorem dX13_rests_64 : decode cX13_rests 64 = .ok (.iconst 1, 1) := by decide +kernel
theorem dX13_rests_65 : decode cX13_rests 65 = .ok (.iload 8, 2) := by decide +kernel
theorem dX13_rests_67 : decode cX13_rests 67 = .ok (.isub, 1) := by decide +kernel
theorem dX13_rests_68 : decode cX13_rests 68 = .ok (.iload 9, 2) := by decide +kernel
theorem dX13_rests_70 : decode cX13_rests 70 = .ok (.iload_n 1, 1) := by decide +kernel
theorem dX13_rests_71 : decode cX13_rests 71 = .ok (.iload_n 2, 1) := by decide +kernel
theorem dX13_rests_72 : decode cX13_rests 72 = .ok (.invokestatic 390, 3) := by decide +kernel
theorem dX13_rests_75 : decode cX13_rests 75 = .ok (.iload 8, 2) := by decide +kernel
theorem dX13_rests_77 : decode cX13_rests 77 = .ok (.iload 9, 2) := by decide +kernel
theorem dX13_rests_79 : decode cX13_rests 79 = .ok (.iload_n 1, 1) := by decide +kernel
theorem dX13_rests_80 : decode cX13_rests 80 = .ok (.iload_n 2, 1) := by decide +kernel
theorem dX13_rests_81 : decode cX13_rests 81 = .ok (.invokestatic 390, 3) := by decide +kernel
theorem dX13_rests_84 : decode cX13_rests 84 = .ok (.if_icmp .gt 30, 3) := by decide +kernel
theorem dX13_rests_87 : decode cX13_rests 87 = .ok (.iconst 1, 1) := by decide +kernel
theorem dX13_rests_88 : decode cX13_rests 88 = .ok (.iload 9, 2) := by decide +kernel
theorem dX13_rests_90 : decode cX13_rests 90 = .ok (.isub, 1) := by decide +kernel
theorem dX13_rests_91 : decode cX13_rests 91 = .ok (.iload 8, 2) := by decide +kernel
theorem dX13_rests_93 : decode cX13_rests 93 = .ok (.iload_n 1, 1) := by decide +kernel
theorem dX13_rests_94 : decode cX13_rests 94 = .ok (.iload_n 2, 1) := by decide +kernel
theorem dX13_rests_95 : decode cX13_rests 95 = .ok (.invokestatic 390, 3) := by decide +kernel
theorem dX13_rests_98 : decode cX13_rests 98 = .ok (.iload 9, 2) := by decide +kernel
theorem dX13_rests_100 : decode cX13_rests 100 = .ok (.iload 8, 2) := by decide +kernel
theorem dX13_rests_102 : decode cX13_rests 102 = .ok (.iload_n 1, 1) := by decide +kernel
theorem dX13_rests_103 : decode cX13_rests 103 = .ok (.iload_n 2, 1) := by decide +kernel
theorem dX13_rests_104 : decode cX13_rests 104 = .ok (.invokestatic 390, 3) := by decide +kernel
theorem dX13_rests_107 : decode cX13_rests 107 = .ok (.if_icmp .gt 7, 3) := by decide +kernel
theorem dX13_rests_110 : decode cX13_rests 110 = .ok (.iconst 1, 1) := by decide +kernel
theorem dX13_rests_111 : decode cX13_rests 111 = .ok (.goto 4, 3) := by decide +kernel
theorem dX13_rests_114 : decode cX13_rests 114 = .ok (.iconst 0, 1) := by decide +kernel
theorem dX13_rests_115 : decode cX13_rests 115 = .ok (.istore 10, 2) := by decide +kernel
theorem dX13_rests_117 : decode cX13_rests 117 = .ok (.iload 10, 2) := by decide +kernel
theorem dX13_rests_119 : decode cX13_rests 119 = .ok (.ifCond .eq 14, 3) := by decide +kernel
theorem dX13_rests_122 : decode cX13_rests 122 = .ok (.iload 5, 2) := by decide +kernel
theorem dX13_rests_124 : decode cX13_rests 124 = .ok (.iload_n 3, 1) := by decide +kernel
theorem dX13_rests_125 : decode cX13_rests 125 = .ok (.if_icmp .ne 8, 3) := by decide +kernel
theorem dX13_rests_128 : decode cX13_rests 128 = .ok (.iload 7, 2) := by decide +kernel
theorem dX13_rests_130 : decode cX13_rests 130 = .ok (.goto 5, 3) := by decide +kernel
theorem dX13_rests_133 : decode cX13_rests 133 = .ok (.iload 6, 2) := by decide +kernel
theorem dX13_rests_135 : decode cX13_rests 135 = .ok (.istore 6, 2) := by decide +kernel
theorem dX13_rests_137 : decode cX13_rests 137 = .ok (.iload 5, 2) := by decide +kernel
theorem dX13_rests_139 : decode cX13_rests 139 = .ok (.iload 10, 2) := by decide +kernel
theorem dX13_rests_141 : decode cX13_rests 141 = .ok (.ifCond .eq 7, 3) := by decide +kernel
theorem dX13_rests_144 : decode cX13_rests 144 = .ok (.iconst 1, 1) := by decide +kernel
theorem dX13_rests_145 : decode cX13_rests 145 = .ok (.goto 4, 3) := by decide +kernel
theorem dX13_rests_148 : decode cX13_rests 148 = .ok (.iconst 0, 1) := by decide +kernel
theorem dX13_rests_149 : decode cX13_rests 149 = .ok (.iadd, 1) := by decide +kernel
theorem dX13_rests_150 : decode cX13_rests 150 = .ok (.istore 5, 2) := by decide +kernel
theorem dX13_rests_152 : decode cX13_rests 152 = .ok (.iinc 7 1, 3) := by decide +kernel
theorem dX13_rests_155 : decode cX13_rests 155 = .ok (.goto (-114), 3) := by decide +kernel
theorem dX13_rests_158 : decode cX13_rests 158 = .ok (.aload_n 0, 1) := by decide +kernel
theorem dX13_rests_159 : decode cX13_rests 159 = .ok (.iload 4, 2) := by decide +kernel
theorem dX13_rests_161 : decode cX13_rests 161 = .ok (.ifCond .eq 16, 3) := by decide +kernel
theorem dX13_rests_164 : decode cX13_rests 164 = .ok (.iload_n 3, 1) := by decide +kernel
theorem dX13_rests_165 : decode cX13_rests 165 = .ok (.ifCond .lt 8, 3) := by decide +kernel
theorem dX13_rests_168 : decode cX13_rests 168 = .ok (.iload 6, 2) := by decide +kernel
theorem dX13_rests_170 : decode cX13_rests 170 = .ok (.ifCond .lt 7, 3) := by decide +kernel
theorem dX13_rests_173 : decode cX13_rests 173 = .ok (.iconst 0, 1) := by decide +kernel
theorem dX13_rests_174 : decode cX13_rests 174 = .ok (.goto 4, 3) := by decide +kernel
theorem dX13_rests_177 : decode cX13_rests 177 = .ok (.iconst 1, 1) := by decide +kernel
theorem dX13_rests_178 : decode cX13_rests 178 = .ok (.putfield 1, 3) := by decide +kernel
theorem dX13_rests_181 : decode cX13_rests 181 = .ok (.aload_n 0, 1) := by decide +kernel
theorem dX13_rests_182 : decode cX13_rests 182 = .ok (.getfield 1, 3) := by decide +kernel
theorem dX13_rests_185 : decode cX13_rests 185 = .ok (.ifCond .le 7, 3) := by decide +kernel
theorem dX13_rests_188 : decode cX13_rests 188 = .ok (.iconst 0, 1) := by decide +kernel
theorem dX13_rests_189 : decode cX13_rests 189 = .ok (.goto 14, 3) := by decide +kernel
theorem dX13_rests_192 : decode cX13_rests 192 = .ok (.iload_n 3, 1) := by decide +kernel
theorem dX13_rests_193 : decode cX13_rests 193 = .ok (.ifCond .ge 8, 3) := by decide +kernel
theorem dX13_rests_196 : decode cX13_rests 196 = .ok (.iload 5, 2) := by decide +kernel
theorem dX13_rests_198 : decode cX13_rests 198 = .ok (.goto 5, 3) := by decide +kernel
theorem dX13_rests_201 : decode cX13_rests 201 = .ok (.iload 6, 2) := by decide +kernel
theorem dX13_rests_203 : decode cX13_rests 203 = .ok (.ireturn, 1) := by decide +kernel
set_option maxHeartbeats 4000000 in
set_option maxRecDepth 100000 in
theorem B_X13_rests {G : zG} {X : zX} {kd : kD} {N0 : Nat} (C : zCt G X 1 0 0 RX13 cX13_rests 11) (hr : (zXh X).sig.returnType = (some .int)) : ∀ f : Nat,
    (∀ (S : aS) (v0 : Nat) (v1 : Int32) (v2 : Int32) (v3 : Int32) (res : Option Value × aS), zT0 kd N0 S → v0 < N0 → kd v0 = .inl 11 → F_X13_rests f 0 [.ref v0, .int v1, .int v2, .int v3] S = some res → zV G X (zQX G X (zPo G kd N0 res) 0 0) 11 [some (.ref (zB G + v0)), some (.int v1), some (.int v2), some (.int v3), none, none, none, none, none, none, none] [] (cn G kd N0 S) 0 0 0) ∧
    (∀ (S : aS) (v0 : Nat) (v1 : Int32) (v2 : Int32) (v3 : Int32) (res : Option Value × aS), zT0 kd N0 S → v0 < N0 → kd v0 = .inl 11 → F_X13_rests f 1 [.ref v0, .int v1, .int v2, .int v3] S = some res → zV G X (zQX G X (zPo G kd N0 res) 0 0) 11 [some (.ref (zB G + v0)), some (.int v1), some (.int v2), some (.int v3), none, none, none, none, none, none, none] [] (cn G kd N0 S) 29 0 0) ∧
    (∀ (S : aS) (v0 : Nat) (v1 : Int32) (v2 : Int32) (v3 : Int32) (v4 : Int32) (v5 : Int32) (v6 : Int32) (v7 : Int32) (res : Option Value × aS), zT0 kd N0 S → v0 < N0 → kd v0 = .inl 11 → F_X13_rests f 2 [.ref v0, .int v1, .int v2, .int v3, .int v4, .int v5, .int v6, .int v7] S = some res → zV G X (zQX G X (zPo G kd N0 res) 0 0) 11 [some (.ref (zB G + v0)), some (.int v1), some (.int v2), some (.int v3), some (.int v4), some (.int v5), some (.int v6), some (.int v7), none, none, none] [] (cn G kd N0 S) 41 0 0) ∧
    (∀ (S : aS) (v0 : Nat) (v1 : Int32) (v2 : Int32) (v3 : Int32) (w0 : Int32) (res : Option Value × aS), zT0 kd N0 S → v0 < N0 → kd v0 = .inl 11 → F_X13_rests f 3 [.ref v0, .int v1, .int v2, .int v3, .int w0] S = some res → zV G X (zQX G X (zPo G kd N0 res) 0 0) 11 [some (.ref (zB G + v0)), some (.int v1), some (.int v2), some (.int v3), none, none, none, none, none, none, none] [.int w0] (cn G kd N0 S) 30 0 0) ∧
    (∀ (S : aS) (v0 : Nat) (v1 : Int32) (v2 : Int32) (v3 : Int32) (v4 : Int32) (res : Option Value × aS), zT0 kd N0 S → v0 < N0 → kd v0 = .inl 11 → F_X13_rests f 4 [.ref v0, .int v1, .int v2, .int v3, .int v4] S = some res → zV G X (zQX G X (zPo G kd N0 res) 0 0) 11 [some (.ref (zB G + v0)), none, none, some (.int v1), some (.int v2), some (.int v3), some (.int v4), none, none, none, none] [] (cn G kd N0 S) 158 0 0) ∧
    (∀ (S : aS) (v0 : Nat) (v1 : Int32) (v2 : Int32) (v3 : Int32) (v4 : Int32) (v5 : Int32) (v6 : Int32) (v7 : Int32) (res : Option Value × aS), zT0 kd N0 S → v0 < N0 → kd v0 = .inl 11 → F_X13_rests f 5 [.ref v0, .int v1, .int v2, .int v3, .int v4, .int v5, .int v6, .int v7] S = some res → zV G X (zQX G X (zPo G kd N0 res) 0 0) 11 [some (.ref (zB G + v0)), some (.int v1), some (.int v2), some (.int v3), some (.int v4), some (.int v5), some (.int v6), some (.int v7), none, none, none] [] (cn G kd N0 S) 114 0 0) ∧
    (∀ (S : aS) (v0 : Nat) (v1 : Int32) (v2 : Int32) (v3 : Int32) (v4 : Int32) (v5 : Int32) (v6 : Int32) (v7 : Int32) (w0 : Int32) (res : Option Value × aS), zT0 kd N0 S → v0 < N0 → kd v0 = .inl 11 → F_X13_rests f 6 [.ref v0, .int v1, .int v2, .int v3, .int v4, .int v5, .int v6, .int v7, .int w0] S = some res → zV G X (zQX G X (zPo G kd N0 res) 0 0) 11 [some (.ref (zB G + v0)), some (.int v1), some (.int v2), some (.int v3), some (.int v4), some (.int v5), some (.int v6), some (.int v7), none, none, none] [.int w0] (cn G kd N0 S) 115 0 0) := by
  intro f
  induction f with
  | zero => exact ⟨(fun _ _ _ _ _ _ _ _ _ h => by cases h), (fun _ _ _ _ _ _ _ _ _ h => by cases h), (fun _ _ _ _ _ _ _ _ _ _ _ _ _ h => by cases h), (fun _ _ _ _ _ _ _ _ _ _ h => by cases h), (fun _ _ _ _ _ _ _ _ _ _ h => by cases h), (fun _ _ _ _ _ _ _ _ _ _ _ _ _ h => by cases h), (fun _ _ _ _ _ _ _ _ _ _ _ _ _ _ h => by cases h)⟩
  | succ f ih =>
    obtain ⟨ih0, ih1, ih2, ih3, ih4, ih5, ih6⟩ := ih
    refine ⟨?_, ?_, ?_, ?_, ?_, ?_, ?_⟩
    · intro S v0 v1 v2 v3 res hT hpv0 hkv0 hF
      replace hF : F_X13_rests_0 f (F_X13_rests f) v0 v1 v2 v3 S = some res := hF
      unfold F_X13_rests_0 at hF
      refine z_iload_n C dX13_rests_0 rfl ?_
      refine z_iconst (v := 0) C dX13_rests_1 (by decide) ?_
      refine z_bipush (v := 9) C dX13_rests_2 (by decide) ?_
      obtain ⟨x1, S1, h1, hF⟩ := bI_some hF
      refine f_cS (st2 := [.int x1]) C dX13_rests_4 zyX13_within zsX13_within lkRX13_339 (K_X13_within (l := zXl X) hT    h1) (by decide) rfl rfl (Nat.le_of_ble_eq_true rfl) rfl (fun hT1 => ?_)
      refine z_if_eq C 29 dX13_rests_7 (by decide) (fun c3 => ?_) (fun c3 => ?_)
      · replace hF := ip hF c3
        exact ih1 S1 v0 v1 v2 v3 res hT1 hpv0 hkv0    hF
      · replace hF := im hF c3
        refine z_iload_n C dX13_rests_10 rfl ?_
        refine z_iconst (v := 0) C dX13_rests_11 (by decide) ?_
        refine z_bipush (v := 9) C dX13_rests_12 (by decide) ?_
        obtain ⟨x4, S4, h4, hF⟩ := bI_some hF
        refine f_cS (st2 := [.int x4]) C dX13_rests_14 zyX13_within zsX13_within lkRX13_339 (K_X13_within (l := zXl X) hT1    h4) (by decide) rfl rfl (Nat.le_of_ble_eq_true rfl) rfl (fun hT4 => ?_)
        have hJ7 : zV G X (zQX G X (zPo G kd N0 res) 0 0) 11 [some (.ref (zB G + v0)), some (.int v1), some (.int v2), some (.int v3), none, none, none, none, none, none, none] [.int (if x4 = (0 : Int32) then (0 : Int32) else if v3 < (-1 : Int32) then (0 : Int32) else (1 : Int32))] (cn G kd N0 S4) 30 0 0 := by
          replace hF := lI_e hF
          generalize (if x4 = (0 : Int32) then (0 : Int32) else if v3 < (-1 : Int32) then (0 : Int32) else (1 : Int32)) = y8 at hF ⊢
          refine z_istore (lv2 := [some (.ref (zB G + v0)), some (.int v1), some (.int v2), some (.int v3), some (.int y8), none, none, none, none, none, none]) C dX13_rests_30 (by decide) rfl ?_
          refine z_iconst (v := 0) C dX13_rests_32 (by decide) ?_
          refine z_istore (lv2 := [some (.ref (zB G + v0)), some (.int v1), some (.int v2), some (.int v3), some (.int y8), some (.int 0), none, none, none, none, none]) C dX13_rests_33 (by decide) rfl ?_
          refine z_iconst (v := (-1)) C dX13_rests_35 (by decide) ?_
          refine z_istore (lv2 := [some (.ref (zB G + v0)), some (.int v1), some (.int v2), some (.int v3), some (.int y8), some (.int 0), some (.int ((-1))), none, none, none, none]) C dX13_rests_36 (by decide) rfl ?_
          refine z_iconst (v := 0) C dX13_rests_38 (by decide) ?_
          refine z_istore (lv2 := [some (.ref (zB G + v0)), some (.int v1), some (.int v2), some (.int v3), some (.int y8), some (.int 0), some (.int ((-1))), some (.int 0), none, none, none]) C dX13_rests_39 (by decide) rfl ?_
          exact ih2 S4 v0 v1 v2 v3 y8 0 ((-1)) 0 res hT4 hpv0 hkv0        hF
        refine z_if_eq C 29 dX13_rests_17 (by decide) (fun c5 => ?_) (fun c5 => ?_)
        · refine z_iconst (v := 0) C dX13_rests_29 (by decide) ?_
          exact zV.at hJ7 (by first | rfl | contradiction | (simp only [if_pos c5]; done)) (by first | rfl | contradiction | (simp only [if_pos c5]; done)) rfl rfl
        · refine z_iload_n C dX13_rests_20 rfl ?_
          refine z_iconst (v := (-1)) C dX13_rests_21 (by decide) ?_
          refine z_icmp_lt C 29 dX13_rests_22 (by decide) (fun c6 => ?_) (fun c6 => ?_)
          · refine z_iconst (v := 0) C dX13_rests_29 (by decide) ?_
            exact zV.at hJ7 (by first | rfl | contradiction | (simp only [if_neg c5, if_pos c6]; done)) (by first | rfl | contradiction | (simp only [if_neg c5, if_pos c6]; done)) rfl rfl
          · refine z_iconst (v := 1) C dX13_rests_25 (by decide) ?_
            refine z_goto C 30 dX13_rests_26 (by decide) ?_
            exact zV.at hJ7 (by first | rfl | contradiction | (simp only [if_neg c5, if_neg c6]; done)) (by first | rfl | contradiction | (simp only [if_neg c5, if_neg c6]; done)) rfl rfl
    · intro S v0 v1 v2 v3 res hT hpv0 hkv0 hF
      replace hF : F_X13_rests_1 f (F_X13_rests f) v0 v1 v2 v3 S = some res := hF
      unfold F_X13_rests_1 at hF
      refine z_iconst (v := 0) C dX13_rests_29 (by decide) ?_
      exact ih3 S v0 v1 v2 v3 0 res hT hpv0 hkv0     hF
    · intro S v0 v1 v2 v3 v4 v5 v6 v7 res hT hpv0 hkv0 hF
      replace hF : F_X13_rests_2 f (F_X13_rests f) v0 v1 v2 v3 v4 v5 v6 v7 S = some res := hF
      unfold F_X13_rests_2 at hF
      refine z_iload C dX13_rests_41 rfl ?_
      refine z_iconst (v := 4) C dX13_rests_43 (by decide) ?_
      refine z_icmp_ge C 158 dX13_rests_44 (by decide) (fun c11 => ?_) (fun c11 => ?_)
      · replace hF := ip hF c11
        refine z_mask [true, false, false, true, true, true, true, false, true, true, true] ?_ rfl
        exact ih4 S v0 v3 v4 v5 v6 res hT hpv0 hkv0     hF
      · replace hF := im hF c11
        refine z_iload C dX13_rests_47 rfl ?_
        refine z_if_eq C 158 dX13_rests_49 (by decide) (fun c13 => ?_) (fun c13 => ?_)
        · replace hF := ip hF c13
          refine z_mask [true, false, false, true, true, true, true, false, true, true, true] ?_ rfl
          exact ih4 S v0 v3 v4 v5 v6 res hT hpv0 hkv0     hF
        · replace hF := im hF c13
          refine z_iload C dX13_rests_52 rfl ?_
          refine z_iconst (v := 2) C dX13_rests_54 (by decide) ?_
          refine z_idiv C dX13_rests_55 (by decide) ?_
          refine z_istore (lv2 := [some (.ref (zB G + v0)), some (.int v1), some (.int v2), some (.int v3), some (.int v4), some (.int v5), some (.int v6), some (.int v7), some (.int (v7 / (2 : Int32))), none, none]) C dX13_rests_56 (by decide) rfl ?_
          refine z_iload C dX13_rests_58 rfl ?_
          refine z_iconst (v := 2) C dX13_rests_60 (by decide) ?_
          refine z_irem C dX13_rests_61 (by decide) ?_
          refine z_istore (lv2 := [some (.ref (zB G + v0)), some (.int v1), some (.int v2), some (.int v3), some (.int v4), some (.int v5), some (.int v6), some (.int v7), some (.int (v7 / (2 : Int32))), some (.int (v7 - v7 / (2 : Int32) * (2 : Int32))), none]) C dX13_rests_62 (by decide) rfl ?_
          refine z_iconst (v := 1) C dX13_rests_64 (by decide) ?_
          refine z_iload C dX13_rests_65 rfl ?_
          refine z_isub C dX13_rests_67 ?_
          refine z_iload C dX13_rests_68 rfl ?_
          refine z_iload_n C dX13_rests_70 rfl ?_
          refine z_iload_n C dX13_rests_71 rfl ?_
          obtain ⟨x14, S14, h14, hF⟩ := bI_some hF
          refine f_cS (st2 := [.int x14]) C dX13_rests_72 zyX13_getsBy zsX13_getsBy lkRX13_390 (K_X13_getsBy (l := zXl X) hT     h14) (by decide) rfl rfl (Nat.le_of_ble_eq_true rfl) rfl (fun hT14 => ?_)
          refine z_iload C dX13_rests_75 rfl ?_
          refine z_iload C dX13_rests_77 rfl ?_
          refine z_iload_n C dX13_rests_79 rfl ?_
          refine z_iload_n C dX13_rests_80 rfl ?_
          obtain ⟨x15, S15, h15, hF⟩ := bI_some hF
          refine f_cS (st2 := [.int x15, .int x14]) C dX13_rests_81 zyX13_getsBy zsX13_getsBy lkRX13_390 (K_X13_getsBy (l := zXl X) hT14     h15) (by decide) rfl rfl (Nat.le_of_ble_eq_true rfl) rfl (fun hT15 => ?_)
          refine z_icmp_gt C 114 dX13_rests_84 (by decide) (fun c17 => ?_) (fun c17 => ?_)
          · replace hF := ip hF c17
            refine z_mask [true, true, true, true, true, true, true, true, false, false, true] ?_ rfl
            exact ih5 S15 v0 v1 v2 v3 v4 v5 v6 v7 res hT15 hpv0 hkv0        hF
          · replace hF := im hF c17
            refine z_iconst (v := 1) C dX13_rests_87 (by decide) ?_
            refine z_iload C dX13_rests_88 rfl ?_
            refine z_isub C dX13_rests_90 ?_
            refine z_iload C dX13_rests_91 rfl ?_
            refine z_iload_n C dX13_rests_93 rfl ?_
            refine z_iload_n C dX13_rests_94 rfl ?_
            obtain ⟨x18, S18, h18, hF⟩ := bI_some hF
            refine f_cS (st2 := [.int x18]) C dX13_rests_95 zyX13_getsBy zsX13_getsBy lkRX13_390 (K_X13_getsBy (l := zXl X) hT15     h18) (by decide) rfl rfl (Nat.le_of_ble_eq_true rfl) rfl (fun hT18 => ?_)
            refine z_iload C dX13_rests_98 rfl ?_
            refine z_iload C dX13_rests_100 rfl ?_
            refine z_iload_n C dX13_rests_102 rfl ?_
            refine z_iload_n C dX13_rests_103 rfl ?_
            obtain ⟨x19, S19, h19, hF⟩ := bI_some hF
            refine f_cS (st2 := [.int x19, .int x18]) C dX13_rests_104 zyX13_getsBy zsX13_getsBy lkRX13_390 (K_X13_getsBy (l := zXl X) hT18     h19) (by decide) rfl rfl (Nat.le_of_ble_eq_true rfl) rfl (fun hT19 => ?_)
            have hJ21 : zV G X (zQX G X (zPo G kd N0 res) 0 0) 11 [some (.ref (zB G + v0)), some (.int v1), some (.int v2), some (.int v3), some (.int v4), some (.int v5), some (.int v6), some (.int v7), some (.int (v7 / (2 : Int32))), some (.int (v7 - v7 / (2 : Int32) * (2 : Int32))), none] [.int (if x19 < x18 then (0 : Int32) else (1 : Int32))] (cn G kd N0 S19) 115 0 0 := by
              refine z_istore (lv2 := [some (.ref (zB G + v0)), some (.int v1), some (.int v2), some (.int v3), some (.int v4), some (.int v5), some (.int v6), some (.int v7), some (.int (v7 / (2 : Int32))), some (.int (v7 - v7 / (2 : Int32) * (2 : Int32))), some (.int (if x19 < x18 then (0 : Int32) else (1 : Int32)))]) C dX13_rests_115 (by decide) rfl ?_
              refine z_iload C dX13_rests_117 rfl ?_
              have hJ24 : zV G X (zQX G X (zPo G kd N0 res) 0 0) 11 [some (.ref (zB G + v0)), some (.int v1), some (.int v2), some (.int v3), some (.int v4), some (.int v5), some (.int v6), some (.int v7), some (.int (v7 / (2 : Int32))), some (.int (v7 - v7 / (2 : Int32) * (2 : Int32))), some (.int (if x19 < x18 then (0 : Int32) else (1 : Int32)))] [.int (if (if x19 < x18 then (0 : Int32) else (1 : Int32)) = (0 : Int32) then v6 else if v5 = v3 then v7 else v6)] (cn G kd N0 S19) 135 0 0 := by
                replace hF := lI_e hF
                generalize (if (if x19 < x18 then (0 : Int32) else (1 : Int32)) = (0 : Int32) then v6 else if v5 = v3 then v7 else v6) = y25 at hF ⊢
                refine z_istore (lv2 := [some (.ref (zB G + v0)), some (.int v1), some (.int v2), some (.int v3), some (.int v4), some (.int v5), some (.int y25), some (.int v7), some (.int (v7 / (2 : Int32))), some (.int (v7 - v7 / (2 : Int32) * (2 : Int32))), some (.int (if x19 < x18 then (0 : Int32) else (1 : Int32)))]) C dX13_rests_135 (by decide) rfl ?_
                refine z_iload C dX13_rests_137 rfl ?_
                refine z_iload C dX13_rests_139 rfl ?_
                have hJ27 : zV G X (zQX G X (zPo G kd N0 res) 0 0) 11 [some (.ref (zB G + v0)), some (.int v1), some (.int v2), some (.int v3), some (.int v4), some (.int v5), some (.int y25), some (.int v7), some (.int (v7 / (2 : Int32))), some (.int (v7 - v7 / (2 : Int32) * (2 : Int32))), some (.int (if x19 < x18 then (0 : Int32) else (1 : Int32)))] [.int (if (if x19 < x18 then (0 : Int32) else (1 : Int32)) = (0 : Int32) then (0 : Int32) else (1 : Int32)), .int v5] (cn G kd N0 S19) 149 0 0 := by
                  refine z_iadd C dX13_rests_149 ?_
                  replace hF := lI_e hF
                  generalize (v5 + (if (if x19 < x18 then (0 : Int32) else (1 : Int32)) = (0 : Int32) then (0 : Int32) else (1 : Int32))) = y28 at hF ⊢
                  refine z_istore (lv2 := [some (.ref (zB G + v0)), some (.int v1), some (.int v2), some (.int v3), some (.int v4), some (.int y28), some (.int y25), some (.int v7), some (.int (v7 / (2 : Int32))), some (.int (v7 - v7 / (2 : Int32) * (2 : Int32))), some (.int (if x19 < x18 then (0 : Int32) else (1 : Int32)))]) C dX13_rests_150 (by decide) rfl ?_
                  refine z_iinc (v := v7 + 1) (lv2 := [some (.ref (zB G + v0)), some (.int v1), some (.int v2), some (.int v3), some (.int v4), some (.int y28), some (.int y25), some (.int (v7 + 1)), some (.int (v7 / (2 : Int32))), some (.int (v7 - v7 / (2 : Int32) * (2 : Int32))), some (.int (if x19 < x18 then (0 : Int32) else (1 : Int32)))]) C dX13_rests_152 rfl (by rw [show Int32.ofInt 1 = (1 : Int32) from by decide]) rfl ?_
                  refine z_goto C 41 dX13_rests_155 (by decide) ?_
                  refine z_mask [true, true, true, true, true, true, true, true, false, false, false] ?_ rfl
                  exact ih2 S19 v0 v1 v2 v3 v4 y28 y25 (v7 + 1) res hT19 hpv0 hkv0        hF
                refine z_if_eq C 148 dX13_rests_141 (by decide) (fun c26 => ?_) (fun c26 => ?_)
                · refine z_iconst (v := 0) C dX13_rests_148 (by decide) ?_
                  exact zV.at hJ27 (by first | rfl | contradiction | (simp only [if_pos c26]; done)) (by first | rfl | contradiction | (simp only [if_pos c26]; done)) rfl rfl
                · refine z_iconst (v := 1) C dX13_rests_144 (by decide) ?_
                  refine z_goto C 149 dX13_rests_145 (by decide) ?_
                  exact zV.at hJ27 (by first | rfl | contradiction | (simp only [if_neg c26]; done)) (by first | rfl | contradiction | (simp only [if_neg c26]; done)) rfl rfl
              refine z_if_eq C 133 dX13_rests_119 (by decide) (fun c22 => ?_) (fun c22 => ?_)
              · refine z_iload C dX13_rests_133 rfl ?_
                exact zV.at hJ24 (by first | rfl | contradiction | (simp only [if_pos c22]; done)) (by first | rfl | contradiction | (simp only [if_pos c22]; done)) rfl rfl
              · refine z_iload C dX13_rests_122 rfl ?_
                refine z_iload_n C dX13_rests_124 rfl ?_
                refine z_icmp_ne C 133 dX13_rests_125 (by decide) (fun c23 => ?_) (fun c23 => ?_)
                · refine z_iload C dX13_rests_133 rfl ?_
                  exact zV.at hJ24 (by first | rfl | contradiction | (simp only [if_neg c22, if_neg c23]; done)) (by first | rfl | contradiction | (simp only [if_neg c22, if_neg c23]; done)) rfl rfl
                · refine z_iload C dX13_rests_128 rfl ?_
                  refine z_goto C 135 dX13_rests_130 (by decide) ?_
                  exact zV.at hJ24 (by first | rfl | contradiction | (simp only [if_neg c22, if_pos c23]; done)) (by first | rfl | contradiction | (simp only [if_neg c22, if_pos c23]; done)) rfl rfl
            refine z_icmp_gt C 114 dX13_rests_107 (by decide) (fun c20 => ?_) (fun c20 => ?_)
            · refine z_iconst (v := 0) C dX13_rests_114 (by decide) ?_
              exact zV.at hJ21 (by first | rfl | contradiction | (simp only [if_pos c20]; done)) (by first | rfl | contradiction | (simp only [if_pos c20]; done)) rfl rfl
            · refine z_iconst (v := 1) C dX13_rests_110 (by decide) ?_
              refine z_goto C 115 dX13_rests_111 (by decide) ?_
              exact zV.at hJ21 (by first | rfl | contradiction | (simp only [if_neg c20]; done)) (by first | rfl | contradiction | (simp only [if_neg c20]; done)) rfl rfl
    · intro S v0 v1 v2 v3 w0 res hT hpv0 hkv0 hF
      replace hF : F_X13_rests_3 f (F_X13_rests f) v0 v1 v2 v3 w0 S = some res := hF
      unfold F_X13_rests_3 at hF
      refine z_istore (lv2 := [some (.ref (zB G + v0)), some (.int v1), some (.int v2), some (.int v3), some (.int w0), none, none, none, none, none, none]) C dX13_rests_30 (by decide) rfl ?_
      refine z_iconst (v := 0) C dX13_rests_32 (by decide) ?_
      refine z_istore (lv2 := [some (.ref (zB G + v0)), some (.int v1), some (.int v2), some (.int v3), some (.int w0), some (.int 0), none, none, none, none, none]) C dX13_rests_33 (by decide) rfl ?_
      refine z_iconst (v := (-1)) C dX13_rests_35 (by decide) ?_
      refine z_istore (lv2 := [some (.ref (zB G + v0)), some (.int v1), some (.int v2), some (.int v3), some (.int w0), some (.int 0), some (.int ((-1))), none, none, none, none]) C dX13_rests_36 (by decide) rfl ?_
      refine z_iconst (v := 0) C dX13_rests_38 (by decide) ?_
      refine z_istore (lv2 := [some (.ref (zB G + v0)), some (.int v1), some (.int v2), some (.int v3), some (.int w0), some (.int 0), some (.int ((-1))), some (.int 0), none, none, none]) C dX13_rests_39 (by decide) rfl ?_
      exact ih2 S v0 v1 v2 v3 w0 0 ((-1)) 0 res hT hpv0 hkv0        hF
    · intro S v0 v1 v2 v3 v4 res hT hpv0 hkv0 hF
      replace hF : F_X13_rests_4 f (F_X13_rests f) v0 v1 v2 v3 v4 S = some res := hF
      unfold F_X13_rests_4 at hF
      refine z_aload_n C dX13_rests_158 rfl ?_
      refine z_iload C dX13_rests_159 rfl ?_
      have hJ32 : zV G X (zQX G X (zPo G kd N0 res) 0 0) 11 [some (.ref (zB G + v0)), none, none, some (.int v1), some (.int v2), some (.int v3), some (.int v4), none, none, none, none] [.int (if v2 = (0 : Int32) then (1 : Int32) else if v1 < (0 : Int32) then (0 : Int32) else if v4 < (0 : Int32) then (1 : Int32) else (0 : Int32)), .ref (zB G + v0)] (cn G kd N0 S) 178 0 0 := by
        refine f_puti C dX13_rests_178 zfRX13_1 fw11_0 hpv0 hkv0 rfl rfl rfl ?_
        have hT33 : zT0 kd N0 (sI S v0 0 (if v2 = (0 : Int32) then (1 : Int32) else if v1 < (0 : Int32) then (0 : Int32) else if v4 < (0 : Int32) then (1 : Int32) else (0 : Int32))) := zT0_sI hT
        replace hF := fS_e hF
        generalize sI S v0 0 (if v2 = (0 : Int32) then (1 : Int32) else if v1 < (0 : Int32) then (0 : Int32) else if v4 < (0 : Int32) then (1 : Int32) else (0 : Int32)) = S33 at hF hT33 ⊢
        refine z_aload_n C dX13_rests_181 rfl ?_
        refine f_geti C dX13_rests_182 zfRX13_1 hpv0 hkv0 rfl ?_
        have hJ36 : zV G X (zQX G X (zPo G kd N0 res) 0 0) 11 [some (.ref (zB G + v0)), none, none, some (.int v1), some (.int v2), some (.int v3), some (.int v4), none, none, none, none] [.int (if (gI S33 v0 0) ≤ (0 : Int32) then if (0 : Int32) ≤ v1 then v4 else v3 else (0 : Int32))] (cn G kd N0 S33) 203 0 0 := by
          cases hF
          exact z_iret C hr dX13_rests_203 ⟨rfl, rfl, hT33⟩
        refine z_if_le C 192 dX13_rests_185 (by decide) (fun c34 => ?_) (fun c34 => ?_)
        · refine z_iload_n C dX13_rests_192 rfl ?_
          refine z_if_ge C 201 dX13_rests_193 (by decide) (fun c35 => ?_) (fun c35 => ?_)
          · refine z_iload C dX13_rests_201 rfl ?_
            exact zV.at hJ36 (by first | rfl | contradiction | (simp only [if_pos c34, if_pos c35]; done)) (by first | rfl | contradiction | (simp only [if_pos c34, if_pos c35]; done)) rfl rfl
          · refine z_iload C dX13_rests_196 rfl ?_
            refine z_goto C 203 dX13_rests_198 (by decide) ?_
            exact zV.at hJ36 (by first | rfl | contradiction | (simp only [if_pos c34, if_neg c35]; done)) (by first | rfl | contradiction | (simp only [if_pos c34, if_neg c35]; done)) rfl rfl
        · refine z_iconst (v := 0) C dX13_rests_188 (by decide) ?_
          refine z_goto C 203 dX13_rests_189 (by decide) ?_
          exact zV.at hJ36 (by first | rfl | contradiction | (simp only [if_neg c34]; done)) (by first | rfl | contradiction | (simp only [if_neg c34]; done)) rfl rfl
      refine z_if_eq C 177 dX13_rests_161 (by decide) (fun c29 => ?_) (fun c29 => ?_)
      · refine z_iconst (v := 1) C dX13_rests_177 (by decide) ?_
        exact zV.at hJ32 (by first | rfl | contradiction | (simp only [if_pos c29]; done)) (by first | rfl | contradiction | (simp only [if_pos c29]; done)) rfl rfl
      · refine z_iload_n C dX13_rests_164 rfl ?_
        refine z_if_lt C 173 dX13_rests_165 (by decide) (fun c30 => ?_) (fun c30 => ?_)
        · refine z_iconst (v := 0) C dX13_rests_173 (by decide) ?_
          refine z_goto C 178 dX13_rests_174 (by decide) ?_
          exact zV.at hJ32 (by first | rfl | contradiction | (simp only [if_neg c29, if_pos c30]; done)) (by first | rfl | contradiction | (simp only [if_neg c29, if_pos c30]; done)) rfl rfl
        · refine z_iload C dX13_rests_168 rfl ?_
          refine z_if_lt C 177 dX13_rests_170 (by decide) (fun c31 => ?_) (fun c31 => ?_)
          · refine z_iconst (v := 1) C dX13_rests_177 (by decide) ?_
            exact zV.at hJ32 (by first | rfl | contradiction | (simp only [if_neg c29, if_neg c30, if_pos c31]; done)) (by first | rfl | contradiction | (simp only [if_neg c29, if_neg c30, if_pos c31]; done)) rfl rfl
          · refine z_iconst (v := 0) C dX13_rests_173 (by decide) ?_
            refine z_goto C 178 dX13_rests_174 (by decide) ?_
            exact zV.at hJ32 (by first | rfl | contradiction | (simp only [if_neg c29, if_neg c30, if_neg c31]; done)) (by first | rfl | contradiction | (simp only [if_neg c29, if_neg c30, if_neg c31]; done)) rfl rfl
    · intro S v0 v1 v2 v3 v4 v5 v6 v7 res hT hpv0 hkv0 hF
      replace hF : F_X13_rests_5 f (F_X13_rests f) v0 v1 v2 v3 v4 v5 v6 v7 S = some res := hF
      unfold F_X13_rests_5 at hF
      refine z_iconst (v := 0) C dX13_rests_114 (by decide) ?_
      exact ih6 S v0 v1 v2 v3 v4 v5 v6 v7 0 res hT hpv0 hkv0         hF
    · intro S v0 v1 v2 v3 v4 v5 v6 v7 w0 res hT hpv0 hkv0 hF
      replace hF : F_X13_rests_6 f (F_X13_rests f) v0 v1 v2 v3 v4 v5 v6 v7 w0 S = some res := hF
      unfold F_X13_rests_6 at hF
      refine z_istore (lv2 := [some (.ref (zB G + v0)), some (.int v1), some (.int v2), some (.int v3), some (.int v4), some (.int v5), some (.int v6), some (.int v7), none, none, some (.int w0)]) C dX13_rests_115 (by decide) rfl ?_
      refine z_iload C dX13_rests_117 rfl ?_
      have hJ39 : zV G X (zQX G X (zPo G kd N0 res) 0 0) 11 [some (.ref (zB G + v0)), some (.int v1), some (.int v2), some (.int v3), some (.int v4), some (.int v5), some (.int v6), some (.int v7), none, none, some (.int w0)] [.int (if w0 = (0 : Int32) then v6 else if v5 = v3 then v7 else v6)] (cn G kd N0 S) 135 0 0 := by
        replace hF := lI_e hF
        generalize (if w0 = (0 : Int32) then v6 else if v5 = v3 then v7 else v6) = y40 at hF ⊢
        refine z_istore (lv2 := [some (.ref (zB G + v0)), some (.int v1), some (.int v2), some (.int v3), some (.int v4), some (.int v5), some (.int y40), some (.int v7), none, none, some (.int w0)]) C dX13_rests_135 (by decide) rfl ?_
        refine z_iload C dX13_rests_137 rfl ?_
        refine z_iload C dX13_rests_139 rfl ?_
        have hJ42 : zV G X (zQX G X (zPo G kd N0 res) 0 0) 11 [some (.ref (zB G + v0)), some (.int v1), some (.int v2), some (.int v3), some (.int v4), some (.int v5), some (.int y40), some (.int v7), none, none, some (.int w0)] [.int (if w0 = (0 : Int32) then (0 : Int32) else (1 : Int32)), .int v5] (cn G kd N0 S) 149 0 0 := by
          refine z_iadd C dX13_rests_149 ?_
          replace hF := lI_e hF
          generalize (v5 + (if w0 = (0 : Int32) then (0 : Int32) else (1 : Int32))) = y43 at hF ⊢
          refine z_istore (lv2 := [some (.ref (zB G + v0)), some (.int v1), some (.int v2), some (.int v3), some (.int v4), some (.int y43), some (.int y40), some (.int v7), none, none, some (.int w0)]) C dX13_rests_150 (by decide) rfl ?_
          refine z_iinc (v := v7 + 1) (lv2 := [some (.ref (zB G + v0)), some (.int v1), some (.int v2), some (.int v3), some (.int v4), some (.int y43), some (.int y40), some (.int (v7 + 1)), none, none, some (.int w0)]) C dX13_rests_152 rfl (by rw [show Int32.ofInt 1 = (1 : Int32) from by decide]) rfl ?_
          refine z_goto C 41 dX13_rests_155 (by decide) ?_
          refine z_mask [true, true, true, true, true, true, true, true, true, true, false] ?_ rfl
          exact ih2 S v0 v1 v2 v3 v4 y43 y40 (v7 + 1) res hT hpv0 hkv0        hF
        refine z_if_eq C 148 dX13_rests_141 (by decide) (fun c41 => ?_) (fun c41 => ?_)
        · refine z_iconst (v := 0) C dX13_rests_148 (by decide) ?_
          exact zV.at hJ42 (by first | rfl | contradiction | (simp only [if_pos c41]; done)) (by first | rfl | contradiction | (simp only [if_pos c41]; done)) rfl rfl
        · refine z_iconst (v := 1) C dX13_rests_144 (by decide) ?_
          refine z_goto C 149 dX13_rests_145 (by decide) ?_
          exact zV.at hJ42 (by first | rfl | contradiction | (simp only [if_neg c41]; done)) (by first | rfl | contradiction | (simp only [if_neg c41]; done)) rfl rfl
      refine z_if_eq C 133 dX13_rests_119 (by decide) (fun c37 => ?_) (fun c37 => ?_)
      · refine z_iload C dX13_rests_133 rfl ?_
        exact zV.at hJ39 (by first | rfl | contradiction | (simp only [if_pos c37]; done)) (by first | rfl | contradiction | (simp only [if_pos c37]; done)) rfl rfl
      · refine z_iload C dX13_rests_122 rfl ?_
        refine z_iload_n C dX13_rests_124 rfl ?_
        refine z_icmp_ne C 133 dX13_rests_125 (by decide) (fun c38 => ?_) (fun c38 => ?_)
        · refine z_iload C dX13_rests_133 rfl ?_
          exact zV.at hJ39 (by first | rfl | contradiction | (simp only [if_neg c37, if_neg c38]; done)) (by first | rfl | contradiction | (simp only [if_neg c37, if_neg c38]; done)) rfl rfl
        · refine z_iload C dX13_rests_128 rfl ?_
          refine z_goto C 135 dX13_rests_130 (by decide) ?_
          exact zV.at hJ39 (by first | rfl | contradiction | (simp only [if_neg c37, if_pos c38]; done)) (by first | rfl | contradiction | (simp only [if_neg c37, if_pos c38]; done)) rfl rfl
theorem K_X13_rests {G : zG} {l : Launch} {kd : kD} {N0 f : Nat} {S : aS} {v0 : Nat} {v1 : Int32} {v2 : Int32} {v3 : Int32} {res : Option Value × aS} (hT : zT0 kd N0 S) (hpv0 : v0 < N0) (hkv0 : kd v0 = .inl 11) (hF : F_X13_rests f 0 [.ref v0, .int v1, .int v2, .int v3] S = some res) : zM G l 1 0 0 yX13_rests cX13_rests 11 (some .int) [.ref (zB G + v0), .int v1, .int v2, .int v3] (cn G kd N0 S) (zPo G kd N0 res) := zM.of (by decide) rfl (Nat.le_of_ble_eq_true rfl) (fun X _ C hr _ => (B_X13_rests C hr f).1 S v0 v1 v2 v3 res hT hpv0 hkv0 hF)
def F_X13_draw_0 (f : Nat) (rc : Nat → List Value → aS → aR) (v0 : Nat) (v1 : Int32) (S : aS) : aR :=
  fS (sJ S v0 35 ((((gJ S v0 35) * (1103515245 : Int64)) + (12345 : Int64)) - (((gJ S v0 35) * (1103515245 : Int64)) + (12345 : Int64)) / (2147483648 : Int64) * (2147483648 : Int64))) fun S1 => bNL (Int32.toInt64 v1) (some (some (.int (Int64.toInt32 (((gJ S1 v0 35) / (65536 : Int64)) - ((gJ S1 v0 35) / (65536 : Int64)) / (Int32.toInt64 v1) * (Int32.toInt64 v1)))), S1))
def F_X13_draw : Nat → Nat → List Value → aS → aR
  | 0, _, _, _ => none
  | f + 1, 0, vs, S => F_X13_draw_0 f (F_X13_draw f) (vR vs 0) (vI vs 1) S
  | _ + 1, _, _, _ => none
theorem dX13_draw_0 : decode cX13_draw 0 = .ok (.aload_n 0, 1) := by decide +kernel
theorem dX13_draw_1 : decode cX13_draw 1 = .ok (.aload_n 0, 1) := by decide +kernel
theorem dX13_draw_2 : decode cX13_draw 2 = .ok (.getfield 394, 3) := by decide +kernel
theorem dX13_draw_5 : decode cX13_draw 5 = .ok (.ldc2_w 398, 3) := by decide +kernel
theorem dX13_draw_8 : decode cX13_draw 8 = .ok (.lmul, 1) := by decide +kernel
theorem dX13_draw_9 : decode cX13_draw 9 = .ok (.ldc2_w 400, 3) := by decide +kernel
theorem dX13_draw_12 : decode cX13_draw 12 = .ok (.ladd, 1) := by decide +kernel
theorem dX13_draw_13 : decode cX13_draw 13 = .ok (.ldc2_w 402, 3) := by decide +kernel
theorem dX13_draw_16 : decode cX13_draw 16 = .ok (.lrem, 1) := by decide +kernel
theorem dX13_draw_17 : decode cX13_draw 17 = .ok (.putfield 394, 3) := by decide +kernel
theorem dX13_draw_20 : decode cX13_draw 20 = .ok (.aload_n 0, 1) := by decide +kernel
theorem dX13_draw_21 : decode cX13_draw 21 = .ok (.getfield 394, 3) := by decide +kernel
theorem dX13_draw_24 : decode cX13_draw 24 = .ok (.ldc2_w 404, 3) := by decide +kernel
theorem dX13_draw_27 : decode cX13_draw 27 = .ok (.ldiv, 1) := by decide +kernel
theorem dX13_draw_28 : decode cX13_draw 28 = .ok (.iload_n 1, 1) := by decide +kernel
theorem dX13_draw_29 : decode cX13_draw 29 = .ok (.i2l, 1) := by decide +kernel
theorem dX13_draw_30 : decode cX13_draw 30 = .ok (.lrem, 1) := by decide +kernel
theorem dX13_draw_31 : decode cX13_draw 31 = .ok (.l2i, 1) := by decide +kernel
theorem dX13_draw_32 : decode cX13_draw 32 = .ok (.ireturn, 1) := by decide +kernel
set_option maxHeartbeats 4000000 in
set_option maxRecDepth 100000 in
theorem B_X13_draw {G : zG} {X : zX} {kd : kD} {N0 : Nat} (C : zCt G X 0 0 0 RX13 cX13_draw 2) (hr : (zXh X).sig.returnType = (some .int)) : ∀ f : Nat,
    (∀ (S : aS) (v0 : Nat) (v1 : Int32) (res : Option Value × aS), zT0 kd N0 S → v0 < N0 → kd v0 = .inl 11 → F_X13_draw f 0 [.ref v0, .int v1] S = some res → zV G X (zQX G X (zPo G kd N0 res) 0 0) 2 [some (.ref (zB G + v0)), some (.int v1)] [] (cn G kd N0 S) 0 0 0) := by
  intro f
  induction f with
  | zero => exact (fun _ _ _ _ _ _ _ h => by cases h)
  | succ f ih =>
    have ih0 := ih
    intro S v0 v1 res hT hpv0 hkv0 hF
    replace hF : F_X13_draw_0 f (F_X13_draw f) v0 v1 S = some res := hF
    unfold F_X13_draw_0 at hF
    refine z_aload_n C dX13_draw_0 rfl ?_
    refine z_aload_n C dX13_draw_1 rfl ?_
    refine f_getj C dX13_draw_2 zfRX13_394 hpv0 hkv0 rfl ?_
    refine z_ldc2 C dX13_draw_5 klRX13_398 ?_
    refine z_lmul C dX13_draw_8 ?_
    refine z_ldc2 C dX13_draw_9 klRX13_400 ?_
    refine z_ladd C dX13_draw_12 ?_
    refine z_ldc2 C dX13_draw_13 klRX13_402 ?_
    refine z_lrem C dX13_draw_16 (by decide) ?_
    refine f_putj C dX13_draw_17 zfRX13_394 fw11_35 hpv0 hkv0 rfl rfl rfl ?_
    have hT1 : zT0 kd N0 (sJ S v0 35 ((((gJ S v0 35) * (1103515245 : Int64)) + (12345 : Int64)) - (((gJ S v0 35) * (1103515245 : Int64)) + (12345 : Int64)) / (2147483648 : Int64) * (2147483648 : Int64))) := zT0_sJ hT
    replace hF := fS_e hF
    generalize sJ S v0 35 ((((gJ S v0 35) * (1103515245 : Int64)) + (12345 : Int64)) - (((gJ S v0 35) * (1103515245 : Int64)) + (12345 : Int64)) / (2147483648 : Int64) * (2147483648 : Int64)) = S1 at hF hT1 ⊢
    refine z_aload_n C dX13_draw_20 rfl ?_
    refine f_getj C dX13_draw_21 zfRX13_394 hpv0 hkv0 rfl ?_
    refine z_ldc2 C dX13_draw_24 klRX13_404 ?_
    refine z_ldiv C dX13_draw_27 (by decide) ?_
    refine z_iload_n C dX13_draw_28 rfl ?_
    refine z_i2l C dX13_draw_29 ?_
    obtain ⟨hz2, hF⟩ := bNL_some hF
    refine z_lrem C dX13_draw_30 hz2 ?_
    refine z_l2i C dX13_draw_31 ?_
    cases hF
    exact z_iret C hr dX13_draw_32 ⟨rfl, rfl, hT1⟩
theorem K_X13_draw {G : zG} {l : Launch} {kd : kD} {N0 f : Nat} {S : aS} {v0 : Nat} {v1 : Int32} {res : Option Value × aS} (hT : zT0 kd N0 S) (hpv0 : v0 < N0) (hkv0 : kd v0 = .inl 11) (hF : F_X13_draw f 0 [.ref v0, .int v1] S = some res) : zM G l 0 0 0 yX13_draw cX13_draw 2 (some .int) [.ref (zB G + v0), .int v1] (cn G kd N0 S) (zPo G kd N0 res) := zM.of (by decide) rfl (Nat.le_of_ble_eq_true rfl) (fun X _ C hr _ => (B_X13_draw C hr f) S v0 v1 res hT hpv0 hkv0 hF)
def F_X13_mark_0 (f : Nat) (rc : Nat → List Value → aS → aR) (v0 : Nat) (v1 : Int32) (v2 : Int32) (S : aS) : aR :=
  fS (sI S v0 0 0) fun S1 => bI (F_X13_within f 0 [.int v1, .int 0, .int 3] S1) fun x2 S2 => if x2 = (0 : Int32) then rc 1 [] S2 else if v2 = (0 : Int32) then rc 2 [.ref v0, .int v1, .int v2] S2 else bX v1 4 fun q6 => if (gI S2 (gR S2 v0 24) q6) = (0 : Int32) then rc 1 [] S2 else rc 2 [.ref v0, .int v1, .int v2] S2
def F_X13_mark_1 (f : Nat) (rc : Nat → List Value → aS → aR)  (S : aS) : aR :=
  bZ 0 (some (some (.int 0), S))
def F_X13_mark_2 (f : Nat) (rc : Nat → List Value → aS → aR) (v0 : Nat) (v1 : Int32) (v2 : Int32) (S : aS) : aR :=
  bX v1 4 fun q9 => fS (sI S (gR S v0 24) q9 (vp_nar .boolean 1)) fun S10 => bV (F_X13_copies f 0 [.ref v0, .int (if v2 = (0 : Int32) then (0 : Int32) else ((36 : Int32) * ((1 : Int32) + v1))), .int (if v2 = (0 : Int32) then ((36 : Int32) * ((1 : Int32) + v1)) else (0 : Int32)), .int 36] S10) fun S15 => fS (sI S15 v0 23 (if v2 = (0 : Int32) then (gI S15 v0 23) else (0 : Int32))) fun S18 => bZ 1 (some (some (.int 1), S18))
def F_X13_mark : Nat → Nat → List Value → aS → aR
  | 0, _, _, _ => none
  | f + 1, 0, vs, S => F_X13_mark_0 f (F_X13_mark f) (vR vs 0) (vI vs 1) (vI vs 2) S
  | f + 1, 1, vs, S => F_X13_mark_1 f (F_X13_mark f)  S
  | f + 1, 2, vs, S => F_X13_mark_2 f (F_X13_mark f) (vR vs 0) (vI vs 1) (vI vs 2) S
  | _ + 1, _, _, _ => none
theorem dX13_mark_0 : decode cX13_mark 0 = .ok (.aload_n 0, 1) := by decide +kernel
theorem dX13_mark_1 : decode cX13_mark 1 = .ok (.iconst 0, 1) := by decide +kernel
theorem dX13_mark_2 : decode cX13_mark 2 = .ok (.putfield 1, 3) := by decide +kernel
theorem dX13_mark_5 : decode cX13_mark 5 = .ok (.iload_n 1, 1) := by decide +kernel
theorem dX13_mark_6 : decode cX13_mark 6 = .ok (.iconst 0, 1) := by decide +kernel
theorem dX13_mark_7 : decode cX13_mark 7 = .ok (.iconst 3, 1) := by decide +kernel
theorem dX13_mark_8 : decode cX13_mark 8 = .ok (.invokestatic 339, 3) := by decide +kernel
theorem dX13_mark_11 : decode cX13_mark 11 = .ok (.ifCond .eq 16, 3) := by decide +kernel
theorem dX13_mark_14 : decode cX13_mark 14 = .ok (.iload_n 2, 1) := by decide +kernel
theorem dX13_mark_15 : decode cX13_mark 15 = .ok (.ifCond .eq 14, 3) := by decide +kernel
theorem dX13_mark_18 : decode cX13_mark 18 = .ok (.aload_n 0, 1) := by decide +kernel
theorem dX13_mark_19 : decode cX13_mark 19 = .ok (.getfield 122, 3) := by decide +kernel
theorem dX13_mark_22 : decode cX13_mark 22 = .ok (.iload_n 1, 1) := by decide +kernel
theorem dX13_mark_23 : decode cX13_mark 23 = .ok (.baload, 1) := by decide +kernel
theorem dX13_mark_24 : decode cX13_mark 24 = .ok (.ifCond .ne 5, 3) := by decide +kernel
theorem dX13_mark_27 : decode cX13_mark 27 = .ok (.iconst 0, 1) := by decide +kernel
theorem dX13_mark_28 : decode cX13_mark 28 = .ok (.ireturn, 1) := by decide +kernel
theorem dX13_mark_29 : decode cX13_mark 29 = .ok (.aload_n 0, 1) := by decide +kernel
theorem dX13_mark_30 : decode cX13_mark 30 = .ok (.getfield 122, 3) := by decide +kernel
theorem dX13_mark_33 : decode cX13_mark 33 = .ok (.iload_n 1, 1) := by decide +kernel
theorem dX13_mark_34 : decode cX13_mark 34 = .ok (.iconst 1, 1) := by decide +kernel
theorem dX13_mark_35 : decode cX13_mark 35 = .ok (.bastore, 1) := by decide +kernel
theorem dX13_mark_36 : decode cX13_mark 36 = .ok (.aload_n 0, 1) := by decide +kernel
theorem dX13_mark_37 : decode cX13_mark 37 = .ok (.iload_n 2, 1) := by decide +kernel
theorem dX13_mark_38 : decode cX13_mark 38 = .ok (.ifCond .eq 12, 3) := by decide +kernel
theorem dX13_mark_41 : decode cX13_mark 41 = .ok (.bipush 36, 2) := by decide +kernel
theorem dX13_mark_43 : decode cX13_mark 43 = .ok (.iconst 1, 1) := by decide +kernel
theorem dX13_mark_44 : decode cX13_mark 44 = .ok (.iload_n 1, 1) := by decide +kernel
theorem dX13_mark_45 : decode cX13_mark 45 = .ok (.iadd, 1) := by decide +kernel
theorem dX13_mark_46 : decode cX13_mark 46 = .ok (.imul, 1) := by decide +kernel
theorem dX13_mark_47 : decode cX13_mark 47 = .ok (.goto 4, 3) := by decide +kernel
theorem dX13_mark_50 : decode cX13_mark 50 = .ok (.iconst 0, 1) := by decide +kernel
theorem dX13_mark_51 : decode cX13_mark 51 = .ok (.iload_n 2, 1) := by decide +kernel
theorem dX13_mark_52 : decode cX13_mark 52 = .ok (.ifCond .eq 7, 3) := by decide +kernel
theorem dX13_mark_55 : decode cX13_mark 55 = .ok (.iconst 0, 1) := by decide +kernel
theorem dX13_mark_56 : decode cX13_mark 56 = .ok (.goto 9, 3) := by decide +kernel
theorem dX13_mark_59 : decode cX13_mark 59 = .ok (.bipush 36, 2) := by decide +kernel
theorem dX13_mark_61 : decode cX13_mark 61 = .ok (.iconst 1, 1) := by decide +kernel
theorem dX13_mark_62 : decode cX13_mark 62 = .ok (.iload_n 1, 1) := by decide +kernel
theorem dX13_mark_63 : decode cX13_mark 63 = .ok (.iadd, 1) := by decide +kernel
theorem dX13_mark_64 : decode cX13_mark 64 = .ok (.imul, 1) := by decide +kernel
theorem dX13_mark_65 : decode cX13_mark 65 = .ok (.bipush 36, 2) := by decide +kernel
theorem dX13_mark_67 : decode cX13_mark 67 = .ok (.invokevirtual 288, 3) := by decide +kernel
theorem dX13_mark_70 : decode cX13_mark 70 = .ok (.aload_n 0, 1) := by decide +kernel
theorem dX13_mark_71 : decode cX13_mark 71 = .ok (.iload_n 2, 1) := by decide +kernel
theorem dX13_mark_72 : decode cX13_mark 72 = .ok (.ifCond .eq 7, 3) := by decide +kernel
theorem dX13_mark_75 : decode cX13_mark 75 = .ok (.iconst 0, 1) := by decide +kernel
theorem dX13_mark_76 : decode cX13_mark 76 = .ok (.goto 7, 3) := by decide +kernel
theorem dX13_mark_79 : decode cX13_mark 79 = .ok (.aload_n 0, 1) := by decide +kernel
theorem dX13_mark_80 : decode cX13_mark 80 = .ok (.getfield 285, 3) := by decide +kernel
theorem dX13_mark_83 : decode cX13_mark 83 = .ok (.putfield 285, 3) := by decide +kernel
theorem dX13_mark_86 : decode cX13_mark 86 = .ok (.iconst 1, 1) := by decide +kernel
theorem dX13_mark_87 : decode cX13_mark 87 = .ok (.ireturn, 1) := by decide +kernel
set_option maxHeartbeats 4000000 in
set_option maxRecDepth 100000 in
theorem B_X13_mark {G : zG} {X : zX} {kd : kD} {N0 : Nat} (C : zCt G X 1 0 0 RX13 cX13_mark 3) (hr : (zXh X).sig.returnType = (some .boolean)) : ∀ f : Nat,
    (∀ (S : aS) (v0 : Nat) (v1 : Int32) (v2 : Int32) (res : Option Value × aS), zT0 kd N0 S → v0 < N0 → kd v0 = .inl 11 → F_X13_mark f 0 [.ref v0, .int v1, .int v2] S = some res → zV G X (zQX G X (zPo G kd N0 res) 0 0) 3 [some (.ref (zB G + v0)), some (.int v1), some (.int v2)] [] (cn G kd N0 S) 0 0 0) ∧
    (∀ (S : aS)  (res : Option Value × aS), zT0 kd N0 S → F_X13_mark f 1 [] S = some res → zV G X (zQX G X (zPo G kd N0 res) 0 0) 3 [none, none, none] [] (cn G kd N0 S) 27 0 0) ∧
    (∀ (S : aS) (v0 : Nat) (v1 : Int32) (v2 : Int32) (res : Option Value × aS), zT0 kd N0 S → v0 < N0 → kd v0 = .inl 11 → F_X13_mark f 2 [.ref v0, .int v1, .int v2] S = some res → zV G X (zQX G X (zPo G kd N0 res) 0 0) 3 [some (.ref (zB G + v0)), some (.int v1), some (.int v2)] [] (cn G kd N0 S) 29 0 0) := by
  intro f
  induction f with
  | zero => exact ⟨(fun _ _ _ _ _ _ _ _ h => by cases h), (fun _ _ _ h => by cases h), (fun _ _ _ _ _ _ _ _ h => by cases h)⟩
  | succ f ih =>
    obtain ⟨ih0, ih1, ih2⟩ := ih
    refine ⟨?_, ?_, ?_⟩
    · intro S v0 v1 v2 res hT hpv0 hkv0 hF
      replace hF : F_X13_mark_0 f (F_X13_mark f) v0 v1 v2 S = some res := hF
      unfold F_X13_mark_0 at hF
      refine z_aload_n C dX13_mark_0 rfl ?_
      refine z_iconst (v := 0) C dX13_mark_1 (by decide) ?_
      refine f_puti C dX13_mark_2 zfRX13_1 fw11_0 hpv0 hkv0 rfl rfl rfl ?_
      have hT1 : zT0 kd N0 (sI S v0 0 0) := zT0_sI hT
      replace hF := fS_e hF
      generalize sI S v0 0 0 = S1 at hF hT1 ⊢
      refine z_iload_n C dX13_mark_5 rfl ?_
      refine z_iconst (v := 0) C dX13_mark_6 (by decide) ?_
      refine z_iconst (v := 3) C dX13_mark_7 (by decide) ?_
      obtain ⟨x2, S2, h2, hF⟩ := bI_some hF
      refine f_cS (st2 := [.int x2]) C dX13_mark_8 zyX13_within zsX13_within lkRX13_339 (K_X13_within (l := zXl X) hT1    h2) (by decide) rfl rfl (Nat.le_of_ble_eq_true rfl) rfl (fun hT2 => ?_)
      refine z_if_eq C 27 dX13_mark_11 (by decide) (fun c3 => ?_) (fun c3 => ?_)
      · replace hF := ip hF c3
        refine z_mask [false, false, false] ?_ rfl
        exact ih1 S2  res hT2  hF
      · replace hF := im hF c3
        refine z_iload_n C dX13_mark_14 rfl ?_
        refine z_if_eq C 29 dX13_mark_15 (by decide) (fun c4 => ?_) (fun c4 => ?_)
        · replace hF := ip hF c4
          exact ih2 S2 v0 v1 v2 res hT2 hpv0 hkv0   hF
        · replace hF := im hF c4
          refine z_aload_n C dX13_mark_18 rfl ?_
          refine f_getr C dX13_mark_19 zfRX13_122 hpv0 hkv0 rfl ?_
          obtain ⟨hp5, hk5⟩ := hT2.1 v0 11 24 (.inr (3, 4)) hpv0 hkv0 rfl
          refine z_iload_n C dX13_mark_22 rfl ?_
          obtain ⟨hi6, hF⟩ := bX_some hF
          obtain ⟨q6, eq6⟩ : ∃ q : Nat, q = Int32.toNatClampNeg v1 := ⟨_, rfl⟩
          rw [← eq6] at hF
          refine f_zald C dX13_mark_23 hp5 hk5 hi6 ?_
          rw [← eq6]
          refine z_if_ne C 29 dX13_mark_24 (by decide) (fun c7 => ?_) (fun c7 => ?_)
          · replace hF := im hF c7
            exact ih2 S2 v0 v1 v2 res hT2 hpv0 hkv0   hF
          · replace hF := ip hF c7
            refine z_mask [false, false, false] ?_ rfl
            exact ih1 S2  res hT2  hF
    · intro S  res hT  hF
      replace hF : F_X13_mark_1 f (F_X13_mark f)  S = some res := hF
      unfold F_X13_mark_1 at hF
      refine z_iconst (v := 0) C dX13_mark_27 (by decide) ?_
      obtain ⟨hz, hF⟩ := bZ_some hF
      cases hF
      exact z_zret C hr hz.1 dX13_mark_28 ⟨rfl, rfl, hT⟩
    · intro S v0 v1 v2 res hT hpv0 hkv0 hF
      replace hF : F_X13_mark_2 f (F_X13_mark f) v0 v1 v2 S = some res := hF
      unfold F_X13_mark_2 at hF
      refine z_aload_n C dX13_mark_29 rfl ?_
      refine f_getr C dX13_mark_30 zfRX13_122 hpv0 hkv0 rfl ?_
      obtain ⟨hp8, hk8⟩ := hT.1 v0 11 24 (.inr (3, 4)) hpv0 hkv0 rfl
      refine z_iload_n C dX13_mark_33 rfl ?_
      refine z_iconst (v := 1) C dX13_mark_34 (by decide) ?_
      obtain ⟨hi9, hF⟩ := bX_some hF
      obtain ⟨q9, eq9⟩ : ∃ q : Nat, q = Int32.toNatClampNeg v1 := ⟨_, rfl⟩
      rw [← eq9] at hF
      refine f_zast C dX13_mark_35 hp8 hk8 hi9 ?_
      rw [← eq9]
      have hT10 : zT0 kd N0 (sI S (gR S v0 24) q9 (vp_nar .boolean 1)) := zT0_sI hT
      replace hF := fS_e hF
      generalize sI S (gR S v0 24) q9 (vp_nar .boolean 1) = S10 at hF hT10 ⊢
      refine z_aload_n C dX13_mark_36 rfl ?_
      refine z_iload_n C dX13_mark_37 rfl ?_
      have hJ12 : zV G X (zQX G X (zPo G kd N0 res) 0 0) 3 [some (.ref (zB G + v0)), some (.int v1), some (.int v2)] [.int (if v2 = (0 : Int32) then (0 : Int32) else ((36 : Int32) * ((1 : Int32) + v1))), .ref (zB G + v0)] (cn G kd N0 S10) 51 0 0 := by
        refine z_iload_n C dX13_mark_51 rfl ?_
        have hJ14 : zV G X (zQX G X (zPo G kd N0 res) 0 0) 3 [some (.ref (zB G + v0)), some (.int v1), some (.int v2)] [.int (if v2 = (0 : Int32) then ((36 : Int32) * ((1 : Int32) + v1)) else (0 : Int32)), .int (if v2 = (0 : Int32) then (0 : Int32) else ((36 : Int32) * ((1 : Int32) + v1))), .ref (zB G + v0)] (cn G kd N0 S10) 65 0 0 := by
          refine z_bipush (v := 36) C dX13_mark_65 (by decide) ?_
          obtain ⟨S15, h15, hF⟩ := bV_some hF
          refine f_cV (st2 := []) C dX13_mark_67 zyX13_copies zvX13_copies lkRX13_288 (K_X13_copies (l := zXl X) hT10 hpv0 hkv0    h15) hpv0 hkv0 rfl (by decide) rfl rfl (Nat.le_of_ble_eq_true rfl) rfl (fun hT15 => ?_)
          refine z_aload_n C dX13_mark_70 rfl ?_
          refine z_iload_n C dX13_mark_71 rfl ?_
          have hJ17 : zV G X (zQX G X (zPo G kd N0 res) 0 0) 3 [some (.ref (zB G + v0)), some (.int v1), some (.int v2)] [.int (if v2 = (0 : Int32) then (gI S15 v0 23) else (0 : Int32)), .ref (zB G + v0)] (cn G kd N0 S15) 83 0 0 := by
            refine f_puti C dX13_mark_83 zfRX13_285 fw11_23 hpv0 hkv0 rfl rfl rfl ?_
            have hT18 : zT0 kd N0 (sI S15 v0 23 (if v2 = (0 : Int32) then (gI S15 v0 23) else (0 : Int32))) := zT0_sI hT15
            replace hF := fS_e hF
            generalize sI S15 v0 23 (if v2 = (0 : Int32) then (gI S15 v0 23) else (0 : Int32)) = S18 at hF hT18 ⊢
            refine z_iconst (v := 1) C dX13_mark_86 (by decide) ?_
            obtain ⟨hz, hF⟩ := bZ_some hF
            cases hF
            exact z_zret C hr hz.1 dX13_mark_87 ⟨rfl, rfl, hT18⟩
          refine z_if_eq C 79 dX13_mark_72 (by decide) (fun c16 => ?_) (fun c16 => ?_)
          · refine z_aload_n C dX13_mark_79 rfl ?_
            refine f_geti C dX13_mark_80 zfRX13_285 hpv0 hkv0 rfl ?_
            exact zV.at hJ17 (by first | rfl | contradiction | (simp only [if_pos c16]; done)) (by first | rfl | contradiction | (simp only [if_pos c16]; done)) rfl rfl
          · refine z_iconst (v := 0) C dX13_mark_75 (by decide) ?_
            refine z_goto C 83 dX13_mark_76 (by decide) ?_
            exact zV.at hJ17 (by first | rfl | contradiction | (simp only [if_neg c16]; done)) (by first | rfl | contradiction | (simp only [if_neg c16]; done)) rfl rfl
        refine z_if_eq C 59 dX13_mark_52 (by decide) (fun c13 => ?_) (fun c13 => ?_)
        · refine z_bipush (v := 36) C dX13_mark_59 (by decide) ?_
          refine z_iconst (v := 1) C dX13_mark_61 (by decide) ?_
          refine z_iload_n C dX13_mark_62 rfl ?_
          refine z_iadd C dX13_mark_63 ?_
          refine z_imul C dX13_mark_64 ?_
          exact zV.at hJ14 (by first | rfl | contradiction | (simp only [if_pos c13]; done)) (by first | rfl | contradiction | (simp only [if_pos c13]; done)) rfl rfl
        · refine z_iconst (v := 0) C dX13_mark_55 (by decide) ?_
          refine z_goto C 65 dX13_mark_56 (by decide) ?_
          exact zV.at hJ14 (by first | rfl | contradiction | (simp only [if_neg c13]; done)) (by first | rfl | contradiction | (simp only [if_neg c13]; done)) rfl rfl
      refine z_if_eq C 50 dX13_mark_38 (by decide) (fun c11 => ?_) (fun c11 => ?_)
      · refine z_iconst (v := 0) C dX13_mark_50 (by decide) ?_
        exact zV.at hJ12 (by first | rfl | contradiction | (simp only [if_pos c11]; done)) (by first | rfl | contradiction | (simp only [if_pos c11]; done)) rfl rfl
      · refine z_bipush (v := 36) C dX13_mark_41 (by decide) ?_
        refine z_iconst (v := 1) C dX13_mark_43 (by decide) ?_
        refine z_iload_n C dX13_mark_44 rfl ?_
        refine z_iadd C dX13_mark_45 ?_
        refine z_imul C dX13_mark_46 ?_
        refine z_goto C 51 dX13_mark_47 (by decide) ?_
        exact zV.at hJ12 (by first | rfl | contradiction | (simp only [if_neg c11]; done)) (by first | rfl | contradiction | (simp only [if_neg c11]; done)) rfl rfl
theorem K_X13_mark {G : zG} {l : Launch} {kd : kD} {N0 f : Nat} {S : aS} {v0 : Nat} {v1 : Int32} {v2 : Int32} {res : Option Value × aS} (hT : zT0 kd N0 S) (hpv0 : v0 < N0) (hkv0 : kd v0 = .inl 11) (hF : F_X13_mark f 0 [.ref v0, .int v1, .int v2] S = some res) : zM G l 1 0 0 yX13_mark cX13_mark 3 (some .boolean) [.ref (zB G + v0), .int v1, .int v2] (cn G kd N0 S) (zPo G kd N0 res) := zM.of (by decide) rfl (Nat.le_of_ble_eq_true rfl) (fun X _ C hr _ => (B_X13_mark C hr f).1 S v0 v1 v2 res hT hpv0 hkv0 hF)
def F_X13_manyOf_0 (f : Nat) (rc : Nat → List Value → aS → aR) (v0 : Nat) (v1 : Int32) (S : aS) : aR :=
  rc 1 [.ref v0, .int v1, .int 0, .int 0] S
def F_X13_manyOf_1 (f : Nat) (rc : Nat → List Value → aS → aR) (v0 : Nat) (v1 : Int32) (v2 : Int32) (v3 : Int32) (S : aS) : aR :=
  bI (F_X13_yards f 0 [.ref v0] S) fun x1 S1 => if x1 ≤ v3 then some (some (.int v2), S1) else if v1 = (0 : Int32) then bI (F_X13_isBin f 0 [.ref v0, .int 0, .int v3] S1) fun x7 S7 => lI (v2 + (if x7 = (0 : Int32) then (0 : Int32) else (1 : Int32))) fun y10 => rc 1 [.ref v0, .int v1, .int y10, .int (v3 + 1)] S7 else bX ((28 : Int32) + v3) 828 fun q12 => lI (v2 + (if (gI S1 (gR S1 v0 22) q12) = (-1000 : Int32) then (0 : Int32) else (1 : Int32))) fun y15 => rc 1 [.ref v0, .int v1, .int y15, .int (v3 + 1)] S1
def F_X13_manyOf : Nat → Nat → List Value → aS → aR
  | 0, _, _, _ => none
  | f + 1, 0, vs, S => F_X13_manyOf_0 f (F_X13_manyOf f) (vR vs 0) (vI vs 1) S
  | f + 1, 1, vs, S => F_X13_manyOf_1 f (F_X13_manyOf f) (vR vs 0) (vI vs 1) (vI vs 2) (vI vs 3) S
  | _ + 1, _, _, _ => none
theorem dX13_manyOf_0 : decode cX13_manyOf 0 = .ok (.iconst 0, 1) := by decide +kernel
theorem dX13_manyOf_1 : decode cX13_manyOf 1 = .ok (.istore_n 2, 1) := by decide +kernel
theorem dX13_manyOf_2 : decode cX13_manyOf 2 = .ok (.iconst 0, 1) := by decide +kernel
theorem dX13_manyOf_3 : decode cX13_manyOf 3 = .ok (.istore_n 3, 1) := by decide +kernel
theorem dX13_manyOf_4 : decode cX13_manyOf 4 = .ok (.iload_n 3, 1) := by decide +kernel
theorem dX13_manyOf_5 : decode cX13_manyOf 5 = .ok (.aload_n 0, 1) := by decide +kernel
theorem dX13_manyOf_6 : decode cX13_manyOf 6 = .ok (.invokevirtual 279, 3) := by decide +kernel
theorem dX13_manyOf_9 : decode cX13_manyOf 9 = .ok (.if_icmp .ge 53, 3) := by decide +kernel
theorem dX13_manyOf_12 : decode cX13_manyOf 12 = .ok (.iload_n 2, 1) := by decide +kernel
theorem dX13_manyOf_13 : decode cX13_manyOf 13 = .ok (.iload_n 1, 1) := by decide +kernel
theorem dX13_manyOf_14 : decode cX13_manyOf 14 = .ok (.ifCond .eq 26, 3) := by decide +kernel
theorem dX13_manyOf_17 : decode cX13_manyOf 17 = .ok (.aload_n 0, 1) := by decide +kernel
theorem dX13_manyOf_18 : decode cX13_manyOf 18 = .ok (.getfield 119, 3) := by decide +kernel
theorem dX13_manyOf_21 : decode cX13_manyOf 21 = .ok (.bipush 28, 2) := by decide +kernel
theorem dX13_manyOf_23 : decode cX13_manyOf 23 = .ok (.iload_n 3, 1) := by decide +kernel
theorem dX13_manyOf_24 : decode cX13_manyOf 24 = .ok (.iadd, 1) := by decide +kernel
theorem dX13_manyOf_25 : decode cX13_manyOf 25 = .ok (.iaload, 1) := by decide +kernel
theorem dX13_manyOf_26 : decode cX13_manyOf 26 = .ok (.sipush (-1000), 3) := by decide +kernel
theorem dX13_manyOf_29 : decode cX13_manyOf 29 = .ok (.if_icmp .eq 7, 3) := by decide +kernel
theorem dX13_manyOf_32 : decode cX13_manyOf 32 = .ok (.iconst 1, 1) := by decide +kernel
theorem dX13_manyOf_33 : decode cX13_manyOf 33 = .ok (.goto 21, 3) := by decide +kernel
theorem dX13_manyOf_36 : decode cX13_manyOf 36 = .ok (.iconst 0, 1) := by decide +kernel
theorem dX13_manyOf_37 : decode cX13_manyOf 37 = .ok (.goto 17, 3) := by decide +kernel
theorem dX13_manyOf_40 : decode cX13_manyOf 40 = .ok (.aload_n 0, 1) := by decide +kernel
theorem dX13_manyOf_41 : decode cX13_manyOf 41 = .ok (.iconst 0, 1) := by decide +kernel
theorem dX13_manyOf_42 : decode cX13_manyOf 42 = .ok (.iload_n 3, 1) := by decide +kernel
theorem dX13_manyOf_43 : decode cX13_manyOf 43 = .ok (.invokevirtual 349, 3) := by decide +kernel
theorem dX13_manyOf_46 : decode cX13_manyOf 46 = .ok (.ifCond .eq 7, 3) := by decide +kernel
theorem dX13_manyOf_49 : decode cX13_manyOf 49 = .ok (.iconst 1, 1) := by decide +kernel
theorem dX13_manyOf_50 : decode cX13_manyOf 50 = .ok (.goto 4, 3) := by decide +kernel
theorem dX13_manyOf_53 : decode cX13_manyOf 53 = .ok (.iconst 0, 1) := by decide +kernel
theorem dX13_manyOf_54 : decode cX13_manyOf 54 = .ok (.iadd, 1) := by decide +kernel
theorem dX13_manyOf_55 : decode cX13_manyOf 55 = .ok (.istore_n 2, 1) := by decide +kernel
theorem dX13_manyOf_56 : decode cX13_manyOf 56 = .ok (.iinc 3 1, 3) := by decide +kernel
theorem dX13_manyOf_59 : decode cX13_manyOf 59 = .ok (.goto (-55), 3) := by decide +kernel
theorem dX13_manyOf_62 : decode cX13_manyOf 62 = .ok (.iload_n 2, 1) := by decide +kernel
theorem dX13_manyOf_63 : decode cX13_manyOf 63 = .ok (.ireturn, 1) := by decide +kernel
set_option maxHeartbeats 4000000 in
set_option maxRecDepth 100000 in
theorem B_X13_manyOf {G : zG} {X : zX} {kd : kD} {N0 : Nat} (C : zCt G X 1 0 0 RX13 cX13_manyOf 4) (hr : (zXh X).sig.returnType = (some .int)) : ∀ f : Nat,
    (∀ (S : aS) (v0 : Nat) (v1 : Int32) (res : Option Value × aS), zT0 kd N0 S → v0 < N0 → kd v0 = .inl 11 → F_X13_manyOf f 0 [.ref v0, .int v1] S = some res → zV G X (zQX G X (zPo G kd N0 res) 0 0) 4 [some (.ref (zB G + v0)), some (.int v1), none, none] [] (cn G kd N0 S) 0 0 0) ∧
    (∀ (S : aS) (v0 : Nat) (v1 : Int32) (v2 : Int32) (v3 : Int32) (res : Option Value × aS), zT0 kd N0 S → v0 < N0 → kd v0 = .inl 11 → F_X13_manyOf f 1 [.ref v0, .int v1, .int v2, .int v3] S = some res → zV G X (zQX G X (zPo G kd N0 res) 0 0) 4 [some (.ref (zB G + v0)), some (.int v1), some (.int v2), some (.int v3)] [] (cn G kd N0 S) 4 0 0) := by
  intro f
  induction f with
  | zero => exact ⟨(fun _ _ _ _ _ _ _ h => by cases h), (fun _ _ _ _ _ _ _ _ _ h => by cases h)⟩
  | succ f ih =>
    obtain ⟨ih0, ih1⟩ := ih
    refine ⟨?_, ?_⟩
    · intro S v0 v1 res hT hpv0 hkv0 hF
      replace hF : F_X13_manyOf_0 f (F_X13_manyOf f) v0 v1 S = some res := hF
      unfold F_X13_manyOf_0 at hF
      refine z_iconst (v := 0) C dX13_manyOf_0 (by decide) ?_
      refine z_istore_n (lv2 := [some (.ref (zB G + v0)), some (.int v1), some (.int 0), none]) C dX13_manyOf_1 (by decide) rfl ?_
      refine z_iconst (v := 0) C dX13_manyOf_2 (by decide) ?_
      refine z_istore_n (lv2 := [some (.ref (zB G + v0)), some (.int v1), some (.int 0), some (.int 0)]) C dX13_manyOf_3 (by decide) rfl ?_
      exact ih1 S v0 v1 0 0 res hT hpv0 hkv0    hF
    · intro S v0 v1 v2 v3 res hT hpv0 hkv0 hF
      replace hF : F_X13_manyOf_1 f (F_X13_manyOf f) v0 v1 v2 v3 S = some res := hF
      unfold F_X13_manyOf_1 at hF
      refine z_iload_n C dX13_manyOf_4 rfl ?_
      refine z_aload_n C dX13_manyOf_5 rfl ?_
      obtain ⟨x1, S1, h1, hF⟩ := bI_some hF
      refine f_cV (st2 := [.int x1, .int v3]) C dX13_manyOf_6 zyX13_yards zvX13_yards lkRX13_279 (K_X13_yards (l := zXl X) hT hpv0 hkv0 h1) hpv0 hkv0 rfl (by decide) rfl rfl (Nat.le_of_ble_eq_true rfl) rfl (fun hT1 => ?_)
      refine z_icmp_ge C 62 dX13_manyOf_9 (by decide) (fun c4 => ?_) (fun c4 => ?_)
      · replace hF := ip hF c4
        refine z_iload_n C dX13_manyOf_62 rfl ?_
        cases hF
        exact z_iret C hr dX13_manyOf_63 ⟨rfl, rfl, hT1⟩
      · replace hF := im hF c4
        refine z_iload_n C dX13_manyOf_12 rfl ?_
        refine z_iload_n C dX13_manyOf_13 rfl ?_
        refine z_if_eq C 40 dX13_manyOf_14 (by decide) (fun c6 => ?_) (fun c6 => ?_)
        · replace hF := ip hF c6
          refine z_aload_n C dX13_manyOf_40 rfl ?_
          refine z_iconst (v := 0) C dX13_manyOf_41 (by decide) ?_
          refine z_iload_n C dX13_manyOf_42 rfl ?_
          obtain ⟨x7, S7, h7, hF⟩ := bI_some hF
          refine f_cV (st2 := [.int x7, .int v2]) C dX13_manyOf_43 zyX13_isBin zvX13_isBin lkRX13_349 (K_X13_isBin (l := zXl X) hT1 hpv0 hkv0   h7) hpv0 hkv0 rfl (by decide) rfl rfl (Nat.le_of_ble_eq_true rfl) rfl (fun hT7 => ?_)
          have hJ9 : zV G X (zQX G X (zPo G kd N0 res) 0 0) 4 [some (.ref (zB G + v0)), some (.int v1), some (.int v2), some (.int v3)] [.int (if x7 = (0 : Int32) then (0 : Int32) else (1 : Int32)), .int v2] (cn G kd N0 S7) 54 0 0 := by
            refine z_iadd C dX13_manyOf_54 ?_
            replace hF := lI_e hF
            generalize (v2 + (if x7 = (0 : Int32) then (0 : Int32) else (1 : Int32))) = y10 at hF ⊢
            refine z_istore_n (lv2 := [some (.ref (zB G + v0)), some (.int v1), some (.int y10), some (.int v3)]) C dX13_manyOf_55 (by decide) rfl ?_
            refine z_iinc (v := v3 + 1) (lv2 := [some (.ref (zB G + v0)), some (.int v1), some (.int y10), some (.int (v3 + 1))]) C dX13_manyOf_56 rfl (by rw [show Int32.ofInt 1 = (1 : Int32) from by decide]) rfl ?_
            refine z_goto C 4 dX13_manyOf_59 (by decide) ?_
            exact ih1 S7 v0 v1 y10 (v3 + 1) res hT7 hpv0 hkv0    hF
          refine z_if_eq C 53 dX13_manyOf_46 (by decide) (fun c8 => ?_) (fun c8 => ?_)
          · refine z_iconst (v := 0) C dX13_manyOf_53 (by decide) ?_
            exact zV.at hJ9 (by first | rfl | contradiction | (simp only [if_pos c8]; done)) (by first | rfl | contradiction | (simp only [if_pos c8]; done)) rfl rfl
          · refine z_iconst (v := 1) C dX13_manyOf_49 (by decide) ?_
            refine z_goto C 54 dX13_manyOf_50 (by decide) ?_
            exact zV.at hJ9 (by first | rfl | contradiction | (simp only [if_neg c8]; done)) (by first | rfl | contradiction | (simp only [if_neg c8]; done)) rfl rfl
        · replace hF := im hF c6
          refine z_aload_n C dX13_manyOf_17 rfl ?_
          refine f_getr C dX13_manyOf_18 zfRX13_119 hpv0 hkv0 rfl ?_
          obtain ⟨hp11, hk11⟩ := hT1.1 v0 11 22 (.inr (0, 828)) hpv0 hkv0 rfl
          refine z_bipush (v := 28) C dX13_manyOf_21 (by decide) ?_
          refine z_iload_n C dX13_manyOf_23 rfl ?_
          refine z_iadd C dX13_manyOf_24 ?_
          obtain ⟨hi12, hF⟩ := bX_some hF
          obtain ⟨q12, eq12⟩ : ∃ q : Nat, q = Int32.toNatClampNeg ((28 : Int32) + v3) := ⟨_, rfl⟩
          rw [← eq12] at hF
          refine f_iald C dX13_manyOf_25 hp11 hk11 hi12 ?_
          rw [← eq12]
          refine z_sipush (v := (-1000)) C dX13_manyOf_26 (by decide) ?_
          have hJ14 : zV G X (zQX G X (zPo G kd N0 res) 0 0) 4 [some (.ref (zB G + v0)), some (.int v1), some (.int v2), some (.int v3)] [.int (if (gI S1 (gR S1 v0 22) q12) = (-1000 : Int32) then (0 : Int32) else (1 : Int32)), .int v2] (cn G kd N0 S1) 54 0 0 := by
            refine z_iadd C dX13_manyOf_54 ?_
            replace hF := lI_e hF
            generalize (v2 + (if (gI S1 (gR S1 v0 22) q12) = (-1000 : Int32) then (0 : Int32) else (1 : Int32))) = y15 at hF ⊢
            refine z_istore_n (lv2 := [some (.ref (zB G + v0)), some (.int v1), some (.int y15), some (.int v3)]) C dX13_manyOf_55 (by decide) rfl ?_
            refine z_iinc (v := v3 + 1) (lv2 := [some (.ref (zB G + v0)), some (.int v1), some (.int y15), some (.int (v3 + 1))]) C dX13_manyOf_56 rfl (by rw [show Int32.ofInt 1 = (1 : Int32) from by decide]) rfl ?_
            refine z_goto C 4 dX13_manyOf_59 (by decide) ?_
            exact ih1 S1 v0 v1 y15 (v3 + 1) res hT1 hpv0 hkv0    hF
          refine z_icmp_eq C 36 dX13_manyOf_29 (by decide) (fun c13 => ?_) (fun c13 => ?_)
          · refine z_iconst (v := 0) C dX13_manyOf_36 (by decide) ?_
            refine z_goto C 54 dX13_manyOf_37 (by decide) ?_
            exact zV.at hJ14 (by first | rfl | contradiction | (simp only [if_pos c13]; done)) (by first | rfl | contradiction | (simp only [if_pos c13]; done)) rfl rfl
          · refine z_iconst (v := 1) C dX13_manyOf_32 (by decide) ?_
            refine z_goto C 54 dX13_manyOf_33 (by decide) ?_
            exact zV.at hJ14 (by first | rfl | contradiction | (simp only [if_neg c13]; done)) (by first | rfl | contradiction | (simp only [if_neg c13]; done)) rfl rfl
theorem K_X13_manyOf {G : zG} {l : Launch} {kd : kD} {N0 f : Nat} {S : aS} {v0 : Nat} {v1 : Int32} {res : Option Value × aS} (hT : zT0 kd N0 S) (hpv0 : v0 < N0) (hkv0 : kd v0 = .inl 11) (hF : F_X13_manyOf f 0 [.ref v0, .int v1] S = some res) : zM G l 1 0 0 yX13_manyOf cX13_manyOf 4 (some .int) [.ref (zB G + v0), .int v1] (cn G kd N0 S) (zPo G kd N0 res) := zM.of (by decide) rfl (Nat.le_of_ble_eq_true rfl) (fun X _ C hr _ => (B_X13_manyOf C hr f).1 S v0 v1 res hT hpv0 hkv0 hF)
def F_X13_count_0 (f : Nat) (rc : Nat → List Value → aS → aR) (v0 : Nat) (v1 : Int32) (S : aS) : aR :=
  fS (sI S v0 0 0) fun S1 => if v1 = 0 then bI (F_X13_yards f 0 [.ref v0] S1) fun x3 S3 => some (some (.int x3), S3) else if v1 = 1 then bI (F_X13_people f 0 [.ref v0] S1) fun x5 S5 => some (some (.int x5), S5) else if v1 = 2 then bI (F_X13_manyOf f 0 [.ref v0, .int 0] S1) fun x7 S7 => some (some (.int x7), S7) else if v1 = 3 then bX 0 828 fun q10 => some (some (.int (gI S1 (gR S1 v0 22) q10)), S1) else if v1 = 4 then bX 0 828 fun q13 => bI (F_X13_windOf f 0 [.ref v0, .int (gI S1 (gR S1 v0 22) q13)] S1) fun x14 S14 => some (some (.int x14), S14) else if v1 = 5 then bX 1 828 fun q17 => some (some (.int (gI S1 (gR S1 v0 22) q17)), S1) else if v1 = 6 then bX 2 828 fun q20 => some (some (.int (gI S1 (gR S1 v0 22) q20)), S1) else if v1 = 7 then bX 3 828 fun q23 => some (some (.int (gI S1 (gR S1 v0 22) q23)), S1) else if v1 = 8 then bX 4 140 fun q26 => some (some (.int (gI S1 (gR S1 v0 10) q26)), S1) else if v1 = 9 then bX 0 250 fun q29 => some (some (.int (gI S1 (gR S1 v0 19) q29)), S1) else if v1 = 10 then bI (F_X13_manyOf f 0 [.ref v0, .int 1] S1) fun x31 S31 => some (some (.int x31), S31) else if v1 = 11 then some (some (.int (gI S1 v0 23)), S1) else if v1 = 12 then some (some (.int (gI S1 v0 2)), S1) else some (some (.int ((-1))), S1)
def F_X13_count : Nat → Nat → List Value → aS → aR
  | 0, _, _, _ => none
  | f + 1, 0, vs, S => F_X13_count_0 f (F_X13_count f) (vR vs 0) (vI vs 1) S
  | _ + 1, _, _, _ => none
theorem dX13_count_0 : decode cX13_count 0 = .ok (.aload_n 0, 1) := by decide +kernel
theorem dX13_count_1 : decode cX13_count 1 = .ok (.iconst 0, 1) := by decide +kernel
theorem dX13_count_2 : decode cX13_count 2 = .ok (.putfield 1, 3) := by decide +kernel
theorem dX13_count_5 : decode cX13_count 5 = .ok (.iload_n 1, 1) := by decide +kernel
theorem dX13_count_6 : decode cX13_count 6 = .ok (.tableswitch 151 0 12 #[66, 71, 76, 82, 89, 100, 107, 114, 121, 128, 135, 141, 146], 66) := by decide +kernel
theorem dX13_count_72 : decode cX13_count 72 = .ok (.aload_n 0, 1) := by decide +kernel
theorem dX13_count_73 : decode cX13_count 73 = .ok (.invokevirtual 279, 3) := by decide +kernel
theorem dX13_count_76 : decode cX13_count 76 = .ok (.ireturn, 1) := by decide +kernel
theorem dX13_count_77 : decode cX13_count 77 = .ok (.aload_n 0, 1) := by decide +kernel
theorem dX13_count_78 : decode cX13_count 78 = .ok (.invokevirtual 292, 3) := by decide +kernel
theorem dX13_count_81 : decode cX13_count 81 = .ok (.ireturn, 1) := by decide +kernel
theorem dX13_count_82 : decode cX13_count 82 = .ok (.aload_n 0, 1) := by decide +kernel
theorem dX13_count_83 : decode cX13_count 83 = .ok (.iconst 0, 1) := by decide +kernel
theorem dX13_count_84 : decode cX13_count 84 = .ok (.invokevirtual 409, 3) := by decide +kernel
theorem dX13_count_87 : decode cX13_count 87 = .ok (.ireturn, 1) := by decide +kernel
theorem dX13_count_88 : decode cX13_count 88 = .ok (.aload_n 0, 1) := by decide +kernel
theorem dX13_count_89 : decode cX13_count 89 = .ok (.getfield 119, 3) := by decide +kernel
theorem dX13_count_92 : decode cX13_count 92 = .ok (.iconst 0, 1) := by decide +kernel
theorem dX13_count_93 : decode cX13_count 93 = .ok (.iaload, 1) := by decide +kernel
theorem dX13_count_94 : decode cX13_count 94 = .ok (.ireturn, 1) := by decide +kernel
theorem dX13_count_95 : decode cX13_count 95 = .ok (.aload_n 0, 1) := by decide +kernel
theorem dX13_count_96 : decode cX13_count 96 = .ok (.aload_n 0, 1) := by decide +kernel
theorem dX13_count_97 : decode cX13_count 97 = .ok (.getfield 119, 3) := by decide +kernel
theorem dX13_count_100 : decode cX13_count 100 = .ok (.iconst 0, 1) := by decide +kernel
theorem dX13_count_101 : decode cX13_count 101 = .ok (.iaload, 1) := by decide +kernel
theorem dX13_count_102 : decode cX13_count 102 = .ok (.invokevirtual 333, 3) := by decide +kernel
theorem dX13_count_105 : decode cX13_count 105 = .ok (.ireturn, 1) := by decide +kernel
theorem dX13_count_106 : decode cX13_count 106 = .ok (.aload_n 0, 1) := by decide +kernel
theorem dX13_count_107 : decode cX13_count 107 = .ok (.getfield 119, 3) := by decide +kernel
theorem dX13_count_110 : decode cX13_count 110 = .ok (.iconst 1, 1) := by decide +kernel
theorem dX13_count_111 : decode cX13_count 111 = .ok (.iaload, 1) := by decide +kernel
theorem dX13_count_112 : decode cX13_count 112 = .ok (.ireturn, 1) := by decide +kernel
theorem dX13_count_113 : decode cX13_count 113 = .ok (.aload_n 0, 1) := by decide +kernel
theorem dX13_count_114 : decode cX13_count 114 = .ok (.getfield 119, 3) := by decide +kernel
theorem dX13_count_117 : decode cX13_count 117 = .ok (.iconst 2, 1) := by decide +kernel
theorem dX13_count_118 : decode cX13_count 118 = .ok (.iaload, 1) := by decide +kernel
theorem dX13_count_119 : decode cX13_count 119 = .ok (.ireturn, 1) := by decide +kernel
theorem dX13_count_120 : decode cX13_count 120 = .ok (.aload_n 0, 1) := by decide +kernel
theorem dX13_count_121 : decode cX13_count 121 = .ok (.getfield 119, 3) := by decide +kernel
theorem dX13_count_124 : decode cX13_count 124 = .ok (.iconst 3, 1) := by decide +kernel
theorem dX13_count_125 : decode cX13_count 125 = .ok (.iaload, 1) := by decide +kernel
theorem dX13_count_126 : decode cX13_count 126 = .ok (.ireturn, 1) := by decide +kernel
theorem dX13_count_127 : decode cX13_count 127 = .ok (.aload_n 0, 1) := by decide +kernel
theorem dX13_count_128 : decode cX13_count 128 = .ok (.getfield 95, 3) := by decide +kernel
theorem dX13_count_131 : decode cX13_count 131 = .ok (.iconst 4, 1) := by decide +kernel
theorem dX13_count_132 : decode cX13_count 132 = .ok (.iaload, 1) := by decide +kernel
theorem dX13_count_133 : decode cX13_count 133 = .ok (.ireturn, 1) := by decide +kernel
theorem dX13_count_134 : decode cX13_count 134 = .ok (.aload_n 0, 1) := by decide +kernel
theorem dX13_count_135 : decode cX13_count 135 = .ok (.getfield 110, 3) := by decide +kernel
theorem dX13_count_138 : decode cX13_count 138 = .ok (.iconst 0, 1) := by decide +kernel
theorem dX13_count_139 : decode cX13_count 139 = .ok (.iaload, 1) := by decide +kernel
theorem dX13_count_140 : decode cX13_count 140 = .ok (.ireturn, 1) := by decide +kernel
theorem dX13_count_141 : decode cX13_count 141 = .ok (.aload_n 0, 1) := by decide +kernel
theorem dX13_count_142 : decode cX13_count 142 = .ok (.iconst 1, 1) := by decide +kernel
theorem dX13_count_143 : decode cX13_count 143 = .ok (.invokevirtual 409, 3) := by decide +kernel
theorem dX13_count_146 : decode cX13_count 146 = .ok (.ireturn, 1) := by decide +kernel
theorem dX13_count_147 : decode cX13_count 147 = .ok (.aload_n 0, 1) := by decide +kernel
theorem dX13_count_148 : decode cX13_count 148 = .ok (.getfield 285, 3) := by decide +kernel
theorem dX13_count_151 : decode cX13_count 151 = .ok (.ireturn, 1) := by decide +kernel
theorem dX13_count_152 : decode cX13_count 152 = .ok (.aload_n 0, 1) := by decide +kernel
theorem dX13_count_153 : decode cX13_count 153 = .ok (.getfield 11, 3) := by decide +kernel
theorem dX13_count_156 : decode cX13_count 156 = .ok (.ireturn, 1) := by decide +kernel
theorem dX13_count_157 : decode cX13_count 157 = .ok (.iconst (-1), 1) := by decide +kernel
theorem dX13_count_158 : decode cX13_count 158 = .ok (.ireturn, 1) := by decide +kernel
set_option maxHeartbeats 4000000 in
set_option maxRecDepth 100000 in
theorem B_X13_count {G : zG} {X : zX} {kd : kD} {N0 : Nat} (C : zCt G X 2 0 0 RX13 cX13_count 2) (hr : (zXh X).sig.returnType = (some .int)) : ∀ f : Nat,
    (∀ (S : aS) (v0 : Nat) (v1 : Int32) (res : Option Value × aS), zT0 kd N0 S → v0 < N0 → kd v0 = .inl 11 → F_X13_count f 0 [.ref v0, .int v1] S = some res → zV G X (zQX G X (zPo G kd N0 res) 0 0) 2 [some (.ref (zB G + v0)), some (.int v1)] [] (cn G kd N0 S) 0 0 0) := by
  intro f
  induction f with
  | zero => exact (fun _ _ _ _ _ _ _ h => by cases h)
  | succ f ih =>
    have ih0 := ih
    intro S v0 v1 res hT hpv0 hkv0 hF
    replace hF : F_X13_count_0 f (F_X13_count f) v0 v1 S = some res := hF
    unfold F_X13_count_0 at hF
    refine z_aload_n C dX13_count_0 rfl ?_
    refine z_iconst (v := 0) C dX13_count_1 (by decide) ?_
    refine f_puti C dX13_count_2 zfRX13_1 fw11_0 hpv0 hkv0 rfl rfl rfl ?_
    have hT1 : zT0 kd N0 (sI S v0 0 0) := zT0_sI hT
    replace hF := fS_e hF
    generalize sI S v0 0 0 = S1 at hF hT1 ⊢
    refine z_iload_n C dX13_count_5 rfl ?_
    by_cases c4 : v1 = 0
    · replace hF := ip hF c4
      refine z_tabIn C 72 dX13_count_6 (by rw [c4]; decide) (by rw [c4]; decide) (off := 66) (by rw [c4]; rfl) (by decide) ?_
      refine z_aload_n C dX13_count_72 rfl ?_
      obtain ⟨x3, S3, h3, hF⟩ := bI_some hF
      refine f_cV (st2 := [.int x3]) C dX13_count_73 zyX13_yards zvX13_yards lkRX13_279 (K_X13_yards (l := zXl X) hT1 hpv0 hkv0 h3) hpv0 hkv0 rfl (by decide) rfl rfl (Nat.le_of_ble_eq_true rfl) rfl (fun hT3 => ?_)
      cases hF
      exact z_iret C hr dX13_count_76 ⟨rfl, rfl, hT3⟩
    replace hF := im hF c4
    by_cases c6 : v1 = 1
    · replace hF := ip hF c6
      refine z_tabIn C 77 dX13_count_6 (by rw [c6]; decide) (by rw [c6]; decide) (off := 71) (by rw [c6]; rfl) (by decide) ?_
      refine z_aload_n C dX13_count_77 rfl ?_
      obtain ⟨x5, S5, h5, hF⟩ := bI_some hF
      refine f_cV (st2 := [.int x5]) C dX13_count_78 zyX13_people zvX13_people lkRX13_292 (K_X13_people (l := zXl X) hT1 hpv0 hkv0 h5) hpv0 hkv0 rfl (by decide) rfl rfl (Nat.le_of_ble_eq_true rfl) rfl (fun hT5 => ?_)
      cases hF
      exact z_iret C hr dX13_count_81 ⟨rfl, rfl, hT5⟩
    replace hF := im hF c6
    by_cases c8 : v1 = 2
    · replace hF := ip hF c8
      refine z_tabIn C 82 dX13_count_6 (by rw [c8]; decide) (by rw [c8]; decide) (off := 76) (by rw [c8]; rfl) (by decide) ?_
      refine z_aload_n C dX13_count_82 rfl ?_
      refine z_iconst (v := 0) C dX13_count_83 (by decide) ?_
      obtain ⟨x7, S7, h7, hF⟩ := bI_some hF
      refine f_cV (st2 := [.int x7]) C dX13_count_84 zyX13_manyOf zvX13_manyOf lkRX13_409 (K_X13_manyOf (l := zXl X) hT1 hpv0 hkv0  h7) hpv0 hkv0 rfl (by decide) rfl rfl (Nat.le_of_ble_eq_true rfl) rfl (fun hT7 => ?_)
      cases hF
      exact z_iret C hr dX13_count_87 ⟨rfl, rfl, hT7⟩
    replace hF := im hF c8
    by_cases c11 : v1 = 3
    · replace hF := ip hF c11
      refine z_tabIn C 88 dX13_count_6 (by rw [c11]; decide) (by rw [c11]; decide) (off := 82) (by rw [c11]; rfl) (by decide) ?_
      refine z_aload_n C dX13_count_88 rfl ?_
      refine f_getr C dX13_count_89 zfRX13_119 hpv0 hkv0 rfl ?_
      obtain ⟨hp9, hk9⟩ := hT1.1 v0 11 22 (.inr (0, 828)) hpv0 hkv0 rfl
      refine z_iconst (v := 0) C dX13_count_92 (by decide) ?_
      obtain ⟨hi10, hF⟩ := bX_some hF
      obtain ⟨q10, eq10⟩ : ∃ q : Nat, q = Int32.toNatClampNeg 0 := ⟨_, rfl⟩
      rw [← eq10] at hF
      refine f_iald C dX13_count_93 hp9 hk9 hi10 ?_
      rw [← eq10]
      cases hF
      exact z_iret C hr dX13_count_94 ⟨rfl, rfl, hT1⟩
    replace hF := im hF c11
    by_cases c15 : v1 = 4
    · replace hF := ip hF c15
      refine z_tabIn C 95 dX13_count_6 (by rw [c15]; decide) (by rw [c15]; decide) (off := 89) (by rw [c15]; rfl) (by decide) ?_
      refine z_aload_n C dX13_count_95 rfl ?_
      refine z_aload_n C dX13_count_96 rfl ?_
      refine f_getr C dX13_count_97 zfRX13_119 hpv0 hkv0 rfl ?_
      obtain ⟨hp12, hk12⟩ := hT1.1 v0 11 22 (.inr (0, 828)) hpv0 hkv0 rfl
      refine z_iconst (v := 0) C dX13_count_100 (by decide) ?_
      obtain ⟨hi13, hF⟩ := bX_some hF
      obtain ⟨q13, eq13⟩ : ∃ q : Nat, q = Int32.toNatClampNeg 0 := ⟨_, rfl⟩
      rw [← eq13] at hF
      refine f_iald C dX13_count_101 hp12 hk12 hi13 ?_
      rw [← eq13]
      obtain ⟨x14, S14, h14, hF⟩ := bI_some hF
      refine f_cV (st2 := [.int x14]) C dX13_count_102 zyX13_windOf zvX13_windOf lkRX13_333 (K_X13_windOf (l := zXl X) hT1 hpv0 hkv0  h14) hpv0 hkv0 rfl (by decide) rfl rfl (Nat.le_of_ble_eq_true rfl) rfl (fun hT14 => ?_)
      cases hF
      exact z_iret C hr dX13_count_105 ⟨rfl, rfl, hT14⟩
    replace hF := im hF c15
    by_cases c18 : v1 = 5
    · replace hF := ip hF c18
      refine z_tabIn C 106 dX13_count_6 (by rw [c18]; decide) (by rw [c18]; decide) (off := 100) (by rw [c18]; rfl) (by decide) ?_
      refine z_aload_n C dX13_count_106 rfl ?_
      refine f_getr C dX13_count_107 zfRX13_119 hpv0 hkv0 rfl ?_
      obtain ⟨hp16, hk16⟩ := hT1.1 v0 11 22 (.inr (0, 828)) hpv0 hkv0 rfl
      refine z_iconst (v := 1) C dX13_count_110 (by decide) ?_
      obtain ⟨hi17, hF⟩ := bX_some hF
      obtain ⟨q17, eq17⟩ : ∃ q : Nat, q = Int32.toNatClampNeg 1 := ⟨_, rfl⟩
      rw [← eq17] at hF
      refine f_iald C dX13_count_111 hp16 hk16 hi17 ?_
      rw [← eq17]
      cases hF
      exact z_iret C hr dX13_count_112 ⟨rfl, rfl, hT1⟩
    replace hF := im hF c18
    by_cases c21 : v1 = 6
    · replace hF := ip hF c21
      refine z_tabIn C 113 dX13_count_6 (by rw [c21]; decide) (by rw [c21]; decide) (off := 107) (by rw [c21]; rfl) (by decide) ?_
      refine z_aload_n C dX13_count_113 rfl ?_
      refine f_getr C dX13_count_114 zfRX13_119 hpv0 hkv0 rfl ?_
      obtain ⟨hp19, hk19⟩ := hT1.1 v0 11 22 (.inr (0, 828)) hpv0 hkv0 rfl
      refine z_iconst (v := 2) C dX13_count_117 (by decide) ?_
      obtain ⟨hi20, hF⟩ := bX_some hF
      obtain ⟨q20, eq20⟩ : ∃ q : Nat, q = Int32.toNatClampNeg 2 := ⟨_, rfl⟩
      rw [← eq20] at hF
      refine f_iald C dX13_count_118 hp19 hk19 hi20 ?_
      rw [← eq20]
      cases hF
      exact z_iret C hr dX13_count_119 ⟨rfl, rfl, hT1⟩
    replace hF := im hF c21
    by_cases c24 : v1 = 7
    · replace hF := ip hF c24
      refine z_tabIn C 120 dX13_count_6 (by rw [c24]; decide) (by rw [c24]; decide) (off := 114) (by rw [c24]; rfl) (by decide) ?_
      refine z_aload_n C dX13_count_120 rfl ?_
      refine f_getr C dX13_count_121 zfRX13_119 hpv0 hkv0 rfl ?_
      obtain ⟨hp22, hk22⟩ := hT1.1 v0 11 22 (.inr (0, 828)) hpv0 hkv0 rfl
      refine z_iconst (v := 3) C dX13_count_124 (by decide) ?_
      obtain ⟨hi23, hF⟩ := bX_some hF
      obtain ⟨q23, eq23⟩ : ∃ q : Nat, q = Int32.toNatClampNeg 3 := ⟨_, rfl⟩
      rw [← eq23] at hF
      refine f_iald C dX13_count_125 hp22 hk22 hi23 ?_
      rw [← eq23]
      cases hF
      exact z_iret C hr dX13_count_126 ⟨rfl, rfl, hT1⟩
    replace hF := im hF c24
    by_cases c27 : v1 = 8
    · replace hF := ip hF c27
      refine z_tabIn C 127 dX13_count_6 (by rw [c27]; decide) (by rw [c27]; decide) (off := 121) (by rw [c27]; rfl) (by decide) ?_
      refine z_aload_n C dX13_count_127 rfl ?_
      refine f_getr C dX13_count_128 zfRX13_95 hpv0 hkv0 rfl ?_
      obtain ⟨hp25, hk25⟩ := hT1.1 v0 11 10 (.inr (0, 140)) hpv0 hkv0 rfl
      refine z_iconst (v := 4) C dX13_count_131 (by decide) ?_
      obtain ⟨hi26, hF⟩ := bX_some hF
      obtain ⟨q26, eq26⟩ : ∃ q : Nat, q = Int32.toNatClampNeg 4 := ⟨_, rfl⟩
      rw [← eq26] at hF
      refine f_iald C dX13_count_132 hp25 hk25 hi26 ?_
      rw [← eq26]
      cases hF
      exact z_iret C hr dX13_count_133 ⟨rfl, rfl, hT1⟩
    replace hF := im hF c27
    by_cases c30 : v1 = 9
    · replace hF := ip hF c30
      refine z_tabIn C 134 dX13_count_6 (by rw [c30]; decide) (by rw [c30]; decide) (off := 128) (by rw [c30]; rfl) (by decide) ?_
      refine z_aload_n C dX13_count_134 rfl ?_
      refine f_getr C dX13_count_135 zfRX13_110 hpv0 hkv0 rfl ?_
      obtain ⟨hp28, hk28⟩ := hT1.1 v0 11 19 (.inr (0, 250)) hpv0 hkv0 rfl
      refine z_iconst (v := 0) C dX13_count_138 (by decide) ?_
      obtain ⟨hi29, hF⟩ := bX_some hF
      obtain ⟨q29, eq29⟩ : ∃ q : Nat, q = Int32.toNatClampNeg 0 := ⟨_, rfl⟩
      rw [← eq29] at hF
      refine f_iald C dX13_count_139 hp28 hk28 hi29 ?_
      rw [← eq29]
      cases hF
      exact z_iret C hr dX13_count_140 ⟨rfl, rfl, hT1⟩
    replace hF := im hF c30
    by_cases c32 : v1 = 10
    · replace hF := ip hF c32
      refine z_tabIn C 141 dX13_count_6 (by rw [c32]; decide) (by rw [c32]; decide) (off := 135) (by rw [c32]; rfl) (by decide) ?_
      refine z_aload_n C dX13_count_141 rfl ?_
      refine z_iconst (v := 1) C dX13_count_142 (by decide) ?_
      obtain ⟨x31, S31, h31, hF⟩ := bI_some hF
      refine f_cV (st2 := [.int x31]) C dX13_count_143 zyX13_manyOf zvX13_manyOf lkRX13_409 (K_X13_manyOf (l := zXl X) hT1 hpv0 hkv0  h31) hpv0 hkv0 rfl (by decide) rfl rfl (Nat.le_of_ble_eq_true rfl) rfl (fun hT31 => ?_)
      cases hF
      exact z_iret C hr dX13_count_146 ⟨rfl, rfl, hT31⟩
    replace hF := im hF c32
    by_cases c33 : v1 = 11
    · replace hF := ip hF c33
      refine z_tabIn C 147 dX13_count_6 (by rw [c33]; decide) (by rw [c33]; decide) (off := 141) (by rw [c33]; rfl) (by decide) ?_
      refine z_aload_n C dX13_count_147 rfl ?_
      refine f_geti C dX13_count_148 zfRX13_285 hpv0 hkv0 rfl ?_
      cases hF
      exact z_iret C hr dX13_count_151 ⟨rfl, rfl, hT1⟩
    replace hF := im hF c33
    by_cases c34 : v1 = 12
    · replace hF := ip hF c34
      refine z_tabIn C 152 dX13_count_6 (by rw [c34]; decide) (by rw [c34]; decide) (off := 146) (by rw [c34]; rfl) (by decide) ?_
      refine z_aload_n C dX13_count_152 rfl ?_
      refine f_geti C dX13_count_153 zfRX13_11 hpv0 hkv0 rfl ?_
      cases hF
      exact z_iret C hr dX13_count_156 ⟨rfl, rfl, hT1⟩
    replace hF := im hF c34
    refine z_tabOut C 157 dX13_count_6 (f_tabOut (fun v h1 h2 e => by
      rcases (show v = 0 ∨ v = 1 ∨ v = 2 ∨ v = 3 ∨ v = 4 ∨ v = 5 ∨ v = 6 ∨ v = 7 ∨ v = 8 ∨ v = 9 ∨ v = 10 ∨ v = 11 ∨ v = 12 by omega) with rfl | rfl | rfl | rfl | rfl | rfl | rfl | rfl | rfl | rfl | rfl | rfl | rfl
      · exact c4 (Int32.toInt_inj.mp (e.trans (by decide)))
      · exact c6 (Int32.toInt_inj.mp (e.trans (by decide)))
      · exact c8 (Int32.toInt_inj.mp (e.trans (by decide)))
      · exact c11 (Int32.toInt_inj.mp (e.trans (by decide)))
      · exact c15 (Int32.toInt_inj.mp (e.trans (by decide)))
      · exact c18 (Int32.toInt_inj.mp (e.trans (by decide)))
      · exact c21 (Int32.toInt_inj.mp (e.trans (by decide)))
      · exact c24 (Int32.toInt_inj.mp (e.trans (by decide)))
      · exact c27 (Int32.toInt_inj.mp (e.trans (by decide)))
      · exact c30 (Int32.toInt_inj.mp (e.trans (by decide)))
      · exact c32 (Int32.toInt_inj.mp (e.trans (by decide)))
      · exact c33 (Int32.toInt_inj.mp (e.trans (by decide)))
      · exact c34 (Int32.toInt_inj.mp (e.trans (by decide))))) (by decide) ?_
    refine z_iconst (v := (-1)) C dX13_count_157 (by decide) ?_
    cases hF
    exact z_iret C hr dX13_count_158 ⟨rfl, rfl, hT1⟩
theorem K_X13_count {G : zG} {l : Launch} {kd : kD} {N0 f : Nat} {S : aS} {v0 : Nat} {v1 : Int32} {res : Option Value × aS} (hT : zT0 kd N0 S) (hpv0 : v0 < N0) (hkv0 : kd v0 = .inl 11) (hF : F_X13_count f 0 [.ref v0, .int v1] S = some res) : zM G l 2 0 0 yX13_count cX13_count 2 (some .int) [.ref (zB G + v0), .int v1] (cn G kd N0 S) (zPo G kd N0 res) := zM.of (by decide) rfl (Nat.le_of_ble_eq_true rfl) (fun X _ C hr _ => (B_X13_count C hr f) S v0 v1 res hT hpv0 hkv0 hF)
def F_J6_bitCount_0f7a4_0 (f : Nat) (rc : Nat → List Value → aS → aR) (v0 : Int32) (S : aS) : aR :=
  lI (v0 - (((v0.toUInt32 >>> (Int32.toUInt32 (1 : Int32) &&& Int32.toUInt32 31)).toInt32) &&& (1431655765 : Int32))) fun y1 => lI ((y1 &&& (858993459 : Int32)) + (((y1.toUInt32 >>> (Int32.toUInt32 (2 : Int32) &&& Int32.toUInt32 31)).toInt32) &&& (858993459 : Int32))) fun y2 => lI ((y2 + ((y2.toUInt32 >>> (Int32.toUInt32 (4 : Int32) &&& Int32.toUInt32 31)).toInt32)) &&& (252645135 : Int32)) fun y3 => lI (y3 + ((y3.toUInt32 >>> (Int32.toUInt32 (8 : Int32) &&& Int32.toUInt32 31)).toInt32)) fun y4 => lI (y4 + ((y4.toUInt32 >>> (Int32.toUInt32 (16 : Int32) &&& Int32.toUInt32 31)).toInt32)) fun y5 => some (some (.int (y5 &&& (63 : Int32))), S)
def F_J6_bitCount_0f7a4 : Nat → Nat → List Value → aS → aR
  | 0, _, _, _ => none
  | f + 1, 0, vs, S => F_J6_bitCount_0f7a4_0 f (F_J6_bitCount_0f7a4 f) (vI vs 0) S
  | _ + 1, _, _, _ => none
theorem dJ6_bitCount_0f7a4_0 : decode cJ6_bitCount_0f7a4 0 = .ok (.iload_n 0, 1) := by decide +kernel
theorem dJ6_bitCount_0f7a4_1 : decode cJ6_bitCount_0f7a4 1 = .ok (.iload_n 0, 1) := by decide +kernel
theorem dJ6_bitCount_0f7a4_2 : decode cJ6_bitCount_0f7a4 2 = .ok (.iconst 1, 1) := by decide +kernel
theorem dJ6_bitCount_0f7a4_3 : decode cJ6_bitCount_0f7a4 3 = .ok (.iushr, 1) := by decide +kernel
theorem dJ6_bitCount_0f7a4_4 : decode cJ6_bitCount_0f7a4 4 = .ok (.ldc_w 265, 3) := by decide +kernel
theorem dJ6_bitCount_0f7a4_7 : decode cJ6_bitCount_0f7a4 7 = .ok (.iand, 1) := by decide +kernel
theorem dJ6_bitCount_0f7a4_8 : decode cJ6_bitCount_0f7a4 8 = .ok (.isub, 1) := by decide +kernel
theorem dJ6_bitCount_0f7a4_9 : decode cJ6_bitCount_0f7a4 9 = .ok (.istore_n 0, 1) := by decide +kernel
theorem dJ6_bitCount_0f7a4_10 : decode cJ6_bitCount_0f7a4 10 = .ok (.iload_n 0, 1) := by decide +kernel
theorem dJ6_bitCount_0f7a4_11 : decode cJ6_bitCount_0f7a4 11 = .ok (.ldc_w 266, 3) := by decide +kernel
theorem dJ6_bitCount_0f7a4_14 : decode cJ6_bitCount_0f7a4 14 = .ok (.iand, 1) := by decide +kernel
theorem dJ6_bitCount_0f7a4_15 : decode cJ6_bitCount_0f7a4 15 = .ok (.iload_n 0, 1) := by decide +kernel
theorem dJ6_bitCount_0f7a4_16 : decode cJ6_bitCount_0f7a4 16 = .ok (.iconst 2, 1) := by decide +kernel
theorem dJ6_bitCount_0f7a4_17 : decode cJ6_bitCount_0f7a4 17 = .ok (.iushr, 1) := by decide +kernel
theorem dJ6_bitCount_0f7a4_18 : decode cJ6_bitCount_0f7a4 18 = .ok (.ldc_w 266, 3) := by decide +kernel
theorem dJ6_bitCount_0f7a4_21 : decode cJ6_bitCount_0f7a4 21 = .ok (.iand, 1) := by decide +kernel
theorem dJ6_bitCount_0f7a4_22 : decode cJ6_bitCount_0f7a4 22 = .ok (.iadd, 1) := by decide +kernel
theorem dJ6_bitCount_0f7a4_23 : decode cJ6_bitCount_0f7a4 23 = .ok (.istore_n 0, 1) := by decide +kernel
theorem dJ6_bitCount_0f7a4_24 : decode cJ6_bitCount_0f7a4 24 = .ok (.iload_n 0, 1) := by decide +kernel
theorem dJ6_bitCount_0f7a4_25 : decode cJ6_bitCount_0f7a4 25 = .ok (.iload_n 0, 1) := by decide +kernel
theorem dJ6_bitCount_0f7a4_26 : decode cJ6_bitCount_0f7a4 26 = .ok (.iconst 4, 1) := by decide +kernel
theorem dJ6_bitCount_0f7a4_27 : decode cJ6_bitCount_0f7a4 27 = .ok (.iushr, 1) := by decide +kernel
theorem dJ6_bitCount_0f7a4_28 : decode cJ6_bitCount_0f7a4 28 = .ok (.iadd, 1) := by decide +kernel
theorem dJ6_bitCount_0f7a4_29 : decode cJ6_bitCount_0f7a4 29 = .ok (.ldc_w 267, 3) := by decide +kernel
theorem dJ6_bitCount_0f7a4_32 : decode cJ6_bitCount_0f7a4 32 = .ok (.iand, 1) := by decide +kernel
theorem dJ6_bitCount_0f7a4_33 : decode cJ6_bitCount_0f7a4 33 = .ok (.istore_n 0, 1) := by decide +kernel
theorem dJ6_bitCount_0f7a4_34 : decode cJ6_bitCount_0f7a4 34 = .ok (.iload_n 0, 1) := by decide +kernel
theorem dJ6_bitCount_0f7a4_35 : decode cJ6_bitCount_0f7a4 35 = .ok (.iload_n 0, 1) := by decide +kernel
theorem dJ6_bitCount_0f7a4_36 : decode cJ6_bitCount_0f7a4 36 = .ok (.bipush 8, 2) := by decide +kernel
theorem dJ6_bitCount_0f7a4_38 : decode cJ6_bitCount_0f7a4 38 = .ok (.iushr, 1) := by decide +kernel
theorem dJ6_bitCount_0f7a4_39 : decode cJ6_bitCount_0f7a4 39 = .ok (.iadd, 1) := by decide +kernel
theorem dJ6_bitCount_0f7a4_40 : decode cJ6_bitCount_0f7a4 40 = .ok (.istore_n 0, 1) := by decide +kernel
theorem dJ6_bitCount_0f7a4_41 : decode cJ6_bitCount_0f7a4 41 = .ok (.iload_n 0, 1) := by decide +kernel
theorem dJ6_bitCount_0f7a4_42 : decode cJ6_bitCount_0f7a4 42 = .ok (.iload_n 0, 1) := by decide +kernel
theorem dJ6_bitCount_0f7a4_43 : decode cJ6_bitCount_0f7a4 43 = .ok (.bipush 16, 2) := by decide +kernel
theorem dJ6_bitCount_0f7a4_45 : decode cJ6_bitCount_0f7a4 45 = .ok (.iushr, 1) := by decide +kernel
theorem dJ6_bitCount_0f7a4_46 : decode cJ6_bitCount_0f7a4 46 = .ok (.iadd, 1) := by decide +kernel
theorem dJ6_bitCount_0f7a4_47 : decode cJ6_bitCount_0f7a4 47 = .ok (.istore_n 0, 1) := by decide +kernel
theorem dJ6_bitCount_0f7a4_48 : decode cJ6_bitCount_0f7a4 48 = .ok (.iload_n 0, 1) := by decide +kernel
theorem dJ6_bitCount_0f7a4_49 : decode cJ6_bitCount_0f7a4 49 = .ok (.bipush 63, 2) := by decide +kernel
theorem dJ6_bitCount_0f7a4_51 : decode cJ6_bitCount_0f7a4 51 = .ok (.iand, 1) := by decide +kernel
theorem dJ6_bitCount_0f7a4_52 : decode cJ6_bitCount_0f7a4 52 = .ok (.ireturn, 1) := by decide +kernel
set_option maxHeartbeats 4000000 in
set_option maxRecDepth 100000 in
theorem B_J6_bitCount_0f7a4 {G : zG} {X : zX} {kd : kD} {N0 : Nat} (C : zCt G X 0 0 0 RJ6 cJ6_bitCount_0f7a4 1) (hr : (zXh X).sig.returnType = (some .int)) : ∀ f : Nat,
    (∀ (S : aS) (v0 : Int32) (res : Option Value × aS), zT0 kd N0 S → F_J6_bitCount_0f7a4 f 0 [.int v0] S = some res → zV G X (zQX G X (zPo G kd N0 res) 0 0) 1 [some (.int v0)] [] (cn G kd N0 S) 0 0 0) := by
  intro f
  induction f with
  | zero => exact (fun _ _ _ _ h => by cases h)
  | succ f ih =>
    have ih0 := ih
    intro S v0 res hT  hF
    replace hF : F_J6_bitCount_0f7a4_0 f (F_J6_bitCount_0f7a4 f) v0 S = some res := hF
    unfold F_J6_bitCount_0f7a4_0 at hF
    refine z_iload_n C dJ6_bitCount_0f7a4_0 rfl ?_
    refine z_iload_n C dJ6_bitCount_0f7a4_1 rfl ?_
    refine z_iconst (v := 1) C dJ6_bitCount_0f7a4_2 (by decide) ?_
    refine z_iushr C dJ6_bitCount_0f7a4_3 ?_
    refine z_ldcw C dJ6_bitCount_0f7a4_4 klRJ6_265 ?_
    refine z_iand C dJ6_bitCount_0f7a4_7 ?_
    refine z_isub C dJ6_bitCount_0f7a4_8 ?_
    replace hF := lI_e hF
    generalize (v0 - (((v0.toUInt32 >>> (Int32.toUInt32 (1 : Int32) &&& Int32.toUInt32 31)).toInt32) &&& (1431655765 : Int32))) = y1 at hF ⊢
    refine z_istore_n (lv2 := [some (.int y1)]) C dJ6_bitCount_0f7a4_9 (by decide) rfl ?_
    refine z_iload_n C dJ6_bitCount_0f7a4_10 rfl ?_
    refine z_ldcw C dJ6_bitCount_0f7a4_11 klRJ6_266 ?_
    refine z_iand C dJ6_bitCount_0f7a4_14 ?_
    refine z_iload_n C dJ6_bitCount_0f7a4_15 rfl ?_
    refine z_iconst (v := 2) C dJ6_bitCount_0f7a4_16 (by decide) ?_
    refine z_iushr C dJ6_bitCount_0f7a4_17 ?_
    refine z_ldcw C dJ6_bitCount_0f7a4_18 klRJ6_266 ?_
    refine z_iand C dJ6_bitCount_0f7a4_21 ?_
    refine z_iadd C dJ6_bitCount_0f7a4_22 ?_
    replace hF := lI_e hF
    generalize ((y1 &&& (858993459 : Int32)) + (((y1.toUInt32 >>> (Int32.toUInt32 (2 : Int32) &&& Int32.toUInt32 31)).toInt32) &&& (858993459 : Int32))) = y2 at hF ⊢
    refine z_istore_n (lv2 := [some (.int y2)]) C dJ6_bitCount_0f7a4_23 (by decide) rfl ?_
    refine z_iload_n C dJ6_bitCount_0f7a4_24 rfl ?_
    refine z_iload_n C dJ6_bitCount_0f7a4_25 rfl ?_
    refine z_iconst (v := 4) C dJ6_bitCount_0f7a4_26 (by decide) ?_
    refine z_iushr C dJ6_bitCount_0f7a4_27 ?_
    refine z_iadd C dJ6_bitCount_0f7a4_28 ?_
    refine z_ldcw C dJ6_bitCount_0f7a4_29 klRJ6_267 ?_
    refine z_iand C dJ6_bitCount_0f7a4_32 ?_
    replace hF := lI_e hF
    generalize ((y2 + ((y2.toUInt32 >>> (Int32.toUInt32 (4 : Int32) &&& Int32.toUInt32 31)).toInt32)) &&& (252645135 : Int32)) = y3 at hF ⊢
    refine z_istore_n (lv2 := [some (.int y3)]) C dJ6_bitCount_0f7a4_33 (by decide) rfl ?_
    refine z_iload_n C dJ6_bitCount_0f7a4_34 rfl ?_
    refine z_iload_n C dJ6_bitCount_0f7a4_35 rfl ?_
    refine z_bipush (v := 8) C dJ6_bitCount_0f7a4_36 (by decide) ?_
    refine z_iushr C dJ6_bitCount_0f7a4_38 ?_
    refine z_iadd C dJ6_bitCount_0f7a4_39 ?_
    replace hF := lI_e hF
    generalize (y3 + ((y3.toUInt32 >>> (Int32.toUInt32 (8 : Int32) &&& Int32.toUInt32 31)).toInt32)) = y4 at hF ⊢
    refine z_istore_n (lv2 := [some (.int y4)]) C dJ6_bitCount_0f7a4_40 (by decide) rfl ?_
    refine z_iload_n C dJ6_bitCount_0f7a4_41 rfl ?_
    refine z_iload_n C dJ6_bitCount_0f7a4_42 rfl ?_
    refine z_bipush (v := 16) C dJ6_bitCount_0f7a4_43 (by decide) ?_
    refine z_iushr C dJ6_bitCount_0f7a4_45 ?_
    refine z_iadd C dJ6_bitCount_0f7a4_46 ?_
    replace hF := lI_e hF
    generalize (y4 + ((y4.toUInt32 >>> (Int32.toUInt32 (16 : Int32) &&& Int32.toUInt32 31)).toInt32)) = y5 at hF ⊢
    refine z_istore_n (lv2 := [some (.int y5)]) C dJ6_bitCount_0f7a4_47 (by decide) rfl ?_
    refine z_iload_n C dJ6_bitCount_0f7a4_48 rfl ?_
    refine z_bipush (v := 63) C dJ6_bitCount_0f7a4_49 (by decide) ?_
    refine z_iand C dJ6_bitCount_0f7a4_51 ?_
    cases hF
    exact z_iret C hr dJ6_bitCount_0f7a4_52 ⟨rfl, rfl, hT⟩
theorem K_J6_bitCount_0f7a4 {G : zG} {l : Launch} {kd : kD} {N0 f : Nat} {S : aS} {v0 : Int32} {res : Option Value × aS} (hT : zT0 kd N0 S)  (hF : F_J6_bitCount_0f7a4 f 0 [.int v0] S = some res) : zM G l 0 0 0 yJ6_bitCount_0f7a4 cJ6_bitCount_0f7a4 1 (some .int) [.int v0] (cn G kd N0 S) (zPo G kd N0 res) := zM.of (by decide) rfl (Nat.le_of_ble_eq_true rfl) (fun X _ C hr _ => (B_J6_bitCount_0f7a4 C hr f) S v0 res hT  hF)
def F_gExp_0 (f : Nat) (rc : Nat → Nat → List Value → aS → aR) (e : Nat) (v0 : Nat) (v1 : Int32) (S : aS) : aR :=
  dE e fun e1 => bV (rc e1 1 [.ref v0, .int v1] S) fun S1 => rc e 5 [.ref v0, .int v1] S1
def F_gExp_1 (f : Nat) (rc : Nat → Nat → List Value → aS → aR) (e : Nat) (v0 : Nat) (v1 : Int32) (S : aS) : aR :=
  dE e fun e1 => bV (rc e1 2 [.ref v0, .int v1] S) fun S1 => bI (F_X13_isSign f 0 [.ref v0, .int 60] S1) fun x2 S2 => bI (F_X13_hasSign f 0 [.ref v0, .int 60] S2) fun x3 S3 => if x3 = (0 : Int32) then bI (F_X13_hasSign f 0 [.ref v0, .int 61] S3) fun x6 S6 => if x6 = (0 : Int32) then rc e 8 [] S6 else rc e 7 [.ref v0, .int v1, .int x2] S6 else rc e 7 [.ref v0, .int v1, .int x2] S3
def F_gExp_2 (f : Nat) (rc : Nat → Nat → List Value → aS → aR) (e : Nat) (v0 : Nat) (v1 : Int32) (S : aS) : aR :=
  dE e fun e1 => bV (rc e1 3 [.ref v0, .int v1] S) fun S1 => rc e 9 [.ref v0, .int v1] S1
def F_gExp_3 (f : Nat) (rc : Nat → Nat → List Value → aS → aR) (e : Nat) (v0 : Nat) (v1 : Int32) (S : aS) : aR :=
  dE e fun e1 => bV (rc e1 4 [.ref v0, .int v1] S) fun S1 => rc e 11 [.ref v0, .int v1] S1
def F_gExp_4 (f : Nat) (rc : Nat → Nat → List Value → aS → aR) (e : Nat) (v0 : Nat) (v1 : Int32) (S : aS) : aR :=
  if (gI S v0 8) ≤ (0 : Int32) then bX (gI S v0 7) 1002 fun q3 => lI (if (gI S (gR S v0 4) q3) = (2 : Int32) then (1 : Int32) else (0 : Int32)) fun y6 => bI (F_X13_wordHere f 0 [.ref v0, .int 25, .int 4] S) fun x7 S7 => if (0 : Int32) ≤ x7 then rc e 12 [.ref v0, .int v1, .int y6, .int x7] S7 else if y6 = (0 : Int32) then bI (F_X13_isSign f 0 [.ref v0, .int 40] S7) fun x14 S14 => if x14 = (0 : Int32) then bI (F_X13_isWord f 0 [.ref v0, .int 22] S14) fun x18 S18 => if x18 = (0 : Int32) then bV (F_X13_wrong f 0 [.ref v0, .int 1] S18) fun S22 => rc e 13 [.ref v0, .int v1, .int y6, .int x7] S22 else rc e 12 [.ref v0, .int v1, .int y6, .int x7] S18 else rc e 12 [.ref v0, .int v1, .int y6, .int x7] S14 else rc e 12 [.ref v0, .int v1, .int y6, .int x7] S7 else some (none, S)
def F_gExp_5 (f : Nat) (rc : Nat → Nat → List Value → aS → aR) (e : Nat) (v0 : Nat) (v1 : Int32) (S : aS) : aR :=
  bI (F_X13_isWord f 0 [.ref v0, .int 23] S) fun x2 S2 => if x2 = (0 : Int32) then bI (F_X13_isWord f 0 [.ref v0, .int 24] S2) fun x5 S5 => if x5 = (0 : Int32) then some (none, S5) else rc e 6 [.ref v0, .int v1] S5 else rc e 6 [.ref v0, .int v1] S2
def F_gExp_6 (f : Nat) (rc : Nat → Nat → List Value → aS → aR) (e : Nat) (v0 : Nat) (v1 : Int32) (S : aS) : aR :=
  dE e fun e1 => bI (F_X13_isWord f 0 [.ref v0, .int 23] S) fun x8 S8 => fS (sI S8 v0 7 ((gI S8 v0 7) + (1 : Int32))) fun S9 => bV (rc e1 1 [.ref v0, .int v1] S9) fun S10 => bV (F_X13_emit f 0 [.ref v0, .int (if x8 = (0 : Int32) then (10 : Int32) else (9 : Int32)), .int 0] S10) fun S13 => rc e 5 [.ref v0, .int v1] S13
def F_gExp_7 (f : Nat) (rc : Nat → Nat → List Value → aS → aR) (e : Nat) (v0 : Nat) (v1 : Int32) (v2 : Int32) (S : aS) : aR :=
  dE e fun e1 => bV (rc e1 2 [.ref v0, .int v1] S) fun S9 => bV (F_X13_emit f 0 [.ref v0, .int (if v2 = (0 : Int32) then (8 : Int32) else (7 : Int32)), .int 0] S9) fun S12 => rc e 8 [] S12
def F_gExp_8 (f : Nat) (rc : Nat → Nat → List Value → aS → aR) (e : Nat)  (S : aS) : aR :=
  some (none, S)
def F_gExp_9 (f : Nat) (rc : Nat → Nat → List Value → aS → aR) (e : Nat) (v0 : Nat) (v1 : Int32) (S : aS) : aR :=
  bI (F_X13_isSign f 0 [.ref v0, .int 43] S) fun x2 S2 => if x2 = (0 : Int32) then bI (F_X13_isSign f 0 [.ref v0, .int 45] S2) fun x5 S5 => if x5 = (0 : Int32) then some (none, S5) else rc e 10 [.ref v0, .int v1] S5 else rc e 10 [.ref v0, .int v1] S2
def F_gExp_10 (f : Nat) (rc : Nat → Nat → List Value → aS → aR) (e : Nat) (v0 : Nat) (v1 : Int32) (S : aS) : aR :=
  dE e fun e1 => bI (F_X13_isSign f 0 [.ref v0, .int 43] S) fun x8 S8 => fS (sI S8 v0 7 ((gI S8 v0 7) + (1 : Int32))) fun S9 => bV (rc e1 3 [.ref v0, .int v1] S9) fun S10 => bV (F_X13_emit f 0 [.ref v0, .int (if x8 = (0 : Int32) then (5 : Int32) else (4 : Int32)), .int 0] S10) fun S13 => rc e 9 [.ref v0, .int v1] S13
def F_gExp_11 (f : Nat) (rc : Nat → Nat → List Value → aS → aR) (e : Nat) (v0 : Nat) (v1 : Int32) (S : aS) : aR :=
  dE e fun e1 => bI (F_X13_hasSign f 0 [.ref v0, .int 42] S) fun x2 S2 => if x2 = (0 : Int32) then some (none, S2) else bV (rc e1 4 [.ref v0, .int v1] S2) fun S5 => bV (F_X13_emit f 0 [.ref v0, .int 6, .int 0] S5) fun S6 => rc e 11 [.ref v0, .int v1] S6
def F_gExp_12 (f : Nat) (rc : Nat → Nat → List Value → aS → aR) (e : Nat) (v0 : Nat) (v1 : Int32) (v2 : Int32) (v3 : Int32) (S : aS) : aR :=
  if v1 = (5 : Int32) then bV (F_X13_wrong f 0 [.ref v0, .int 5] S) fun S25 => rc e 13 [.ref v0, .int v1, .int v2, .int v3] S25 else rc e 13 [.ref v0, .int v1, .int v2, .int v3] S
def F_gExp_13 (f : Nat) (rc : Nat → Nat → List Value → aS → aR) (e : Nat) (v0 : Nat) (v1 : Int32) (v2 : Int32) (v3 : Int32) (S : aS) : aR :=
  dE e fun e1 => if (gI S v0 8) ≤ (0 : Int32) then bI (F_X13_hasWord f 0 [.ref v0, .int 22] S) fun x27 S27 => if x27 = (0 : Int32) then bI (F_X13_hasSign f 0 [.ref v0, .int 40] S27) fun x30 S30 => if x30 = (0 : Int32) then if v2 = (0 : Int32) then rc e 14 [.ref v0, .int v3, .int (if v2 = (0 : Int32) then (2 : Int32) else (1 : Int32)), .ref v0] S30 else bX (gI S30 v0 7) 1002 fun q41 => rc e 14 [.ref v0, .int (Int64.toInt32 (gJ S30 (gR S30 v0 6) q41)), .int (if v2 = (0 : Int32) then (2 : Int32) else (1 : Int32)), .ref v0] S30 else bV (rc e1 0 [.ref v0, .int (v1 + (1 : Int32))] S30) fun S42 => bV (F_X13_takeSign f 0 [.ref v0, .int 41] S42) fun S43 => rc e 15 [] S43 else bV (rc e1 4 [.ref v0, .int (v1 + (1 : Int32))] S27) fun S44 => bV (F_X13_emit f 0 [.ref v0, .int 3, .int 0] S44) fun S45 => rc e 15 [] S45 else some (none, S)
def F_gExp_14 (f : Nat) (rc : Nat → Nat → List Value → aS → aR) (e : Nat) (v0 : Nat) (w0 : Int32) (w1 : Int32) (w2 : Nat) (S : aS) : aR :=
  bV (F_X13_emit f 0 [.ref w2, .int w1, .int w0] S) fun S46 => fS (sI S46 v0 7 ((gI S46 v0 7) + (1 : Int32))) fun S47 => rc e 15 [] S47
def F_gExp_15 (f : Nat) (rc : Nat → Nat → List Value → aS → aR) (e : Nat)  (S : aS) : aR :=
  some (none, S)
def F_gExp : Nat → Nat → Nat → List Value → aS → aR
  | 0, _, _, _, _ => none
  | f + 1, e, 0, vs, S => F_gExp_0 f (F_gExp f) e (vR vs 0) (vI vs 1) S
  | f + 1, e, 1, vs, S => F_gExp_1 f (F_gExp f) e (vR vs 0) (vI vs 1) S
  | f + 1, e, 2, vs, S => F_gExp_2 f (F_gExp f) e (vR vs 0) (vI vs 1) S
  | f + 1, e, 3, vs, S => F_gExp_3 f (F_gExp f) e (vR vs 0) (vI vs 1) S
  | f + 1, e, 4, vs, S => F_gExp_4 f (F_gExp f) e (vR vs 0) (vI vs 1) S
  | f + 1, e, 5, vs, S => F_gExp_5 f (F_gExp f) e (vR vs 0) (vI vs 1) S
  | f + 1, e, 6, vs, S => F_gExp_6 f (F_gExp f) e (vR vs 0) (vI vs 1) S
  | f + 1, e, 7, vs, S => F_gExp_7 f (F_gExp f) e (vR vs 0) (vI vs 1) (vI vs 2) S
  | f + 1, e, 8, vs, S => F_gExp_8 f (F_gExp f) e  S
  | f + 1, e, 9, vs, S => F_gExp_9 f (F_gExp f) e (vR vs 0) (vI vs 1) S
  | f + 1, e, 10, vs, S => F_gExp_10 f (F_gExp f) e (vR vs 0) (vI vs 1) S
  | f + 1, e, 11, vs, S => F_gExp_11 f (F_gExp f) e (vR vs 0) (vI vs 1) S
  | f + 1, e, 12, vs, S => F_gExp_12 f (F_gExp f) e (vR vs 0) (vI vs 1) (vI vs 2) (vI vs 3) S
  | f + 1, e, 13, vs, S => F_gExp_13 f (F_gExp f) e (vR vs 0) (vI vs 1) (vI vs 2) (vI vs 3) S
  | f + 1, e, 14, vs, S => F_gExp_14 f (F_gExp f) e (vR vs 0) (vI vs 1) (vI vs 2) (vR vs 3) S
  | f + 1, e, 15, vs, S => F_gExp_15 f (F_gExp f) e  S
  | _ + 1, _, _, _, _ => none
theorem dX13_whole_0 : decode cX13_whole 0 = .ok (.aload_n 0, 1) := by decide +kernel
theorem dX13_whole_1 : decode cX13_whole 1 = .ok (.iload_n 1, 1) := by decide +kernel
theorem dX13_whole_2 : decode cX13_whole 2 = .ok (.invokevirtual 261, 3) := by decide +kernel
theorem dX13_whole_5 : decode cX13_whole 5 = .ok (.aload_n 0, 1) := by decide +kernel
theorem dX13_whole_6 : decode cX13_whole 6 = .ok (.bipush 23, 2) := by decide +kernel
theorem dX13_whole_8 : decode cX13_whole 8 = .ok (.invokevirtual 186, 3) := by decide +kernel
theorem dX13_whole_11 : decode cX13_whole 11 = .ok (.ifCond .ne 12, 3) := by decide +kernel
theorem dX13_whole_14 : decode cX13_whole 14 = .ok (.aload_n 0, 1) := by decide +kernel
theorem dX13_whole_15 : decode cX13_whole 15 = .ok (.bipush 24, 2) := by decide +kernel
theorem dX13_whole_17 : decode cX13_whole 17 = .ok (.invokevirtual 186, 3) := by decide +kernel
theorem dX13_whole_20 : decode cX13_whole 20 = .ok (.ifCond .eq 44, 3) := by decide +kernel
theorem dX13_whole_23 : decode cX13_whole 23 = .ok (.aload_n 0, 1) := by decide +kernel
theorem dX13_whole_24 : decode cX13_whole 24 = .ok (.bipush 23, 2) := by decide +kernel
theorem dX13_whole_26 : decode cX13_whole 26 = .ok (.invokevirtual 186, 3) := by decide +kernel
theorem dX13_whole_29 : decode cX13_whole 29 = .ok (.istore_n 2, 1) := by decide +kernel
theorem dX13_whole_30 : decode cX13_whole 30 = .ok (.aload_n 0, 1) := by decide +kernel
theorem dX13_whole_31 : decode cX13_whole 31 = .ok (.dup, 1) := by decide +kernel
theorem dX13_whole_32 : decode cX13_whole 32 = .ok (.getfield 174, 3) := by decide +kernel
theorem dX13_whole_35 : decode cX13_whole 35 = .ok (.iconst 1, 1) := by decide +kernel
theorem dX13_whole_36 : decode cX13_whole 36 = .ok (.iadd, 1) := by decide +kernel
theorem dX13_whole_37 : decode cX13_whole 37 = .ok (.putfield 174, 3) := by decide +kernel
theorem dX13_whole_40 : decode cX13_whole 40 = .ok (.aload_n 0, 1) := by decide +kernel
theorem dX13_whole_41 : decode cX13_whole 41 = .ok (.iload_n 1, 1) := by decide +kernel
theorem dX13_whole_42 : decode cX13_whole 42 = .ok (.invokevirtual 261, 3) := by decide +kernel
theorem dX13_whole_45 : decode cX13_whole 45 = .ok (.aload_n 0, 1) := by decide +kernel
theorem dX13_whole_46 : decode cX13_whole 46 = .ok (.iload_n 2, 1) := by decide +kernel
theorem dX13_whole_47 : decode cX13_whole 47 = .ok (.ifCond .eq 8, 3) := by decide +kernel
theorem dX13_whole_50 : decode cX13_whole 50 = .ok (.bipush 9, 2) := by decide +kernel
theorem dX13_whole_52 : decode cX13_whole 52 = .ok (.goto 5, 3) := by decide +kernel
theorem dX13_whole_55 : decode cX13_whole 55 = .ok (.bipush 10, 2) := by decide +kernel
theorem dX13_whole_57 : decode cX13_whole 57 = .ok (.iconst 0, 1) := by decide +kernel
theorem dX13_whole_58 : decode cX13_whole 58 = .ok (.invokevirtual 253, 3) := by decide +kernel
theorem dX13_whole_61 : decode cX13_whole 61 = .ok (.goto (-56), 3) := by decide +kernel
theorem dX13_whole_64 : decode cX13_whole 64 = .ok (.return_, 1) := by decide +kernel
theorem dX13_test_0 : decode cX13_test 0 = .ok (.aload_n 0, 1) := by decide +kernel
theorem dX13_test_1 : decode cX13_test 1 = .ok (.iload_n 1, 1) := by decide +kernel
theorem dX13_test_2 : decode cX13_test 2 = .ok (.invokevirtual 264, 3) := by decide +kernel
theorem dX13_test_5 : decode cX13_test 5 = .ok (.aload_n 0, 1) := by decide +kernel
theorem dX13_test_6 : decode cX13_test 6 = .ok (.bipush 60, 2) := by decide +kernel
theorem dX13_test_8 : decode cX13_test 8 = .ok (.invokevirtual 180, 3) := by decide +kernel
theorem dX13_test_11 : decode cX13_test 11 = .ok (.istore_n 2, 1) := by decide +kernel
theorem dX13_test_12 : decode cX13_test 12 = .ok (.aload_n 0, 1) := by decide +kernel
theorem dX13_test_13 : decode cX13_test 13 = .ok (.bipush 60, 2) := by decide +kernel
theorem dX13_test_15 : decode cX13_test 15 = .ok (.invokevirtual 267, 3) := by decide +kernel
theorem dX13_test_18 : decode cX13_test 18 = .ok (.ifCond .ne 12, 3) := by decide +kernel
theorem dX13_test_21 : decode cX13_test 21 = .ok (.aload_n 0, 1) := by decide +kernel
theorem dX13_test_22 : decode cX13_test 22 = .ok (.bipush 61, 2) := by decide +kernel
theorem dX13_test_24 : decode cX13_test 24 = .ok (.invokevirtual 267, 3) := by decide +kernel
theorem dX13_test_27 : decode cX13_test 27 = .ok (.ifCond .eq 24, 3) := by decide +kernel
theorem dX13_test_30 : decode cX13_test 30 = .ok (.aload_n 0, 1) := by decide +kernel
theorem dX13_test_31 : decode cX13_test 31 = .ok (.iload_n 1, 1) := by decide +kernel
theorem dX13_test_32 : decode cX13_test 32 = .ok (.invokevirtual 264, 3) := by decide +kernel
theorem dX13_test_35 : decode cX13_test 35 = .ok (.aload_n 0, 1) := by decide +kernel
theorem dX13_test_36 : decode cX13_test 36 = .ok (.iload_n 2, 1) := by decide +kernel
theorem dX13_test_37 : decode cX13_test 37 = .ok (.ifCond .eq 8, 3) := by decide +kernel
theorem dX13_test_40 : decode cX13_test 40 = .ok (.bipush 7, 2) := by decide +kernel
theorem dX13_test_42 : decode cX13_test 42 = .ok (.goto 5, 3) := by decide +kernel
theorem dX13_test_45 : decode cX13_test 45 = .ok (.bipush 8, 2) := by decide +kernel
theorem dX13_test_47 : decode cX13_test 47 = .ok (.iconst 0, 1) := by decide +kernel
theorem dX13_test_48 : decode cX13_test 48 = .ok (.invokevirtual 253, 3) := by decide +kernel
theorem dX13_test_51 : decode cX13_test 51 = .ok (.return_, 1) := by decide +kernel
theorem dX13_sums_0 : decode cX13_sums 0 = .ok (.aload_n 0, 1) := by decide +kernel
theorem dX13_sums_1 : decode cX13_sums 1 = .ok (.iload_n 1, 1) := by decide +kernel
theorem dX13_sums_2 : decode cX13_sums 2 = .ok (.invokevirtual 270, 3) := by decide +kernel
theorem dX13_sums_5 : decode cX13_sums 5 = .ok (.aload_n 0, 1) := by decide +kernel
theorem dX13_sums_6 : decode cX13_sums 6 = .ok (.bipush 43, 2) := by decide +kernel
theorem dX13_sums_8 : decode cX13_sums 8 = .ok (.invokevirtual 180, 3) := by decide +kernel
theorem dX13_sums_11 : decode cX13_sums 11 = .ok (.ifCond .ne 12, 3) := by decide +kernel
theorem dX13_sums_14 : decode cX13_sums 14 = .ok (.aload_n 0, 1) := by decide +kernel
theorem dX13_sums_15 : decode cX13_sums 15 = .ok (.bipush 45, 2) := by decide +kernel
theorem dX13_sums_17 : decode cX13_sums 17 = .ok (.invokevirtual 180, 3) := by decide +kernel
theorem dX13_sums_20 : decode cX13_sums 20 = .ok (.ifCond .eq 42, 3) := by decide +kernel
theorem dX13_sums_23 : decode cX13_sums 23 = .ok (.aload_n 0, 1) := by decide +kernel
theorem dX13_sums_24 : decode cX13_sums 24 = .ok (.bipush 43, 2) := by decide +kernel
theorem dX13_sums_26 : decode cX13_sums 26 = .ok (.invokevirtual 180, 3) := by decide +kernel
theorem dX13_sums_29 : decode cX13_sums 29 = .ok (.istore_n 2, 1) := by decide +kernel
theorem dX13_sums_30 : decode cX13_sums 30 = .ok (.aload_n 0, 1) := by decide +kernel
theorem dX13_sums_31 : decode cX13_sums 31 = .ok (.dup, 1) := by decide +kernel
theorem dX13_sums_32 : decode cX13_sums 32 = .ok (.getfield 174, 3) := by decide +kernel
theorem dX13_sums_35 : decode cX13_sums 35 = .ok (.iconst 1, 1) := by decide +kernel
theorem dX13_sums_36 : decode cX13_sums 36 = .ok (.iadd, 1) := by decide +kernel
theorem dX13_sums_37 : decode cX13_sums 37 = .ok (.putfield 174, 3) := by decide +kernel
theorem dX13_sums_40 : decode cX13_sums 40 = .ok (.aload_n 0, 1) := by decide +kernel
theorem dX13_sums_41 : decode cX13_sums 41 = .ok (.iload_n 1, 1) := by decide +kernel
theorem dX13_sums_42 : decode cX13_sums 42 = .ok (.invokevirtual 270, 3) := by decide +kernel
theorem dX13_sums_45 : decode cX13_sums 45 = .ok (.aload_n 0, 1) := by decide +kernel
theorem dX13_sums_46 : decode cX13_sums 46 = .ok (.iload_n 2, 1) := by decide +kernel
theorem dX13_sums_47 : decode cX13_sums 47 = .ok (.ifCond .eq 7, 3) := by decide +kernel
theorem dX13_sums_50 : decode cX13_sums 50 = .ok (.iconst 4, 1) := by decide +kernel
theorem dX13_sums_51 : decode cX13_sums 51 = .ok (.goto 4, 3) := by decide +kernel
theorem dX13_sums_54 : decode cX13_sums 54 = .ok (.iconst 5, 1) := by decide +kernel
theorem dX13_sums_55 : decode cX13_sums 55 = .ok (.iconst 0, 1) := by decide +kernel
theorem dX13_sums_56 : decode cX13_sums 56 = .ok (.invokevirtual 253, 3) := by decide +kernel
theorem dX13_sums_59 : decode cX13_sums 59 = .ok (.goto (-54), 3) := by decide +kernel
theorem dX13_sums_62 : decode cX13_sums 62 = .ok (.return_, 1) := by decide +kernel
theorem dX13_products_0 : decode cX13_products 0 = .ok (.aload_n 0, 1) := by decide +kernel
theorem dX13_products_1 : decode cX13_products 1 = .ok (.iload_n 1, 1) := by decide +kernel
theorem dX13_products_2 : decode cX13_products 2 = .ok (.invokevirtual 273, 3) := by decide +kernel
theorem dX13_products_5 : decode cX13_products 5 = .ok (.aload_n 0, 1) := by decide +kernel
theorem dX13_products_6 : decode cX13_products 6 = .ok (.bipush 42, 2) := by decide +kernel
theorem dX13_products_8 : decode cX13_products 8 = .ok (.invokevirtual 267, 3) := by decide +kernel
theorem dX13_products_11 : decode cX13_products 11 = .ok (.ifCond .eq 18, 3) := by decide +kernel
theorem dX13_products_14 : decode cX13_products 14 = .ok (.aload_n 0, 1) := by decide +kernel
theorem dX13_products_15 : decode cX13_products 15 = .ok (.iload_n 1, 1) := by decide +kernel
theorem dX13_products_16 : decode cX13_products 16 = .ok (.invokevirtual 273, 3) := by decide +kernel
theorem dX13_products_19 : decode cX13_products 19 = .ok (.aload_n 0, 1) := by decide +kernel
theorem dX13_products_20 : decode cX13_products 20 = .ok (.bipush 6, 2) := by decide +kernel
theorem dX13_products_22 : decode cX13_products 22 = .ok (.iconst 0, 1) := by decide +kernel
theorem dX13_products_23 : decode cX13_products 23 = .ok (.invokevirtual 253, 3) := by decide +kernel
theorem dX13_products_26 : decode cX13_products 26 = .ok (.goto (-21), 3) := by decide +kernel
theorem dX13_products_29 : decode cX13_products 29 = .ok (.return_, 1) := by decide +kernel
theorem dX13_takePart_0 : decode cX13_takePart 0 = .ok (.aload_n 0, 1) := by decide +kernel
theorem dX13_takePart_1 : decode cX13_takePart 1 = .ok (.getfield 177, 3) := by decide +kernel
theorem dX13_takePart_4 : decode cX13_takePart 4 = .ok (.ifCond .le 4, 3) := by decide +kernel
theorem dX13_takePart_7 : decode cX13_takePart 7 = .ok (.return_, 1) := by decide +kernel
theorem dX13_takePart_8 : decode cX13_takePart 8 = .ok (.aload_n 0, 1) := by decide +kernel
theorem dX13_takePart_9 : decode cX13_takePart 9 = .ok (.getfield 24, 3) := by decide +kernel
theorem dX13_takePart_12 : decode cX13_takePart 12 = .ok (.aload_n 0, 1) := by decide +kernel
theorem dX13_takePart_13 : decode cX13_takePart 13 = .ok (.getfield 174, 3) := by decide +kernel
theorem dX13_takePart_16 : decode cX13_takePart 16 = .ok (.iaload, 1) := by decide +kernel
theorem dX13_takePart_17 : decode cX13_takePart 17 = .ok (.iconst 2, 1) := by decide +kernel
theorem dX13_takePart_18 : decode cX13_takePart 18 = .ok (.if_icmp .ne 7, 3) := by decide +kernel
theorem dX13_takePart_21 : decode cX13_takePart 21 = .ok (.iconst 1, 1) := by decide +kernel
theorem dX13_takePart_22 : decode cX13_takePart 22 = .ok (.goto 4, 3) := by decide +kernel
theorem dX13_takePart_25 : decode cX13_takePart 25 = .ok (.iconst 0, 1) := by decide +kernel
theorem dX13_takePart_26 : decode cX13_takePart 26 = .ok (.istore_n 2, 1) := by decide +kernel
theorem dX13_takePart_27 : decode cX13_takePart 27 = .ok (.aload_n 0, 1) := by decide +kernel
theorem dX13_takePart_28 : decode cX13_takePart 28 = .ok (.bipush 25, 2) := by decide +kernel
theorem dX13_takePart_30 : decode cX13_takePart 30 = .ok (.iconst 4, 1) := by decide +kernel
theorem dX13_takePart_31 : decode cX13_takePart 31 = .ok (.invokevirtual 199, 3) := by decide +kernel
theorem dX13_takePart_34 : decode cX13_takePart 34 = .ok (.istore_n 3, 1) := by decide +kernel
theorem dX13_takePart_35 : decode cX13_takePart 35 = .ok (.iload_n 3, 1) := by decide +kernel
theorem dX13_takePart_36 : decode cX13_takePart 36 = .ok (.ifCond .ge 33, 3) := by decide +kernel
theorem dX13_takePart_39 : decode cX13_takePart 39 = .ok (.iload_n 2, 1) := by decide +kernel
theorem dX13_takePart_40 : decode cX13_takePart 40 = .ok (.ifCond .ne 29, 3) := by decide +kernel
theorem dX13_takePart_43 : decode cX13_takePart 43 = .ok (.aload_n 0, 1) := by decide +kernel
theorem dX13_takePart_44 : decode cX13_takePart 44 = .ok (.bipush 40, 2) := by decide +kernel
theorem dX13_takePart_46 : decode cX13_takePart 46 = .ok (.invokevirtual 180, 3) := by decide +kernel
theorem dX13_takePart_49 : decode cX13_takePart 49 = .ok (.ifCond .ne 20, 3) := by decide +kernel
theorem dX13_takePart_52 : decode cX13_takePart 52 = .ok (.aload_n 0, 1) := by decide +kernel
theorem dX13_takePart_53 : decode cX13_takePart 53 = .ok (.bipush 22, 2) := by decide +kernel
theorem dX13_takePart_55 : decode cX13_takePart 55 = .ok (.invokevirtual 186, 3) := by decide +kernel
theorem dX13_takePart_58 : decode cX13_takePart 58 = .ok (.ifCond .ne 11, 3) := by decide +kernel
theorem dX13_takePart_61 : decode cX13_takePart 61 = .ok (.aload_n 0, 1) := by decide +kernel
theorem dX13_takePart_62 : decode cX13_takePart 62 = .ok (.iconst 1, 1) := by decide +kernel
theorem dX13_takePart_63 : decode cX13_takePart 63 = .ok (.invokevirtual 183, 3) := by decide +kernel
theorem dX13_takePart_66 : decode cX13_takePart 66 = .ok (.goto 13, 3) := by decide +kernel
theorem dX13_takePart_69 : decode cX13_takePart 69 = .ok (.iload_n 1, 1) := by decide +kernel
theorem dX13_takePart_70 : decode cX13_takePart 70 = .ok (.iconst 5, 1) := by decide +kernel
theorem dX13_takePart_71 : decode cX13_takePart 71 = .ok (.if_icmp .ne 8, 3) := by decide +kernel
theorem dX13_takePart_74 : decode cX13_takePart 74 = .ok (.aload_n 0, 1) := by decide +kernel
theorem dX13_takePart_75 : decode cX13_takePart 75 = .ok (.iconst 5, 1) := by decide +kernel
theorem dX13_takePart_76 : decode cX13_takePart 76 = .ok (.invokevirtual 183, 3) := by decide +kernel
theorem dX13_takePart_79 : decode cX13_takePart 79 = .ok (.aload_n 0, 1) := by decide +kernel
theorem dX13_takePart_80 : decode cX13_takePart 80 = .ok (.getfield 177, 3) := by decide +kernel
theorem dX13_takePart_83 : decode cX13_takePart 83 = .ok (.ifCond .le 4, 3) := by decide +kernel
theorem dX13_takePart_86 : decode cX13_takePart 86 = .ok (.return_, 1) := by decide +kernel
theorem dX13_takePart_87 : decode cX13_takePart 87 = .ok (.aload_n 0, 1) := by decide +kernel
theorem dX13_takePart_88 : decode cX13_takePart 88 = .ok (.bipush 22, 2) := by decide +kernel
theorem dX13_takePart_90 : decode cX13_takePart 90 = .ok (.invokevirtual 189, 3) := by decide +kernel
theorem dX13_takePart_93 : decode cX13_takePart 93 = .ok (.ifCond .eq 19, 3) := by decide +kernel
theorem dX13_takePart_96 : decode cX13_takePart 96 = .ok (.aload_n 0, 1) := by decide +kernel
theorem dX13_takePart_97 : decode cX13_takePart 97 = .ok (.iload_n 1, 1) := by decide +kernel
theorem dX13_takePart_98 : decode cX13_takePart 98 = .ok (.iconst 1, 1) := by decide +kernel
theorem dX13_takePart_99 : decode cX13_takePart 99 = .ok (.iadd, 1) := by decide +kernel
theorem dX13_takePart_100 : decode cX13_takePart 100 = .ok (.invokevirtual 273, 3) := by decide +kernel
theorem dX13_takePart_103 : decode cX13_takePart 103 = .ok (.aload_n 0, 1) := by decide +kernel
theorem dX13_takePart_104 : decode cX13_takePart 104 = .ok (.iconst 3, 1) := by decide +kernel
theorem dX13_takePart_105 : decode cX13_takePart 105 = .ok (.iconst 0, 1) := by decide +kernel
theorem dX13_takePart_106 : decode cX13_takePart 106 = .ok (.invokevirtual 253, 3) := by decide +kernel
theorem dX13_takePart_109 : decode cX13_takePart 109 = .ok (.goto 69, 3) := by decide +kernel
theorem dX13_takePart_112 : decode cX13_takePart 112 = .ok (.aload_n 0, 1) := by decide +kernel
theorem dX13_takePart_113 : decode cX13_takePart 113 = .ok (.bipush 40, 2) := by decide +kernel
theorem dX13_takePart_115 : decode cX13_takePart 115 = .ok (.invokevirtual 267, 3) := by decide +kernel
theorem dX13_takePart_118 : decode cX13_takePart 118 = .ok (.ifCond .eq 19, 3) := by decide +kernel
theorem dX13_takePart_121 : decode cX13_takePart 121 = .ok (.aload_n 0, 1) := by decide +kernel
theorem dX13_takePart_122 : decode cX13_takePart 122 = .ok (.iload_n 1, 1) := by decide +kernel
theorem dX13_takePart_123 : decode cX13_takePart 123 = .ok (.iconst 1, 1) := by decide +kernel
theorem dX13_takePart_124 : decode cX13_takePart 124 = .ok (.iadd, 1) := by decide +kernel
theorem dX13_takePart_125 : decode cX13_takePart 125 = .ok (.invokevirtual 250, 3) := by decide +kernel
theorem dX13_takePart_128 : decode cX13_takePart 128 = .ok (.aload_n 0, 1) := by decide +kernel
theorem dX13_takePart_129 : decode cX13_takePart 129 = .ok (.bipush 41, 2) := by decide +kernel
theorem dX13_takePart_131 : decode cX13_takePart 131 = .ok (.invokevirtual 220, 3) := by decide +kernel
theorem dX13_takePart_134 : decode cX13_takePart 134 = .ok (.goto 44, 3) := by decide +kernel
theorem dX13_takePart_137 : decode cX13_takePart 137 = .ok (.aload_n 0, 1) := by decide +kernel
theorem dX13_takePart_138 : decode cX13_takePart 138 = .ok (.iload_n 2, 1) := by decide +kernel
theorem dX13_takePart_139 : decode cX13_takePart 139 = .ok (.ifCond .eq 7, 3) := by decide +kernel
theorem dX13_takePart_142 : decode cX13_takePart 142 = .ok (.iconst 1, 1) := by decide +kernel
theorem dX13_takePart_143 : decode cX13_takePart 143 = .ok (.goto 4, 3) := by decide +kernel
theorem dX13_takePart_146 : decode cX13_takePart 146 = .ok (.iconst 2, 1) := by decide +kernel
theorem dX13_takePart_147 : decode cX13_takePart 147 = .ok (.iload_n 2, 1) := by decide +kernel
theorem dX13_takePart_148 : decode cX13_takePart 148 = .ok (.ifCond .eq 16, 3) := by decide +kernel
theorem dX13_takePart_151 : decode cX13_takePart 151 = .ok (.aload_n 0, 1) := by decide +kernel
theorem dX13_takePart_152 : decode cX13_takePart 152 = .ok (.getfield 30, 3) := by decide +kernel
theorem dX13_takePart_155 : decode cX13_takePart 155 = .ok (.aload_n 0, 1) := by decide +kernel
theorem dX13_takePart_156 : decode cX13_takePart 156 = .ok (.getfield 174, 3) := by decide +kernel
theorem dX13_takePart_159 : decode cX13_takePart 159 = .ok (.laload, 1) := by decide +kernel
theorem dX13_takePart_160 : decode cX13_takePart 160 = .ok (.l2i, 1) := by decide +kernel
theorem dX13_takePart_161 : decode cX13_takePart 161 = .ok (.goto 4, 3) := by decide +kernel
theorem dX13_takePart_164 : decode cX13_takePart 164 = .ok (.iload_n 3, 1) := by decide +kernel
theorem dX13_takePart_165 : decode cX13_takePart 165 = .ok (.invokevirtual 253, 3) := by decide +kernel
theorem dX13_takePart_168 : decode cX13_takePart 168 = .ok (.aload_n 0, 1) := by decide +kernel
theorem dX13_takePart_169 : decode cX13_takePart 169 = .ok (.dup, 1) := by decide +kernel
theorem dX13_takePart_170 : decode cX13_takePart 170 = .ok (.getfield 174, 3) := by decide +kernel
theorem dX13_takePart_173 : decode cX13_takePart 173 = .ok (.iconst 1, 1) := by decide +kernel
theorem dX13_takePart_174 : decode cX13_takePart 174 = .ok (.iadd, 1) := by decide +kernel
theorem dX13_takePart_175 : decode cX13_takePart 175 = .ok (.putfield 174, 3) := by decide +kernel
theorem dX13_takePart_178 : decode cX13_takePart 178 = .ok (.return_, 1) := by decide +kernel
set_option maxHeartbeats 4000000 in
set_option maxRecDepth 100000 in
theorem B_gExp {G : zG} {kd : kD} {N0 : Nat} : ∀ f : Nat,
    (∀ (e : Nat) (X : zX), zCt G X (2 + e) 0 0 RX13 cX13_whole 3 → (zXh X).sig.returnType = none → ∀ (S : aS) (v0 : Nat) (v1 : Int32) (res : Option Value × aS), zT0 kd N0 S → v0 < N0 → kd v0 = .inl 11 → F_gExp f e 0 [.ref v0, .int v1] S = some res → zV G X (zQX G X (zPo G kd N0 res) 0 0) 3 [some (.ref (zB G + v0)), some (.int v1), none] [] (cn G kd N0 S) 0 0 0) ∧
    (∀ (e : Nat) (X : zX), zCt G X (2 + e) 0 0 RX13 cX13_test 3 → (zXh X).sig.returnType = none → ∀ (S : aS) (v0 : Nat) (v1 : Int32) (res : Option Value × aS), zT0 kd N0 S → v0 < N0 → kd v0 = .inl 11 → F_gExp f e 1 [.ref v0, .int v1] S = some res → zV G X (zQX G X (zPo G kd N0 res) 0 0) 3 [some (.ref (zB G + v0)), some (.int v1), none] [] (cn G kd N0 S) 0 0 0) ∧
    (∀ (e : Nat) (X : zX), zCt G X (2 + e) 0 0 RX13 cX13_sums 3 → (zXh X).sig.returnType = none → ∀ (S : aS) (v0 : Nat) (v1 : Int32) (res : Option Value × aS), zT0 kd N0 S → v0 < N0 → kd v0 = .inl 11 → F_gExp f e 2 [.ref v0, .int v1] S = some res → zV G X (zQX G X (zPo G kd N0 res) 0 0) 3 [some (.ref (zB G + v0)), some (.int v1), none] [] (cn G kd N0 S) 0 0 0) ∧
    (∀ (e : Nat) (X : zX), zCt G X (2 + e) 0 0 RX13 cX13_products 2 → (zXh X).sig.returnType = none → ∀ (S : aS) (v0 : Nat) (v1 : Int32) (res : Option Value × aS), zT0 kd N0 S → v0 < N0 → kd v0 = .inl 11 → F_gExp f e 3 [.ref v0, .int v1] S = some res → zV G X (zQX G X (zPo G kd N0 res) 0 0) 2 [some (.ref (zB G + v0)), some (.int v1)] [] (cn G kd N0 S) 0 0 0) ∧
    (∀ (e : Nat) (X : zX), zCt G X (2 + e) 0 0 RX13 cX13_takePart 4 → (zXh X).sig.returnType = none → ∀ (S : aS) (v0 : Nat) (v1 : Int32) (res : Option Value × aS), zT0 kd N0 S → v0 < N0 → kd v0 = .inl 11 → F_gExp f e 4 [.ref v0, .int v1] S = some res → zV G X (zQX G X (zPo G kd N0 res) 0 0) 4 [some (.ref (zB G + v0)), some (.int v1), none, none] [] (cn G kd N0 S) 0 0 0) ∧
    (∀ (e : Nat) (X : zX), zCt G X (2 + e) 0 0 RX13 cX13_whole 3 → (zXh X).sig.returnType = none → ∀ (S : aS) (v0 : Nat) (v1 : Int32) (res : Option Value × aS), zT0 kd N0 S → v0 < N0 → kd v0 = .inl 11 → F_gExp f e 5 [.ref v0, .int v1] S = some res → zV G X (zQX G X (zPo G kd N0 res) 0 0) 3 [some (.ref (zB G + v0)), some (.int v1), none] [] (cn G kd N0 S) 5 0 0) ∧
    (∀ (e : Nat) (X : zX), zCt G X (2 + e) 0 0 RX13 cX13_whole 3 → (zXh X).sig.returnType = none → ∀ (S : aS) (v0 : Nat) (v1 : Int32) (res : Option Value × aS), zT0 kd N0 S → v0 < N0 → kd v0 = .inl 11 → F_gExp f e 6 [.ref v0, .int v1] S = some res → zV G X (zQX G X (zPo G kd N0 res) 0 0) 3 [some (.ref (zB G + v0)), some (.int v1), none] [] (cn G kd N0 S) 23 0 0) ∧
    (∀ (e : Nat) (X : zX), zCt G X (2 + e) 0 0 RX13 cX13_test 3 → (zXh X).sig.returnType = none → ∀ (S : aS) (v0 : Nat) (v1 : Int32) (v2 : Int32) (res : Option Value × aS), zT0 kd N0 S → v0 < N0 → kd v0 = .inl 11 → F_gExp f e 7 [.ref v0, .int v1, .int v2] S = some res → zV G X (zQX G X (zPo G kd N0 res) 0 0) 3 [some (.ref (zB G + v0)), some (.int v1), some (.int v2)] [] (cn G kd N0 S) 30 0 0) ∧
    (∀ (e : Nat) (X : zX), zCt G X (2 + e) 0 0 RX13 cX13_test 3 → (zXh X).sig.returnType = none → ∀ (S : aS)  (res : Option Value × aS), zT0 kd N0 S → F_gExp f e 8 [] S = some res → zV G X (zQX G X (zPo G kd N0 res) 0 0) 3 [none, none, none] [] (cn G kd N0 S) 51 0 0) ∧
    (∀ (e : Nat) (X : zX), zCt G X (2 + e) 0 0 RX13 cX13_sums 3 → (zXh X).sig.returnType = none → ∀ (S : aS) (v0 : Nat) (v1 : Int32) (res : Option Value × aS), zT0 kd N0 S → v0 < N0 → kd v0 = .inl 11 → F_gExp f e 9 [.ref v0, .int v1] S = some res → zV G X (zQX G X (zPo G kd N0 res) 0 0) 3 [some (.ref (zB G + v0)), some (.int v1), none] [] (cn G kd N0 S) 5 0 0) ∧
    (∀ (e : Nat) (X : zX), zCt G X (2 + e) 0 0 RX13 cX13_sums 3 → (zXh X).sig.returnType = none → ∀ (S : aS) (v0 : Nat) (v1 : Int32) (res : Option Value × aS), zT0 kd N0 S → v0 < N0 → kd v0 = .inl 11 → F_gExp f e 10 [.ref v0, .int v1] S = some res → zV G X (zQX G X (zPo G kd N0 res) 0 0) 3 [some (.ref (zB G + v0)), some (.int v1), none] [] (cn G kd N0 S) 23 0 0) ∧
    (∀ (e : Nat) (X : zX), zCt G X (2 + e) 0 0 RX13 cX13_products 2 → (zXh X).sig.returnType = none → ∀ (S : aS) (v0 : Nat) (v1 : Int32) (res : Option Value × aS), zT0 kd N0 S → v0 < N0 → kd v0 = .inl 11 → F_gExp f e 11 [.ref v0, .int v1] S = some res → zV G X (zQX G X (zPo G kd N0 res) 0 0) 2 [some (.ref (zB G + v0)), some (.int v1)] [] (cn G kd N0 S) 5 0 0) ∧
    (∀ (e : Nat) (X : zX), zCt G X (2 + e) 0 0 RX13 cX13_takePart 4 → (zXh X).sig.returnType = none → ∀ (S : aS) (v0 : Nat) (v1 : Int32) (v2 : Int32) (v3 : Int32) (res : Option Value × aS), zT0 kd N0 S → v0 < N0 → kd v0 = .inl 11 → F_gExp f e 12 [.ref v0, .int v1, .int v2, .int v3] S = some res → zV G X (zQX G X (zPo G kd N0 res) 0 0) 4 [some (.ref (zB G + v0)), some (.int v1), some (.int v2), some (.int v3)] [] (cn G kd N0 S) 69 0 0) ∧
    (∀ (e : Nat) (X : zX), zCt G X (2 + e) 0 0 RX13 cX13_takePart 4 → (zXh X).sig.returnType = none → ∀ (S : aS) (v0 : Nat) (v1 : Int32) (v2 : Int32) (v3 : Int32) (res : Option Value × aS), zT0 kd N0 S → v0 < N0 → kd v0 = .inl 11 → F_gExp f e 13 [.ref v0, .int v1, .int v2, .int v3] S = some res → zV G X (zQX G X (zPo G kd N0 res) 0 0) 4 [some (.ref (zB G + v0)), some (.int v1), some (.int v2), some (.int v3)] [] (cn G kd N0 S) 79 0 0) ∧
    (∀ (e : Nat) (X : zX), zCt G X (2 + e) 0 0 RX13 cX13_takePart 4 → (zXh X).sig.returnType = none → ∀ (S : aS) (v0 : Nat) (w0 : Int32) (w1 : Int32) (w2 : Nat) (res : Option Value × aS), zT0 kd N0 S → v0 < N0 → kd v0 = .inl 11 → w2 < N0 → kd w2 = .inl 11 → F_gExp f e 14 [.ref v0, .int w0, .int w1, .ref w2] S = some res → zV G X (zQX G X (zPo G kd N0 res) 0 0) 4 [some (.ref (zB G + v0)), none, none, none] [.int w0, .int w1, .ref (zB G + w2)] (cn G kd N0 S) 165 0 0) ∧
    (∀ (e : Nat) (X : zX), zCt G X (2 + e) 0 0 RX13 cX13_takePart 4 → (zXh X).sig.returnType = none → ∀ (S : aS)  (res : Option Value × aS), zT0 kd N0 S → F_gExp f e 15 [] S = some res → zV G X (zQX G X (zPo G kd N0 res) 0 0) 4 [none, none, none, none] [] (cn G kd N0 S) 178 0 0) := by
  intro f
  induction f with
  | zero => exact ⟨(fun _ _ _ _ _ _ _ _ _ _ _ h => by cases h), (fun _ _ _ _ _ _ _ _ _ _ _ h => by cases h), (fun _ _ _ _ _ _ _ _ _ _ _ h => by cases h), (fun _ _ _ _ _ _ _ _ _ _ _ h => by cases h), (fun _ _ _ _ _ _ _ _ _ _ _ h => by cases h), (fun _ _ _ _ _ _ _ _ _ _ _ h => by cases h), (fun _ _ _ _ _ _ _ _ _ _ _ h => by cases h), (fun _ _ _ _ _ _ _ _ _ _ _ _ h => by cases h), (fun _ _ _ _ _ _ _ h => by cases h), (fun _ _ _ _ _ _ _ _ _ _ _ h => by cases h), (fun _ _ _ _ _ _ _ _ _ _ _ h => by cases h), (fun _ _ _ _ _ _ _ _ _ _ _ h => by cases h), (fun _ _ _ _ _ _ _ _ _ _ _ _ _ h => by cases h), (fun _ _ _ _ _ _ _ _ _ _ _ _ _ h => by cases h), (fun _ _ _ _ _ _ _ _ _ _ _ _ _ _ _ h => by cases h), (fun _ _ _ _ _ _ _ h => by cases h)⟩
  | succ f ih =>
    obtain ⟨ih0, ih1, ih2, ih3, ih4, ih5, ih6, ih7, ih8, ih9, ih10, ih11, ih12, ih13, ih14, ih15⟩ := ih
    refine ⟨?_, ?_, ?_, ?_, ?_, ?_, ?_, ?_, ?_, ?_, ?_, ?_, ?_, ?_, ?_, ?_⟩
    · intro e X C hr S v0 v1 res hT hpv0 hkv0 hF
      replace hF : F_gExp_0 f (F_gExp f) e v0 v1 S = some res := hF
      unfold F_gExp_0 at hF
      obtain ⟨e1, he1, hF1⟩ := dE_some hF
      subst he1
      replace hF := hF1
      refine z_aload_n C dX13_whole_0 rfl ?_
      refine z_iload_n C dX13_whole_1 rfl ?_
      obtain ⟨S1, h1, hF⟩ := bV_some hF
      have hM1 : zM G (zXl X) (2 + e1) 0 0 yX13_test cX13_test 3 none [.ref (zB G + v0), .int v1] (cn G kd N0 S) (zPo G kd N0 (none, S1)) := zM.of (by decide) rfl (Nat.le_of_ble_eq_true rfl) (fun X9 _ C9 hr9 _ => ih1 e1 X9 C9 hr9 S v0 v1 _ hT hpv0 hkv0  h1)
      refine f_cV (st2 := []) C dX13_whole_2 zyX13_test zvX13_test lkRX13_261 hM1 hpv0 hkv0 rfl (by omega) rfl rfl (Nat.le_of_ble_eq_true rfl) rfl (fun hT1 => ?_)
      exact ih5 (e1 + 1) X C hr S1 v0 v1 res hT1 hpv0 hkv0  hF
    · intro e X C hr S v0 v1 res hT hpv0 hkv0 hF
      replace hF : F_gExp_1 f (F_gExp f) e v0 v1 S = some res := hF
      unfold F_gExp_1 at hF
      obtain ⟨e1, he1, hF1⟩ := dE_some hF
      subst he1
      replace hF := hF1
      refine z_aload_n C dX13_test_0 rfl ?_
      refine z_iload_n C dX13_test_1 rfl ?_
      obtain ⟨S1, h1, hF⟩ := bV_some hF
      have hM1 : zM G (zXl X) (2 + e1) 0 0 yX13_sums cX13_sums 3 none [.ref (zB G + v0), .int v1] (cn G kd N0 S) (zPo G kd N0 (none, S1)) := zM.of (by decide) rfl (Nat.le_of_ble_eq_true rfl) (fun X9 _ C9 hr9 _ => ih2 e1 X9 C9 hr9 S v0 v1 _ hT hpv0 hkv0  h1)
      refine f_cV (st2 := []) C dX13_test_2 zyX13_sums zvX13_sums lkRX13_264 hM1 hpv0 hkv0 rfl (by omega) rfl rfl (Nat.le_of_ble_eq_true rfl) rfl (fun hT1 => ?_)
      refine z_aload_n C dX13_test_5 rfl ?_
      refine z_bipush (v := 60) C dX13_test_6 (by decide) ?_
      obtain ⟨x2, S2, h2, hF⟩ := bI_some hF
      refine f_cV (st2 := [.int x2]) C dX13_test_8 zyX13_isSign zvX13_isSign lkRX13_180 (K_X13_isSign (l := zXl X) hT1 hpv0 hkv0  h2) hpv0 hkv0 rfl (by omega) rfl rfl (Nat.le_of_ble_eq_true rfl) rfl (fun hT2 => ?_)
      refine z_istore_n (lv2 := [some (.ref (zB G + v0)), some (.int v1), some (.int x2)]) C dX13_test_11 (by decide) rfl ?_
      refine z_aload_n C dX13_test_12 rfl ?_
      refine z_bipush (v := 60) C dX13_test_13 (by decide) ?_
      obtain ⟨x3, S3, h3, hF⟩ := bI_some hF
      refine f_cV (st2 := [.int x3]) C dX13_test_15 zyX13_hasSign zvX13_hasSign lkRX13_267 (K_X13_hasSign (l := zXl X) hT2 hpv0 hkv0  h3) hpv0 hkv0 rfl (by omega) rfl rfl (Nat.le_of_ble_eq_true rfl) rfl (fun hT3 => ?_)
      refine z_if_ne C 30 dX13_test_18 (by decide) (fun c5 => ?_) (fun c5 => ?_)
      · replace hF := im hF c5
        exact ih7 (e1 + 1) X C hr S3 v0 v1 x2 res hT3 hpv0 hkv0   hF
      · replace hF := ip hF c5
        refine z_aload_n C dX13_test_21 rfl ?_
        refine z_bipush (v := 61) C dX13_test_22 (by decide) ?_
        obtain ⟨x6, S6, h6, hF⟩ := bI_some hF
        refine f_cV (st2 := [.int x6]) C dX13_test_24 zyX13_hasSign zvX13_hasSign lkRX13_267 (K_X13_hasSign (l := zXl X) hT3 hpv0 hkv0  h6) hpv0 hkv0 rfl (by omega) rfl rfl (Nat.le_of_ble_eq_true rfl) rfl (fun hT6 => ?_)
        refine z_if_eq C 51 dX13_test_27 (by decide) (fun c8 => ?_) (fun c8 => ?_)
        · replace hF := ip hF c8
          refine z_mask [false, false, false] ?_ rfl
          exact ih8 (e1 + 1) X C hr S6  res hT6  hF
        · replace hF := im hF c8
          exact ih7 (e1 + 1) X C hr S6 v0 v1 x2 res hT6 hpv0 hkv0   hF
    · intro e X C hr S v0 v1 res hT hpv0 hkv0 hF
      replace hF : F_gExp_2 f (F_gExp f) e v0 v1 S = some res := hF
      unfold F_gExp_2 at hF
      obtain ⟨e1, he1, hF1⟩ := dE_some hF
      subst he1
      replace hF := hF1
      refine z_aload_n C dX13_sums_0 rfl ?_
      refine z_iload_n C dX13_sums_1 rfl ?_
      obtain ⟨S1, h1, hF⟩ := bV_some hF
      have hM1 : zM G (zXl X) (2 + e1) 0 0 yX13_products cX13_products 2 none [.ref (zB G + v0), .int v1] (cn G kd N0 S) (zPo G kd N0 (none, S1)) := zM.of (by decide) rfl (Nat.le_of_ble_eq_true rfl) (fun X9 _ C9 hr9 _ => ih3 e1 X9 C9 hr9 S v0 v1 _ hT hpv0 hkv0  h1)
      refine f_cV (st2 := []) C dX13_sums_2 zyX13_products zvX13_products lkRX13_270 hM1 hpv0 hkv0 rfl (by omega) rfl rfl (Nat.le_of_ble_eq_true rfl) rfl (fun hT1 => ?_)
      exact ih9 (e1 + 1) X C hr S1 v0 v1 res hT1 hpv0 hkv0  hF
    · intro e X C hr S v0 v1 res hT hpv0 hkv0 hF
      replace hF : F_gExp_3 f (F_gExp f) e v0 v1 S = some res := hF
      unfold F_gExp_3 at hF
      obtain ⟨e1, he1, hF1⟩ := dE_some hF
      subst he1
      replace hF := hF1
      refine z_aload_n C dX13_products_0 rfl ?_
      refine z_iload_n C dX13_products_1 rfl ?_
      obtain ⟨S1, h1, hF⟩ := bV_some hF
      have hM1 : zM G (zXl X) (2 + e1) 0 0 yX13_takePart cX13_takePart 4 none [.ref (zB G + v0), .int v1] (cn G kd N0 S) (zPo G kd N0 (none, S1)) := zM.of (by decide) rfl (Nat.le_of_ble_eq_true rfl) (fun X9 _ C9 hr9 _ => ih4 e1 X9 C9 hr9 S v0 v1 _ hT hpv0 hkv0  h1)
      refine f_cV (st2 := []) C dX13_products_2 zyX13_takePart zvX13_takePart lkRX13_273 hM1 hpv0 hkv0 rfl (by omega) rfl rfl (Nat.le_of_ble_eq_true rfl) rfl (fun hT1 => ?_)
      exact ih11 (e1 + 1) X C hr S1 v0 v1 res hT1 hpv0 hkv0  hF
    · intro e X C hr S v0 v1 res hT hpv0 hkv0 hF
      replace hF : F_gExp_4 f (F_gExp f) e v0 v1 S = some res := hF
      unfold F_gExp_4 at hF
      refine z_aload_n C dX13_takePart_0 rfl ?_
      refine f_geti C dX13_takePart_1 zfRX13_177 hpv0 hkv0 rfl ?_
      refine z_if_le C 8 dX13_takePart_4 (by decide) (fun c1 => ?_) (fun c1 => ?_)
      · replace hF := ip hF c1
        refine z_aload_n C dX13_takePart_8 rfl ?_
        refine f_getr C dX13_takePart_9 zfRX13_24 hpv0 hkv0 rfl ?_
        obtain ⟨hp2, hk2⟩ := hT.1 v0 11 4 (.inr (0, 1002)) hpv0 hkv0 rfl
        refine z_aload_n C dX13_takePart_12 rfl ?_
        refine f_geti C dX13_takePart_13 zfRX13_174 hpv0 hkv0 rfl ?_
        obtain ⟨hi3, hF⟩ := bX_some hF
        obtain ⟨q3, eq3⟩ : ∃ q : Nat, q = Int32.toNatClampNeg (gI S v0 7) := ⟨_, rfl⟩
        rw [← eq3] at hF
        refine f_iald C dX13_takePart_16 hp2 hk2 hi3 ?_
        rw [← eq3]
        refine z_iconst (v := 2) C dX13_takePart_17 (by decide) ?_
        have hJ5 : zV G X (zQX G X (zPo G kd N0 res) 0 0) 4 [some (.ref (zB G + v0)), some (.int v1), none, none] [.int (if (gI S (gR S v0 4) q3) = (2 : Int32) then (1 : Int32) else (0 : Int32))] (cn G kd N0 S) 26 0 0 := by
          replace hF := lI_e hF
          generalize (if (gI S (gR S v0 4) q3) = (2 : Int32) then (1 : Int32) else (0 : Int32)) = y6 at hF ⊢
          refine z_istore_n (lv2 := [some (.ref (zB G + v0)), some (.int v1), some (.int y6), none]) C dX13_takePart_26 (by decide) rfl ?_
          refine z_aload_n C dX13_takePart_27 rfl ?_
          refine z_bipush (v := 25) C dX13_takePart_28 (by decide) ?_
          refine z_iconst (v := 4) C dX13_takePart_30 (by decide) ?_
          obtain ⟨x7, S7, h7, hF⟩ := bI_some hF
          refine f_cV (st2 := [.int x7]) C dX13_takePart_31 zyX13_wordHere zvX13_wordHere lkRX13_199 (K_X13_wordHere (l := zXl X) hT hpv0 hkv0   h7) hpv0 hkv0 rfl (by omega) rfl rfl (Nat.le_of_ble_eq_true rfl) rfl (fun hT7 => ?_)
          refine z_istore_n (lv2 := [some (.ref (zB G + v0)), some (.int v1), some (.int y6), some (.int x7)]) C dX13_takePart_34 (by decide) rfl ?_
          refine z_iload_n C dX13_takePart_35 rfl ?_
          refine z_if_ge C 69 dX13_takePart_36 (by decide) (fun c10 => ?_) (fun c10 => ?_)
          · replace hF := ip hF c10
            exact ih12 e X C hr S7 v0 v1 y6 x7 res hT7 hpv0 hkv0    hF
          · replace hF := im hF c10
            refine z_iload_n C dX13_takePart_39 rfl ?_
            refine z_if_ne C 69 dX13_takePart_40 (by decide) (fun c13 => ?_) (fun c13 => ?_)
            · replace hF := im hF c13
              exact ih12 e X C hr S7 v0 v1 y6 x7 res hT7 hpv0 hkv0    hF
            · replace hF := ip hF c13
              refine z_aload_n C dX13_takePart_43 rfl ?_
              refine z_bipush (v := 40) C dX13_takePart_44 (by decide) ?_
              obtain ⟨x14, S14, h14, hF⟩ := bI_some hF
              refine f_cV (st2 := [.int x14]) C dX13_takePart_46 zyX13_isSign zvX13_isSign lkRX13_180 (K_X13_isSign (l := zXl X) hT7 hpv0 hkv0  h14) hpv0 hkv0 rfl (by omega) rfl rfl (Nat.le_of_ble_eq_true rfl) rfl (fun hT14 => ?_)
              refine z_if_ne C 69 dX13_takePart_49 (by decide) (fun c17 => ?_) (fun c17 => ?_)
              · replace hF := im hF c17
                exact ih12 e X C hr S14 v0 v1 y6 x7 res hT14 hpv0 hkv0    hF
              · replace hF := ip hF c17
                refine z_aload_n C dX13_takePart_52 rfl ?_
                refine z_bipush (v := 22) C dX13_takePart_53 (by decide) ?_
                obtain ⟨x18, S18, h18, hF⟩ := bI_some hF
                refine f_cV (st2 := [.int x18]) C dX13_takePart_55 zyX13_isWord zvX13_isWord lkRX13_186 (K_X13_isWord (l := zXl X) hT14 hpv0 hkv0  h18) hpv0 hkv0 rfl (by omega) rfl rfl (Nat.le_of_ble_eq_true rfl) rfl (fun hT18 => ?_)
                refine z_if_ne C 69 dX13_takePart_58 (by decide) (fun c21 => ?_) (fun c21 => ?_)
                · replace hF := im hF c21
                  exact ih12 e X C hr S18 v0 v1 y6 x7 res hT18 hpv0 hkv0    hF
                · replace hF := ip hF c21
                  refine z_aload_n C dX13_takePart_61 rfl ?_
                  refine z_iconst (v := 1) C dX13_takePart_62 (by decide) ?_
                  obtain ⟨S22, h22, hF⟩ := bV_some hF
                  refine f_cV (st2 := []) C dX13_takePart_63 zyX13_wrong zvX13_wrong lkRX13_183 (K_X13_wrong (l := zXl X) hT18 hpv0 hkv0  h22) hpv0 hkv0 rfl (by omega) rfl rfl (Nat.le_of_ble_eq_true rfl) rfl (fun hT22 => ?_)
                  refine z_goto C 79 dX13_takePart_66 (by decide) ?_
                  exact ih13 e X C hr S22 v0 v1 y6 x7 res hT22 hpv0 hkv0    hF
        refine z_icmp_ne C 25 dX13_takePart_18 (by decide) (fun c4 => ?_) (fun c4 => ?_)
        · refine z_iconst (v := 0) C dX13_takePart_25 (by decide) ?_
          exact zV.at hJ5 (by first | rfl | contradiction | (simp only [if_neg c4]; done)) (by first | rfl | contradiction | (simp only [if_neg c4]; done)) rfl rfl
        · refine z_iconst (v := 1) C dX13_takePart_21 (by decide) ?_
          refine z_goto C 26 dX13_takePart_22 (by decide) ?_
          exact zV.at hJ5 (by first | rfl | contradiction | (simp only [if_pos c4]; done)) (by first | rfl | contradiction | (simp only [if_pos c4]; done)) rfl rfl
      · replace hF := im hF c1
        cases hF
        exact z_vret C hr dX13_takePart_7 ⟨rfl, rfl, hT⟩
    · intro e X C hr S v0 v1 res hT hpv0 hkv0 hF
      replace hF : F_gExp_5 f (F_gExp f) e v0 v1 S = some res := hF
      unfold F_gExp_5 at hF
      refine z_aload_n C dX13_whole_5 rfl ?_
      refine z_bipush (v := 23) C dX13_whole_6 (by decide) ?_
      obtain ⟨x2, S2, h2, hF⟩ := bI_some hF
      refine f_cV (st2 := [.int x2]) C dX13_whole_8 zyX13_isWord zvX13_isWord lkRX13_186 (K_X13_isWord (l := zXl X) hT hpv0 hkv0  h2) hpv0 hkv0 rfl (by omega) rfl rfl (Nat.le_of_ble_eq_true rfl) rfl (fun hT2 => ?_)
      refine z_if_ne C 23 dX13_whole_11 (by decide) (fun c4 => ?_) (fun c4 => ?_)
      · replace hF := im hF c4
        exact ih6 e X C hr S2 v0 v1 res hT2 hpv0 hkv0  hF
      · replace hF := ip hF c4
        refine z_aload_n C dX13_whole_14 rfl ?_
        refine z_bipush (v := 24) C dX13_whole_15 (by decide) ?_
        obtain ⟨x5, S5, h5, hF⟩ := bI_some hF
        refine f_cV (st2 := [.int x5]) C dX13_whole_17 zyX13_isWord zvX13_isWord lkRX13_186 (K_X13_isWord (l := zXl X) hT2 hpv0 hkv0  h5) hpv0 hkv0 rfl (by omega) rfl rfl (Nat.le_of_ble_eq_true rfl) rfl (fun hT5 => ?_)
        refine z_if_eq C 64 dX13_whole_20 (by decide) (fun c7 => ?_) (fun c7 => ?_)
        · replace hF := ip hF c7
          cases hF
          exact z_vret C hr dX13_whole_64 ⟨rfl, rfl, hT5⟩
        · replace hF := im hF c7
          exact ih6 e X C hr S5 v0 v1 res hT5 hpv0 hkv0  hF
    · intro e X C hr S v0 v1 res hT hpv0 hkv0 hF
      replace hF : F_gExp_6 f (F_gExp f) e v0 v1 S = some res := hF
      unfold F_gExp_6 at hF
      obtain ⟨e1, he1, hF1⟩ := dE_some hF
      subst he1
      replace hF := hF1
      refine z_aload_n C dX13_whole_23 rfl ?_
      refine z_bipush (v := 23) C dX13_whole_24 (by decide) ?_
      obtain ⟨x8, S8, h8, hF⟩ := bI_some hF
      refine f_cV (st2 := [.int x8]) C dX13_whole_26 zyX13_isWord zvX13_isWord lkRX13_186 (K_X13_isWord (l := zXl X) hT hpv0 hkv0  h8) hpv0 hkv0 rfl (by omega) rfl rfl (Nat.le_of_ble_eq_true rfl) rfl (fun hT8 => ?_)
      refine z_istore_n (lv2 := [some (.ref (zB G + v0)), some (.int v1), some (.int x8)]) C dX13_whole_29 (by decide) rfl ?_
      refine z_aload_n C dX13_whole_30 rfl ?_
      refine z_dup C dX13_whole_31 rfl ?_
      refine f_geti C dX13_whole_32 zfRX13_174 hpv0 hkv0 rfl ?_
      refine z_iconst (v := 1) C dX13_whole_35 (by decide) ?_
      refine z_iadd C dX13_whole_36 ?_
      refine f_puti C dX13_whole_37 zfRX13_174 fw11_7 hpv0 hkv0 rfl rfl rfl ?_
      have hT9 : zT0 kd N0 (sI S8 v0 7 ((gI S8 v0 7) + (1 : Int32))) := zT0_sI hT8
      replace hF := fS_e hF
      generalize sI S8 v0 7 ((gI S8 v0 7) + (1 : Int32)) = S9 at hF hT9 ⊢
      refine z_aload_n C dX13_whole_40 rfl ?_
      refine z_iload_n C dX13_whole_41 rfl ?_
      obtain ⟨S10, h10, hF⟩ := bV_some hF
      have hM10 : zM G (zXl X) (2 + e1) 0 0 yX13_test cX13_test 3 none [.ref (zB G + v0), .int v1] (cn G kd N0 S9) (zPo G kd N0 (none, S10)) := zM.of (by decide) rfl (Nat.le_of_ble_eq_true rfl) (fun X9 _ C9 hr9 _ => ih1 e1 X9 C9 hr9 S9 v0 v1 _ hT9 hpv0 hkv0  h10)
      refine f_cV (st2 := []) C dX13_whole_42 zyX13_test zvX13_test lkRX13_261 hM10 hpv0 hkv0 rfl (by omega) rfl rfl (Nat.le_of_ble_eq_true rfl) rfl (fun hT10 => ?_)
      refine z_aload_n C dX13_whole_45 rfl ?_
      refine z_iload_n C dX13_whole_46 rfl ?_
      have hJ12 : zV G X (zQX G X (zPo G kd N0 res) 0 0) 3 [some (.ref (zB G + v0)), some (.int v1), some (.int x8)] [.int (if x8 = (0 : Int32) then (10 : Int32) else (9 : Int32)), .ref (zB G + v0)] (cn G kd N0 S10) 57 0 0 := by
        refine z_iconst (v := 0) C dX13_whole_57 (by decide) ?_
        obtain ⟨S13, h13, hF⟩ := bV_some hF
        refine f_cV (st2 := []) C dX13_whole_58 zyX13_emit zvX13_emit lkRX13_253 (K_X13_emit (l := zXl X) hT10 hpv0 hkv0   h13) hpv0 hkv0 rfl (by omega) rfl rfl (Nat.le_of_ble_eq_true rfl) rfl (fun hT13 => ?_)
        refine z_goto C 5 dX13_whole_61 (by decide) ?_
        refine z_mask [true, true, false] ?_ rfl
        exact ih5 (e1 + 1) X C hr S13 v0 v1 res hT13 hpv0 hkv0  hF
      refine z_if_eq C 55 dX13_whole_47 (by decide) (fun c11 => ?_) (fun c11 => ?_)
      · refine z_bipush (v := 10) C dX13_whole_55 (by decide) ?_
        exact zV.at hJ12 (by first | rfl | contradiction | (simp only [if_pos c11]; done)) (by first | rfl | contradiction | (simp only [if_pos c11]; done)) rfl rfl
      · refine z_bipush (v := 9) C dX13_whole_50 (by decide) ?_
        refine z_goto C 57 dX13_whole_52 (by decide) ?_
        exact zV.at hJ12 (by first | rfl | contradiction | (simp only [if_neg c11]; done)) (by first | rfl | contradiction | (simp only [if_neg c11]; done)) rfl rfl
    · intro e X C hr S v0 v1 v2 res hT hpv0 hkv0 hF
      replace hF : F_gExp_7 f (F_gExp f) e v0 v1 v2 S = some res := hF
      unfold F_gExp_7 at hF
      obtain ⟨e1, he1, hF1⟩ := dE_some hF
      subst he1
      replace hF := hF1
      refine z_aload_n C dX13_test_30 rfl ?_
      refine z_iload_n C dX13_test_31 rfl ?_
      obtain ⟨S9, h9, hF⟩ := bV_some hF
      have hM9 : zM G (zXl X) (2 + e1) 0 0 yX13_sums cX13_sums 3 none [.ref (zB G + v0), .int v1] (cn G kd N0 S) (zPo G kd N0 (none, S9)) := zM.of (by decide) rfl (Nat.le_of_ble_eq_true rfl) (fun X9 _ C9 hr9 _ => ih2 e1 X9 C9 hr9 S v0 v1 _ hT hpv0 hkv0  h9)
      refine f_cV (st2 := []) C dX13_test_32 zyX13_sums zvX13_sums lkRX13_264 hM9 hpv0 hkv0 rfl (by omega) rfl rfl (Nat.le_of_ble_eq_true rfl) rfl (fun hT9 => ?_)
      refine z_aload_n C dX13_test_35 rfl ?_
      refine z_iload_n C dX13_test_36 rfl ?_
      have hJ11 : zV G X (zQX G X (zPo G kd N0 res) 0 0) 3 [some (.ref (zB G + v0)), some (.int v1), some (.int v2)] [.int (if v2 = (0 : Int32) then (8 : Int32) else (7 : Int32)), .ref (zB G + v0)] (cn G kd N0 S9) 47 0 0 := by
        refine z_iconst (v := 0) C dX13_test_47 (by decide) ?_
        obtain ⟨S12, h12, hF⟩ := bV_some hF
        refine f_cV (st2 := []) C dX13_test_48 zyX13_emit zvX13_emit lkRX13_253 (K_X13_emit (l := zXl X) hT9 hpv0 hkv0   h12) hpv0 hkv0 rfl (by omega) rfl rfl (Nat.le_of_ble_eq_true rfl) rfl (fun hT12 => ?_)
        refine z_mask [false, false, false] ?_ rfl
        exact ih8 (e1 + 1) X C hr S12  res hT12  hF
      refine z_if_eq C 45 dX13_test_37 (by decide) (fun c10 => ?_) (fun c10 => ?_)
      · refine z_bipush (v := 8) C dX13_test_45 (by decide) ?_
        exact zV.at hJ11 (by first | rfl | contradiction | (simp only [if_pos c10]; done)) (by first | rfl | contradiction | (simp only [if_pos c10]; done)) rfl rfl
      · refine z_bipush (v := 7) C dX13_test_40 (by decide) ?_
        refine z_goto C 47 dX13_test_42 (by decide) ?_
        exact zV.at hJ11 (by first | rfl | contradiction | (simp only [if_neg c10]; done)) (by first | rfl | contradiction | (simp only [if_neg c10]; done)) rfl rfl
    · intro e X C hr S  res hT  hF
      replace hF : F_gExp_8 f (F_gExp f) e  S = some res := hF
      unfold F_gExp_8 at hF
      cases hF
      exact z_vret C hr dX13_test_51 ⟨rfl, rfl, hT⟩
    · intro e X C hr S v0 v1 res hT hpv0 hkv0 hF
      replace hF : F_gExp_9 f (F_gExp f) e v0 v1 S = some res := hF
      unfold F_gExp_9 at hF
      refine z_aload_n C dX13_sums_5 rfl ?_
      refine z_bipush (v := 43) C dX13_sums_6 (by decide) ?_
      obtain ⟨x2, S2, h2, hF⟩ := bI_some hF
      refine f_cV (st2 := [.int x2]) C dX13_sums_8 zyX13_isSign zvX13_isSign lkRX13_180 (K_X13_isSign (l := zXl X) hT hpv0 hkv0  h2) hpv0 hkv0 rfl (by omega) rfl rfl (Nat.le_of_ble_eq_true rfl) rfl (fun hT2 => ?_)
      refine z_if_ne C 23 dX13_sums_11 (by decide) (fun c4 => ?_) (fun c4 => ?_)
      · replace hF := im hF c4
        exact ih10 e X C hr S2 v0 v1 res hT2 hpv0 hkv0  hF
      · replace hF := ip hF c4
        refine z_aload_n C dX13_sums_14 rfl ?_
        refine z_bipush (v := 45) C dX13_sums_15 (by decide) ?_
        obtain ⟨x5, S5, h5, hF⟩ := bI_some hF
        refine f_cV (st2 := [.int x5]) C dX13_sums_17 zyX13_isSign zvX13_isSign lkRX13_180 (K_X13_isSign (l := zXl X) hT2 hpv0 hkv0  h5) hpv0 hkv0 rfl (by omega) rfl rfl (Nat.le_of_ble_eq_true rfl) rfl (fun hT5 => ?_)
        refine z_if_eq C 62 dX13_sums_20 (by decide) (fun c7 => ?_) (fun c7 => ?_)
        · replace hF := ip hF c7
          cases hF
          exact z_vret C hr dX13_sums_62 ⟨rfl, rfl, hT5⟩
        · replace hF := im hF c7
          exact ih10 e X C hr S5 v0 v1 res hT5 hpv0 hkv0  hF
    · intro e X C hr S v0 v1 res hT hpv0 hkv0 hF
      replace hF : F_gExp_10 f (F_gExp f) e v0 v1 S = some res := hF
      unfold F_gExp_10 at hF
      obtain ⟨e1, he1, hF1⟩ := dE_some hF
      subst he1
      replace hF := hF1
      refine z_aload_n C dX13_sums_23 rfl ?_
      refine z_bipush (v := 43) C dX13_sums_24 (by decide) ?_
      obtain ⟨x8, S8, h8, hF⟩ := bI_some hF
      refine f_cV (st2 := [.int x8]) C dX13_sums_26 zyX13_isSign zvX13_isSign lkRX13_180 (K_X13_isSign (l := zXl X) hT hpv0 hkv0  h8) hpv0 hkv0 rfl (by omega) rfl rfl (Nat.le_of_ble_eq_true rfl) rfl (fun hT8 => ?_)
      refine z_istore_n (lv2 := [some (.ref (zB G + v0)), some (.int v1), some (.int x8)]) C dX13_sums_29 (by decide) rfl ?_
      refine z_aload_n C dX13_sums_30 rfl ?_
      refine z_dup C dX13_sums_31 rfl ?_
      refine f_geti C dX13_sums_32 zfRX13_174 hpv0 hkv0 rfl ?_
      refine z_iconst (v := 1) C dX13_sums_35 (by decide) ?_
      refine z_iadd C dX13_sums_36 ?_
      refine f_puti C dX13_sums_37 zfRX13_174 fw11_7 hpv0 hkv0 rfl rfl rfl ?_
      have hT9 : zT0 kd N0 (sI S8 v0 7 ((gI S8 v0 7) + (1 : Int32))) := zT0_sI hT8
      replace hF := fS_e hF
      generalize sI S8 v0 7 ((gI S8 v0 7) + (1 : Int32)) = S9 at hF hT9 ⊢
      refine z_aload_n C dX13_sums_40 rfl ?_
      refine z_iload_n C dX13_sums_41 rfl ?_
      obtain ⟨S10, h10, hF⟩ := bV_some hF
      have hM10 : zM G (zXl X) (2 + e1) 0 0 yX13_products cX13_products 2 none [.ref (zB G + v0), .int v1] (cn G kd N0 S9) (zPo G kd N0 (none, S10)) := zM.of (by decide) rfl (Nat.le_of_ble_eq_true rfl) (fun X9 _ C9 hr9 _ => ih3 e1 X9 C9 hr9 S9 v0 v1 _ hT9 hpv0 hkv0  h10)
      refine f_cV (st2 := []) C dX13_sums_42 zyX13_products zvX13_products lkRX13_270 hM10 hpv0 hkv0 rfl (by omega) rfl rfl (Nat.le_of_ble_eq_true rfl) rfl (fun hT10 => ?_)
      refine z_aload_n C dX13_sums_45 rfl ?_
      refine z_iload_n C dX13_sums_46 rfl ?_
      have hJ12 : zV G X (zQX G X (zPo G kd N0 res) 0 0) 3 [some (.ref (zB G + v0)), some (.int v1), some (.int x8)] [.int (if x8 = (0 : Int32) then (5 : Int32) else (4 : Int32)), .ref (zB G + v0)] (cn G kd N0 S10) 55 0 0 := by
        refine z_iconst (v := 0) C dX13_sums_55 (by decide) ?_
        obtain ⟨S13, h13, hF⟩ := bV_some hF
        refine f_cV (st2 := []) C dX13_sums_56 zyX13_emit zvX13_emit lkRX13_253 (K_X13_emit (l := zXl X) hT10 hpv0 hkv0   h13) hpv0 hkv0 rfl (by omega) rfl rfl (Nat.le_of_ble_eq_true rfl) rfl (fun hT13 => ?_)
        refine z_goto C 5 dX13_sums_59 (by decide) ?_
        refine z_mask [true, true, false] ?_ rfl
        exact ih9 (e1 + 1) X C hr S13 v0 v1 res hT13 hpv0 hkv0  hF
      refine z_if_eq C 54 dX13_sums_47 (by decide) (fun c11 => ?_) (fun c11 => ?_)
      · refine z_iconst (v := 5) C dX13_sums_54 (by decide) ?_
        exact zV.at hJ12 (by first | rfl | contradiction | (simp only [if_pos c11]; done)) (by first | rfl | contradiction | (simp only [if_pos c11]; done)) rfl rfl
      · refine z_iconst (v := 4) C dX13_sums_50 (by decide) ?_
        refine z_goto C 55 dX13_sums_51 (by decide) ?_
        exact zV.at hJ12 (by first | rfl | contradiction | (simp only [if_neg c11]; done)) (by first | rfl | contradiction | (simp only [if_neg c11]; done)) rfl rfl
    · intro e X C hr S v0 v1 res hT hpv0 hkv0 hF
      replace hF : F_gExp_11 f (F_gExp f) e v0 v1 S = some res := hF
      unfold F_gExp_11 at hF
      obtain ⟨e1, he1, hF1⟩ := dE_some hF
      subst he1
      replace hF := hF1
      refine z_aload_n C dX13_products_5 rfl ?_
      refine z_bipush (v := 42) C dX13_products_6 (by decide) ?_
      obtain ⟨x2, S2, h2, hF⟩ := bI_some hF
      refine f_cV (st2 := [.int x2]) C dX13_products_8 zyX13_hasSign zvX13_hasSign lkRX13_267 (K_X13_hasSign (l := zXl X) hT hpv0 hkv0  h2) hpv0 hkv0 rfl (by omega) rfl rfl (Nat.le_of_ble_eq_true rfl) rfl (fun hT2 => ?_)
      refine z_if_eq C 29 dX13_products_11 (by decide) (fun c4 => ?_) (fun c4 => ?_)
      · replace hF := ip hF c4
        cases hF
        exact z_vret C hr dX13_products_29 ⟨rfl, rfl, hT2⟩
      · replace hF := im hF c4
        refine z_aload_n C dX13_products_14 rfl ?_
        refine z_iload_n C dX13_products_15 rfl ?_
        obtain ⟨S5, h5, hF⟩ := bV_some hF
        have hM5 : zM G (zXl X) (2 + e1) 0 0 yX13_takePart cX13_takePart 4 none [.ref (zB G + v0), .int v1] (cn G kd N0 S2) (zPo G kd N0 (none, S5)) := zM.of (by decide) rfl (Nat.le_of_ble_eq_true rfl) (fun X9 _ C9 hr9 _ => ih4 e1 X9 C9 hr9 S2 v0 v1 _ hT2 hpv0 hkv0  h5)
        refine f_cV (st2 := []) C dX13_products_16 zyX13_takePart zvX13_takePart lkRX13_273 hM5 hpv0 hkv0 rfl (by omega) rfl rfl (Nat.le_of_ble_eq_true rfl) rfl (fun hT5 => ?_)
        refine z_aload_n C dX13_products_19 rfl ?_
        refine z_bipush (v := 6) C dX13_products_20 (by decide) ?_
        refine z_iconst (v := 0) C dX13_products_22 (by decide) ?_
        obtain ⟨S6, h6, hF⟩ := bV_some hF
        refine f_cV (st2 := []) C dX13_products_23 zyX13_emit zvX13_emit lkRX13_253 (K_X13_emit (l := zXl X) hT5 hpv0 hkv0   h6) hpv0 hkv0 rfl (by omega) rfl rfl (Nat.le_of_ble_eq_true rfl) rfl (fun hT6 => ?_)
        refine z_goto C 5 dX13_products_26 (by decide) ?_
        exact ih11 (e1 + 1) X C hr S6 v0 v1 res hT6 hpv0 hkv0  hF
    · intro e X C hr S v0 v1 v2 v3 res hT hpv0 hkv0 hF
      replace hF : F_gExp_12 f (F_gExp f) e v0 v1 v2 v3 S = some res := hF
      unfold F_gExp_12 at hF
      refine z_iload_n C dX13_takePart_69 rfl ?_
      refine z_iconst (v := 5) C dX13_takePart_70 (by decide) ?_
      refine z_icmp_ne C 79 dX13_takePart_71 (by decide) (fun c24 => ?_) (fun c24 => ?_)
      · replace hF := im hF c24
        exact ih13 e X C hr S v0 v1 v2 v3 res hT hpv0 hkv0    hF
      · replace hF := ip hF c24
        refine z_aload_n C dX13_takePart_74 rfl ?_
        refine z_iconst (v := 5) C dX13_takePart_75 (by decide) ?_
        obtain ⟨S25, h25, hF⟩ := bV_some hF
        refine f_cV (st2 := []) C dX13_takePart_76 zyX13_wrong zvX13_wrong lkRX13_183 (K_X13_wrong (l := zXl X) hT hpv0 hkv0  h25) hpv0 hkv0 rfl (by omega) rfl rfl (Nat.le_of_ble_eq_true rfl) rfl (fun hT25 => ?_)
        exact ih13 e X C hr S25 v0 v1 v2 v3 res hT25 hpv0 hkv0    hF
    · intro e X C hr S v0 v1 v2 v3 res hT hpv0 hkv0 hF
      replace hF : F_gExp_13 f (F_gExp f) e v0 v1 v2 v3 S = some res := hF
      unfold F_gExp_13 at hF
      obtain ⟨e1, he1, hF1⟩ := dE_some hF
      subst he1
      replace hF := hF1
      refine z_aload_n C dX13_takePart_79 rfl ?_
      refine f_geti C dX13_takePart_80 zfRX13_177 hpv0 hkv0 rfl ?_
      refine z_if_le C 87 dX13_takePart_83 (by decide) (fun c26 => ?_) (fun c26 => ?_)
      · replace hF := ip hF c26
        refine z_aload_n C dX13_takePart_87 rfl ?_
        refine z_bipush (v := 22) C dX13_takePart_88 (by decide) ?_
        obtain ⟨x27, S27, h27, hF⟩ := bI_some hF
        refine f_cV (st2 := [.int x27]) C dX13_takePart_90 zyX13_hasWord zvX13_hasWord lkRX13_189 (K_X13_hasWord (l := zXl X) hT hpv0 hkv0  h27) hpv0 hkv0 rfl (by omega) rfl rfl (Nat.le_of_ble_eq_true rfl) rfl (fun hT27 => ?_)
        refine z_if_eq C 112 dX13_takePart_93 (by decide) (fun c29 => ?_) (fun c29 => ?_)
        · replace hF := ip hF c29
          refine z_aload_n C dX13_takePart_112 rfl ?_
          refine z_bipush (v := 40) C dX13_takePart_113 (by decide) ?_
          obtain ⟨x30, S30, h30, hF⟩ := bI_some hF
          refine f_cV (st2 := [.int x30]) C dX13_takePart_115 zyX13_hasSign zvX13_hasSign lkRX13_267 (K_X13_hasSign (l := zXl X) hT27 hpv0 hkv0  h30) hpv0 hkv0 rfl (by omega) rfl rfl (Nat.le_of_ble_eq_true rfl) rfl (fun hT30 => ?_)
          refine z_if_eq C 137 dX13_takePart_118 (by decide) (fun c34 => ?_) (fun c34 => ?_)
          · replace hF := ip hF c34
            refine z_aload_n C dX13_takePart_137 rfl ?_
            refine z_iload_n C dX13_takePart_138 rfl ?_
            have hJ36 : zV G X (zQX G X (zPo G kd N0 res) 0 0) 4 [some (.ref (zB G + v0)), some (.int v1), some (.int v2), some (.int v3)] [.int (if v2 = (0 : Int32) then (2 : Int32) else (1 : Int32)), .ref (zB G + v0)] (cn G kd N0 S30) 147 0 0 := by
              refine z_iload_n C dX13_takePart_147 rfl ?_
              refine z_if_eq C 164 dX13_takePart_148 (by decide) (fun c39 => ?_) (fun c39 => ?_)
              · replace hF := ip hF c39
                refine z_iload_n C dX13_takePart_164 rfl ?_
                refine z_mask [true, false, false, false] ?_ rfl
                exact ih14 (e1 + 1) X C hr S30 v0 v3 (if v2 = (0 : Int32) then (2 : Int32) else (1 : Int32)) v0 res hT30 hpv0 hkv0   hpv0 hkv0 hF
              · replace hF := im hF c39
                refine z_aload_n C dX13_takePart_151 rfl ?_
                refine f_getr C dX13_takePart_152 zfRX13_30 hpv0 hkv0 rfl ?_
                obtain ⟨hp40, hk40⟩ := hT30.1 v0 11 6 (.inr (1, 1002)) hpv0 hkv0 rfl
                refine z_aload_n C dX13_takePart_155 rfl ?_
                refine f_geti C dX13_takePart_156 zfRX13_174 hpv0 hkv0 rfl ?_
                obtain ⟨hi41, hF⟩ := bX_some hF
                obtain ⟨q41, eq41⟩ : ∃ q : Nat, q = Int32.toNatClampNeg (gI S30 v0 7) := ⟨_, rfl⟩
                rw [← eq41] at hF
                refine f_lald C dX13_takePart_159 hp40 hk40 hi41 ?_
                rw [← eq41]
                refine z_l2i C dX13_takePart_160 ?_
                refine z_goto C 165 dX13_takePart_161 (by decide) ?_
                refine z_mask [true, false, false, false] ?_ rfl
                exact ih14 (e1 + 1) X C hr S30 v0 (Int64.toInt32 (gJ S30 (gR S30 v0 6) q41)) (if v2 = (0 : Int32) then (2 : Int32) else (1 : Int32)) v0 res hT30 hpv0 hkv0   hpv0 hkv0 hF
            refine z_if_eq C 146 dX13_takePart_139 (by decide) (fun c35 => ?_) (fun c35 => ?_)
            · refine z_iconst (v := 2) C dX13_takePart_146 (by decide) ?_
              exact zV.at hJ36 (by first | rfl | contradiction | (simp only [if_pos c35]; done)) (by first | rfl | contradiction | (simp only [if_pos c35]; done)) rfl rfl
            · refine z_iconst (v := 1) C dX13_takePart_142 (by decide) ?_
              refine z_goto C 147 dX13_takePart_143 (by decide) ?_
              exact zV.at hJ36 (by first | rfl | contradiction | (simp only [if_neg c35]; done)) (by first | rfl | contradiction | (simp only [if_neg c35]; done)) rfl rfl
          · replace hF := im hF c34
            refine z_aload_n C dX13_takePart_121 rfl ?_
            refine z_iload_n C dX13_takePart_122 rfl ?_
            refine z_iconst (v := 1) C dX13_takePart_123 (by decide) ?_
            refine z_iadd C dX13_takePart_124 ?_
            obtain ⟨S42, h42, hF⟩ := bV_some hF
            have hM42 : zM G (zXl X) (2 + e1) 0 0 yX13_whole cX13_whole 3 none [.ref (zB G + v0), .int (v1 + (1 : Int32))] (cn G kd N0 S30) (zPo G kd N0 (none, S42)) := zM.of (by decide) rfl (Nat.le_of_ble_eq_true rfl) (fun X9 _ C9 hr9 _ => ih0 e1 X9 C9 hr9 S30 v0 (v1 + (1 : Int32)) _ hT30 hpv0 hkv0  h42)
            refine f_cV (st2 := []) C dX13_takePart_125 zyX13_whole zvX13_whole lkRX13_250 hM42 hpv0 hkv0 rfl (by omega) rfl rfl (Nat.le_of_ble_eq_true rfl) rfl (fun hT42 => ?_)
            refine z_aload_n C dX13_takePart_128 rfl ?_
            refine z_bipush (v := 41) C dX13_takePart_129 (by decide) ?_
            obtain ⟨S43, h43, hF⟩ := bV_some hF
            refine f_cV (st2 := []) C dX13_takePart_131 zyX13_takeSign zvX13_takeSign lkRX13_220 (K_X13_takeSign (l := zXl X) hT42 hpv0 hkv0  h43) hpv0 hkv0 rfl (by omega) rfl rfl (Nat.le_of_ble_eq_true rfl) rfl (fun hT43 => ?_)
            refine z_goto C 178 dX13_takePart_134 (by decide) ?_
            refine z_mask [false, false, false, false] ?_ rfl
            exact ih15 (e1 + 1) X C hr S43  res hT43  hF
        · replace hF := im hF c29
          refine z_aload_n C dX13_takePart_96 rfl ?_
          refine z_iload_n C dX13_takePart_97 rfl ?_
          refine z_iconst (v := 1) C dX13_takePart_98 (by decide) ?_
          refine z_iadd C dX13_takePart_99 ?_
          obtain ⟨S44, h44, hF⟩ := bV_some hF
          have hM44 : zM G (zXl X) (2 + e1) 0 0 yX13_takePart cX13_takePart 4 none [.ref (zB G + v0), .int (v1 + (1 : Int32))] (cn G kd N0 S27) (zPo G kd N0 (none, S44)) := zM.of (by decide) rfl (Nat.le_of_ble_eq_true rfl) (fun X9 _ C9 hr9 _ => ih4 e1 X9 C9 hr9 S27 v0 (v1 + (1 : Int32)) _ hT27 hpv0 hkv0  h44)
          refine f_cV (st2 := []) C dX13_takePart_100 zyX13_takePart zvX13_takePart lkRX13_273 hM44 hpv0 hkv0 rfl (by omega) rfl rfl (Nat.le_of_ble_eq_true rfl) rfl (fun hT44 => ?_)
          refine z_aload_n C dX13_takePart_103 rfl ?_
          refine z_iconst (v := 3) C dX13_takePart_104 (by decide) ?_
          refine z_iconst (v := 0) C dX13_takePart_105 (by decide) ?_
          obtain ⟨S45, h45, hF⟩ := bV_some hF
          refine f_cV (st2 := []) C dX13_takePart_106 zyX13_emit zvX13_emit lkRX13_253 (K_X13_emit (l := zXl X) hT44 hpv0 hkv0   h45) hpv0 hkv0 rfl (by omega) rfl rfl (Nat.le_of_ble_eq_true rfl) rfl (fun hT45 => ?_)
          refine z_goto C 178 dX13_takePart_109 (by decide) ?_
          refine z_mask [false, false, false, false] ?_ rfl
          exact ih15 (e1 + 1) X C hr S45  res hT45  hF
      · replace hF := im hF c26
        cases hF
        exact z_vret C hr dX13_takePart_86 ⟨rfl, rfl, hT⟩
    · intro e X C hr S v0 w0 w1 w2 res hT hpv0 hkv0 hpw2 hkw2 hF
      replace hF : F_gExp_14 f (F_gExp f) e v0 w0 w1 w2 S = some res := hF
      unfold F_gExp_14 at hF
      obtain ⟨S46, h46, hF⟩ := bV_some hF
      refine f_cV (st2 := []) C dX13_takePart_165 zyX13_emit zvX13_emit lkRX13_253 (K_X13_emit (l := zXl X) hT hpw2 hkw2   h46) hpw2 hkw2 rfl (by omega) rfl rfl (Nat.le_of_ble_eq_true rfl) rfl (fun hT46 => ?_)
      refine z_aload_n C dX13_takePart_168 rfl ?_
      refine z_dup C dX13_takePart_169 rfl ?_
      refine f_geti C dX13_takePart_170 zfRX13_174 hpv0 hkv0 rfl ?_
      refine z_iconst (v := 1) C dX13_takePart_173 (by decide) ?_
      refine z_iadd C dX13_takePart_174 ?_
      refine f_puti C dX13_takePart_175 zfRX13_174 fw11_7 hpv0 hkv0 rfl rfl rfl ?_
      have hT47 : zT0 kd N0 (sI S46 v0 7 ((gI S46 v0 7) + (1 : Int32))) := zT0_sI hT46
      replace hF := fS_e hF
      generalize sI S46 v0 7 ((gI S46 v0 7) + (1 : Int32)) = S47 at hF hT47 ⊢
      refine z_mask [false, true, true, true] ?_ rfl
      exact ih15 e X C hr S47  res hT47  hF
    · intro e X C hr S  res hT  hF
      replace hF : F_gExp_15 f (F_gExp f) e  S = some res := hF
      unfold F_gExp_15 at hF
      cases hF
      exact z_vret C hr dX13_takePart_178 ⟨rfl, rfl, hT⟩
def F_X13_whole (f : Nat) (_ : Nat) (vs : List Value) (S : aS) : aR := F_gExp f 40 0 vs S
theorem K_X13_whole {G : zG} {l : Launch} {kd : kD} {N0 f : Nat} {S : aS} {v0 : Nat} {v1 : Int32} {res : Option Value × aS} (hT : zT0 kd N0 S) (hpv0 : v0 < N0) (hkv0 : kd v0 = .inl 11) (hF : F_X13_whole f 0 [.ref v0, .int v1] S = some res) : zM G l 42 0 0 yX13_whole cX13_whole 3 none [.ref (zB G + v0), .int v1] (cn G kd N0 S) (zPo G kd N0 res) := zM.of (by decide) rfl (Nat.le_of_ble_eq_true rfl) (fun X _ C hr _ => (B_gExp f).1 40 X C hr S v0 v1 res hT hpv0 hkv0 hF)
def F_X13_test (f : Nat) (_ : Nat) (vs : List Value) (S : aS) : aR := F_gExp f 40 1 vs S
theorem K_X13_test {G : zG} {l : Launch} {kd : kD} {N0 f : Nat} {S : aS} {v0 : Nat} {v1 : Int32} {res : Option Value × aS} (hT : zT0 kd N0 S) (hpv0 : v0 < N0) (hkv0 : kd v0 = .inl 11) (hF : F_X13_test f 0 [.ref v0, .int v1] S = some res) : zM G l 42 0 0 yX13_test cX13_test 3 none [.ref (zB G + v0), .int v1] (cn G kd N0 S) (zPo G kd N0 res) := zM.of (by decide) rfl (Nat.le_of_ble_eq_true rfl) (fun X _ C hr _ => (B_gExp f).2.1 40 X C hr S v0 v1 res hT hpv0 hkv0 hF)
def F_X13_sums (f : Nat) (_ : Nat) (vs : List Value) (S : aS) : aR := F_gExp f 40 2 vs S
theorem K_X13_sums {G : zG} {l : Launch} {kd : kD} {N0 f : Nat} {S : aS} {v0 : Nat} {v1 : Int32} {res : Option Value × aS} (hT : zT0 kd N0 S) (hpv0 : v0 < N0) (hkv0 : kd v0 = .inl 11) (hF : F_X13_sums f 0 [.ref v0, .int v1] S = some res) : zM G l 42 0 0 yX13_sums cX13_sums 3 none [.ref (zB G + v0), .int v1] (cn G kd N0 S) (zPo G kd N0 res) := zM.of (by decide) rfl (Nat.le_of_ble_eq_true rfl) (fun X _ C hr _ => (B_gExp f).2.2.1 40 X C hr S v0 v1 res hT hpv0 hkv0 hF)
def F_X13_products (f : Nat) (_ : Nat) (vs : List Value) (S : aS) : aR := F_gExp f 40 3 vs S
theorem K_X13_products {G : zG} {l : Launch} {kd : kD} {N0 f : Nat} {S : aS} {v0 : Nat} {v1 : Int32} {res : Option Value × aS} (hT : zT0 kd N0 S) (hpv0 : v0 < N0) (hkv0 : kd v0 = .inl 11) (hF : F_X13_products f 0 [.ref v0, .int v1] S = some res) : zM G l 42 0 0 yX13_products cX13_products 2 none [.ref (zB G + v0), .int v1] (cn G kd N0 S) (zPo G kd N0 res) := zM.of (by decide) rfl (Nat.le_of_ble_eq_true rfl) (fun X _ C hr _ => (B_gExp f).2.2.2.1 40 X C hr S v0 v1 res hT hpv0 hkv0 hF)
def F_X13_takePart (f : Nat) (_ : Nat) (vs : List Value) (S : aS) : aR := F_gExp f 40 4 vs S
theorem K_X13_takePart {G : zG} {l : Launch} {kd : kD} {N0 f : Nat} {S : aS} {v0 : Nat} {v1 : Int32} {res : Option Value × aS} (hT : zT0 kd N0 S) (hpv0 : v0 < N0) (hkv0 : kd v0 = .inl 11) (hF : F_X13_takePart f 0 [.ref v0, .int v1] S = some res) : zM G l 42 0 0 yX13_takePart cX13_takePart 4 none [.ref (zB G + v0), .int v1] (cn G kd N0 S) (zPo G kd N0 res) := zM.of (by decide) rfl (Nat.le_of_ble_eq_true rfl) (fun X _ C hr _ => (B_gExp f).2.2.2.2.1 40 X C hr S v0 v1 res hT hpv0 hkv0 hF)
def F_X3_push_0 (f : Nat) (rc : Nat → List Value → aS → aR) (v0 : Nat) (v1 : Nat) (S : aS) : aR :=
  bX (gI S v0 1) 16 fun q2 => bV (F_X4_become f 0 [.ref (gR S (gR S v0 0) q2), .ref v1] S) fun S3 => fS (sI S3 v0 1 (((gI S3 v0 1) + (1 : Int32)) - ((gI S3 v0 1) + (1 : Int32)) / (16 : Int32) * (16 : Int32))) fun S4 => fS (sI S4 v0 2 (if ((gI S4 v0 2) + (1 : Int32)) < (16 : Int32) then ((gI S4 v0 2) + (1 : Int32)) else (16 : Int32))) fun S5 => some (none, S5)
def F_X3_push : Nat → Nat → List Value → aS → aR
  | 0, _, _, _ => none
  | f + 1, 0, vs, S => F_X3_push_0 f (F_X3_push f) (vR vs 0) (vR vs 1) S
  | _ + 1, _, _, _ => none
theorem dX3_push_0 : decode cX3_push 0 = .ok (.aload_n 0, 1) := by decide +kernel
theorem dX3_push_1 : decode cX3_push 1 = .ok (.getfield 11, 3) := by decide +kernel
theorem dX3_push_4 : decode cX3_push 4 = .ok (.aload_n 0, 1) := by decide +kernel
theorem dX3_push_5 : decode cX3_push 5 = .ok (.getfield 16, 3) := by decide +kernel
theorem dX3_push_8 : decode cX3_push 8 = .ok (.aaload, 1) := by decide +kernel
theorem dX3_push_9 : decode cX3_push 9 = .ok (.aload_n 1, 1) := by decide +kernel
theorem dX3_push_10 : decode cX3_push 10 = .ok (.invokevirtual 23, 3) := by decide +kernel
theorem dX3_push_13 : decode cX3_push 13 = .ok (.aload_n 0, 1) := by decide +kernel
theorem dX3_push_14 : decode cX3_push 14 = .ok (.aload_n 0, 1) := by decide +kernel
theorem dX3_push_15 : decode cX3_push 15 = .ok (.getfield 16, 3) := by decide +kernel
theorem dX3_push_18 : decode cX3_push 18 = .ok (.iconst 1, 1) := by decide +kernel
theorem dX3_push_19 : decode cX3_push 19 = .ok (.iadd, 1) := by decide +kernel
theorem dX3_push_20 : decode cX3_push 20 = .ok (.bipush 16, 2) := by decide +kernel
theorem dX3_push_22 : decode cX3_push 22 = .ok (.irem, 1) := by decide +kernel
theorem dX3_push_23 : decode cX3_push 23 = .ok (.putfield 16, 3) := by decide +kernel
theorem dX3_push_26 : decode cX3_push 26 = .ok (.aload_n 0, 1) := by decide +kernel
theorem dX3_push_27 : decode cX3_push 27 = .ok (.bipush 16, 2) := by decide +kernel
theorem dX3_push_29 : decode cX3_push 29 = .ok (.aload_n 0, 1) := by decide +kernel
theorem dX3_push_30 : decode cX3_push 30 = .ok (.getfield 20, 3) := by decide +kernel
theorem dX3_push_33 : decode cX3_push 33 = .ok (.iconst 1, 1) := by decide +kernel
theorem dX3_push_34 : decode cX3_push 34 = .ok (.iadd, 1) := by decide +kernel
theorem dX3_push_35 : decode cX3_push 35 = .ok (.invokestatic 27, 3) := by decide +kernel
theorem dX3_push_38 : decode cX3_push 38 = .ok (.putfield 20, 3) := by decide +kernel
theorem dX3_push_41 : decode cX3_push 41 = .ok (.return_, 1) := by decide +kernel
set_option maxHeartbeats 4000000 in
set_option maxRecDepth 100000 in
theorem B_X3_push {G : zG} {X : zX} {kd : kD} {N0 : Nat} (C : zCt G X 1 0 0 RX3 cX3_push 2) (hr : (zXh X).sig.returnType = none) : ∀ f : Nat,
    (∀ (S : aS) (v0 : Nat) (v1 : Nat) (res : Option Value × aS), zT0 kd N0 S → v0 < N0 → kd v0 = .inl 2 → v1 < N0 → kd v1 = .inl 3 → F_X3_push f 0 [.ref v0, .ref v1] S = some res → zV G X (zQX G X (zPo G kd N0 res) 0 0) 2 [some (.ref (zB G + v0)), some (.ref (zB G + v1))] [] (cn G kd N0 S) 0 0 0) := by
  intro f
  induction f with
  | zero => exact (fun _ _ _ _ _ _ _ _ _ h => by cases h)
  | succ f ih =>
    have ih0 := ih
    intro S v0 v1 res hT hpv0 hkv0 hpv1 hkv1 hF
    replace hF : F_X3_push_0 f (F_X3_push f) v0 v1 S = some res := hF
    unfold F_X3_push_0 at hF
    refine z_aload_n C dX3_push_0 rfl ?_
    refine f_getr C dX3_push_1 zfRX3_11 hpv0 hkv0 rfl ?_
    obtain ⟨hp1, hk1⟩ := hT.1 v0 2 0 (.inr (4, 16)) hpv0 hkv0 rfl
    refine z_aload_n C dX3_push_4 rfl ?_
    refine f_geti C dX3_push_5 zfRX3_16 hpv0 hkv0 rfl ?_
    obtain ⟨hi2, hF⟩ := bX_some hF
    obtain ⟨q2, eq2⟩ : ∃ q : Nat, q = Int32.toNatClampNeg (gI S v0 1) := ⟨_, rfl⟩
    rw [← eq2] at hF
    refine f_aald C dX3_push_8 hp1 hk1 rfl rfl rfl hi2 ?_
    obtain ⟨hp2, hk2⟩ := hT.2.1 (gR S v0 0) 4 16 (.inl 3) q2 hp1 hk1 rfl (by rw [eq2]; exact Nat.not_le.mp fun z => hi2 (Or.inr z))
    rw [← eq2]
    refine z_aload_n C dX3_push_9 rfl ?_
    obtain ⟨S3, h3, hF⟩ := bV_some hF
    refine f_cV (st2 := []) C dX3_push_10 zyX4_become zvX4_become lkRX3_23 (K_X4_become (l := zXl X) hT hp2 hk2 hpv1 hkv1 h3) hp2 hk2 rfl (by decide) rfl rfl (Nat.le_of_ble_eq_true rfl) rfl (fun hT3 => ?_)
    refine z_aload_n C dX3_push_13 rfl ?_
    refine z_aload_n C dX3_push_14 rfl ?_
    refine f_geti C dX3_push_15 zfRX3_16 hpv0 hkv0 rfl ?_
    refine z_iconst (v := 1) C dX3_push_18 (by decide) ?_
    refine z_iadd C dX3_push_19 ?_
    refine z_bipush (v := 16) C dX3_push_20 (by decide) ?_
    refine z_irem C dX3_push_22 (by decide) ?_
    refine f_puti C dX3_push_23 zfRX3_16 fw2_1 hpv0 hkv0 rfl rfl rfl ?_
    have hT4 : zT0 kd N0 (sI S3 v0 1 (((gI S3 v0 1) + (1 : Int32)) - ((gI S3 v0 1) + (1 : Int32)) / (16 : Int32) * (16 : Int32))) := zT0_sI hT3
    replace hF := fS_e hF
    generalize sI S3 v0 1 (((gI S3 v0 1) + (1 : Int32)) - ((gI S3 v0 1) + (1 : Int32)) / (16 : Int32) * (16 : Int32)) = S4 at hF hT4 ⊢
    refine z_aload_n C dX3_push_26 rfl ?_
    refine z_bipush (v := 16) C dX3_push_27 (by decide) ?_
    refine z_aload_n C dX3_push_29 rfl ?_
    refine f_geti C dX3_push_30 zfRX3_20 hpv0 hkv0 rfl ?_
    refine z_iconst (v := 1) C dX3_push_33 (by decide) ?_
    refine z_iadd C dX3_push_34 ?_
    refine f_mmin C dX3_push_35 lkRX3_27 (by decide) (Nat.le_of_ble_eq_true rfl) ?_
    refine f_puti C dX3_push_38 zfRX3_20 fw2_2 hpv0 hkv0 rfl rfl rfl ?_
    have hT5 : zT0 kd N0 (sI S4 v0 2 (if ((gI S4 v0 2) + (1 : Int32)) < (16 : Int32) then ((gI S4 v0 2) + (1 : Int32)) else (16 : Int32))) := zT0_sI hT4
    replace hF := fS_e hF
    generalize sI S4 v0 2 (if ((gI S4 v0 2) + (1 : Int32)) < (16 : Int32) then ((gI S4 v0 2) + (1 : Int32)) else (16 : Int32)) = S5 at hF hT5 ⊢
    cases hF
    exact z_vret C hr dX3_push_41 ⟨rfl, rfl, hT5⟩
theorem K_X3_push {G : zG} {l : Launch} {kd : kD} {N0 f : Nat} {S : aS} {v0 : Nat} {v1 : Nat} {res : Option Value × aS} (hT : zT0 kd N0 S) (hpv0 : v0 < N0) (hkv0 : kd v0 = .inl 2) (hpv1 : v1 < N0) (hkv1 : kd v1 = .inl 3) (hF : F_X3_push f 0 [.ref v0, .ref v1] S = some res) : zM G l 1 0 0 yX3_push cX3_push 2 none [.ref (zB G + v0), .ref (zB G + v1)] (cn G kd N0 S) (zPo G kd N0 res) := zM.of (by decide) rfl (Nat.le_of_ble_eq_true rfl) (fun X _ C hr _ => (B_X3_push C hr f) S v0 v1 res hT hpv0 hkv0 hpv1 hkv1 hF)
def F_X3_pop_0 (f : Nat) (rc : Nat → List Value → aS → aR) (v0 : Nat) (v1 : Nat) (S : aS) : aR :=
  if (gI S v0 2) = (0 : Int32) then bZ 0 (some (some (.int 0), S)) else fS (sI S v0 1 ((((gI S v0 1) + (16 : Int32)) - (1 : Int32)) - (((gI S v0 1) + (16 : Int32)) - (1 : Int32)) / (16 : Int32) * (16 : Int32))) fun S2 => fS (sI S2 v0 2 ((gI S2 v0 2) - (1 : Int32))) fun S3 => bX (gI S3 v0 1) 16 fun q5 => bV (F_X4_become f 0 [.ref v1, .ref (gR S3 (gR S3 v0 0) q5)] S3) fun S6 => bZ 1 (some (some (.int 1), S6))
def F_X3_pop : Nat → Nat → List Value → aS → aR
  | 0, _, _, _ => none
  | f + 1, 0, vs, S => F_X3_pop_0 f (F_X3_pop f) (vR vs 0) (vR vs 1) S
  | _ + 1, _, _, _ => none
theorem dX3_pop_0 : decode cX3_pop 0 = .ok (.aload_n 0, 1) := by decide +kernel
theorem dX3_pop_1 : decode cX3_pop 1 = .ok (.getfield 20, 3) := by decide +kernel
theorem dX3_pop_4 : decode cX3_pop 4 = .ok (.ifCond .ne 5, 3) := by decide +kernel
theorem dX3_pop_7 : decode cX3_pop 7 = .ok (.iconst 0, 1) := by decide +kernel
theorem dX3_pop_8 : decode cX3_pop 8 = .ok (.ireturn, 1) := by decide +kernel
theorem dX3_pop_9 : decode cX3_pop 9 = .ok (.aload_n 0, 1) := by decide +kernel
theorem dX3_pop_10 : decode cX3_pop 10 = .ok (.aload_n 0, 1) := by decide +kernel
theorem dX3_pop_11 : decode cX3_pop 11 = .ok (.getfield 16, 3) := by decide +kernel
theorem dX3_pop_14 : decode cX3_pop 14 = .ok (.bipush 16, 2) := by decide +kernel
theorem dX3_pop_16 : decode cX3_pop 16 = .ok (.iadd, 1) := by decide +kernel
theorem dX3_pop_17 : decode cX3_pop 17 = .ok (.iconst 1, 1) := by decide +kernel
theorem dX3_pop_18 : decode cX3_pop 18 = .ok (.isub, 1) := by decide +kernel
theorem dX3_pop_19 : decode cX3_pop 19 = .ok (.bipush 16, 2) := by decide +kernel
theorem dX3_pop_21 : decode cX3_pop 21 = .ok (.irem, 1) := by decide +kernel
theorem dX3_pop_22 : decode cX3_pop 22 = .ok (.putfield 16, 3) := by decide +kernel
theorem dX3_pop_25 : decode cX3_pop 25 = .ok (.aload_n 0, 1) := by decide +kernel
theorem dX3_pop_26 : decode cX3_pop 26 = .ok (.dup, 1) := by decide +kernel
theorem dX3_pop_27 : decode cX3_pop 27 = .ok (.getfield 20, 3) := by decide +kernel
theorem dX3_pop_30 : decode cX3_pop 30 = .ok (.iconst 1, 1) := by decide +kernel
theorem dX3_pop_31 : decode cX3_pop 31 = .ok (.isub, 1) := by decide +kernel
theorem dX3_pop_32 : decode cX3_pop 32 = .ok (.putfield 20, 3) := by decide +kernel
theorem dX3_pop_35 : decode cX3_pop 35 = .ok (.aload_n 1, 1) := by decide +kernel
theorem dX3_pop_36 : decode cX3_pop 36 = .ok (.aload_n 0, 1) := by decide +kernel
theorem dX3_pop_37 : decode cX3_pop 37 = .ok (.getfield 11, 3) := by decide +kernel
theorem dX3_pop_40 : decode cX3_pop 40 = .ok (.aload_n 0, 1) := by decide +kernel
theorem dX3_pop_41 : decode cX3_pop 41 = .ok (.getfield 16, 3) := by decide +kernel
theorem dX3_pop_44 : decode cX3_pop 44 = .ok (.aaload, 1) := by decide +kernel
theorem dX3_pop_45 : decode cX3_pop 45 = .ok (.invokevirtual 23, 3) := by decide +kernel
theorem dX3_pop_48 : decode cX3_pop 48 = .ok (.iconst 1, 1) := by decide +kernel
theorem dX3_pop_49 : decode cX3_pop 49 = .ok (.ireturn, 1) := by decide +kernel
set_option maxHeartbeats 4000000 in
set_option maxRecDepth 100000 in
theorem B_X3_pop {G : zG} {X : zX} {kd : kD} {N0 : Nat} (C : zCt G X 1 0 0 RX3 cX3_pop 2) (hr : (zXh X).sig.returnType = (some .boolean)) : ∀ f : Nat,
    (∀ (S : aS) (v0 : Nat) (v1 : Nat) (res : Option Value × aS), zT0 kd N0 S → v0 < N0 → kd v0 = .inl 2 → v1 < N0 → kd v1 = .inl 3 → F_X3_pop f 0 [.ref v0, .ref v1] S = some res → zV G X (zQX G X (zPo G kd N0 res) 0 0) 2 [some (.ref (zB G + v0)), some (.ref (zB G + v1))] [] (cn G kd N0 S) 0 0 0) := by
  intro f
  induction f with
  | zero => exact (fun _ _ _ _ _ _ _ _ _ h => by cases h)
  | succ f ih =>
    have ih0 := ih
    intro S v0 v1 res hT hpv0 hkv0 hpv1 hkv1 hF
    replace hF : F_X3_pop_0 f (F_X3_pop f) v0 v1 S = some res := hF
    unfold F_X3_pop_0 at hF
    refine z_aload_n C dX3_pop_0 rfl ?_
    refine f_geti C dX3_pop_1 zfRX3_20 hpv0 hkv0 rfl ?_
    refine z_if_ne C 9 dX3_pop_4 (by decide) (fun c1 => ?_) (fun c1 => ?_)
    · replace hF := im hF c1
      refine z_aload_n C dX3_pop_9 rfl ?_
      refine z_aload_n C dX3_pop_10 rfl ?_
      refine f_geti C dX3_pop_11 zfRX3_16 hpv0 hkv0 rfl ?_
      refine z_bipush (v := 16) C dX3_pop_14 (by decide) ?_
      refine z_iadd C dX3_pop_16 ?_
      refine z_iconst (v := 1) C dX3_pop_17 (by decide) ?_
      refine z_isub C dX3_pop_18 ?_
      refine z_bipush (v := 16) C dX3_pop_19 (by decide) ?_
      refine z_irem C dX3_pop_21 (by decide) ?_
      refine f_puti C dX3_pop_22 zfRX3_16 fw2_1 hpv0 hkv0 rfl rfl rfl ?_
      have hT2 : zT0 kd N0 (sI S v0 1 ((((gI S v0 1) + (16 : Int32)) - (1 : Int32)) - (((gI S v0 1) + (16 : Int32)) - (1 : Int32)) / (16 : Int32) * (16 : Int32))) := zT0_sI hT
      replace hF := fS_e hF
      generalize sI S v0 1 ((((gI S v0 1) + (16 : Int32)) - (1 : Int32)) - (((gI S v0 1) + (16 : Int32)) - (1 : Int32)) / (16 : Int32) * (16 : Int32)) = S2 at hF hT2 ⊢
      refine z_aload_n C dX3_pop_25 rfl ?_
      refine z_dup C dX3_pop_26 rfl ?_
      refine f_geti C dX3_pop_27 zfRX3_20 hpv0 hkv0 rfl ?_
      refine z_iconst (v := 1) C dX3_pop_30 (by decide) ?_
      refine z_isub C dX3_pop_31 ?_
      refine f_puti C dX3_pop_32 zfRX3_20 fw2_2 hpv0 hkv0 rfl rfl rfl ?_
      have hT3 : zT0 kd N0 (sI S2 v0 2 ((gI S2 v0 2) - (1 : Int32))) := zT0_sI hT2
      replace hF := fS_e hF
      generalize sI S2 v0 2 ((gI S2 v0 2) - (1 : Int32)) = S3 at hF hT3 ⊢
      refine z_aload_n C dX3_pop_35 rfl ?_
      refine z_aload_n C dX3_pop_36 rfl ?_
      refine f_getr C dX3_pop_37 zfRX3_11 hpv0 hkv0 rfl ?_
      obtain ⟨hp4, hk4⟩ := hT3.1 v0 2 0 (.inr (4, 16)) hpv0 hkv0 rfl
      refine z_aload_n C dX3_pop_40 rfl ?_
      refine f_geti C dX3_pop_41 zfRX3_16 hpv0 hkv0 rfl ?_
      obtain ⟨hi5, hF⟩ := bX_some hF
      obtain ⟨q5, eq5⟩ : ∃ q : Nat, q = Int32.toNatClampNeg (gI S3 v0 1) := ⟨_, rfl⟩
      rw [← eq5] at hF
      refine f_aald C dX3_pop_44 hp4 hk4 rfl rfl rfl hi5 ?_
      obtain ⟨hp5, hk5⟩ := hT3.2.1 (gR S3 v0 0) 4 16 (.inl 3) q5 hp4 hk4 rfl (by rw [eq5]; exact Nat.not_le.mp fun z => hi5 (Or.inr z))
      rw [← eq5]
      obtain ⟨S6, h6, hF⟩ := bV_some hF
      refine f_cV (st2 := []) C dX3_pop_45 zyX4_become zvX4_become lkRX3_23 (K_X4_become (l := zXl X) hT3 hpv1 hkv1 hp5 hk5 h6) hpv1 hkv1 rfl (by decide) rfl rfl (Nat.le_of_ble_eq_true rfl) rfl (fun hT6 => ?_)
      refine z_iconst (v := 1) C dX3_pop_48 (by decide) ?_
      obtain ⟨hz, hF⟩ := bZ_some hF
      cases hF
      exact z_zret C hr hz.1 dX3_pop_49 ⟨rfl, rfl, hT6⟩
    · replace hF := ip hF c1
      refine z_iconst (v := 0) C dX3_pop_7 (by decide) ?_
      obtain ⟨hz, hF⟩ := bZ_some hF
      cases hF
      exact z_zret C hr hz.1 dX3_pop_8 ⟨rfl, rfl, hT⟩
theorem K_X3_pop {G : zG} {l : Launch} {kd : kD} {N0 f : Nat} {S : aS} {v0 : Nat} {v1 : Nat} {res : Option Value × aS} (hT : zT0 kd N0 S) (hpv0 : v0 < N0) (hkv0 : kd v0 = .inl 2) (hpv1 : v1 < N0) (hkv1 : kd v1 = .inl 3) (hF : F_X3_pop f 0 [.ref v0, .ref v1] S = some res) : zM G l 1 0 0 yX3_pop cX3_pop 2 (some .boolean) [.ref (zB G + v0), .ref (zB G + v1)] (cn G kd N0 S) (zPo G kd N0 res) := zM.of (by decide) rfl (Nat.le_of_ble_eq_true rfl) (fun X _ C hr _ => (B_X3_pop C hr f) S v0 v1 res hT hpv0 hkv0 hpv1 hkv1 hF)
def F_X4_binCount_0 (f : Nat) (rc : Nat → List Value → aS → aR) (v0 : Nat) (S : aS) : aR :=
  bI (F_X4_binBits f 0 [.ref v0] S) fun x1 S1 => bI (F_J6_bitCount_0f7a4 f 0 [.int x1] S1) fun x2 S2 => some (some (.int x2), S2)
def F_X4_binCount : Nat → Nat → List Value → aS → aR
  | 0, _, _, _ => none
  | f + 1, 0, vs, S => F_X4_binCount_0 f (F_X4_binCount f) (vR vs 0) S
  | _ + 1, _, _, _ => none
theorem dX4_binCount_0 : decode cX4_binCount 0 = .ok (.aload_n 0, 1) := by decide +kernel
theorem dX4_binCount_1 : decode cX4_binCount 1 = .ok (.invokevirtual 50, 3) := by decide +kernel
theorem dX4_binCount_4 : decode cX4_binCount 4 = .ok (.invokestatic 54, 3) := by decide +kernel
theorem dX4_binCount_7 : decode cX4_binCount 7 = .ok (.ireturn, 1) := by decide +kernel
set_option maxHeartbeats 4000000 in
set_option maxRecDepth 100000 in
theorem B_X4_binCount {G : zG} {X : zX} {kd : kD} {N0 : Nat} (C : zCt G X 1 0 0 RX4 cX4_binCount 1) (hr : (zXh X).sig.returnType = (some .int)) : ∀ f : Nat,
    (∀ (S : aS) (v0 : Nat) (res : Option Value × aS), zT0 kd N0 S → v0 < N0 → kd v0 = .inl 3 → F_X4_binCount f 0 [.ref v0] S = some res → zV G X (zQX G X (zPo G kd N0 res) 0 0) 1 [some (.ref (zB G + v0))] [] (cn G kd N0 S) 0 0 0) := by
  intro f
  induction f with
  | zero => exact (fun _ _ _ _ _ _ h => by cases h)
  | succ f ih =>
    have ih0 := ih
    intro S v0 res hT hpv0 hkv0 hF
    replace hF : F_X4_binCount_0 f (F_X4_binCount f) v0 S = some res := hF
    unfold F_X4_binCount_0 at hF
    refine z_aload_n C dX4_binCount_0 rfl ?_
    obtain ⟨x1, S1, h1, hF⟩ := bI_some hF
    refine f_cV (st2 := [.int x1]) C dX4_binCount_1 zyX4_binBits zvX4_binBits lkRX4_50 (K_X4_binBits (l := zXl X) hT hpv0 hkv0 h1) hpv0 hkv0 rfl (by decide) rfl rfl (Nat.le_of_ble_eq_true rfl) rfl (fun hT1 => ?_)
    obtain ⟨x2, S2, h2, hF⟩ := bI_some hF
    refine f_cS (st2 := [.int x2]) C dX4_binCount_4 zyJ6_bitCount_0f7a4 zsJ6_bitCount_0f7a4 lkRX4_54 (K_J6_bitCount_0f7a4 (l := zXl X) hT1  h2) (by decide) rfl rfl (Nat.le_of_ble_eq_true rfl) rfl (fun hT2 => ?_)
    cases hF
    exact z_iret C hr dX4_binCount_7 ⟨rfl, rfl, hT2⟩
theorem K_X4_binCount {G : zG} {l : Launch} {kd : kD} {N0 f : Nat} {S : aS} {v0 : Nat} {res : Option Value × aS} (hT : zT0 kd N0 S) (hpv0 : v0 < N0) (hkv0 : kd v0 = .inl 3) (hF : F_X4_binCount f 0 [.ref v0] S = some res) : zM G l 1 0 0 yX4_binCount cX4_binCount 1 (some .int) [.ref (zB G + v0)] (cn G kd N0 S) (zPo G kd N0 res) := zM.of (by decide) rfl (Nat.le_of_ble_eq_true rfl) (fun X _ C hr _ => (B_X4_binCount C hr f) S v0 res hT hpv0 hkv0 hF)
def F_X4_passHour_0 (f : Nat) (rc : Nat → List Value → aS → aR) (v0 : Nat) (v1 : Nat) (S : aS) : aR :=
  bI (F_X6_windOf f 0 [.ref v1, .int (gI S v0 4)] S) fun x1 S1 => if x1 = (1 : Int32) then bV (F_X4_blowOn f 0 [.ref v0] S1) fun S8 => rc 1 [.ref v0, .int x1] S8 else if x1 = (2 : Int32) then bV (F_X4_blowBack f 0 [.ref v0] S1) fun S7 => rc 1 [.ref v0, .int x1] S7 else rc 1 [.ref v0, .int x1] S1
def F_X4_passHour_1 (f : Nat) (rc : Nat → List Value → aS → aR) (v0 : Nat) (v1 : Int32) (S : aS) : aR :=
  fS (sI S v0 4 ((gI S v0 4) + (1 : Int32))) fun S9 => some (some (.int v1), S9)
def F_X4_passHour : Nat → Nat → List Value → aS → aR
  | 0, _, _, _ => none
  | f + 1, 0, vs, S => F_X4_passHour_0 f (F_X4_passHour f) (vR vs 0) (vR vs 1) S
  | f + 1, 1, vs, S => F_X4_passHour_1 f (F_X4_passHour f) (vR vs 0) (vI vs 1) S
  | _ + 1, _, _, _ => none
theorem dX4_passHour_0 : decode cX4_passHour 0 = .ok (.aload_n 1, 1) := by decide +kernel
theorem dX4_passHour_1 : decode cX4_passHour 1 = .ok (.aload_n 0, 1) := by decide +kernel
theorem dX4_passHour_2 : decode cX4_passHour 2 = .ok (.getfield 28, 3) := by decide +kernel
theorem dX4_passHour_5 : decode cX4_passHour 5 = .ok (.invokevirtual 79, 3) := by decide +kernel
theorem dX4_passHour_8 : decode cX4_passHour 8 = .ok (.istore_n 2, 1) := by decide +kernel
theorem dX4_passHour_9 : decode cX4_passHour 9 = .ok (.iload_n 2, 1) := by decide +kernel
theorem dX4_passHour_10 : decode cX4_passHour 10 = .ok (.iconst 1, 1) := by decide +kernel
theorem dX4_passHour_11 : decode cX4_passHour 11 = .ok (.if_icmp .ne 10, 3) := by decide +kernel
theorem dX4_passHour_14 : decode cX4_passHour 14 = .ok (.aload_n 0, 1) := by decide +kernel
theorem dX4_passHour_15 : decode cX4_passHour 15 = .ok (.invokevirtual 82, 3) := by decide +kernel
theorem dX4_passHour_18 : decode cX4_passHour 18 = .ok (.goto 12, 3) := by decide +kernel
theorem dX4_passHour_21 : decode cX4_passHour 21 = .ok (.iload_n 2, 1) := by decide +kernel
theorem dX4_passHour_22 : decode cX4_passHour 22 = .ok (.iconst 2, 1) := by decide +kernel
theorem dX4_passHour_23 : decode cX4_passHour 23 = .ok (.if_icmp .ne 7, 3) := by decide +kernel
theorem dX4_passHour_26 : decode cX4_passHour 26 = .ok (.aload_n 0, 1) := by decide +kernel
theorem dX4_passHour_27 : decode cX4_passHour 27 = .ok (.invokevirtual 85, 3) := by decide +kernel
theorem dX4_passHour_30 : decode cX4_passHour 30 = .ok (.aload_n 0, 1) := by decide +kernel
theorem dX4_passHour_31 : decode cX4_passHour 31 = .ok (.dup, 1) := by decide +kernel
theorem dX4_passHour_32 : decode cX4_passHour 32 = .ok (.getfield 28, 3) := by decide +kernel
theorem dX4_passHour_35 : decode cX4_passHour 35 = .ok (.iconst 1, 1) := by decide +kernel
theorem dX4_passHour_36 : decode cX4_passHour 36 = .ok (.iadd, 1) := by decide +kernel
theorem dX4_passHour_37 : decode cX4_passHour 37 = .ok (.putfield 28, 3) := by decide +kernel
theorem dX4_passHour_40 : decode cX4_passHour 40 = .ok (.iload_n 2, 1) := by decide +kernel
theorem dX4_passHour_41 : decode cX4_passHour 41 = .ok (.ireturn, 1) := by decide +kernel
set_option maxHeartbeats 4000000 in
set_option maxRecDepth 100000 in
theorem B_X4_passHour {G : zG} {X : zX} {kd : kD} {N0 : Nat} (C : zCt G X 3 0 0 RX4 cX4_passHour 3) (hr : (zXh X).sig.returnType = (some .int)) : ∀ f : Nat,
    (∀ (S : aS) (v0 : Nat) (v1 : Nat) (res : Option Value × aS), zT0 kd N0 S → v0 < N0 → kd v0 = .inl 3 → v1 < N0 → kd v1 = .inl 5 → F_X4_passHour f 0 [.ref v0, .ref v1] S = some res → zV G X (zQX G X (zPo G kd N0 res) 0 0) 3 [some (.ref (zB G + v0)), some (.ref (zB G + v1)), none] [] (cn G kd N0 S) 0 0 0) ∧
    (∀ (S : aS) (v0 : Nat) (v1 : Int32) (res : Option Value × aS), zT0 kd N0 S → v0 < N0 → kd v0 = .inl 3 → F_X4_passHour f 1 [.ref v0, .int v1] S = some res → zV G X (zQX G X (zPo G kd N0 res) 0 0) 3 [some (.ref (zB G + v0)), none, some (.int v1)] [] (cn G kd N0 S) 30 0 0) := by
  intro f
  induction f with
  | zero => exact ⟨(fun _ _ _ _ _ _ _ _ _ h => by cases h), (fun _ _ _ _ _ _ _ h => by cases h)⟩
  | succ f ih =>
    obtain ⟨ih0, ih1⟩ := ih
    refine ⟨?_, ?_⟩
    · intro S v0 v1 res hT hpv0 hkv0 hpv1 hkv1 hF
      replace hF : F_X4_passHour_0 f (F_X4_passHour f) v0 v1 S = some res := hF
      unfold F_X4_passHour_0 at hF
      refine z_aload_n C dX4_passHour_0 rfl ?_
      refine z_aload_n C dX4_passHour_1 rfl ?_
      refine f_geti C dX4_passHour_2 zfRX4_28 hpv0 hkv0 rfl ?_
      obtain ⟨x1, S1, h1, hF⟩ := bI_some hF
      refine f_cV (st2 := [.int x1]) C dX4_passHour_5 zyX6_windOf zvX6_windOf lkRX4_79 (K_X6_windOf (l := zXl X) hT hpv1 hkv1  h1) hpv1 hkv1 rfl (by decide) rfl rfl (Nat.le_of_ble_eq_true rfl) rfl (fun hT1 => ?_)
      refine z_istore_n (lv2 := [some (.ref (zB G + v0)), some (.ref (zB G + v1)), some (.int x1)]) C dX4_passHour_8 (by decide) rfl ?_
      refine z_iload_n C dX4_passHour_9 rfl ?_
      refine z_iconst (v := 1) C dX4_passHour_10 (by decide) ?_
      refine z_icmp_ne C 21 dX4_passHour_11 (by decide) (fun c4 => ?_) (fun c4 => ?_)
      · replace hF := im hF c4
        refine z_iload_n C dX4_passHour_21 rfl ?_
        refine z_iconst (v := 2) C dX4_passHour_22 (by decide) ?_
        refine z_icmp_ne C 30 dX4_passHour_23 (by decide) (fun c6 => ?_) (fun c6 => ?_)
        · replace hF := im hF c6
          refine z_mask [true, false, true] ?_ rfl
          exact ih1 S1 v0 x1 res hT1 hpv0 hkv0  hF
        · replace hF := ip hF c6
          refine z_aload_n C dX4_passHour_26 rfl ?_
          obtain ⟨S7, h7, hF⟩ := bV_some hF
          refine f_cV (st2 := []) C dX4_passHour_27 zyX4_blowBack zvX4_blowBack lkRX4_85 (K_X4_blowBack (l := zXl X) hT1 hpv0 hkv0 h7) hpv0 hkv0 rfl (by decide) rfl rfl (Nat.le_of_ble_eq_true rfl) rfl (fun hT7 => ?_)
          refine z_mask [true, false, true] ?_ rfl
          exact ih1 S7 v0 x1 res hT7 hpv0 hkv0  hF
      · replace hF := ip hF c4
        refine z_aload_n C dX4_passHour_14 rfl ?_
        obtain ⟨S8, h8, hF⟩ := bV_some hF
        refine f_cV (st2 := []) C dX4_passHour_15 zyX4_blowOn zvX4_blowOn lkRX4_82 (K_X4_blowOn (l := zXl X) hT1 hpv0 hkv0 h8) hpv0 hkv0 rfl (by decide) rfl rfl (Nat.le_of_ble_eq_true rfl) rfl (fun hT8 => ?_)
        refine z_goto C 30 dX4_passHour_18 (by decide) ?_
        refine z_mask [true, false, true] ?_ rfl
        exact ih1 S8 v0 x1 res hT8 hpv0 hkv0  hF
    · intro S v0 v1 res hT hpv0 hkv0 hF
      replace hF : F_X4_passHour_1 f (F_X4_passHour f) v0 v1 S = some res := hF
      unfold F_X4_passHour_1 at hF
      refine z_aload_n C dX4_passHour_30 rfl ?_
      refine z_dup C dX4_passHour_31 rfl ?_
      refine f_geti C dX4_passHour_32 zfRX4_28 hpv0 hkv0 rfl ?_
      refine z_iconst (v := 1) C dX4_passHour_35 (by decide) ?_
      refine z_iadd C dX4_passHour_36 ?_
      refine f_puti C dX4_passHour_37 zfRX4_28 fw3_4 hpv0 hkv0 rfl rfl rfl ?_
      have hT9 : zT0 kd N0 (sI S v0 4 ((gI S v0 4) + (1 : Int32))) := zT0_sI hT
      replace hF := fS_e hF
      generalize sI S v0 4 ((gI S v0 4) + (1 : Int32)) = S9 at hF hT9 ⊢
      refine z_iload_n C dX4_passHour_40 rfl ?_
      cases hF
      exact z_iret C hr dX4_passHour_41 ⟨rfl, rfl, hT9⟩
theorem K_X4_passHour {G : zG} {l : Launch} {kd : kD} {N0 f : Nat} {S : aS} {v0 : Nat} {v1 : Nat} {res : Option Value × aS} (hT : zT0 kd N0 S) (hpv0 : v0 < N0) (hkv0 : kd v0 = .inl 3) (hpv1 : v1 < N0) (hkv1 : kd v1 = .inl 5) (hF : F_X4_passHour f 0 [.ref v0, .ref v1] S = some res) : zM G l 3 0 0 yX4_passHour cX4_passHour 3 (some .int) [.ref (zB G + v0), .ref (zB G + v1)] (cn G kd N0 S) (zPo G kd N0 res) := zM.of (by decide) rfl (Nat.le_of_ble_eq_true rfl) (fun X _ C hr _ => (B_X4_passHour C hr f).1 S v0 v1 res hT hpv0 hkv0 hpv1 hkv1 hF)
def F_X5_valueOf_0 (f : Nat) (rc : Nat → List Value → aS → aR) (v0 : Nat) (v1 : Int32) (v2 : Int32) (v3 : Int32) (v4 : Int32) (S : aS) : aR :=
  bX 0 4 fun q2 => fS (sI S (gR S v0 3) q2 v1) fun S3 => bX 1 4 fun q5 => fS (sI S3 (gR S3 v0 3) q5 v2) fun S6 => bX 2 4 fun q8 => fS (sI S6 (gR S6 v0 3) q8 v3) fun S9 => bX 3 4 fun q11 => fS (sI S9 (gR S9 v0 3) q11 v4) fun S12 => rc 1 [.ref v0, .int 0, .int 0] S12
def F_X5_valueOf_1 (f : Nat) (rc : Nat → List Value → aS → aR) (v0 : Nat) (v1 : Int32) (v2 : Int32) (S : aS) : aR :=
  if (gI S v0 1) ≤ v2 then bX 0 32 fun q17 => some (some (.int (gI S (gR S v0 2) q17)), S) else bX v2 1000 fun q19 => if (gI S (gR S v0 0) q19) ≤ (-5 : Int32) then if (gI S (gR S v0 0) q19) = (-5 : Int32) then if v1 ≤ (0 : Int32) then rc 2 [.ref v0, .int v1, .int v2] S else bX (v1 - (1 : Int32)) 32 fun q49 => bX (v1 - (1 : Int32)) 32 fun q52 => fS (sI S (gR S v0 2) q52 (if (gI S (gR S v0 2) q49) = (0 : Int32) then (1 : Int32) else (0 : Int32))) fun S53 => rc 2 [.ref v0, .int v1, .int v2] S53 else if v1 ≤ (1 : Int32) then rc 2 [.ref v0, .int v1, .int v2] S else bX ((v1 + (-1)) - (1 : Int32)) 32 fun q37 => bX (v1 + (-1)) 32 fun q39 => bI (F_X5_joined f 0 [.int (gI S (gR S v0 0) q19), .int (gI S (gR S v0 2) q37), .int (gI S (gR S v0 2) q39)] S) fun x40 S40 => bX ((v1 + (-1)) - (1 : Int32)) 32 fun q41 => fS (sI S40 (gR S v0 2) q41 x40) fun S42 => rc 2 [.ref v0, .int (v1 + (-1)), .int v2] S42 else if (32 : Int32) ≤ v1 then rc 2 [.ref v0, .int v1, .int v2] S else if (gI S (gR S v0 0) q19) < (0 : Int32) then bX ((-1 : Int32) - (gI S (gR S v0 0) q19)) 4 fun q65 => rc 3 [.ref v0, .int v1, .int v2, .int (gI S (gR S v0 3) q65), .int v1, .ref (gR S v0 2)] S else rc 3 [.ref v0, .int v1, .int v2, .int (gI S (gR S v0 0) q19), .int v1, .ref (gR S v0 2)] S
def F_X5_valueOf_2 (f : Nat) (rc : Nat → List Value → aS → aR) (v0 : Nat) (v1 : Int32) (v2 : Int32) (S : aS) : aR :=
  rc 1 [.ref v0, .int v1, .int (v2 + 1)] S
def F_X5_valueOf_3 (f : Nat) (rc : Nat → List Value → aS → aR) (v0 : Nat) (v1 : Int32) (v2 : Int32) (w0 : Int32) (w1 : Int32) (w2 : Nat) (S : aS) : aR :=
  bX w1 32 fun q66 => fS (sI S w2 q66 w0) fun S67 => rc 2 [.ref v0, .int (v1 + 1), .int v2] S67
def F_X5_valueOf : Nat → Nat → List Value → aS → aR
  | 0, _, _, _ => none
  | f + 1, 0, vs, S => F_X5_valueOf_0 f (F_X5_valueOf f) (vR vs 0) (vI vs 1) (vI vs 2) (vI vs 3) (vI vs 4) S
  | f + 1, 1, vs, S => F_X5_valueOf_1 f (F_X5_valueOf f) (vR vs 0) (vI vs 1) (vI vs 2) S
  | f + 1, 2, vs, S => F_X5_valueOf_2 f (F_X5_valueOf f) (vR vs 0) (vI vs 1) (vI vs 2) S
  | f + 1, 3, vs, S => F_X5_valueOf_3 f (F_X5_valueOf f) (vR vs 0) (vI vs 1) (vI vs 2) (vI vs 3) (vI vs 4) (vR vs 5) S
  | _ + 1, _, _, _ => none
theorem dX5_valueOf_0 : decode cX5_valueOf 0 = .ok (.aload_n 0, 1) := by decide +kernel
theorem dX5_valueOf_1 : decode cX5_valueOf 1 = .ok (.getfield 20, 3) := by decide +kernel
theorem dX5_valueOf_4 : decode cX5_valueOf 4 = .ok (.iconst 0, 1) := by decide +kernel
theorem dX5_valueOf_5 : decode cX5_valueOf 5 = .ok (.iload_n 1, 1) := by decide +kernel
theorem dX5_valueOf_6 : decode cX5_valueOf 6 = .ok (.iastore, 1) := by decide +kernel
theorem dX5_valueOf_7 : decode cX5_valueOf 7 = .ok (.aload_n 0, 1) := by decide +kernel
theorem dX5_valueOf_8 : decode cX5_valueOf 8 = .ok (.getfield 20, 3) := by decide +kernel
theorem dX5_valueOf_11 : decode cX5_valueOf 11 = .ok (.iconst 1, 1) := by decide +kernel
theorem dX5_valueOf_12 : decode cX5_valueOf 12 = .ok (.iload_n 2, 1) := by decide +kernel
theorem dX5_valueOf_13 : decode cX5_valueOf 13 = .ok (.iastore, 1) := by decide +kernel
theorem dX5_valueOf_14 : decode cX5_valueOf 14 = .ok (.aload_n 0, 1) := by decide +kernel
theorem dX5_valueOf_15 : decode cX5_valueOf 15 = .ok (.getfield 20, 3) := by decide +kernel
theorem dX5_valueOf_18 : decode cX5_valueOf 18 = .ok (.iconst 2, 1) := by decide +kernel
theorem dX5_valueOf_19 : decode cX5_valueOf 19 = .ok (.iload_n 3, 1) := by decide +kernel
theorem dX5_valueOf_20 : decode cX5_valueOf 20 = .ok (.iastore, 1) := by decide +kernel
theorem dX5_valueOf_21 : decode cX5_valueOf 21 = .ok (.aload_n 0, 1) := by decide +kernel
theorem dX5_valueOf_22 : decode cX5_valueOf 22 = .ok (.getfield 20, 3) := by decide +kernel
theorem dX5_valueOf_25 : decode cX5_valueOf 25 = .ok (.iconst 3, 1) := by decide +kernel
theorem dX5_valueOf_26 : decode cX5_valueOf 26 = .ok (.iload 4, 2) := by decide +kernel
theorem dX5_valueOf_28 : decode cX5_valueOf 28 = .ok (.iastore, 1) := by decide +kernel
theorem dX5_valueOf_29 : decode cX5_valueOf 29 = .ok (.iconst 0, 1) := by decide +kernel
theorem dX5_valueOf_30 : decode cX5_valueOf 30 = .ok (.istore 5, 2) := by decide +kernel
theorem dX5_valueOf_32 : decode cX5_valueOf 32 = .ok (.iconst 0, 1) := by decide +kernel
theorem dX5_valueOf_33 : decode cX5_valueOf 33 = .ok (.istore 6, 2) := by decide +kernel
theorem dX5_valueOf_35 : decode cX5_valueOf 35 = .ok (.iload 6, 2) := by decide +kernel
theorem dX5_valueOf_37 : decode cX5_valueOf 37 = .ok (.aload_n 0, 1) := by decide +kernel
theorem dX5_valueOf_38 : decode cX5_valueOf 38 = .ok (.getfield 23, 3) := by decide +kernel
theorem dX5_valueOf_41 : decode cX5_valueOf 41 = .ok (.if_icmp .ge 147, 3) := by decide +kernel
theorem dX5_valueOf_44 : decode cX5_valueOf 44 = .ok (.aload_n 0, 1) := by decide +kernel
theorem dX5_valueOf_45 : decode cX5_valueOf 45 = .ok (.getfield 11, 3) := by decide +kernel
theorem dX5_valueOf_48 : decode cX5_valueOf 48 = .ok (.iload 6, 2) := by decide +kernel
theorem dX5_valueOf_50 : decode cX5_valueOf 50 = .ok (.iaload, 1) := by decide +kernel
theorem dX5_valueOf_51 : decode cX5_valueOf 51 = .ok (.istore 7, 2) := by decide +kernel
theorem dX5_valueOf_53 : decode cX5_valueOf 53 = .ok (.iload 7, 2) := by decide +kernel
theorem dX5_valueOf_55 : decode cX5_valueOf 55 = .ok (.bipush (-5), 2) := by decide +kernel
theorem dX5_valueOf_57 : decode cX5_valueOf 57 = .ok (.if_icmp .le 45, 3) := by decide +kernel
theorem dX5_valueOf_60 : decode cX5_valueOf 60 = .ok (.iload 5, 2) := by decide +kernel
theorem dX5_valueOf_62 : decode cX5_valueOf 62 = .ok (.aload_n 0, 1) := by decide +kernel
theorem dX5_valueOf_63 : decode cX5_valueOf 63 = .ok (.getfield 17, 3) := by decide +kernel
theorem dX5_valueOf_66 : decode cX5_valueOf 66 = .ok (.arraylength, 1) := by decide +kernel
theorem dX5_valueOf_67 : decode cX5_valueOf 67 = .ok (.if_icmp .ge 115, 3) := by decide +kernel
theorem dX5_valueOf_70 : decode cX5_valueOf 70 = .ok (.aload_n 0, 1) := by decide +kernel
theorem dX5_valueOf_71 : decode cX5_valueOf 71 = .ok (.getfield 17, 3) := by decide +kernel
theorem dX5_valueOf_74 : decode cX5_valueOf 74 = .ok (.iload 5, 2) := by decide +kernel
theorem dX5_valueOf_76 : decode cX5_valueOf 76 = .ok (.iload 7, 2) := by decide +kernel
theorem dX5_valueOf_78 : decode cX5_valueOf 78 = .ok (.ifCond .lt 8, 3) := by decide +kernel
theorem dX5_valueOf_81 : decode cX5_valueOf 81 = .ok (.iload 7, 2) := by decide +kernel
theorem dX5_valueOf_83 : decode cX5_valueOf 83 = .ok (.goto 12, 3) := by decide +kernel
theorem dX5_valueOf_86 : decode cX5_valueOf 86 = .ok (.aload_n 0, 1) := by decide +kernel
theorem dX5_valueOf_87 : decode cX5_valueOf 87 = .ok (.getfield 20, 3) := by decide +kernel
theorem dX5_valueOf_90 : decode cX5_valueOf 90 = .ok (.iconst (-1), 1) := by decide +kernel
theorem dX5_valueOf_91 : decode cX5_valueOf 91 = .ok (.iload 7, 2) := by decide +kernel
theorem dX5_valueOf_93 : decode cX5_valueOf 93 = .ok (.isub, 1) := by decide +kernel
theorem dX5_valueOf_94 : decode cX5_valueOf 94 = .ok (.iaload, 1) := by decide +kernel
theorem dX5_valueOf_95 : decode cX5_valueOf 95 = .ok (.iastore, 1) := by decide +kernel
theorem dX5_valueOf_96 : decode cX5_valueOf 96 = .ok (.iinc 5 1, 3) := by decide +kernel
theorem dX5_valueOf_99 : decode cX5_valueOf 99 = .ok (.goto 83, 3) := by decide +kernel
theorem dX5_valueOf_102 : decode cX5_valueOf 102 = .ok (.iload 7, 2) := by decide +kernel
theorem dX5_valueOf_104 : decode cX5_valueOf 104 = .ok (.bipush (-5), 2) := by decide +kernel
theorem dX5_valueOf_106 : decode cX5_valueOf 106 = .ok (.if_icmp .ne 37, 3) := by decide +kernel
theorem dX5_valueOf_109 : decode cX5_valueOf 109 = .ok (.iload 5, 2) := by decide +kernel
theorem dX5_valueOf_111 : decode cX5_valueOf 111 = .ok (.ifCond .le 71, 3) := by decide +kernel
theorem dX5_valueOf_114 : decode cX5_valueOf 114 = .ok (.aload_n 0, 1) := by decide +kernel
theorem dX5_valueOf_115 : decode cX5_valueOf 115 = .ok (.getfield 17, 3) := by decide +kernel
theorem dX5_valueOf_118 : decode cX5_valueOf 118 = .ok (.iload 5, 2) := by decide +kernel
theorem dX5_valueOf_120 : decode cX5_valueOf 120 = .ok (.iconst 1, 1) := by decide +kernel
theorem dX5_valueOf_121 : decode cX5_valueOf 121 = .ok (.isub, 1) := by decide +kernel
theorem dX5_valueOf_122 : decode cX5_valueOf 122 = .ok (.aload_n 0, 1) := by decide +kernel
theorem dX5_valueOf_123 : decode cX5_valueOf 123 = .ok (.getfield 17, 3) := by decide +kernel
theorem dX5_valueOf_126 : decode cX5_valueOf 126 = .ok (.iload 5, 2) := by decide +kernel
theorem dX5_valueOf_128 : decode cX5_valueOf 128 = .ok (.iconst 1, 1) := by decide +kernel
theorem dX5_valueOf_129 : decode cX5_valueOf 129 = .ok (.isub, 1) := by decide +kernel
theorem dX5_valueOf_130 : decode cX5_valueOf 130 = .ok (.iaload, 1) := by decide +kernel
theorem dX5_valueOf_131 : decode cX5_valueOf 131 = .ok (.ifCond .ne 7, 3) := by decide +kernel
theorem dX5_valueOf_134 : decode cX5_valueOf 134 = .ok (.iconst 1, 1) := by decide +kernel
theorem dX5_valueOf_135 : decode cX5_valueOf 135 = .ok (.goto 4, 3) := by decide +kernel
theorem dX5_valueOf_138 : decode cX5_valueOf 138 = .ok (.iconst 0, 1) := by decide +kernel
theorem dX5_valueOf_139 : decode cX5_valueOf 139 = .ok (.iastore, 1) := by decide +kernel
theorem dX5_valueOf_140 : decode cX5_valueOf 140 = .ok (.goto 42, 3) := by decide +kernel
theorem dX5_valueOf_143 : decode cX5_valueOf 143 = .ok (.iload 5, 2) := by decide +kernel
theorem dX5_valueOf_145 : decode cX5_valueOf 145 = .ok (.iconst 1, 1) := by decide +kernel
theorem dX5_valueOf_146 : decode cX5_valueOf 146 = .ok (.if_icmp .le 36, 3) := by decide +kernel
theorem dX5_valueOf_149 : decode cX5_valueOf 149 = .ok (.iinc 5 (-1), 3) := by decide +kernel
theorem dX5_valueOf_152 : decode cX5_valueOf 152 = .ok (.aload_n 0, 1) := by decide +kernel
theorem dX5_valueOf_153 : decode cX5_valueOf 153 = .ok (.getfield 17, 3) := by decide +kernel
theorem dX5_valueOf_156 : decode cX5_valueOf 156 = .ok (.iload 5, 2) := by decide +kernel
theorem dX5_valueOf_158 : decode cX5_valueOf 158 = .ok (.iconst 1, 1) := by decide +kernel
theorem dX5_valueOf_159 : decode cX5_valueOf 159 = .ok (.isub, 1) := by decide +kernel
theorem dX5_valueOf_160 : decode cX5_valueOf 160 = .ok (.iload 7, 2) := by decide +kernel
theorem dX5_valueOf_162 : decode cX5_valueOf 162 = .ok (.aload_n 0, 1) := by decide +kernel
theorem dX5_valueOf_163 : decode cX5_valueOf 163 = .ok (.getfield 17, 3) := by decide +kernel
theorem dX5_valueOf_166 : decode cX5_valueOf 166 = .ok (.iload 5, 2) := by decide +kernel
theorem dX5_valueOf_168 : decode cX5_valueOf 168 = .ok (.iconst 1, 1) := by decide +kernel
theorem dX5_valueOf_169 : decode cX5_valueOf 169 = .ok (.isub, 1) := by decide +kernel
theorem dX5_valueOf_170 : decode cX5_valueOf 170 = .ok (.iaload, 1) := by decide +kernel
theorem dX5_valueOf_171 : decode cX5_valueOf 171 = .ok (.aload_n 0, 1) := by decide +kernel
theorem dX5_valueOf_172 : decode cX5_valueOf 172 = .ok (.getfield 17, 3) := by decide +kernel
theorem dX5_valueOf_175 : decode cX5_valueOf 175 = .ok (.iload 5, 2) := by decide +kernel
theorem dX5_valueOf_177 : decode cX5_valueOf 177 = .ok (.iaload, 1) := by decide +kernel
theorem dX5_valueOf_178 : decode cX5_valueOf 178 = .ok (.invokestatic 98, 3) := by decide +kernel
theorem dX5_valueOf_181 : decode cX5_valueOf 181 = .ok (.iastore, 1) := by decide +kernel
theorem dX5_valueOf_182 : decode cX5_valueOf 182 = .ok (.iinc 6 1, 3) := by decide +kernel
theorem dX5_valueOf_185 : decode cX5_valueOf 185 = .ok (.goto (-150), 3) := by decide +kernel
theorem dX5_valueOf_188 : decode cX5_valueOf 188 = .ok (.aload_n 0, 1) := by decide +kernel
theorem dX5_valueOf_189 : decode cX5_valueOf 189 = .ok (.getfield 17, 3) := by decide +kernel
theorem dX5_valueOf_192 : decode cX5_valueOf 192 = .ok (.iconst 0, 1) := by decide +kernel
theorem dX5_valueOf_193 : decode cX5_valueOf 193 = .ok (.iaload, 1) := by decide +kernel
theorem dX5_valueOf_194 : decode cX5_valueOf 194 = .ok (.ireturn, 1) := by decide +kernel
set_option maxHeartbeats 4000000 in
set_option maxRecDepth 100000 in
theorem B_X5_valueOf {G : zG} {X : zX} {kd : kD} {N0 : Nat} (C : zCt G X 1 0 0 RX5 cX5_valueOf 8) (hr : (zXh X).sig.returnType = (some .int)) : ∀ f : Nat,
    (∀ (S : aS) (v0 : Nat) (v1 : Int32) (v2 : Int32) (v3 : Int32) (v4 : Int32) (res : Option Value × aS), zT0 kd N0 S → v0 < N0 → kd v0 = .inl 4 → F_X5_valueOf f 0 [.ref v0, .int v1, .int v2, .int v3, .int v4] S = some res → zV G X (zQX G X (zPo G kd N0 res) 0 0) 8 [some (.ref (zB G + v0)), some (.int v1), some (.int v2), some (.int v3), some (.int v4), none, none, none] [] (cn G kd N0 S) 0 0 0) ∧
    (∀ (S : aS) (v0 : Nat) (v1 : Int32) (v2 : Int32) (res : Option Value × aS), zT0 kd N0 S → v0 < N0 → kd v0 = .inl 4 → F_X5_valueOf f 1 [.ref v0, .int v1, .int v2] S = some res → zV G X (zQX G X (zPo G kd N0 res) 0 0) 8 [some (.ref (zB G + v0)), none, none, none, none, some (.int v1), some (.int v2), none] [] (cn G kd N0 S) 35 0 0) ∧
    (∀ (S : aS) (v0 : Nat) (v1 : Int32) (v2 : Int32) (res : Option Value × aS), zT0 kd N0 S → v0 < N0 → kd v0 = .inl 4 → F_X5_valueOf f 2 [.ref v0, .int v1, .int v2] S = some res → zV G X (zQX G X (zPo G kd N0 res) 0 0) 8 [some (.ref (zB G + v0)), none, none, none, none, some (.int v1), some (.int v2), none] [] (cn G kd N0 S) 182 0 0) ∧
    (∀ (S : aS) (v0 : Nat) (v1 : Int32) (v2 : Int32) (w0 : Int32) (w1 : Int32) (w2 : Nat) (res : Option Value × aS), zT0 kd N0 S → v0 < N0 → kd v0 = .inl 4 → w2 < N0 → kd w2 = .inr (0, 32) → F_X5_valueOf f 3 [.ref v0, .int v1, .int v2, .int w0, .int w1, .ref w2] S = some res → zV G X (zQX G X (zPo G kd N0 res) 0 0) 8 [some (.ref (zB G + v0)), none, none, none, none, some (.int v1), some (.int v2), none] [.int w0, .int w1, .ref (zB G + w2)] (cn G kd N0 S) 95 0 0) := by
  intro f
  induction f with
  | zero => exact ⟨(fun _ _ _ _ _ _ _ _ _ _ h => by cases h), (fun _ _ _ _ _ _ _ _ h => by cases h), (fun _ _ _ _ _ _ _ _ h => by cases h), (fun _ _ _ _ _ _ _ _ _ _ _ _ _ h => by cases h)⟩
  | succ f ih =>
    obtain ⟨ih0, ih1, ih2, ih3⟩ := ih
    refine ⟨?_, ?_, ?_, ?_⟩
    · intro S v0 v1 v2 v3 v4 res hT hpv0 hkv0 hF
      replace hF : F_X5_valueOf_0 f (F_X5_valueOf f) v0 v1 v2 v3 v4 S = some res := hF
      unfold F_X5_valueOf_0 at hF
      refine z_aload_n C dX5_valueOf_0 rfl ?_
      refine f_getr C dX5_valueOf_1 zfRX5_20 hpv0 hkv0 rfl ?_
      obtain ⟨hp1, hk1⟩ := hT.1 v0 4 3 (.inr (0, 4)) hpv0 hkv0 rfl
      refine z_iconst (v := 0) C dX5_valueOf_4 (by decide) ?_
      refine z_iload_n C dX5_valueOf_5 rfl ?_
      obtain ⟨hi2, hF⟩ := bX_some hF
      obtain ⟨q2, eq2⟩ : ∃ q : Nat, q = Int32.toNatClampNeg 0 := ⟨_, rfl⟩
      rw [← eq2] at hF
      refine f_iast C dX5_valueOf_6 hp1 hk1 hi2 ?_
      rw [← eq2]
      have hT3 : zT0 kd N0 (sI S (gR S v0 3) q2 v1) := zT0_sI hT
      replace hF := fS_e hF
      generalize sI S (gR S v0 3) q2 v1 = S3 at hF hT3 ⊢
      refine z_aload_n C dX5_valueOf_7 rfl ?_
      refine f_getr C dX5_valueOf_8 zfRX5_20 hpv0 hkv0 rfl ?_
      obtain ⟨hp4, hk4⟩ := hT3.1 v0 4 3 (.inr (0, 4)) hpv0 hkv0 rfl
      refine z_iconst (v := 1) C dX5_valueOf_11 (by decide) ?_
      refine z_iload_n C dX5_valueOf_12 rfl ?_
      obtain ⟨hi5, hF⟩ := bX_some hF
      obtain ⟨q5, eq5⟩ : ∃ q : Nat, q = Int32.toNatClampNeg 1 := ⟨_, rfl⟩
      rw [← eq5] at hF
      refine f_iast C dX5_valueOf_13 hp4 hk4 hi5 ?_
      rw [← eq5]
      have hT6 : zT0 kd N0 (sI S3 (gR S3 v0 3) q5 v2) := zT0_sI hT3
      replace hF := fS_e hF
      generalize sI S3 (gR S3 v0 3) q5 v2 = S6 at hF hT6 ⊢
      refine z_aload_n C dX5_valueOf_14 rfl ?_
      refine f_getr C dX5_valueOf_15 zfRX5_20 hpv0 hkv0 rfl ?_
      obtain ⟨hp7, hk7⟩ := hT6.1 v0 4 3 (.inr (0, 4)) hpv0 hkv0 rfl
      refine z_iconst (v := 2) C dX5_valueOf_18 (by decide) ?_
      refine z_iload_n C dX5_valueOf_19 rfl ?_
      obtain ⟨hi8, hF⟩ := bX_some hF
      obtain ⟨q8, eq8⟩ : ∃ q : Nat, q = Int32.toNatClampNeg 2 := ⟨_, rfl⟩
      rw [← eq8] at hF
      refine f_iast C dX5_valueOf_20 hp7 hk7 hi8 ?_
      rw [← eq8]
      have hT9 : zT0 kd N0 (sI S6 (gR S6 v0 3) q8 v3) := zT0_sI hT6
      replace hF := fS_e hF
      generalize sI S6 (gR S6 v0 3) q8 v3 = S9 at hF hT9 ⊢
      refine z_aload_n C dX5_valueOf_21 rfl ?_
      refine f_getr C dX5_valueOf_22 zfRX5_20 hpv0 hkv0 rfl ?_
      obtain ⟨hp10, hk10⟩ := hT9.1 v0 4 3 (.inr (0, 4)) hpv0 hkv0 rfl
      refine z_iconst (v := 3) C dX5_valueOf_25 (by decide) ?_
      refine z_iload C dX5_valueOf_26 rfl ?_
      obtain ⟨hi11, hF⟩ := bX_some hF
      obtain ⟨q11, eq11⟩ : ∃ q : Nat, q = Int32.toNatClampNeg 3 := ⟨_, rfl⟩
      rw [← eq11] at hF
      refine f_iast C dX5_valueOf_28 hp10 hk10 hi11 ?_
      rw [← eq11]
      have hT12 : zT0 kd N0 (sI S9 (gR S9 v0 3) q11 v4) := zT0_sI hT9
      replace hF := fS_e hF
      generalize sI S9 (gR S9 v0 3) q11 v4 = S12 at hF hT12 ⊢
      refine z_iconst (v := 0) C dX5_valueOf_29 (by decide) ?_
      refine z_istore (lv2 := [some (.ref (zB G + v0)), some (.int v1), some (.int v2), some (.int v3), some (.int v4), some (.int 0), none, none]) C dX5_valueOf_30 (by decide) rfl ?_
      refine z_iconst (v := 0) C dX5_valueOf_32 (by decide) ?_
      refine z_istore (lv2 := [some (.ref (zB G + v0)), some (.int v1), some (.int v2), some (.int v3), some (.int v4), some (.int 0), some (.int 0), none]) C dX5_valueOf_33 (by decide) rfl ?_
      refine z_mask [true, false, false, false, false, true, true, true] ?_ rfl
      exact ih1 S12 v0 0 0 res hT12 hpv0 hkv0   hF
    · intro S v0 v1 v2 res hT hpv0 hkv0 hF
      replace hF : F_X5_valueOf_1 f (F_X5_valueOf f) v0 v1 v2 S = some res := hF
      unfold F_X5_valueOf_1 at hF
      refine z_iload C dX5_valueOf_35 rfl ?_
      refine z_aload_n C dX5_valueOf_37 rfl ?_
      refine f_geti C dX5_valueOf_38 zfRX5_23 hpv0 hkv0 rfl ?_
      refine z_icmp_ge C 188 dX5_valueOf_41 (by decide) (fun c15 => ?_) (fun c15 => ?_)
      · replace hF := ip hF c15
        refine z_aload_n C dX5_valueOf_188 rfl ?_
        refine f_getr C dX5_valueOf_189 zfRX5_17 hpv0 hkv0 rfl ?_
        obtain ⟨hp16, hk16⟩ := hT.1 v0 4 2 (.inr (0, 32)) hpv0 hkv0 rfl
        refine z_iconst (v := 0) C dX5_valueOf_192 (by decide) ?_
        obtain ⟨hi17, hF⟩ := bX_some hF
        obtain ⟨q17, eq17⟩ : ∃ q : Nat, q = Int32.toNatClampNeg 0 := ⟨_, rfl⟩
        rw [← eq17] at hF
        refine f_iald C dX5_valueOf_193 hp16 hk16 hi17 ?_
        rw [← eq17]
        cases hF
        exact z_iret C hr dX5_valueOf_194 ⟨rfl, rfl, hT⟩
      · replace hF := im hF c15
        refine z_aload_n C dX5_valueOf_44 rfl ?_
        refine f_getr C dX5_valueOf_45 zfRX5_11 hpv0 hkv0 rfl ?_
        obtain ⟨hp18, hk18⟩ := hT.1 v0 4 0 (.inr (0, 1000)) hpv0 hkv0 rfl
        refine z_iload C dX5_valueOf_48 rfl ?_
        obtain ⟨hi19, hF⟩ := bX_some hF
        obtain ⟨q19, eq19⟩ : ∃ q : Nat, q = Int32.toNatClampNeg v2 := ⟨_, rfl⟩
        rw [← eq19] at hF
        refine f_iald C dX5_valueOf_50 hp18 hk18 hi19 ?_
        rw [← eq19]
        refine z_istore (lv2 := [some (.ref (zB G + v0)), none, none, none, none, some (.int v1), some (.int v2), some (.int (gI S (gR S v0 0) q19))]) C dX5_valueOf_51 (by decide) rfl ?_
        refine z_iload C dX5_valueOf_53 rfl ?_
        refine z_bipush (v := (-5)) C dX5_valueOf_55 (by decide) ?_
        refine z_icmp_le C 102 dX5_valueOf_57 (by decide) (fun c25 => ?_) (fun c25 => ?_)
        · replace hF := ip hF c25
          refine z_iload C dX5_valueOf_102 rfl ?_
          refine z_bipush (v := (-5)) C dX5_valueOf_104 (by decide) ?_
          refine z_icmp_ne C 143 dX5_valueOf_106 (by decide) (fun c30 => ?_) (fun c30 => ?_)
          · replace hF := im hF c30
            refine z_iload C dX5_valueOf_143 rfl ?_
            refine z_iconst (v := 1) C dX5_valueOf_145 (by decide) ?_
            refine z_icmp_le C 182 dX5_valueOf_146 (by decide) (fun c34 => ?_) (fun c34 => ?_)
            · replace hF := ip hF c34
              refine z_mask [true, true, true, true, true, true, true, false] ?_ rfl
              exact ih2 S v0 v1 v2 res hT hpv0 hkv0   hF
            · replace hF := im hF c34
              refine z_iinc (v := v1 + (-1)) (lv2 := [some (.ref (zB G + v0)), none, none, none, none, some (.int (v1 + (-1))), some (.int v2), some (.int (gI S (gR S v0 0) q19))]) C dX5_valueOf_149 rfl (by rw [show Int32.ofInt (-1) = ((-1) : Int32) from by decide]) rfl ?_
              refine z_aload_n C dX5_valueOf_152 rfl ?_
              refine f_getr C dX5_valueOf_153 zfRX5_17 hpv0 hkv0 rfl ?_
              obtain ⟨hp35, hk35⟩ := hT.1 v0 4 2 (.inr (0, 32)) hpv0 hkv0 rfl
              refine z_iload C dX5_valueOf_156 rfl ?_
              refine z_iconst (v := 1) C dX5_valueOf_158 (by decide) ?_
              refine z_isub C dX5_valueOf_159 ?_
              refine z_iload C dX5_valueOf_160 rfl ?_
              refine z_aload_n C dX5_valueOf_162 rfl ?_
              refine f_getr C dX5_valueOf_163 zfRX5_17 hpv0 hkv0 rfl ?_
              obtain ⟨hp36, hk36⟩ := hT.1 v0 4 2 (.inr (0, 32)) hpv0 hkv0 rfl
              refine z_iload C dX5_valueOf_166 rfl ?_
              refine z_iconst (v := 1) C dX5_valueOf_168 (by decide) ?_
              refine z_isub C dX5_valueOf_169 ?_
              obtain ⟨hi37, hF⟩ := bX_some hF
              obtain ⟨q37, eq37⟩ : ∃ q : Nat, q = Int32.toNatClampNeg ((v1 + (-1)) - (1 : Int32)) := ⟨_, rfl⟩
              rw [← eq37] at hF
              refine f_iald C dX5_valueOf_170 hp36 hk36 hi37 ?_
              rw [← eq37]
              refine z_aload_n C dX5_valueOf_171 rfl ?_
              refine f_getr C dX5_valueOf_172 zfRX5_17 hpv0 hkv0 rfl ?_
              obtain ⟨hp38, hk38⟩ := hT.1 v0 4 2 (.inr (0, 32)) hpv0 hkv0 rfl
              refine z_iload C dX5_valueOf_175 rfl ?_
              obtain ⟨hi39, hF⟩ := bX_some hF
              obtain ⟨q39, eq39⟩ : ∃ q : Nat, q = Int32.toNatClampNeg (v1 + (-1)) := ⟨_, rfl⟩
              rw [← eq39] at hF
              refine f_iald C dX5_valueOf_177 hp38 hk38 hi39 ?_
              rw [← eq39]
              obtain ⟨x40, S40, h40, hF⟩ := bI_some hF
              refine f_cS (st2 := [.int x40, .int ((v1 + (-1)) - (1 : Int32)), .ref (zB G + (gR S v0 2))]) C dX5_valueOf_178 zyX5_joined zsX5_joined lkRX5_98 (K_X5_joined (l := zXl X) hT    h40) (by decide) rfl rfl (Nat.le_of_ble_eq_true rfl) rfl (fun hT40 => ?_)
              obtain ⟨hi41, hF⟩ := bX_some hF
              obtain ⟨q41, eq41⟩ : ∃ q : Nat, q = Int32.toNatClampNeg ((v1 + (-1)) - (1 : Int32)) := ⟨_, rfl⟩
              rw [← eq41] at hF
              refine f_iast C dX5_valueOf_181 hp35 hk35 hi41 ?_
              rw [← eq41]
              have hT42 : zT0 kd N0 (sI S40 (gR S v0 2) q41 x40) := zT0_sI hT40
              replace hF := fS_e hF
              generalize sI S40 (gR S v0 2) q41 x40 = S42 at hF hT42 ⊢
              refine z_mask [true, true, true, true, true, true, true, false] ?_ rfl
              exact ih2 S42 v0 (v1 + (-1)) v2 res hT42 hpv0 hkv0   hF
          · replace hF := ip hF c30
            refine z_iload C dX5_valueOf_109 rfl ?_
            refine z_if_le C 182 dX5_valueOf_111 (by decide) (fun c46 => ?_) (fun c46 => ?_)
            · replace hF := ip hF c46
              refine z_mask [true, true, true, true, true, true, true, false] ?_ rfl
              exact ih2 S v0 v1 v2 res hT hpv0 hkv0   hF
            · replace hF := im hF c46
              refine z_aload_n C dX5_valueOf_114 rfl ?_
              refine f_getr C dX5_valueOf_115 zfRX5_17 hpv0 hkv0 rfl ?_
              obtain ⟨hp47, hk47⟩ := hT.1 v0 4 2 (.inr (0, 32)) hpv0 hkv0 rfl
              refine z_iload C dX5_valueOf_118 rfl ?_
              refine z_iconst (v := 1) C dX5_valueOf_120 (by decide) ?_
              refine z_isub C dX5_valueOf_121 ?_
              refine z_aload_n C dX5_valueOf_122 rfl ?_
              refine f_getr C dX5_valueOf_123 zfRX5_17 hpv0 hkv0 rfl ?_
              obtain ⟨hp48, hk48⟩ := hT.1 v0 4 2 (.inr (0, 32)) hpv0 hkv0 rfl
              refine z_iload C dX5_valueOf_126 rfl ?_
              refine z_iconst (v := 1) C dX5_valueOf_128 (by decide) ?_
              refine z_isub C dX5_valueOf_129 ?_
              obtain ⟨hi49, hF⟩ := bX_some hF
              obtain ⟨q49, eq49⟩ : ∃ q : Nat, q = Int32.toNatClampNeg (v1 - (1 : Int32)) := ⟨_, rfl⟩
              rw [← eq49] at hF
              refine f_iald C dX5_valueOf_130 hp48 hk48 hi49 ?_
              rw [← eq49]
              have hJ51 : zV G X (zQX G X (zPo G kd N0 res) 0 0) 8 [some (.ref (zB G + v0)), none, none, none, none, some (.int v1), some (.int v2), some (.int (gI S (gR S v0 0) q19))] [.int (if (gI S (gR S v0 2) q49) = (0 : Int32) then (1 : Int32) else (0 : Int32)), .int (v1 - (1 : Int32)), .ref (zB G + (gR S v0 2))] (cn G kd N0 S) 139 0 0 := by
                obtain ⟨hi52, hF⟩ := bX_some hF
                obtain ⟨q52, eq52⟩ : ∃ q : Nat, q = Int32.toNatClampNeg (v1 - (1 : Int32)) := ⟨_, rfl⟩
                rw [← eq52] at hF
                refine f_iast C dX5_valueOf_139 hp47 hk47 hi52 ?_
                rw [← eq52]
                have hT53 : zT0 kd N0 (sI S (gR S v0 2) q52 (if (gI S (gR S v0 2) q49) = (0 : Int32) then (1 : Int32) else (0 : Int32))) := zT0_sI hT
                replace hF := fS_e hF
                generalize sI S (gR S v0 2) q52 (if (gI S (gR S v0 2) q49) = (0 : Int32) then (1 : Int32) else (0 : Int32)) = S53 at hF hT53 ⊢
                refine z_goto C 182 dX5_valueOf_140 (by decide) ?_
                refine z_mask [true, true, true, true, true, true, true, false] ?_ rfl
                exact ih2 S53 v0 v1 v2 res hT53 hpv0 hkv0   hF
              refine z_if_ne C 138 dX5_valueOf_131 (by decide) (fun c50 => ?_) (fun c50 => ?_)
              · refine z_iconst (v := 0) C dX5_valueOf_138 (by decide) ?_
                exact zV.at hJ51 (by first | rfl | contradiction | (simp only [if_neg c50]; done)) (by first | rfl | contradiction | (simp only [if_neg c50]; done)) rfl rfl
              · refine z_iconst (v := 1) C dX5_valueOf_134 (by decide) ?_
                refine z_goto C 139 dX5_valueOf_135 (by decide) ?_
                exact zV.at hJ51 (by first | rfl | contradiction | (simp only [if_pos c50]; done)) (by first | rfl | contradiction | (simp only [if_pos c50]; done)) rfl rfl
        · replace hF := im hF c25
          refine z_iload C dX5_valueOf_60 rfl ?_
          refine z_aload_n C dX5_valueOf_62 rfl ?_
          refine f_getr C dX5_valueOf_63 zfRX5_17 hpv0 hkv0 rfl ?_
          obtain ⟨hp54, hk54⟩ := hT.1 v0 4 2 (.inr (0, 32)) hpv0 hkv0 rfl
          refine f_alen (v := 32) C dX5_valueOf_66 hp54 hk54 rfl (by decide) ?_
          refine z_icmp_ge C 182 dX5_valueOf_67 (by decide) (fun c59 => ?_) (fun c59 => ?_)
          · replace hF := ip hF c59
            refine z_mask [true, true, true, true, true, true, true, false] ?_ rfl
            exact ih2 S v0 v1 v2 res hT hpv0 hkv0   hF
          · replace hF := im hF c59
            refine z_aload_n C dX5_valueOf_70 rfl ?_
            refine f_getr C dX5_valueOf_71 zfRX5_17 hpv0 hkv0 rfl ?_
            obtain ⟨hp60, hk60⟩ := hT.1 v0 4 2 (.inr (0, 32)) hpv0 hkv0 rfl
            refine z_iload C dX5_valueOf_74 rfl ?_
            refine z_iload C dX5_valueOf_76 rfl ?_
            refine z_if_lt C 86 dX5_valueOf_78 (by decide) (fun c63 => ?_) (fun c63 => ?_)
            · replace hF := ip hF c63
              refine z_aload_n C dX5_valueOf_86 rfl ?_
              refine f_getr C dX5_valueOf_87 zfRX5_20 hpv0 hkv0 rfl ?_
              obtain ⟨hp64, hk64⟩ := hT.1 v0 4 3 (.inr (0, 4)) hpv0 hkv0 rfl
              refine z_iconst (v := (-1)) C dX5_valueOf_90 (by decide) ?_
              refine z_iload C dX5_valueOf_91 rfl ?_
              refine z_isub C dX5_valueOf_93 ?_
              obtain ⟨hi65, hF⟩ := bX_some hF
              obtain ⟨q65, eq65⟩ : ∃ q : Nat, q = Int32.toNatClampNeg ((-1 : Int32) - (gI S (gR S v0 0) q19)) := ⟨_, rfl⟩
              rw [← eq65] at hF
              refine f_iald C dX5_valueOf_94 hp64 hk64 hi65 ?_
              rw [← eq65]
              refine z_mask [true, true, true, true, true, true, true, false] ?_ rfl
              exact ih3 S v0 v1 v2 (gI S (gR S v0 3) q65) v1 (gR S v0 2) res hT hpv0 hkv0     hp60 hk60 hF
            · replace hF := im hF c63
              refine z_iload C dX5_valueOf_81 rfl ?_
              refine z_goto C 95 dX5_valueOf_83 (by decide) ?_
              refine z_mask [true, true, true, true, true, true, true, false] ?_ rfl
              exact ih3 S v0 v1 v2 (gI S (gR S v0 0) q19) v1 (gR S v0 2) res hT hpv0 hkv0     hp60 hk60 hF
    · intro S v0 v1 v2 res hT hpv0 hkv0 hF
      replace hF : F_X5_valueOf_2 f (F_X5_valueOf f) v0 v1 v2 S = some res := hF
      unfold F_X5_valueOf_2 at hF
      refine z_iinc (v := v2 + 1) (lv2 := [some (.ref (zB G + v0)), none, none, none, none, some (.int v1), some (.int (v2 + 1)), none]) C dX5_valueOf_182 rfl (by rw [show Int32.ofInt 1 = (1 : Int32) from by decide]) rfl ?_
      refine z_goto C 35 dX5_valueOf_185 (by decide) ?_
      exact ih1 S v0 v1 (v2 + 1) res hT hpv0 hkv0   hF
    · intro S v0 v1 v2 w0 w1 w2 res hT hpv0 hkv0 hpw2 hkw2 hF
      replace hF : F_X5_valueOf_3 f (F_X5_valueOf f) v0 v1 v2 w0 w1 w2 S = some res := hF
      unfold F_X5_valueOf_3 at hF
      obtain ⟨hi66, hF⟩ := bX_some hF
      obtain ⟨q66, eq66⟩ : ∃ q : Nat, q = Int32.toNatClampNeg w1 := ⟨_, rfl⟩
      rw [← eq66] at hF
      refine f_iast C dX5_valueOf_95 hpw2 hkw2 hi66 ?_
      rw [← eq66]
      have hT67 : zT0 kd N0 (sI S w2 q66 w0) := zT0_sI hT
      replace hF := fS_e hF
      generalize sI S w2 q66 w0 = S67 at hF hT67 ⊢
      refine z_iinc (v := v1 + 1) (lv2 := [some (.ref (zB G + v0)), none, none, none, none, some (.int (v1 + 1)), some (.int v2), none]) C dX5_valueOf_96 rfl (by rw [show Int32.ofInt 1 = (1 : Int32) from by decide]) rfl ?_
      refine z_goto C 182 dX5_valueOf_99 (by decide) ?_
      exact ih2 S67 v0 (v1 + 1) v2 res hT67 hpv0 hkv0   hF
theorem K_X5_valueOf {G : zG} {l : Launch} {kd : kD} {N0 f : Nat} {S : aS} {v0 : Nat} {v1 : Int32} {v2 : Int32} {v3 : Int32} {v4 : Int32} {res : Option Value × aS} (hT : zT0 kd N0 S) (hpv0 : v0 < N0) (hkv0 : kd v0 = .inl 4) (hF : F_X5_valueOf f 0 [.ref v0, .int v1, .int v2, .int v3, .int v4] S = some res) : zM G l 1 0 0 yX5_valueOf cX5_valueOf 8 (some .int) [.ref (zB G + v0), .int v1, .int v2, .int v3, .int v4] (cn G kd N0 S) (zPo G kd N0 res) := zM.of (by decide) rfl (Nat.le_of_ble_eq_true rfl) (fun X _ C hr _ => (B_X5_valueOf C hr f).1 S v0 v1 v2 v3 v4 res hT hpv0 hkv0 hF)
def F_X6_takenBy_0 (f : Nat) (rc : Nat → List Value → aS → aR) (v0 : Nat) (v1 : Int32) (v2 : Nat) (S : aS) : aR :=
  bI (F_X5_isTold f 0 [.ref (gR S v0 13)] S) fun x2 S2 => if x2 = (0 : Int32) then bX v1 6 fun q13 => some (some (.int (gI S2 (gR S2 v0 5) q13)), S2) else bI (F_X4_total f 0 [.ref v2] S2) fun x5 S5 => bI (F_X4_yardsToOpen f 0 [.ref v2, .int 0] S5) fun x6 S6 => bX v1 6 fun q8 => bX v1 6 fun q10 => bI (F_X5_valueOf f 0 [.ref (gR S2 v0 13), .int x5, .int x6, .int (gI S6 (gR S6 v0 5) q8), .int (gI S6 (gR S6 v0 4) q10)] S6) fun x11 S11 => some (some (.int (if (0 : Int32) < (if x11 < (9 : Int32) then x11 else (9 : Int32)) then (if x11 < (9 : Int32) then x11 else (9 : Int32)) else (0 : Int32))), S11)
def F_X6_takenBy : Nat → Nat → List Value → aS → aR
  | 0, _, _, _ => none
  | f + 1, 0, vs, S => F_X6_takenBy_0 f (F_X6_takenBy f) (vR vs 0) (vI vs 1) (vR vs 2) S
  | _ + 1, _, _, _ => none
theorem dX6_takenBy_0 : decode cX6_takenBy 0 = .ok (.aload_n 0, 1) := by decide +kernel
theorem dX6_takenBy_1 : decode cX6_takenBy 1 = .ok (.getfield 48, 3) := by decide +kernel
theorem dX6_takenBy_4 : decode cX6_takenBy 4 = .ok (.invokevirtual 219, 3) := by decide +kernel
theorem dX6_takenBy_7 : decode cX6_takenBy 7 = .ok (.ifCond .ne 10, 3) := by decide +kernel
theorem dX6_takenBy_10 : decode cX6_takenBy 10 = .ok (.aload_n 0, 1) := by decide +kernel
theorem dX6_takenBy_11 : decode cX6_takenBy 11 = .ok (.getfield 26, 3) := by decide +kernel
theorem dX6_takenBy_14 : decode cX6_takenBy 14 = .ok (.iload_n 1, 1) := by decide +kernel
theorem dX6_takenBy_15 : decode cX6_takenBy 15 = .ok (.iaload, 1) := by decide +kernel
theorem dX6_takenBy_16 : decode cX6_takenBy 16 = .ok (.ireturn, 1) := by decide +kernel
theorem dX6_takenBy_17 : decode cX6_takenBy 17 = .ok (.aload_n 0, 1) := by decide +kernel
theorem dX6_takenBy_18 : decode cX6_takenBy 18 = .ok (.getfield 48, 3) := by decide +kernel
theorem dX6_takenBy_21 : decode cX6_takenBy 21 = .ok (.aload_n 2, 1) := by decide +kernel
theorem dX6_takenBy_22 : decode cX6_takenBy 22 = .ok (.invokevirtual 222, 3) := by decide +kernel
theorem dX6_takenBy_25 : decode cX6_takenBy 25 = .ok (.aload_n 2, 1) := by decide +kernel
theorem dX6_takenBy_26 : decode cX6_takenBy 26 = .ok (.iconst 0, 1) := by decide +kernel
theorem dX6_takenBy_27 : decode cX6_takenBy 27 = .ok (.invokevirtual 227, 3) := by decide +kernel
theorem dX6_takenBy_30 : decode cX6_takenBy 30 = .ok (.aload_n 0, 1) := by decide +kernel
theorem dX6_takenBy_31 : decode cX6_takenBy 31 = .ok (.getfield 26, 3) := by decide +kernel
theorem dX6_takenBy_34 : decode cX6_takenBy 34 = .ok (.iload_n 1, 1) := by decide +kernel
theorem dX6_takenBy_35 : decode cX6_takenBy 35 = .ok (.iaload, 1) := by decide +kernel
theorem dX6_takenBy_36 : decode cX6_takenBy 36 = .ok (.aload_n 0, 1) := by decide +kernel
theorem dX6_takenBy_37 : decode cX6_takenBy 37 = .ok (.getfield 23, 3) := by decide +kernel
theorem dX6_takenBy_40 : decode cX6_takenBy 40 = .ok (.iload_n 1, 1) := by decide +kernel
theorem dX6_takenBy_41 : decode cX6_takenBy 41 = .ok (.iaload, 1) := by decide +kernel
theorem dX6_takenBy_42 : decode cX6_takenBy 42 = .ok (.invokevirtual 231, 3) := by decide +kernel
theorem dX6_takenBy_45 : decode cX6_takenBy 45 = .ok (.istore_n 3, 1) := by decide +kernel
theorem dX6_takenBy_46 : decode cX6_takenBy 46 = .ok (.iconst 0, 1) := by decide +kernel
theorem dX6_takenBy_47 : decode cX6_takenBy 47 = .ok (.bipush 9, 2) := by decide +kernel
theorem dX6_takenBy_49 : decode cX6_takenBy 49 = .ok (.iload_n 3, 1) := by decide +kernel
theorem dX6_takenBy_50 : decode cX6_takenBy 50 = .ok (.invokestatic 235, 3) := by decide +kernel
theorem dX6_takenBy_53 : decode cX6_takenBy 53 = .ok (.invokestatic 241, 3) := by decide +kernel
theorem dX6_takenBy_56 : decode cX6_takenBy 56 = .ok (.ireturn, 1) := by decide +kernel
set_option maxHeartbeats 4000000 in
set_option maxRecDepth 100000 in
theorem B_X6_takenBy {G : zG} {X : zX} {kd : kD} {N0 : Nat} (C : zCt G X 2 0 0 RX6 cX6_takenBy 4) (hr : (zXh X).sig.returnType = (some .int)) : ∀ f : Nat,
    (∀ (S : aS) (v0 : Nat) (v1 : Int32) (v2 : Nat) (res : Option Value × aS), zT0 kd N0 S → v0 < N0 → kd v0 = .inl 5 → v2 < N0 → kd v2 = .inl 3 → F_X6_takenBy f 0 [.ref v0, .int v1, .ref v2] S = some res → zV G X (zQX G X (zPo G kd N0 res) 0 0) 4 [some (.ref (zB G + v0)), some (.int v1), some (.ref (zB G + v2)), none] [] (cn G kd N0 S) 0 0 0) := by
  intro f
  induction f with
  | zero => exact (fun _ _ _ _ _ _ _ _ _ _ h => by cases h)
  | succ f ih =>
    have ih0 := ih
    intro S v0 v1 v2 res hT hpv0 hkv0 hpv2 hkv2 hF
    replace hF : F_X6_takenBy_0 f (F_X6_takenBy f) v0 v1 v2 S = some res := hF
    unfold F_X6_takenBy_0 at hF
    refine z_aload_n C dX6_takenBy_0 rfl ?_
    refine f_getr C dX6_takenBy_1 zfRX6_48 hpv0 hkv0 rfl ?_
    obtain ⟨hp1, hk1⟩ := hT.1 v0 5 13 (.inl 4) hpv0 hkv0 rfl
    obtain ⟨x2, S2, h2, hF⟩ := bI_some hF
    refine f_cV (st2 := [.int x2]) C dX6_takenBy_4 zyX5_isTold zvX5_isTold lkRX6_219 (K_X5_isTold (l := zXl X) hT hp1 hk1 h2) hp1 hk1 rfl (by decide) rfl rfl (Nat.le_of_ble_eq_true rfl) rfl (fun hT2 => ?_)
    refine z_if_ne C 17 dX6_takenBy_7 (by decide) (fun c3 => ?_) (fun c3 => ?_)
    · replace hF := im hF c3
      refine z_aload_n C dX6_takenBy_17 rfl ?_
      refine f_getr C dX6_takenBy_18 zfRX6_48 hpv0 hkv0 rfl ?_
      obtain ⟨hp4, hk4⟩ := hT2.1 v0 5 13 (.inl 4) hpv0 hkv0 rfl
      refine z_aload_n C dX6_takenBy_21 rfl ?_
      obtain ⟨x5, S5, h5, hF⟩ := bI_some hF
      refine f_cV (st2 := [.int x5, .ref (zB G + (gR S2 v0 13))]) C dX6_takenBy_22 zyX4_total zvX4_total lkRX6_222 (K_X4_total (l := zXl X) hT2 hpv2 hkv2 h5) hpv2 hkv2 rfl (by decide) rfl rfl (Nat.le_of_ble_eq_true rfl) rfl (fun hT5 => ?_)
      refine z_aload_n C dX6_takenBy_25 rfl ?_
      refine z_iconst (v := 0) C dX6_takenBy_26 (by decide) ?_
      obtain ⟨x6, S6, h6, hF⟩ := bI_some hF
      refine f_cV (st2 := [.int x6, .int x5, .ref (zB G + (gR S2 v0 13))]) C dX6_takenBy_27 zyX4_yardsToOpen zvX4_yardsToOpen lkRX6_227 (K_X4_yardsToOpen (l := zXl X) hT5 hpv2 hkv2  h6) hpv2 hkv2 rfl (by decide) rfl rfl (Nat.le_of_ble_eq_true rfl) rfl (fun hT6 => ?_)
      refine z_aload_n C dX6_takenBy_30 rfl ?_
      refine f_getr C dX6_takenBy_31 zfRX6_26 hpv0 hkv0 rfl ?_
      obtain ⟨hp7, hk7⟩ := hT6.1 v0 5 5 (.inr (0, 6)) hpv0 hkv0 rfl
      refine z_iload_n C dX6_takenBy_34 rfl ?_
      obtain ⟨hi8, hF⟩ := bX_some hF
      obtain ⟨q8, eq8⟩ : ∃ q : Nat, q = Int32.toNatClampNeg v1 := ⟨_, rfl⟩
      rw [← eq8] at hF
      refine f_iald C dX6_takenBy_35 hp7 hk7 hi8 ?_
      rw [← eq8]
      refine z_aload_n C dX6_takenBy_36 rfl ?_
      refine f_getr C dX6_takenBy_37 zfRX6_23 hpv0 hkv0 rfl ?_
      obtain ⟨hp9, hk9⟩ := hT6.1 v0 5 4 (.inr (0, 6)) hpv0 hkv0 rfl
      refine z_iload_n C dX6_takenBy_40 rfl ?_
      obtain ⟨hi10, hF⟩ := bX_some hF
      obtain ⟨q10, eq10⟩ : ∃ q : Nat, q = Int32.toNatClampNeg v1 := ⟨_, rfl⟩
      rw [← eq10] at hF
      refine f_iald C dX6_takenBy_41 hp9 hk9 hi10 ?_
      rw [← eq10]
      obtain ⟨x11, S11, h11, hF⟩ := bI_some hF
      refine f_cV (st2 := [.int x11]) C dX6_takenBy_42 zyX5_valueOf zvX5_valueOf lkRX6_231 (K_X5_valueOf (l := zXl X) hT6 hp4 hk4     h11) hp4 hk4 rfl (by decide) rfl rfl (Nat.le_of_ble_eq_true rfl) rfl (fun hT11 => ?_)
      refine z_istore_n (lv2 := [some (.ref (zB G + v0)), some (.int v1), some (.ref (zB G + v2)), some (.int x11)]) C dX6_takenBy_45 (by decide) rfl ?_
      refine z_iconst (v := 0) C dX6_takenBy_46 (by decide) ?_
      refine z_bipush (v := 9) C dX6_takenBy_47 (by decide) ?_
      refine z_iload_n C dX6_takenBy_49 rfl ?_
      refine f_mmin C dX6_takenBy_50 lkRX6_235 (by decide) (Nat.le_of_ble_eq_true rfl) ?_
      refine f_mmax C dX6_takenBy_53 lkRX6_241 (by decide) (Nat.le_of_ble_eq_true rfl) ?_
      cases hF
      exact z_iret C hr dX6_takenBy_56 ⟨rfl, rfl, hT11⟩
    · replace hF := ip hF c3
      refine z_aload_n C dX6_takenBy_10 rfl ?_
      refine f_getr C dX6_takenBy_11 zfRX6_26 hpv0 hkv0 rfl ?_
      obtain ⟨hp12, hk12⟩ := hT2.1 v0 5 5 (.inr (0, 6)) hpv0 hkv0 rfl
      refine z_iload_n C dX6_takenBy_14 rfl ?_
      obtain ⟨hi13, hF⟩ := bX_some hF
      obtain ⟨q13, eq13⟩ : ∃ q : Nat, q = Int32.toNatClampNeg v1 := ⟨_, rfl⟩
      rw [← eq13] at hF
      refine f_iald C dX6_takenBy_15 hp12 hk12 hi13 ?_
      rw [← eq13]
      cases hF
      exact z_iret C hr dX6_takenBy_16 ⟨rfl, rfl, hT2⟩
theorem K_X6_takenBy {G : zG} {l : Launch} {kd : kD} {N0 f : Nat} {S : aS} {v0 : Nat} {v1 : Int32} {v2 : Nat} {res : Option Value × aS} (hT : zT0 kd N0 S) (hpv0 : v0 < N0) (hkv0 : kd v0 = .inl 5) (hpv2 : v2 < N0) (hkv2 : kd v2 = .inl 3) (hF : F_X6_takenBy f 0 [.ref v0, .int v1, .ref v2] S = some res) : zM G l 2 0 0 yX6_takenBy cX6_takenBy 4 (some .int) [.ref (zB G + v0), .int v1, .ref (zB G + v2)] (cn G kd N0 S) (zPo G kd N0 res) := zM.of (by decide) rfl (Nat.le_of_ble_eq_true rfl) (fun X _ C hr _ => (B_X6_takenBy C hr f) S v0 v1 v2 res hT hpv0 hkv0 hpv2 hkv2 hF)

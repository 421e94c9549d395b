def F_X1_clear_0 (f : Nat) (rc : Nat → List Value → aS → aR) (v0 : Nat) (S : aS) : aR :=
  fS (sI S v0 3 0) fun S1 => some (none, S1)
def F_X1_clear : Nat → Nat → List Value → aS → aR
  | 0, _, _, _ => none
  | f + 1, 0, vs, S => F_X1_clear_0 f (F_X1_clear f) (vR vs 0) S
  | _ + 1, _, _, _ => none
theorem dX1_clear_0 : decode cX1_clear 0 = .ok (.aload_n 0, 1) := by decide +kernel
theorem dX1_clear_1 : decode cX1_clear 1 = .ok (.iconst 0, 1) := by decide +kernel
theorem dX1_clear_2 : decode cX1_clear 2 = .ok (.putfield 21, 3) := by decide +kernel
theorem dX1_clear_5 : decode cX1_clear 5 = .ok (.return_, 1) := by decide +kernel
set_option maxHeartbeats 4000000 in
set_option maxRecDepth 100000 in
theorem B_X1_clear {G : zG} {X : zX} {kd : kD} {N0 : Nat} (C : zCt G X 0 0 0 RX1 cX1_clear 1) (hr : (zXh X).sig.returnType = none) : ∀ f : Nat,
    (∀ (S : aS) (v0 : Nat) (res : Option Value × aS), zT0 kd N0 S → v0 < N0 → kd v0 = .inl 0 → F_X1_clear f 0 [.ref v0] S = some res → zV G X (zQX G X (zPo G kd N0 res) 0 0) 1 [some (.ref (zB G + v0))] [] (cn G kd N0 S) 0 0 0) := by
  intro f
  induction f with
  | zero => exact (fun _ _ _ _ _ _ h => by cases h)
  | succ f ih =>
    have ih0 := ih
    intro S v0 res hT hpv0 hkv0 hF
    replace hF : F_X1_clear_0 f (F_X1_clear f) v0 S = some res := hF
    unfold F_X1_clear_0 at hF
    refine z_aload_n C dX1_clear_0 rfl ?_
    refine z_iconst (v := 0) C dX1_clear_1 (by decide) ?_
    refine f_puti C dX1_clear_2 zfRX1_21 fw0_3 hpv0 hkv0 rfl rfl rfl ?_
    have hT1 : zT0 kd N0 (sI S v0 3 0) := zT0_sI hT
    replace hF := fS_e hF
    generalize sI S v0 3 0 = S1 at hF hT1 ⊢
    cases hF
    exact z_vret C hr dX1_clear_5 ⟨rfl, rfl, hT1⟩
theorem K_X1_clear {G : zG} {l : Launch} {kd : kD} {N0 f : Nat} {S : aS} {v0 : Nat} {res : Option Value × aS} (hT : zT0 kd N0 S) (hpv0 : v0 < N0) (hkv0 : kd v0 = .inl 0) (hF : F_X1_clear f 0 [.ref v0] S = some res) : zM G l 0 0 0 yX1_clear cX1_clear 1 none [.ref (zB G + v0)] (cn G kd N0 S) (zPo G kd N0 res) := zM.of (by decide) rfl (Nat.le_of_ble_eq_true rfl) (fun X _ C hr _ => (B_X1_clear C hr f) S v0 res hT hpv0 hkv0 hF)
def F_X1_isAct_0 (f : Nat) (rc : Nat → List Value → aS → aR) (v0 : Nat) (S : aS) : aR :=
  bZ (if v0 = 14 then (1 : Int32) else if v0 = 15 then (1 : Int32) else if v0 = 16 then (1 : Int32) else if v0 = 17 then (1 : Int32) else if v0 = 18 then (1 : Int32) else if v0 = 19 then (1 : Int32) else (0 : Int32)) (some (some (.int (if v0 = 14 then (1 : Int32) else if v0 = 15 then (1 : Int32) else if v0 = 16 then (1 : Int32) else if v0 = 17 then (1 : Int32) else if v0 = 18 then (1 : Int32) else if v0 = 19 then (1 : Int32) else (0 : Int32))), S))
def F_X1_isAct : Nat → Nat → List Value → aS → aR
  | 0, _, _, _ => none
  | f + 1, 0, vs, S => F_X1_isAct_0 f (F_X1_isAct f) (vR vs 0) S
  | _ + 1, _, _, _ => none
theorem dX1_isAct_0 : decode cX1_isAct 0 = .ok (.aload_n 0, 1) := by decide +kernel
theorem dX1_isAct_1 : decode cX1_isAct 1 = .ok (.getstatic 69, 3) := by decide +kernel
theorem dX1_isAct_4 : decode cX1_isAct 4 = .ok (.if_acmp .eq 38, 3) := by decide +kernel
theorem dX1_isAct_7 : decode cX1_isAct 7 = .ok (.aload_n 0, 1) := by decide +kernel
theorem dX1_isAct_8 : decode cX1_isAct 8 = .ok (.getstatic 72, 3) := by decide +kernel
theorem dX1_isAct_11 : decode cX1_isAct 11 = .ok (.if_acmp .eq 31, 3) := by decide +kernel
theorem dX1_isAct_14 : decode cX1_isAct 14 = .ok (.aload_n 0, 1) := by decide +kernel
theorem dX1_isAct_15 : decode cX1_isAct 15 = .ok (.getstatic 75, 3) := by decide +kernel
theorem dX1_isAct_18 : decode cX1_isAct 18 = .ok (.if_acmp .eq 24, 3) := by decide +kernel
theorem dX1_isAct_21 : decode cX1_isAct 21 = .ok (.aload_n 0, 1) := by decide +kernel
theorem dX1_isAct_22 : decode cX1_isAct 22 = .ok (.getstatic 78, 3) := by decide +kernel
theorem dX1_isAct_25 : decode cX1_isAct 25 = .ok (.if_acmp .eq 17, 3) := by decide +kernel
theorem dX1_isAct_28 : decode cX1_isAct 28 = .ok (.aload_n 0, 1) := by decide +kernel
theorem dX1_isAct_29 : decode cX1_isAct 29 = .ok (.getstatic 81, 3) := by decide +kernel
theorem dX1_isAct_32 : decode cX1_isAct 32 = .ok (.if_acmp .eq 10, 3) := by decide +kernel
theorem dX1_isAct_35 : decode cX1_isAct 35 = .ok (.aload_n 0, 1) := by decide +kernel
theorem dX1_isAct_36 : decode cX1_isAct 36 = .ok (.getstatic 84, 3) := by decide +kernel
theorem dX1_isAct_39 : decode cX1_isAct 39 = .ok (.if_acmp .ne 7, 3) := by decide +kernel
theorem dX1_isAct_42 : decode cX1_isAct 42 = .ok (.iconst 1, 1) := by decide +kernel
theorem dX1_isAct_43 : decode cX1_isAct 43 = .ok (.goto 4, 3) := by decide +kernel
theorem dX1_isAct_46 : decode cX1_isAct 46 = .ok (.iconst 0, 1) := by decide +kernel
theorem dX1_isAct_47 : decode cX1_isAct 47 = .ok (.ireturn, 1) := by decide +kernel
set_option maxHeartbeats 4000000 in
set_option maxRecDepth 100000 in
theorem B_X1_isAct {G : zG} {X : zX} {kd : kD} {N0 : Nat} (C : zCt G X 0 0 0 RX1 cX1_isAct 1) (hr : (zXh X).sig.returnType = (some .boolean)) : ∀ f : Nat,
    (∀ (S : aS) (v0 : Nat) (res : Option Value × aS), zT0 kd N0 S → v0 < 31 → F_X1_isAct f 0 [.ref v0] S = some res → zV G X (zQX G X (zPo G kd N0 res) 0 0) 1 [some (.ref (zC G v0))] [] (cn G kd N0 S) 0 0 0) := by
  intro f
  induction f with
  | zero => exact (fun _ _ _ _ _ h => by cases h)
  | succ f ih =>
    have ih0 := ih
    intro S v0 res hT hwv0 hF
    replace hF : F_X1_isAct_0 f (F_X1_isAct f) v0 S = some res := hF
    unfold F_X1_isAct_0 at hF
    refine z_aload_n C dX1_isAct_0 rfl ?_
    refine f_gets C dX1_isAct_1 fkRX1_69 (C.2.2.2.2.2.1.2.2.1 14 (by decide)).1 ?_
    have hJ7 : zV G X (zQX G X (zPo G kd N0 res) 0 0) 1 [some (.ref (zC G v0))] [.int (if v0 = 14 then (1 : Int32) else if v0 = 15 then (1 : Int32) else if v0 = 16 then (1 : Int32) else if v0 = 17 then (1 : Int32) else if v0 = 18 then (1 : Int32) else if v0 = 19 then (1 : Int32) else (0 : Int32))] (cn G kd N0 S) 47 0 0 := by
      obtain ⟨hz, hF⟩ := bZ_some hF
      cases hF
      exact z_zret C hr hz.1 dX1_isAct_47 ⟨rfl, rfl, hT⟩
    refine z_acmp_eq C 42 dX1_isAct_4 (by decide) (fun c1 => ?_) (fun c1 => ?_)
    · replace c1 := C.2.2.2.2.2.1.2.2.2.1 v0 14 hwv0 (by decide) c1
      refine z_iconst (v := 1) C dX1_isAct_42 (by decide) ?_
      refine z_goto C 47 dX1_isAct_43 (by decide) ?_
      exact zV.at hJ7 (by first | rfl | contradiction | (simp only [if_pos c1]; done)) (by first | rfl | contradiction | (simp only [if_pos c1]; done)) rfl rfl
    · replace c1 : ¬ v0 = 14 := fun e => c1 (by rw [e])
      refine z_aload_n C dX1_isAct_7 rfl ?_
      refine f_gets C dX1_isAct_8 fkRX1_72 (C.2.2.2.2.2.1.2.2.1 15 (by decide)).1 ?_
      refine z_acmp_eq C 42 dX1_isAct_11 (by decide) (fun c2 => ?_) (fun c2 => ?_)
      · replace c2 := C.2.2.2.2.2.1.2.2.2.1 v0 15 hwv0 (by decide) c2
        refine z_iconst (v := 1) C dX1_isAct_42 (by decide) ?_
        refine z_goto C 47 dX1_isAct_43 (by decide) ?_
        exact zV.at hJ7 (by first | rfl | contradiction | (simp only [if_neg c1, if_pos c2]; done)) (by first | rfl | contradiction | (simp only [if_neg c1, if_pos c2]; done)) rfl rfl
      · replace c2 : ¬ v0 = 15 := fun e => c2 (by rw [e])
        refine z_aload_n C dX1_isAct_14 rfl ?_
        refine f_gets C dX1_isAct_15 fkRX1_75 (C.2.2.2.2.2.1.2.2.1 16 (by decide)).1 ?_
        refine z_acmp_eq C 42 dX1_isAct_18 (by decide) (fun c3 => ?_) (fun c3 => ?_)
        · replace c3 := C.2.2.2.2.2.1.2.2.2.1 v0 16 hwv0 (by decide) c3
          refine z_iconst (v := 1) C dX1_isAct_42 (by decide) ?_
          refine z_goto C 47 dX1_isAct_43 (by decide) ?_
          exact zV.at hJ7 (by first | rfl | contradiction | (simp only [if_neg c1, if_neg c2, if_pos c3]; done)) (by first | rfl | contradiction | (simp only [if_neg c1, if_neg c2, if_pos c3]; done)) rfl rfl
        · replace c3 : ¬ v0 = 16 := fun e => c3 (by rw [e])
          refine z_aload_n C dX1_isAct_21 rfl ?_
          refine f_gets C dX1_isAct_22 fkRX1_78 (C.2.2.2.2.2.1.2.2.1 17 (by decide)).1 ?_
          refine z_acmp_eq C 42 dX1_isAct_25 (by decide) (fun c4 => ?_) (fun c4 => ?_)
          · replace c4 := C.2.2.2.2.2.1.2.2.2.1 v0 17 hwv0 (by decide) c4
            refine z_iconst (v := 1) C dX1_isAct_42 (by decide) ?_
            refine z_goto C 47 dX1_isAct_43 (by decide) ?_
            exact zV.at hJ7 (by first | rfl | contradiction | (simp only [if_neg c1, if_neg c2, if_neg c3, if_pos c4]; done)) (by first | rfl | contradiction | (simp only [if_neg c1, if_neg c2, if_neg c3, if_pos c4]; done)) rfl rfl
          · replace c4 : ¬ v0 = 17 := fun e => c4 (by rw [e])
            refine z_aload_n C dX1_isAct_28 rfl ?_
            refine f_gets C dX1_isAct_29 fkRX1_81 (C.2.2.2.2.2.1.2.2.1 18 (by decide)).1 ?_
            refine z_acmp_eq C 42 dX1_isAct_32 (by decide) (fun c5 => ?_) (fun c5 => ?_)
            · replace c5 := C.2.2.2.2.2.1.2.2.2.1 v0 18 hwv0 (by decide) c5
              refine z_iconst (v := 1) C dX1_isAct_42 (by decide) ?_
              refine z_goto C 47 dX1_isAct_43 (by decide) ?_
              exact zV.at hJ7 (by first | rfl | contradiction | (simp only [if_neg c1, if_neg c2, if_neg c3, if_neg c4, if_pos c5]; done)) (by first | rfl | contradiction | (simp only [if_neg c1, if_neg c2, if_neg c3, if_neg c4, if_pos c5]; done)) rfl rfl
            · replace c5 : ¬ v0 = 18 := fun e => c5 (by rw [e])
              refine z_aload_n C dX1_isAct_35 rfl ?_
              refine f_gets C dX1_isAct_36 fkRX1_84 (C.2.2.2.2.2.1.2.2.1 19 (by decide)).1 ?_
              refine z_acmp_ne C 46 dX1_isAct_39 (by decide) (fun c6 => ?_) (fun c6 => ?_)
              · replace c6 : ¬ v0 = 19 := fun e => c6 (by rw [e])
                refine z_iconst (v := 0) C dX1_isAct_46 (by decide) ?_
                exact zV.at hJ7 (by first | rfl | contradiction | (simp only [if_neg c1, if_neg c2, if_neg c3, if_neg c4, if_neg c5, if_neg c6]; done)) (by first | rfl | contradiction | (simp only [if_neg c1, if_neg c2, if_neg c3, if_neg c4, if_neg c5, if_neg c6]; done)) rfl rfl
              · replace c6 := C.2.2.2.2.2.1.2.2.2.1 v0 19 hwv0 (by decide) c6
                refine z_iconst (v := 1) C dX1_isAct_42 (by decide) ?_
                refine z_goto C 47 dX1_isAct_43 (by decide) ?_
                exact zV.at hJ7 (by first | rfl | contradiction | (simp only [if_neg c1, if_neg c2, if_neg c3, if_neg c4, if_neg c5, if_pos c6]; done)) (by first | rfl | contradiction | (simp only [if_neg c1, if_neg c2, if_neg c3, if_neg c4, if_neg c5, if_pos c6]; done)) rfl rfl
theorem K_X1_isAct {G : zG} {l : Launch} {kd : kD} {N0 f : Nat} {S : aS} {v0 : Nat} {res : Option Value × aS} (hT : zT0 kd N0 S) (hwv0 : v0 < 31) (hF : F_X1_isAct f 0 [.ref v0] S = some res) : zM G l 0 0 0 yX1_isAct cX1_isAct 1 (some .boolean) [.ref (zC G v0)] (cn G kd N0 S) (zPo G kd N0 res) := zM.of (by decide) rfl (Nat.le_of_ble_eq_true rfl) (fun X _ C hr _ => (B_X1_isAct C hr f) S v0 res hT hwv0 hF)
def F_X2_clear_0 (f : Nat) (rc : Nat → List Value → aS → aR) (v0 : Nat) (S : aS) : aR :=
  fS (sI S v0 1 0) fun S1 => some (none, S1)
def F_X2_clear : Nat → Nat → List Value → aS → aR
  | 0, _, _, _ => none
  | f + 1, 0, vs, S => F_X2_clear_0 f (F_X2_clear f) (vR vs 0) S
  | _ + 1, _, _, _ => none
theorem dX2_clear_0 : decode cX2_clear 0 = .ok (.aload_n 0, 1) := by decide +kernel
theorem dX2_clear_1 : decode cX2_clear 1 = .ok (.iconst 0, 1) := by decide +kernel
theorem dX2_clear_2 : decode cX2_clear 2 = .ok (.putfield 15, 3) := by decide +kernel
theorem dX2_clear_5 : decode cX2_clear 5 = .ok (.return_, 1) := by decide +kernel
set_option maxHeartbeats 4000000 in
set_option maxRecDepth 100000 in
theorem B_X2_clear {G : zG} {X : zX} {kd : kD} {N0 : Nat} (C : zCt G X 0 0 0 RX2 cX2_clear 1) (hr : (zXh X).sig.returnType = none) : ∀ f : Nat,
    (∀ (S : aS) (v0 : Nat) (res : Option Value × aS), zT0 kd N0 S → v0 < N0 → kd v0 = .inl 1 → F_X2_clear f 0 [.ref v0] S = some res → zV G X (zQX G X (zPo G kd N0 res) 0 0) 1 [some (.ref (zB G + v0))] [] (cn G kd N0 S) 0 0 0) := by
  intro f
  induction f with
  | zero => exact (fun _ _ _ _ _ _ h => by cases h)
  | succ f ih =>
    have ih0 := ih
    intro S v0 res hT hpv0 hkv0 hF
    replace hF : F_X2_clear_0 f (F_X2_clear f) v0 S = some res := hF
    unfold F_X2_clear_0 at hF
    refine z_aload_n C dX2_clear_0 rfl ?_
    refine z_iconst (v := 0) C dX2_clear_1 (by decide) ?_
    refine f_puti C dX2_clear_2 zfRX2_15 fw1_1 hpv0 hkv0 rfl rfl rfl ?_
    have hT1 : zT0 kd N0 (sI S v0 1 0) := zT0_sI hT
    replace hF := fS_e hF
    generalize sI S v0 1 0 = S1 at hF hT1 ⊢
    cases hF
    exact z_vret C hr dX2_clear_5 ⟨rfl, rfl, hT1⟩
theorem K_X2_clear {G : zG} {l : Launch} {kd : kD} {N0 f : Nat} {S : aS} {v0 : Nat} {res : Option Value × aS} (hT : zT0 kd N0 S) (hpv0 : v0 < N0) (hkv0 : kd v0 = .inl 1) (hF : F_X2_clear f 0 [.ref v0] S = some res) : zM G l 0 0 0 yX2_clear cX2_clear 1 none [.ref (zB G + v0)] (cn G kd N0 S) (zPo G kd N0 res) := zM.of (by decide) rfl (Nat.le_of_ble_eq_true rfl) (fun X _ C hr _ => (B_X2_clear C hr f) S v0 res hT hpv0 hkv0 hF)
def F_X2_set_0 (f : Nat) (rc : Nat → List Value → aS → aR) (v0 : Nat) (v1 : Int32) (v2 : Int32) (S : aS) : aR :=
  bX v1 8 fun q2 => fS (sI S (gR S v0 0) q2 v2) fun S3 => fS (sI S3 v0 1 ((gI S3 v0 1) ||| ((1 : Int32) <<< (v1 &&& 31)))) fun S4 => some (none, S4)
def F_X2_set : Nat → Nat → List Value → aS → aR
  | 0, _, _, _ => none
  | f + 1, 0, vs, S => F_X2_set_0 f (F_X2_set f) (vR vs 0) (vI vs 1) (vI vs 2) S
  | _ + 1, _, _, _ => none
theorem dX2_set_0 : decode cX2_set 0 = .ok (.aload_n 0, 1) := by decide +kernel
theorem dX2_set_1 : decode cX2_set 1 = .ok (.getfield 9, 3) := by decide +kernel
theorem dX2_set_4 : decode cX2_set 4 = .ok (.iload_n 1, 1) := by decide +kernel
theorem dX2_set_5 : decode cX2_set 5 = .ok (.iload_n 2, 1) := by decide +kernel
theorem dX2_set_6 : decode cX2_set 6 = .ok (.iastore, 1) := by decide +kernel
theorem dX2_set_7 : decode cX2_set 7 = .ok (.aload_n 0, 1) := by decide +kernel
theorem dX2_set_8 : decode cX2_set 8 = .ok (.dup, 1) := by decide +kernel
theorem dX2_set_9 : decode cX2_set 9 = .ok (.getfield 15, 3) := by decide +kernel
theorem dX2_set_12 : decode cX2_set 12 = .ok (.iconst 1, 1) := by decide +kernel
theorem dX2_set_13 : decode cX2_set 13 = .ok (.iload_n 1, 1) := by decide +kernel
theorem dX2_set_14 : decode cX2_set 14 = .ok (.ishl, 1) := by decide +kernel
theorem dX2_set_15 : decode cX2_set 15 = .ok (.ior, 1) := by decide +kernel
theorem dX2_set_16 : decode cX2_set 16 = .ok (.putfield 15, 3) := by decide +kernel
theorem dX2_set_19 : decode cX2_set 19 = .ok (.return_, 1) := by decide +kernel
set_option maxHeartbeats 4000000 in
set_option maxRecDepth 100000 in
theorem B_X2_set {G : zG} {X : zX} {kd : kD} {N0 : Nat} (C : zCt G X 0 0 0 RX2 cX2_set 3) (hr : (zXh X).sig.returnType = none) : ∀ f : Nat,
    (∀ (S : aS) (v0 : Nat) (v1 : Int32) (v2 : Int32) (res : Option Value × aS), zT0 kd N0 S → v0 < N0 → kd v0 = .inl 1 → F_X2_set f 0 [.ref v0, .int v1, .int v2] S = some res → zV G X (zQX G X (zPo G kd N0 res) 0 0) 3 [some (.ref (zB G + v0)), some (.int v1), some (.int v2)] [] (cn G kd N0 S) 0 0 0) := by
  intro f
  induction f with
  | zero => exact (fun _ _ _ _ _ _ _ _ h => by cases h)
  | succ f ih =>
    have ih0 := ih
    intro S v0 v1 v2 res hT hpv0 hkv0 hF
    replace hF : F_X2_set_0 f (F_X2_set f) v0 v1 v2 S = some res := hF
    unfold F_X2_set_0 at hF
    refine z_aload_n C dX2_set_0 rfl ?_
    refine f_getr C dX2_set_1 zfRX2_9 hpv0 hkv0 rfl ?_
    obtain ⟨hp1, hk1⟩ := hT.1 v0 1 0 (.inr (0, 8)) hpv0 hkv0 rfl
    refine z_iload_n C dX2_set_4 rfl ?_
    refine z_iload_n C dX2_set_5 rfl ?_
    obtain ⟨hi2, hF⟩ := bX_some hF
    obtain ⟨q2, eq2⟩ : ∃ q : Nat, q = Int32.toNatClampNeg v1 := ⟨_, rfl⟩
    rw [← eq2] at hF
    refine f_iast C dX2_set_6 hp1 hk1 hi2 ?_
    rw [← eq2]
    have hT3 : zT0 kd N0 (sI S (gR S v0 0) q2 v2) := zT0_sI hT
    replace hF := fS_e hF
    generalize sI S (gR S v0 0) q2 v2 = S3 at hF hT3 ⊢
    refine z_aload_n C dX2_set_7 rfl ?_
    refine z_dup C dX2_set_8 rfl ?_
    refine f_geti C dX2_set_9 zfRX2_15 hpv0 hkv0 rfl ?_
    refine z_iconst (v := 1) C dX2_set_12 (by decide) ?_
    refine z_iload_n C dX2_set_13 rfl ?_
    refine z_ishl C dX2_set_14 ?_
    refine z_ior C dX2_set_15 ?_
    refine f_puti C dX2_set_16 zfRX2_15 fw1_1 hpv0 hkv0 rfl rfl rfl ?_
    have hT4 : zT0 kd N0 (sI S3 v0 1 ((gI S3 v0 1) ||| ((1 : Int32) <<< (v1 &&& 31)))) := zT0_sI hT3
    replace hF := fS_e hF
    generalize sI S3 v0 1 ((gI S3 v0 1) ||| ((1 : Int32) <<< (v1 &&& 31))) = S4 at hF hT4 ⊢
    cases hF
    exact z_vret C hr dX2_set_19 ⟨rfl, rfl, hT4⟩
theorem K_X2_set {G : zG} {l : Launch} {kd : kD} {N0 f : Nat} {S : aS} {v0 : Nat} {v1 : Int32} {v2 : Int32} {res : Option Value × aS} (hT : zT0 kd N0 S) (hpv0 : v0 < N0) (hkv0 : kd v0 = .inl 1) (hF : F_X2_set f 0 [.ref v0, .int v1, .int v2] S = some res) : zM G l 0 0 0 yX2_set cX2_set 3 none [.ref (zB G + v0), .int v1, .int v2] (cn G kd N0 S) (zPo G kd N0 res) := zM.of (by decide) rfl (Nat.le_of_ble_eq_true rfl) (fun X _ C hr _ => (B_X2_set C hr f) S v0 v1 v2 res hT hpv0 hkv0 hF)
def F_X2_become_0 (f : Nat) (rc : Nat → List Value → aS → aR) (v0 : Nat) (v1 : Nat) (S : aS) : aR :=
  fS (sI S v0 1 (gI S v1 1)) fun S1 => rc 1 [.ref v0, .ref v1, .int 0] S1
def F_X2_become_1 (f : Nat) (rc : Nat → List Value → aS → aR) (v0 : Nat) (v1 : Nat) (v2 : Int32) (S : aS) : aR :=
  if (8 : Int32) ≤ v2 then some (none, S) else bX v2 8 fun q8 => bX v2 8 fun q9 => fS (sI S (gR S v0 0) q9 (gI S (gR S v1 0) q8)) fun S10 => rc 1 [.ref v0, .ref v1, .int (v2 + 1)] S10
def F_X2_become : Nat → Nat → List Value → aS → aR
  | 0, _, _, _ => none
  | f + 1, 0, vs, S => F_X2_become_0 f (F_X2_become f) (vR vs 0) (vR vs 1) S
  | f + 1, 1, vs, S => F_X2_become_1 f (F_X2_become f) (vR vs 0) (vR vs 1) (vI vs 2) S
  | _ + 1, _, _, _ => none
theorem dX2_become_0 : decode cX2_become 0 = .ok (.aload_n 0, 1) := by decide +kernel
theorem dX2_become_1 : decode cX2_become 1 = .ok (.aload_n 1, 1) := by decide +kernel
theorem dX2_become_2 : decode cX2_become 2 = .ok (.getfield 15, 3) := by decide +kernel
theorem dX2_become_5 : decode cX2_become 5 = .ok (.putfield 15, 3) := by decide +kernel
theorem dX2_become_8 : decode cX2_become 8 = .ok (.iconst 0, 1) := by decide +kernel
theorem dX2_become_9 : decode cX2_become 9 = .ok (.istore_n 2, 1) := by decide +kernel
theorem dX2_become_10 : decode cX2_become 10 = .ok (.iload_n 2, 1) := by decide +kernel
theorem dX2_become_11 : decode cX2_become 11 = .ok (.bipush 8, 2) := by decide +kernel
theorem dX2_become_13 : decode cX2_become 13 = .ok (.if_icmp .ge 21, 3) := by decide +kernel
theorem dX2_become_16 : decode cX2_become 16 = .ok (.aload_n 0, 1) := by decide +kernel
theorem dX2_become_17 : decode cX2_become 17 = .ok (.getfield 9, 3) := by decide +kernel
theorem dX2_become_20 : decode cX2_become 20 = .ok (.iload_n 2, 1) := by decide +kernel
theorem dX2_become_21 : decode cX2_become 21 = .ok (.aload_n 1, 1) := by decide +kernel
theorem dX2_become_22 : decode cX2_become 22 = .ok (.getfield 9, 3) := by decide +kernel
theorem dX2_become_25 : decode cX2_become 25 = .ok (.iload_n 2, 1) := by decide +kernel
theorem dX2_become_26 : decode cX2_become 26 = .ok (.iaload, 1) := by decide +kernel
theorem dX2_become_27 : decode cX2_become 27 = .ok (.iastore, 1) := by decide +kernel
theorem dX2_become_28 : decode cX2_become 28 = .ok (.iinc 2 1, 3) := by decide +kernel
theorem dX2_become_31 : decode cX2_become 31 = .ok (.goto (-21), 3) := by decide +kernel
theorem dX2_become_34 : decode cX2_become 34 = .ok (.return_, 1) := by decide +kernel
set_option maxHeartbeats 4000000 in
set_option maxRecDepth 100000 in
theorem B_X2_become {G : zG} {X : zX} {kd : kD} {N0 : Nat} (C : zCt G X 0 0 0 RX2 cX2_become 3) (hr : (zXh X).sig.returnType = none) : ∀ f : Nat,
    (∀ (S : aS) (v0 : Nat) (v1 : Nat) (res : Option Value × aS), zT0 kd N0 S → v0 < N0 → kd v0 = .inl 1 → v1 < N0 → kd v1 = .inl 1 → F_X2_become f 0 [.ref v0, .ref v1] S = some res → zV G X (zQX G X (zPo G kd N0 res) 0 0) 3 [some (.ref (zB G + v0)), some (.ref (zB G + v1)), none] [] (cn G kd N0 S) 0 0 0) ∧
    (∀ (S : aS) (v0 : Nat) (v1 : Nat) (v2 : Int32) (res : Option Value × aS), zT0 kd N0 S → v0 < N0 → kd v0 = .inl 1 → v1 < N0 → kd v1 = .inl 1 → F_X2_become f 1 [.ref v0, .ref v1, .int v2] S = some res → zV G X (zQX G X (zPo G kd N0 res) 0 0) 3 [some (.ref (zB G + v0)), some (.ref (zB G + v1)), some (.int v2)] [] (cn G kd N0 S) 10 0 0) := by
  intro f
  induction f with
  | zero => exact ⟨(fun _ _ _ _ _ _ _ _ _ h => by cases h), (fun _ _ _ _ _ _ _ _ _ _ h => by cases h)⟩
  | succ f ih =>
    obtain ⟨ih0, ih1⟩ := ih
    refine ⟨?_, ?_⟩
    · intro S v0 v1 res hT hpv0 hkv0 hpv1 hkv1 hF
      replace hF : F_X2_become_0 f (F_X2_become f) v0 v1 S = some res := hF
      unfold F_X2_become_0 at hF
      refine z_aload_n C dX2_become_0 rfl ?_
      refine z_aload_n C dX2_become_1 rfl ?_
      refine f_geti C dX2_become_2 zfRX2_15 hpv1 hkv1 rfl ?_
      refine f_puti C dX2_become_5 zfRX2_15 fw1_1 hpv0 hkv0 rfl rfl rfl ?_
      have hT1 : zT0 kd N0 (sI S v0 1 (gI S v1 1)) := zT0_sI hT
      replace hF := fS_e hF
      generalize sI S v0 1 (gI S v1 1) = S1 at hF hT1 ⊢
      refine z_iconst (v := 0) C dX2_become_8 (by decide) ?_
      refine z_istore_n (lv2 := [some (.ref (zB G + v0)), some (.ref (zB G + v1)), some (.int 0)]) C dX2_become_9 (by decide) rfl ?_
      exact ih1 S1 v0 v1 0 res hT1 hpv0 hkv0 hpv1 hkv1  hF
    · intro S v0 v1 v2 res hT hpv0 hkv0 hpv1 hkv1 hF
      replace hF : F_X2_become_1 f (F_X2_become f) v0 v1 v2 S = some res := hF
      unfold F_X2_become_1 at hF
      refine z_iload_n C dX2_become_10 rfl ?_
      refine z_bipush (v := 8) C dX2_become_11 (by decide) ?_
      refine z_icmp_ge C 34 dX2_become_13 (by decide) (fun c5 => ?_) (fun c5 => ?_)
      · replace hF := ip hF c5
        cases hF
        exact z_vret C hr dX2_become_34 ⟨rfl, rfl, hT⟩
      · replace hF := im hF c5
        refine z_aload_n C dX2_become_16 rfl ?_
        refine f_getr C dX2_become_17 zfRX2_9 hpv0 hkv0 rfl ?_
        obtain ⟨hp6, hk6⟩ := hT.1 v0 1 0 (.inr (0, 8)) hpv0 hkv0 rfl
        refine z_iload_n C dX2_become_20 rfl ?_
        refine z_aload_n C dX2_become_21 rfl ?_
        refine f_getr C dX2_become_22 zfRX2_9 hpv1 hkv1 rfl ?_
        obtain ⟨hp7, hk7⟩ := hT.1 v1 1 0 (.inr (0, 8)) hpv1 hkv1 rfl
        refine z_iload_n C dX2_become_25 rfl ?_
        obtain ⟨hi8, hF⟩ := bX_some hF
        obtain ⟨q8, eq8⟩ : ∃ q : Nat, q = Int32.toNatClampNeg v2 := ⟨_, rfl⟩
        rw [← eq8] at hF
        refine f_iald C dX2_become_26 hp7 hk7 hi8 ?_
        rw [← eq8]
        obtain ⟨hi9, hF⟩ := bX_some hF
        obtain ⟨q9, eq9⟩ : ∃ q : Nat, q = Int32.toNatClampNeg v2 := ⟨_, rfl⟩
        rw [← eq9] at hF
        refine f_iast C dX2_become_27 hp6 hk6 hi9 ?_
        rw [← eq9]
        have hT10 : zT0 kd N0 (sI S (gR S v0 0) q9 (gI S (gR S v1 0) q8)) := zT0_sI hT
        replace hF := fS_e hF
        generalize sI S (gR S v0 0) q9 (gI S (gR S v1 0) q8) = S10 at hF hT10 ⊢
        refine z_iinc (v := v2 + 1) (lv2 := [some (.ref (zB G + v0)), some (.ref (zB G + v1)), some (.int (v2 + 1))]) C dX2_become_28 rfl (by rw [show Int32.ofInt 1 = (1 : Int32) from by decide]) rfl ?_
        refine z_goto C 10 dX2_become_31 (by decide) ?_
        exact ih1 S10 v0 v1 (v2 + 1) res hT10 hpv0 hkv0 hpv1 hkv1  hF
theorem K_X2_become {G : zG} {l : Launch} {kd : kD} {N0 f : Nat} {S : aS} {v0 : Nat} {v1 : Nat} {res : Option Value × aS} (hT : zT0 kd N0 S) (hpv0 : v0 < N0) (hkv0 : kd v0 = .inl 1) (hpv1 : v1 < N0) (hkv1 : kd v1 = .inl 1) (hF : F_X2_become f 0 [.ref v0, .ref v1] S = some res) : zM G l 0 0 0 yX2_become cX2_become 3 none [.ref (zB G + v0), .ref (zB G + v1)] (cn G kd N0 S) (zPo G kd N0 res) := zM.of (by decide) rfl (Nat.le_of_ble_eq_true rfl) (fun X _ C hr _ => (B_X2_become C hr f).1 S v0 v1 res hT hpv0 hkv0 hpv1 hkv1 hF)
def F_X2_agrees_0 (f : Nat) (rc : Nat → List Value → aS → aR) (v0 : Nat) (v1 : Nat) (v2 : Int32) (S : aS) : aR :=
  rc 1 [.ref v0, .ref v1, .int v2, .int 0] S
def F_X2_agrees_1 (f : Nat) (rc : Nat → List Value → aS → aR) (v0 : Nat) (v1 : Nat) (v2 : Int32) (v3 : Int32) (S : aS) : aR :=
  if v2 ≤ v3 then bZ 1 (some (some (.int 1), S)) else if ((gI S v0 1) &&& ((1 : Int32) <<< (v3 &&& 31))) = (0 : Int32) then rc 2 [.ref v0, .ref v1, .int v2, .int v3] S else bX v3 8 fun q3 => bX v3 8 fun q5 => if (gI S v1 q3) = (gI S (gR S v0 0) q5) then rc 2 [.ref v0, .ref v1, .int v2, .int v3] S else bZ 0 (some (some (.int 0), S))
def F_X2_agrees_2 (f : Nat) (rc : Nat → List Value → aS → aR) (v0 : Nat) (v1 : Nat) (v2 : Int32) (v3 : Int32) (S : aS) : aR :=
  rc 1 [.ref v0, .ref v1, .int v2, .int (v3 + 1)] S
def F_X2_agrees : Nat → Nat → List Value → aS → aR
  | 0, _, _, _ => none
  | f + 1, 0, vs, S => F_X2_agrees_0 f (F_X2_agrees f) (vR vs 0) (vR vs 1) (vI vs 2) S
  | f + 1, 1, vs, S => F_X2_agrees_1 f (F_X2_agrees f) (vR vs 0) (vR vs 1) (vI vs 2) (vI vs 3) S
  | f + 1, 2, vs, S => F_X2_agrees_2 f (F_X2_agrees f) (vR vs 0) (vR vs 1) (vI vs 2) (vI vs 3) S
  | _ + 1, _, _, _ => none
theorem dX2_agrees_0 : decode cX2_agrees 0 = .ok (.iconst 0, 1) := by decide +kernel
theorem dX2_agrees_1 : decode cX2_agrees 1 = .ok (.istore_n 3, 1) := by decide +kernel
theorem dX2_agrees_2 : decode cX2_agrees 2 = .ok (.iload_n 3, 1) := by decide +kernel
theorem dX2_agrees_3 : decode cX2_agrees 3 = .ok (.iload_n 2, 1) := by decide +kernel
theorem dX2_agrees_4 : decode cX2_agrees 4 = .ok (.if_icmp .ge 34, 3) := by decide +kernel
theorem dX2_agrees_7 : decode cX2_agrees 7 = .ok (.aload_n 0, 1) := by decide +kernel
theorem dX2_agrees_8 : decode cX2_agrees 8 = .ok (.getfield 15, 3) := by decide +kernel
theorem dX2_agrees_11 : decode cX2_agrees 11 = .ok (.iconst 1, 1) := by decide +kernel
theorem dX2_agrees_12 : decode cX2_agrees 12 = .ok (.iload_n 3, 1) := by decide +kernel
theorem dX2_agrees_13 : decode cX2_agrees 13 = .ok (.ishl, 1) := by decide +kernel
theorem dX2_agrees_14 : decode cX2_agrees 14 = .ok (.iand, 1) := by decide +kernel
theorem dX2_agrees_15 : decode cX2_agrees 15 = .ok (.ifCond .eq 17, 3) := by decide +kernel
theorem dX2_agrees_18 : decode cX2_agrees 18 = .ok (.aload_n 1, 1) := by decide +kernel
theorem dX2_agrees_19 : decode cX2_agrees 19 = .ok (.iload_n 3, 1) := by decide +kernel
theorem dX2_agrees_20 : decode cX2_agrees 20 = .ok (.iaload, 1) := by decide +kernel
theorem dX2_agrees_21 : decode cX2_agrees 21 = .ok (.aload_n 0, 1) := by decide +kernel
theorem dX2_agrees_22 : decode cX2_agrees 22 = .ok (.getfield 9, 3) := by decide +kernel
theorem dX2_agrees_25 : decode cX2_agrees 25 = .ok (.iload_n 3, 1) := by decide +kernel
theorem dX2_agrees_26 : decode cX2_agrees 26 = .ok (.iaload, 1) := by decide +kernel
theorem dX2_agrees_27 : decode cX2_agrees 27 = .ok (.if_icmp .eq 5, 3) := by decide +kernel
theorem dX2_agrees_30 : decode cX2_agrees 30 = .ok (.iconst 0, 1) := by decide +kernel
theorem dX2_agrees_31 : decode cX2_agrees 31 = .ok (.ireturn, 1) := by decide +kernel
theorem dX2_agrees_32 : decode cX2_agrees 32 = .ok (.iinc 3 1, 3) := by decide +kernel
theorem dX2_agrees_35 : decode cX2_agrees 35 = .ok (.goto (-33), 3) := by decide +kernel
theorem dX2_agrees_38 : decode cX2_agrees 38 = .ok (.iconst 1, 1) := by decide +kernel
theorem dX2_agrees_39 : decode cX2_agrees 39 = .ok (.ireturn, 1) := by decide +kernel
set_option maxHeartbeats 4000000 in
set_option maxRecDepth 100000 in
theorem B_X2_agrees {G : zG} {X : zX} {kd : kD} {N0 : Nat} (C : zCt G X 0 0 0 RX2 cX2_agrees 4) (hr : (zXh X).sig.returnType = (some .boolean)) : ∀ f : Nat,
    (∀ (S : aS) (v0 : Nat) (v1 : Nat) (v2 : Int32) (res : Option Value × aS), zT0 kd N0 S → v0 < N0 → kd v0 = .inl 1 → v1 < N0 → kd v1 = .inr (0, 8) → F_X2_agrees f 0 [.ref v0, .ref v1, .int v2] S = some res → zV G X (zQX G X (zPo G kd N0 res) 0 0) 4 [some (.ref (zB G + v0)), some (.ref (zB G + v1)), some (.int v2), none] [] (cn G kd N0 S) 0 0 0) ∧
    (∀ (S : aS) (v0 : Nat) (v1 : Nat) (v2 : Int32) (v3 : Int32) (res : Option Value × aS), zT0 kd N0 S → v0 < N0 → kd v0 = .inl 1 → v1 < N0 → kd v1 = .inr (0, 8) → F_X2_agrees f 1 [.ref v0, .ref v1, .int v2, .int v3] S = some res → zV G X (zQX G X (zPo G kd N0 res) 0 0) 4 [some (.ref (zB G + v0)), some (.ref (zB G + v1)), some (.int v2), some (.int v3)] [] (cn G kd N0 S) 2 0 0) ∧
    (∀ (S : aS) (v0 : Nat) (v1 : Nat) (v2 : Int32) (v3 : Int32) (res : Option Value × aS), zT0 kd N0 S → v0 < N0 → kd v0 = .inl 1 → v1 < N0 → kd v1 = .inr (0, 8) → F_X2_agrees f 2 [.ref v0, .ref v1, .int v2, .int v3] S = some res → zV G X (zQX G X (zPo G kd N0 res) 0 0) 4 [some (.ref (zB G + v0)), some (.ref (zB G + v1)), some (.int v2), some (.int v3)] [] (cn G kd N0 S) 32 0 0) := by
  intro f
  induction f with
  | zero => exact ⟨(fun _ _ _ _ _ _ _ _ _ _ h => by cases h), (fun _ _ _ _ _ _ _ _ _ _ _ h => by cases h), (fun _ _ _ _ _ _ _ _ _ _ _ h => by cases h)⟩
  | succ f ih =>
    obtain ⟨ih0, ih1, ih2⟩ := ih
    refine ⟨?_, ?_, ?_⟩
    · intro S v0 v1 v2 res hT hpv0 hkv0 hpv1 hkv1 hF
      replace hF : F_X2_agrees_0 f (F_X2_agrees f) v0 v1 v2 S = some res := hF
      unfold F_X2_agrees_0 at hF
      refine z_iconst (v := 0) C dX2_agrees_0 (by decide) ?_
      refine z_istore_n (lv2 := [some (.ref (zB G + v0)), some (.ref (zB G + v1)), some (.int v2), some (.int 0)]) C dX2_agrees_1 (by decide) rfl ?_
      exact ih1 S v0 v1 v2 0 res hT hpv0 hkv0 hpv1 hkv1   hF
    · intro S v0 v1 v2 v3 res hT hpv0 hkv0 hpv1 hkv1 hF
      replace hF : F_X2_agrees_1 f (F_X2_agrees f) v0 v1 v2 v3 S = some res := hF
      unfold F_X2_agrees_1 at hF
      refine z_iload_n C dX2_agrees_2 rfl ?_
      refine z_iload_n C dX2_agrees_3 rfl ?_
      refine z_icmp_ge C 38 dX2_agrees_4 (by decide) (fun c1 => ?_) (fun c1 => ?_)
      · replace hF := ip hF c1
        refine z_iconst (v := 1) C dX2_agrees_38 (by decide) ?_
        obtain ⟨hz, hF⟩ := bZ_some hF
        cases hF
        exact z_zret C hr hz.1 dX2_agrees_39 ⟨rfl, rfl, hT⟩
      · replace hF := im hF c1
        refine z_aload_n C dX2_agrees_7 rfl ?_
        refine f_geti C dX2_agrees_8 zfRX2_15 hpv0 hkv0 rfl ?_
        refine z_iconst (v := 1) C dX2_agrees_11 (by decide) ?_
        refine z_iload_n C dX2_agrees_12 rfl ?_
        refine z_ishl C dX2_agrees_13 ?_
        refine z_iand C dX2_agrees_14 ?_
        refine z_if_eq C 32 dX2_agrees_15 (by decide) (fun c2 => ?_) (fun c2 => ?_)
        · replace hF := ip hF c2
          exact ih2 S v0 v1 v2 v3 res hT hpv0 hkv0 hpv1 hkv1   hF
        · replace hF := im hF c2
          refine z_aload_n C dX2_agrees_18 rfl ?_
          refine z_iload_n C dX2_agrees_19 rfl ?_
          obtain ⟨hi3, hF⟩ := bX_some hF
          obtain ⟨q3, eq3⟩ : ∃ q : Nat, q = Int32.toNatClampNeg v3 := ⟨_, rfl⟩
          rw [← eq3] at hF
          refine f_iald C dX2_agrees_20 hpv1 hkv1 hi3 ?_
          rw [← eq3]
          refine z_aload_n C dX2_agrees_21 rfl ?_
          refine f_getr C dX2_agrees_22 zfRX2_9 hpv0 hkv0 rfl ?_
          obtain ⟨hp4, hk4⟩ := hT.1 v0 1 0 (.inr (0, 8)) hpv0 hkv0 rfl
          refine z_iload_n C dX2_agrees_25 rfl ?_
          obtain ⟨hi5, hF⟩ := bX_some hF
          obtain ⟨q5, eq5⟩ : ∃ q : Nat, q = Int32.toNatClampNeg v3 := ⟨_, rfl⟩
          rw [← eq5] at hF
          refine f_iald C dX2_agrees_26 hp4 hk4 hi5 ?_
          rw [← eq5]
          refine z_icmp_eq C 32 dX2_agrees_27 (by decide) (fun c6 => ?_) (fun c6 => ?_)
          · replace hF := ip hF c6
            exact ih2 S v0 v1 v2 v3 res hT hpv0 hkv0 hpv1 hkv1   hF
          · replace hF := im hF c6
            refine z_iconst (v := 0) C dX2_agrees_30 (by decide) ?_
            obtain ⟨hz, hF⟩ := bZ_some hF
            cases hF
            exact z_zret C hr hz.1 dX2_agrees_31 ⟨rfl, rfl, hT⟩
    · intro S v0 v1 v2 v3 res hT hpv0 hkv0 hpv1 hkv1 hF
      replace hF : F_X2_agrees_2 f (F_X2_agrees f) v0 v1 v2 v3 S = some res := hF
      unfold F_X2_agrees_2 at hF
      refine z_iinc (v := v3 + 1) (lv2 := [some (.ref (zB G + v0)), some (.ref (zB G + v1)), some (.int v2), some (.int (v3 + 1))]) C dX2_agrees_32 rfl (by rw [show Int32.ofInt 1 = (1 : Int32) from by decide]) rfl ?_
      refine z_goto C 2 dX2_agrees_35 (by decide) ?_
      exact ih1 S v0 v1 v2 (v3 + 1) res hT hpv0 hkv0 hpv1 hkv1   hF
theorem K_X2_agrees {G : zG} {l : Launch} {kd : kD} {N0 f : Nat} {S : aS} {v0 : Nat} {v1 : Nat} {v2 : Int32} {res : Option Value × aS} (hT : zT0 kd N0 S) (hpv0 : v0 < N0) (hkv0 : kd v0 = .inl 1) (hpv1 : v1 < N0) (hkv1 : kd v1 = .inr (0, 8)) (hF : F_X2_agrees f 0 [.ref v0, .ref v1, .int v2] S = some res) : zM G l 0 0 0 yX2_agrees cX2_agrees 4 (some .boolean) [.ref (zB G + v0), .ref (zB G + v1), .int v2] (cn G kd N0 S) (zPo G kd N0 res) := zM.of (by decide) rfl (Nat.le_of_ble_eq_true rfl) (fun X _ C hr _ => (B_X2_agrees C hr f).1 S v0 v1 v2 res hT hpv0 hkv0 hpv1 hkv1 hF)
def F_X3_clear_0 (f : Nat) (rc : Nat → List Value → aS → aR) (v0 : Nat) (S : aS) : aR :=
  fS (sI S v0 1 0) fun S1 => fS (sI S1 v0 2 0) fun S2 => some (none, S2)
def F_X3_clear : Nat → Nat → List Value → aS → aR
  | 0, _, _, _ => none
  | f + 1, 0, vs, S => F_X3_clear_0 f (F_X3_clear f) (vR vs 0) S
  | _ + 1, _, _, _ => none
theorem dX3_clear_0 : decode cX3_clear 0 = .ok (.aload_n 0, 1) := by decide +kernel
theorem dX3_clear_1 : decode cX3_clear 1 = .ok (.iconst 0, 1) := by decide +kernel
theorem dX3_clear_2 : decode cX3_clear 2 = .ok (.putfield 16, 3) := by decide +kernel
theorem dX3_clear_5 : decode cX3_clear 5 = .ok (.aload_n 0, 1) := by decide +kernel
theorem dX3_clear_6 : decode cX3_clear 6 = .ok (.iconst 0, 1) := by decide +kernel
theorem dX3_clear_7 : decode cX3_clear 7 = .ok (.putfield 20, 3) := by decide +kernel
theorem dX3_clear_10 : decode cX3_clear 10 = .ok (.return_, 1) := by decide +kernel
set_option maxHeartbeats 4000000 in
set_option maxRecDepth 100000 in
theorem B_X3_clear {G : zG} {X : zX} {kd : kD} {N0 : Nat} (C : zCt G X 0 0 0 RX3 cX3_clear 1) (hr : (zXh X).sig.returnType = none) : ∀ f : Nat,
    (∀ (S : aS) (v0 : Nat) (res : Option Value × aS), zT0 kd N0 S → v0 < N0 → kd v0 = .inl 2 → F_X3_clear f 0 [.ref v0] S = some res → zV G X (zQX G X (zPo G kd N0 res) 0 0) 1 [some (.ref (zB G + v0))] [] (cn G kd N0 S) 0 0 0) := by
  intro f
  induction f with
  | zero => exact (fun _ _ _ _ _ _ h => by cases h)
  | succ f ih =>
    have ih0 := ih
    intro S v0 res hT hpv0 hkv0 hF
    replace hF : F_X3_clear_0 f (F_X3_clear f) v0 S = some res := hF
    unfold F_X3_clear_0 at hF
    refine z_aload_n C dX3_clear_0 rfl ?_
    refine z_iconst (v := 0) C dX3_clear_1 (by decide) ?_
    refine f_puti C dX3_clear_2 zfRX3_16 fw2_1 hpv0 hkv0 rfl rfl rfl ?_
    have hT1 : zT0 kd N0 (sI S v0 1 0) := zT0_sI hT
    replace hF := fS_e hF
    generalize sI S v0 1 0 = S1 at hF hT1 ⊢
    refine z_aload_n C dX3_clear_5 rfl ?_
    refine z_iconst (v := 0) C dX3_clear_6 (by decide) ?_
    refine f_puti C dX3_clear_7 zfRX3_20 fw2_2 hpv0 hkv0 rfl rfl rfl ?_
    have hT2 : zT0 kd N0 (sI S1 v0 2 0) := zT0_sI hT1
    replace hF := fS_e hF
    generalize sI S1 v0 2 0 = S2 at hF hT2 ⊢
    cases hF
    exact z_vret C hr dX3_clear_10 ⟨rfl, rfl, hT2⟩
theorem K_X3_clear {G : zG} {l : Launch} {kd : kD} {N0 f : Nat} {S : aS} {v0 : Nat} {res : Option Value × aS} (hT : zT0 kd N0 S) (hpv0 : v0 < N0) (hkv0 : kd v0 = .inl 2) (hF : F_X3_clear f 0 [.ref v0] S = some res) : zM G l 0 0 0 yX3_clear cX3_clear 1 none [.ref (zB G + v0)] (cn G kd N0 S) (zPo G kd N0 res) := zM.of (by decide) rfl (Nat.le_of_ble_eq_true rfl) (fun X _ C hr _ => (B_X3_clear C hr f) S v0 res hT hpv0 hkv0 hF)
def F_X4_begin_0 (f : Nat) (rc : Nat → List Value → aS → aR) (v0 : Nat) (v1 : Nat) (S : aS) : aR :=
  fS (sI S v0 0 (gI S v1 0)) fun S1 => fS (sI S1 v0 4 0) fun S2 => fS (sI S2 v0 5 0) fun S3 => fS (sI S3 v0 6 0) fun S4 => fS (sI S4 v0 7 0) fun S5 => fS (sI S5 v0 8 (gI S5 v1 11)) fun S6 => rc 1 [.ref v0, .ref v1, .int 0] S6
def F_X4_begin_1 (f : Nat) (rc : Nat → List Value → aS → aR) (v0 : Nat) (v1 : Nat) (v2 : Int32) (S : aS) : aR :=
  if (8 : Int32) ≤ v2 then some (none, S) else if (gI S v0 0) ≤ v2 then rc 2 [.ref v0, .ref v1, .int v2, .int 0, .int v2, .ref (gR S v0 1)] S else bX v2 8 fun q16 => rc 2 [.ref v0, .ref v1, .int v2, .int (gI S (gR S v1 7) q16), .int v2, .ref (gR S v0 1)] S
def F_X4_begin_2 (f : Nat) (rc : Nat → List Value → aS → aR) (v0 : Nat) (v1 : Nat) (v2 : Int32) (w0 : Int32) (w1 : Int32) (w2 : Nat) (S : aS) : aR :=
  bX w1 8 fun q17 => fS (sI S w2 q17 w0) fun S18 => if (gI S18 v0 0) ≤ v2 then rc 3 [.ref v0, .ref v1, .int v2, .int 0, .int v2, .ref (gR S18 v0 2)] S18 else bX v2 8 fun q24 => rc 3 [.ref v0, .ref v1, .int v2, .int (gI S18 (gR S18 v1 6) q24), .int v2, .ref (gR S18 v0 2)] S18
def F_X4_begin_3 (f : Nat) (rc : Nat → List Value → aS → aR) (v0 : Nat) (v1 : Nat) (v2 : Int32) (w0 : Int32) (w1 : Int32) (w2 : Nat) (S : aS) : aR :=
  bX w1 8 fun q25 => fS (sI S w2 q25 w0) fun S26 => bX v2 8 fun q28 => fS (sI S26 (gR S26 v0 3) q28 0) fun S29 => rc 1 [.ref v0, .ref v1, .int (v2 + 1)] S29
def F_X4_begin : Nat → Nat → List Value → aS → aR
  | 0, _, _, _ => none
  | f + 1, 0, vs, S => F_X4_begin_0 f (F_X4_begin f) (vR vs 0) (vR vs 1) S
  | f + 1, 1, vs, S => F_X4_begin_1 f (F_X4_begin f) (vR vs 0) (vR vs 1) (vI vs 2) S
  | f + 1, 2, vs, S => F_X4_begin_2 f (F_X4_begin f) (vR vs 0) (vR vs 1) (vI vs 2) (vI vs 3) (vI vs 4) (vR vs 5) S
  | f + 1, 3, vs, S => F_X4_begin_3 f (F_X4_begin f) (vR vs 0) (vR vs 1) (vI vs 2) (vI vs 3) (vI vs 4) (vR vs 5) S
  | _ + 1, _, _, _ => none
theorem dX4_begin_0 : decode cX4_begin 0 = .ok (.aload_n 0, 1) := by decide +kernel
theorem dX4_begin_1 : decode cX4_begin 1 = .ok (.aload_n 1, 1) := by decide +kernel
theorem dX4_begin_2 : decode cX4_begin 2 = .ok (.getfield 21, 3) := by decide +kernel
theorem dX4_begin_5 : decode cX4_begin 5 = .ok (.putfield 27, 3) := by decide +kernel
theorem dX4_begin_8 : decode cX4_begin 8 = .ok (.aload_n 0, 1) := by decide +kernel
theorem dX4_begin_9 : decode cX4_begin 9 = .ok (.iconst 0, 1) := by decide +kernel
theorem dX4_begin_10 : decode cX4_begin 10 = .ok (.putfield 28, 3) := by decide +kernel
theorem dX4_begin_13 : decode cX4_begin 13 = .ok (.aload_n 0, 1) := by decide +kernel
theorem dX4_begin_14 : decode cX4_begin 14 = .ok (.iconst 0, 1) := by decide +kernel
theorem dX4_begin_15 : decode cX4_begin 15 = .ok (.putfield 31, 3) := by decide +kernel
theorem dX4_begin_18 : decode cX4_begin 18 = .ok (.aload_n 0, 1) := by decide +kernel
theorem dX4_begin_19 : decode cX4_begin 19 = .ok (.iconst 0, 1) := by decide +kernel
theorem dX4_begin_20 : decode cX4_begin 20 = .ok (.putfield 34, 3) := by decide +kernel
theorem dX4_begin_23 : decode cX4_begin 23 = .ok (.aload_n 0, 1) := by decide +kernel
theorem dX4_begin_24 : decode cX4_begin 24 = .ok (.iconst 0, 1) := by decide +kernel
theorem dX4_begin_25 : decode cX4_begin 25 = .ok (.putfield 37, 3) := by decide +kernel
theorem dX4_begin_28 : decode cX4_begin 28 = .ok (.aload_n 0, 1) := by decide +kernel
theorem dX4_begin_29 : decode cX4_begin 29 = .ok (.aload_n 1, 1) := by decide +kernel
theorem dX4_begin_30 : decode cX4_begin 30 = .ok (.getfield 40, 3) := by decide +kernel
theorem dX4_begin_33 : decode cX4_begin 33 = .ok (.putfield 43, 3) := by decide +kernel
theorem dX4_begin_36 : decode cX4_begin 36 = .ok (.iconst 0, 1) := by decide +kernel
theorem dX4_begin_37 : decode cX4_begin 37 = .ok (.istore_n 2, 1) := by decide +kernel
theorem dX4_begin_38 : decode cX4_begin 38 = .ok (.iload_n 2, 1) := by decide +kernel
theorem dX4_begin_39 : decode cX4_begin 39 = .ok (.bipush 8, 2) := by decide +kernel
theorem dX4_begin_41 : decode cX4_begin 41 = .ok (.if_icmp .ge 64, 3) := by decide +kernel
theorem dX4_begin_44 : decode cX4_begin 44 = .ok (.aload_n 0, 1) := by decide +kernel
theorem dX4_begin_45 : decode cX4_begin 45 = .ok (.getfield 9, 3) := by decide +kernel
theorem dX4_begin_48 : decode cX4_begin 48 = .ok (.iload_n 2, 1) := by decide +kernel
theorem dX4_begin_49 : decode cX4_begin 49 = .ok (.iload_n 2, 1) := by decide +kernel
theorem dX4_begin_50 : decode cX4_begin 50 = .ok (.aload_n 0, 1) := by decide +kernel
theorem dX4_begin_51 : decode cX4_begin 51 = .ok (.getfield 27, 3) := by decide +kernel
theorem dX4_begin_54 : decode cX4_begin 54 = .ok (.if_icmp .ge 12, 3) := by decide +kernel
theorem dX4_begin_57 : decode cX4_begin 57 = .ok (.aload_n 1, 1) := by decide +kernel
theorem dX4_begin_58 : decode cX4_begin 58 = .ok (.getfield 44, 3) := by decide +kernel
theorem dX4_begin_61 : decode cX4_begin 61 = .ok (.iload_n 2, 1) := by decide +kernel
theorem dX4_begin_62 : decode cX4_begin 62 = .ok (.iaload, 1) := by decide +kernel
theorem dX4_begin_63 : decode cX4_begin 63 = .ok (.goto 4, 3) := by decide +kernel
theorem dX4_begin_66 : decode cX4_begin 66 = .ok (.iconst 0, 1) := by decide +kernel
theorem dX4_begin_67 : decode cX4_begin 67 = .ok (.iastore, 1) := by decide +kernel
theorem dX4_begin_68 : decode cX4_begin 68 = .ok (.aload_n 0, 1) := by decide +kernel
theorem dX4_begin_69 : decode cX4_begin 69 = .ok (.getfield 15, 3) := by decide +kernel
theorem dX4_begin_72 : decode cX4_begin 72 = .ok (.iload_n 2, 1) := by decide +kernel
theorem dX4_begin_73 : decode cX4_begin 73 = .ok (.iload_n 2, 1) := by decide +kernel
theorem dX4_begin_74 : decode cX4_begin 74 = .ok (.aload_n 0, 1) := by decide +kernel
theorem dX4_begin_75 : decode cX4_begin 75 = .ok (.getfield 27, 3) := by decide +kernel
theorem dX4_begin_78 : decode cX4_begin 78 = .ok (.if_icmp .ge 12, 3) := by decide +kernel
theorem dX4_begin_81 : decode cX4_begin 81 = .ok (.aload_n 1, 1) := by decide +kernel
theorem dX4_begin_82 : decode cX4_begin 82 = .ok (.getfield 45, 3) := by decide +kernel
theorem dX4_begin_85 : decode cX4_begin 85 = .ok (.iload_n 2, 1) := by decide +kernel
theorem dX4_begin_86 : decode cX4_begin 86 = .ok (.iaload, 1) := by decide +kernel
theorem dX4_begin_87 : decode cX4_begin 87 = .ok (.goto 4, 3) := by decide +kernel
theorem dX4_begin_90 : decode cX4_begin 90 = .ok (.iconst 0, 1) := by decide +kernel
theorem dX4_begin_91 : decode cX4_begin 91 = .ok (.iastore, 1) := by decide +kernel
theorem dX4_begin_92 : decode cX4_begin 92 = .ok (.aload_n 0, 1) := by decide +kernel
theorem dX4_begin_93 : decode cX4_begin 93 = .ok (.getfield 18, 3) := by decide +kernel
theorem dX4_begin_96 : decode cX4_begin 96 = .ok (.iload_n 2, 1) := by decide +kernel
theorem dX4_begin_97 : decode cX4_begin 97 = .ok (.iconst 0, 1) := by decide +kernel
theorem dX4_begin_98 : decode cX4_begin 98 = .ok (.iastore, 1) := by decide +kernel
theorem dX4_begin_99 : decode cX4_begin 99 = .ok (.iinc 2 1, 3) := by decide +kernel
theorem dX4_begin_102 : decode cX4_begin 102 = .ok (.goto (-64), 3) := by decide +kernel
theorem dX4_begin_105 : decode cX4_begin 105 = .ok (.return_, 1) := by decide +kernel
set_option maxHeartbeats 4000000 in
set_option maxRecDepth 100000 in
theorem B_X4_begin {G : zG} {X : zX} {kd : kD} {N0 : Nat} (C : zCt G X 0 0 0 RX4 cX4_begin 3) (hr : (zXh X).sig.returnType = none) : ∀ f : Nat,
    (∀ (S : aS) (v0 : Nat) (v1 : Nat) (res : Option Value × aS), zT0 kd N0 S → v0 < N0 → kd v0 = .inl 3 → v1 < N0 → kd v1 = .inl 5 → F_X4_begin f 0 [.ref v0, .ref v1] S = some res → zV G X (zQX G X (zPo G kd N0 res) 0 0) 3 [some (.ref (zB G + v0)), some (.ref (zB G + v1)), none] [] (cn G kd N0 S) 0 0 0) ∧
    (∀ (S : aS) (v0 : Nat) (v1 : Nat) (v2 : Int32) (res : Option Value × aS), zT0 kd N0 S → v0 < N0 → kd v0 = .inl 3 → v1 < N0 → kd v1 = .inl 5 → F_X4_begin f 1 [.ref v0, .ref v1, .int v2] S = some res → zV G X (zQX G X (zPo G kd N0 res) 0 0) 3 [some (.ref (zB G + v0)), some (.ref (zB G + v1)), some (.int v2)] [] (cn G kd N0 S) 38 0 0) ∧
    (∀ (S : aS) (v0 : Nat) (v1 : Nat) (v2 : Int32) (w0 : Int32) (w1 : Int32) (w2 : Nat) (res : Option Value × aS), zT0 kd N0 S → v0 < N0 → kd v0 = .inl 3 → v1 < N0 → kd v1 = .inl 5 → w2 < N0 → kd w2 = .inr (0, 8) → F_X4_begin f 2 [.ref v0, .ref v1, .int v2, .int w0, .int w1, .ref w2] S = some res → zV G X (zQX G X (zPo G kd N0 res) 0 0) 3 [some (.ref (zB G + v0)), some (.ref (zB G + v1)), some (.int v2)] [.int w0, .int w1, .ref (zB G + w2)] (cn G kd N0 S) 67 0 0) ∧
    (∀ (S : aS) (v0 : Nat) (v1 : Nat) (v2 : Int32) (w0 : Int32) (w1 : Int32) (w2 : Nat) (res : Option Value × aS), zT0 kd N0 S → v0 < N0 → kd v0 = .inl 3 → v1 < N0 → kd v1 = .inl 5 → w2 < N0 → kd w2 = .inr (0, 8) → F_X4_begin f 3 [.ref v0, .ref v1, .int v2, .int w0, .int w1, .ref w2] S = some res → zV G X (zQX G X (zPo G kd N0 res) 0 0) 3 [some (.ref (zB G + v0)), some (.ref (zB G + v1)), some (.int v2)] [.int w0, .int w1, .ref (zB G + w2)] (cn G kd N0 S) 91 0 0) := by
  intro f
  induction f with
  | zero => exact ⟨(fun _ _ _ _ _ _ _ _ _ h => by cases h), (fun _ _ _ _ _ _ _ _ _ _ h => by cases h), (fun _ _ _ _ _ _ _ _ _ _ _ _ _ _ _ h => by cases h), (fun _ _ _ _ _ _ _ _ _ _ _ _ _ _ _ h => by cases h)⟩
  | succ f ih =>
    obtain ⟨ih0, ih1, ih2, ih3⟩ := ih
    refine ⟨?_, ?_, ?_, ?_⟩
    · intro S v0 v1 res hT hpv0 hkv0 hpv1 hkv1 hF
      replace hF : F_X4_begin_0 f (F_X4_begin f) v0 v1 S = some res := hF
      unfold F_X4_begin_0 at hF
      refine z_aload_n C dX4_begin_0 rfl ?_
      refine z_aload_n C dX4_begin_1 rfl ?_
      refine f_geti C dX4_begin_2 zfRX4_21 hpv1 hkv1 rfl ?_
      refine f_puti C dX4_begin_5 zfRX4_27 fw3_0 hpv0 hkv0 rfl rfl rfl ?_
      have hT1 : zT0 kd N0 (sI S v0 0 (gI S v1 0)) := zT0_sI hT
      replace hF := fS_e hF
      generalize sI S v0 0 (gI S v1 0) = S1 at hF hT1 ⊢
      refine z_aload_n C dX4_begin_8 rfl ?_
      refine z_iconst (v := 0) C dX4_begin_9 (by decide) ?_
      refine f_puti C dX4_begin_10 zfRX4_28 fw3_4 hpv0 hkv0 rfl rfl rfl ?_
      have hT2 : zT0 kd N0 (sI S1 v0 4 0) := zT0_sI hT1
      replace hF := fS_e hF
      generalize sI S1 v0 4 0 = S2 at hF hT2 ⊢
      refine z_aload_n C dX4_begin_13 rfl ?_
      refine z_iconst (v := 0) C dX4_begin_14 (by decide) ?_
      refine f_puti C dX4_begin_15 zfRX4_31 fw3_5 hpv0 hkv0 rfl rfl rfl ?_
      have hT3 : zT0 kd N0 (sI S2 v0 5 0) := zT0_sI hT2
      replace hF := fS_e hF
      generalize sI S2 v0 5 0 = S3 at hF hT3 ⊢
      refine z_aload_n C dX4_begin_18 rfl ?_
      refine z_iconst (v := 0) C dX4_begin_19 (by decide) ?_
      refine f_puti C dX4_begin_20 zfRX4_34 fw3_6 hpv0 hkv0 rfl rfl rfl ?_
      have hT4 : zT0 kd N0 (sI S3 v0 6 0) := zT0_sI hT3
      replace hF := fS_e hF
      generalize sI S3 v0 6 0 = S4 at hF hT4 ⊢
      refine z_aload_n C dX4_begin_23 rfl ?_
      refine z_iconst (v := 0) C dX4_begin_24 (by decide) ?_
      refine f_puti C dX4_begin_25 zfRX4_37 fw3_7 hpv0 hkv0 rfl rfl rfl ?_
      have hT5 : zT0 kd N0 (sI S4 v0 7 0) := zT0_sI hT4
      replace hF := fS_e hF
      generalize sI S4 v0 7 0 = S5 at hF hT5 ⊢
      refine z_aload_n C dX4_begin_28 rfl ?_
      refine z_aload_n C dX4_begin_29 rfl ?_
      refine f_geti C dX4_begin_30 zfRX4_40 hpv1 hkv1 rfl ?_
      refine f_puti C dX4_begin_33 zfRX4_43 fw3_8 hpv0 hkv0 rfl rfl rfl ?_
      have hT6 : zT0 kd N0 (sI S5 v0 8 (gI S5 v1 11)) := zT0_sI hT5
      replace hF := fS_e hF
      generalize sI S5 v0 8 (gI S5 v1 11) = S6 at hF hT6 ⊢
      refine z_iconst (v := 0) C dX4_begin_36 (by decide) ?_
      refine z_istore_n (lv2 := [some (.ref (zB G + v0)), some (.ref (zB G + v1)), some (.int 0)]) C dX4_begin_37 (by decide) rfl ?_
      exact ih1 S6 v0 v1 0 res hT6 hpv0 hkv0 hpv1 hkv1  hF
    · intro S v0 v1 v2 res hT hpv0 hkv0 hpv1 hkv1 hF
      replace hF : F_X4_begin_1 f (F_X4_begin f) v0 v1 v2 S = some res := hF
      unfold F_X4_begin_1 at hF
      refine z_iload_n C dX4_begin_38 rfl ?_
      refine z_bipush (v := 8) C dX4_begin_39 (by decide) ?_
      refine z_icmp_ge C 105 dX4_begin_41 (by decide) (fun c10 => ?_) (fun c10 => ?_)
      · replace hF := ip hF c10
        cases hF
        exact z_vret C hr dX4_begin_105 ⟨rfl, rfl, hT⟩
      · replace hF := im hF c10
        refine z_aload_n C dX4_begin_44 rfl ?_
        refine f_getr C dX4_begin_45 zfRX4_9 hpv0 hkv0 rfl ?_
        obtain ⟨hp11, hk11⟩ := hT.1 v0 3 1 (.inr (0, 8)) hpv0 hkv0 rfl
        refine z_iload_n C dX4_begin_48 rfl ?_
        refine z_iload_n C dX4_begin_49 rfl ?_
        refine z_aload_n C dX4_begin_50 rfl ?_
        refine f_geti C dX4_begin_51 zfRX4_27 hpv0 hkv0 rfl ?_
        refine z_icmp_ge C 66 dX4_begin_54 (by decide) (fun c14 => ?_) (fun c14 => ?_)
        · replace hF := ip hF c14
          refine z_iconst (v := 0) C dX4_begin_66 (by decide) ?_
          exact ih2 S v0 v1 v2 0 v2 (gR S v0 1) res hT hpv0 hkv0 hpv1 hkv1    hp11 hk11 hF
        · replace hF := im hF c14
          refine z_aload_n C dX4_begin_57 rfl ?_
          refine f_getr C dX4_begin_58 zfRX4_44 hpv1 hkv1 rfl ?_
          obtain ⟨hp15, hk15⟩ := hT.1 v1 5 7 (.inr (0, 8)) hpv1 hkv1 rfl
          refine z_iload_n C dX4_begin_61 rfl ?_
          obtain ⟨hi16, hF⟩ := bX_some hF
          obtain ⟨q16, eq16⟩ : ∃ q : Nat, q = Int32.toNatClampNeg v2 := ⟨_, rfl⟩
          rw [← eq16] at hF
          refine f_iald C dX4_begin_62 hp15 hk15 hi16 ?_
          rw [← eq16]
          refine z_goto C 67 dX4_begin_63 (by decide) ?_
          exact ih2 S v0 v1 v2 (gI S (gR S v1 7) q16) v2 (gR S v0 1) res hT hpv0 hkv0 hpv1 hkv1    hp11 hk11 hF
    · intro S v0 v1 v2 w0 w1 w2 res hT hpv0 hkv0 hpv1 hkv1 hpw2 hkw2 hF
      replace hF : F_X4_begin_2 f (F_X4_begin f) v0 v1 v2 w0 w1 w2 S = some res := hF
      unfold F_X4_begin_2 at hF
      obtain ⟨hi17, hF⟩ := bX_some hF
      obtain ⟨q17, eq17⟩ : ∃ q : Nat, q = Int32.toNatClampNeg w1 := ⟨_, rfl⟩
      rw [← eq17] at hF
      refine f_iast C dX4_begin_67 hpw2 hkw2 hi17 ?_
      rw [← eq17]
      have hT18 : zT0 kd N0 (sI S w2 q17 w0) := zT0_sI hT
      replace hF := fS_e hF
      generalize sI S w2 q17 w0 = S18 at hF hT18 ⊢
      refine z_aload_n C dX4_begin_68 rfl ?_
      refine f_getr C dX4_begin_69 zfRX4_15 hpv0 hkv0 rfl ?_
      obtain ⟨hp19, hk19⟩ := hT18.1 v0 3 2 (.inr (0, 8)) hpv0 hkv0 rfl
      refine z_iload_n C dX4_begin_72 rfl ?_
      refine z_iload_n C dX4_begin_73 rfl ?_
      refine z_aload_n C dX4_begin_74 rfl ?_
      refine f_geti C dX4_begin_75 zfRX4_27 hpv0 hkv0 rfl ?_
      refine z_icmp_ge C 90 dX4_begin_78 (by decide) (fun c22 => ?_) (fun c22 => ?_)
      · replace hF := ip hF c22
        refine z_iconst (v := 0) C dX4_begin_90 (by decide) ?_
        exact ih3 S18 v0 v1 v2 0 v2 (gR S18 v0 2) res hT18 hpv0 hkv0 hpv1 hkv1    hp19 hk19 hF
      · replace hF := im hF c22
        refine z_aload_n C dX4_begin_81 rfl ?_
        refine f_getr C dX4_begin_82 zfRX4_45 hpv1 hkv1 rfl ?_
        obtain ⟨hp23, hk23⟩ := hT18.1 v1 5 6 (.inr (0, 8)) hpv1 hkv1 rfl
        refine z_iload_n C dX4_begin_85 rfl ?_
        obtain ⟨hi24, hF⟩ := bX_some hF
        obtain ⟨q24, eq24⟩ : ∃ q : Nat, q = Int32.toNatClampNeg v2 := ⟨_, rfl⟩
        rw [← eq24] at hF
        refine f_iald C dX4_begin_86 hp23 hk23 hi24 ?_
        rw [← eq24]
        refine z_goto C 91 dX4_begin_87 (by decide) ?_
        exact ih3 S18 v0 v1 v2 (gI S18 (gR S18 v1 6) q24) v2 (gR S18 v0 2) res hT18 hpv0 hkv0 hpv1 hkv1    hp19 hk19 hF
    · intro S v0 v1 v2 w0 w1 w2 res hT hpv0 hkv0 hpv1 hkv1 hpw2 hkw2 hF
      replace hF : F_X4_begin_3 f (F_X4_begin f) v0 v1 v2 w0 w1 w2 S = some res := hF
      unfold F_X4_begin_3 at hF
      obtain ⟨hi25, hF⟩ := bX_some hF
      obtain ⟨q25, eq25⟩ : ∃ q : Nat, q = Int32.toNatClampNeg w1 := ⟨_, rfl⟩
      rw [← eq25] at hF
      refine f_iast C dX4_begin_91 hpw2 hkw2 hi25 ?_
      rw [← eq25]
      have hT26 : zT0 kd N0 (sI S w2 q25 w0) := zT0_sI hT
      replace hF := fS_e hF
      generalize sI S w2 q25 w0 = S26 at hF hT26 ⊢
      refine z_aload_n C dX4_begin_92 rfl ?_
      refine f_getr C dX4_begin_93 zfRX4_18 hpv0 hkv0 rfl ?_
      obtain ⟨hp27, hk27⟩ := hT26.1 v0 3 3 (.inr (0, 8)) hpv0 hkv0 rfl
      refine z_iload_n C dX4_begin_96 rfl ?_
      refine z_iconst (v := 0) C dX4_begin_97 (by decide) ?_
      obtain ⟨hi28, hF⟩ := bX_some hF
      obtain ⟨q28, eq28⟩ : ∃ q : Nat, q = Int32.toNatClampNeg v2 := ⟨_, rfl⟩
      rw [← eq28] at hF
      refine f_iast C dX4_begin_98 hp27 hk27 hi28 ?_
      rw [← eq28]
      have hT29 : zT0 kd N0 (sI S26 (gR S26 v0 3) q28 0) := zT0_sI hT26
      replace hF := fS_e hF
      generalize sI S26 (gR S26 v0 3) q28 0 = S29 at hF hT29 ⊢
      refine z_iinc (v := v2 + 1) (lv2 := [some (.ref (zB G + v0)), some (.ref (zB G + v1)), some (.int (v2 + 1))]) C dX4_begin_99 rfl (by rw [show Int32.ofInt 1 = (1 : Int32) from by decide]) rfl ?_
      refine z_goto C 38 dX4_begin_102 (by decide) ?_
      exact ih1 S29 v0 v1 (v2 + 1) res hT29 hpv0 hkv0 hpv1 hkv1  hF
theorem K_X4_begin {G : zG} {l : Launch} {kd : kD} {N0 f : Nat} {S : aS} {v0 : Nat} {v1 : Nat} {res : Option Value × aS} (hT : zT0 kd N0 S) (hpv0 : v0 < N0) (hkv0 : kd v0 = .inl 3) (hpv1 : v1 < N0) (hkv1 : kd v1 = .inl 5) (hF : F_X4_begin f 0 [.ref v0, .ref v1] S = some res) : zM G l 0 0 0 yX4_begin cX4_begin 3 none [.ref (zB G + v0), .ref (zB G + v1)] (cn G kd N0 S) (zPo G kd N0 res) := zM.of (by decide) rfl (Nat.le_of_ble_eq_true rfl) (fun X _ C hr _ => (B_X4_begin C hr f).1 S v0 v1 res hT hpv0 hkv0 hpv1 hkv1 hF)
def F_X4_become_0 (f : Nat) (rc : Nat → List Value → aS → aR) (v0 : Nat) (v1 : Nat) (S : aS) : aR :=
  fS (sI S v0 0 (gI S v1 0)) fun S1 => fS (sI S1 v0 4 (gI S1 v1 4)) fun S2 => fS (sI S2 v0 5 (gI S2 v1 5)) fun S3 => fS (sI S3 v0 6 (gI S3 v1 6)) fun S4 => fS (sI S4 v0 7 (gI S4 v1 7)) fun S5 => fS (sI S5 v0 8 (gI S5 v1 8)) fun S6 => rc 1 [.ref v0, .ref v1, .int 0] S6
def F_X4_become_1 (f : Nat) (rc : Nat → List Value → aS → aR) (v0 : Nat) (v1 : Nat) (v2 : Int32) (S : aS) : aR :=
  if (8 : Int32) ≤ v2 then some (none, S) else bX v2 8 fun q13 => bX v2 8 fun q14 => fS (sI S (gR S v0 1) q14 (gI S (gR S v1 1) q13)) fun S15 => bX v2 8 fun q18 => bX v2 8 fun q19 => fS (sI S15 (gR S15 v0 2) q19 (gI S15 (gR S15 v1 2) q18)) fun S20 => bX v2 8 fun q23 => bX v2 8 fun q24 => fS (sI S20 (gR S20 v0 3) q24 (gI S20 (gR S20 v1 3) q23)) fun S25 => rc 1 [.ref v0, .ref v1, .int (v2 + 1)] S25
def F_X4_become : Nat → Nat → List Value → aS → aR
  | 0, _, _, _ => none
  | f + 1, 0, vs, S => F_X4_become_0 f (F_X4_become f) (vR vs 0) (vR vs 1) S
  | f + 1, 1, vs, S => F_X4_become_1 f (F_X4_become f) (vR vs 0) (vR vs 1) (vI vs 2) S
  | _ + 1, _, _, _ => none
theorem dX4_become_0 : decode cX4_become 0 = .ok (.aload_n 0, 1) := by decide +kernel
theorem dX4_become_1 : decode cX4_become 1 = .ok (.aload_n 1, 1) := by decide +kernel
theorem dX4_become_2 : decode cX4_become 2 = .ok (.getfield 27, 3) := by decide +kernel
theorem dX4_become_5 : decode cX4_become 5 = .ok (.putfield 27, 3) := by decide +kernel
theorem dX4_become_8 : decode cX4_become 8 = .ok (.aload_n 0, 1) := by decide +kernel
theorem dX4_become_9 : decode cX4_become 9 = .ok (.aload_n 1, 1) := by decide +kernel
theorem dX4_become_10 : decode cX4_become 10 = .ok (.getfield 28, 3) := by decide +kernel
theorem dX4_become_13 : decode cX4_become 13 = .ok (.putfield 28, 3) := by decide +kernel
theorem dX4_become_16 : decode cX4_become 16 = .ok (.aload_n 0, 1) := by decide +kernel
theorem dX4_become_17 : decode cX4_become 17 = .ok (.aload_n 1, 1) := by decide +kernel
theorem dX4_become_18 : decode cX4_become 18 = .ok (.getfield 31, 3) := by decide +kernel
theorem dX4_become_21 : decode cX4_become 21 = .ok (.putfield 31, 3) := by decide +kernel
theorem dX4_become_24 : decode cX4_become 24 = .ok (.aload_n 0, 1) := by decide +kernel
theorem dX4_become_25 : decode cX4_become 25 = .ok (.aload_n 1, 1) := by decide +kernel
theorem dX4_become_26 : decode cX4_become 26 = .ok (.getfield 34, 3) := by decide +kernel
theorem dX4_become_29 : decode cX4_become 29 = .ok (.putfield 34, 3) := by decide +kernel
theorem dX4_become_32 : decode cX4_become 32 = .ok (.aload_n 0, 1) := by decide +kernel
theorem dX4_become_33 : decode cX4_become 33 = .ok (.aload_n 1, 1) := by decide +kernel
theorem dX4_become_34 : decode cX4_become 34 = .ok (.getfield 37, 3) := by decide +kernel
theorem dX4_become_37 : decode cX4_become 37 = .ok (.putfield 37, 3) := by decide +kernel
theorem dX4_become_40 : decode cX4_become 40 = .ok (.aload_n 0, 1) := by decide +kernel
theorem dX4_become_41 : decode cX4_become 41 = .ok (.aload_n 1, 1) := by decide +kernel
theorem dX4_become_42 : decode cX4_become 42 = .ok (.getfield 43, 3) := by decide +kernel
theorem dX4_become_45 : decode cX4_become 45 = .ok (.putfield 43, 3) := by decide +kernel
theorem dX4_become_48 : decode cX4_become 48 = .ok (.iconst 0, 1) := by decide +kernel
theorem dX4_become_49 : decode cX4_become 49 = .ok (.istore_n 2, 1) := by decide +kernel
theorem dX4_become_50 : decode cX4_become 50 = .ok (.iload_n 2, 1) := by decide +kernel
theorem dX4_become_51 : decode cX4_become 51 = .ok (.bipush 8, 2) := by decide +kernel
theorem dX4_become_53 : decode cX4_become 53 = .ok (.if_icmp .ge 45, 3) := by decide +kernel
theorem dX4_become_56 : decode cX4_become 56 = .ok (.aload_n 0, 1) := by decide +kernel
theorem dX4_become_57 : decode cX4_become 57 = .ok (.getfield 9, 3) := by decide +kernel
theorem dX4_become_60 : decode cX4_become 60 = .ok (.iload_n 2, 1) := by decide +kernel
theorem dX4_become_61 : decode cX4_become 61 = .ok (.aload_n 1, 1) := by decide +kernel
theorem dX4_become_62 : decode cX4_become 62 = .ok (.getfield 9, 3) := by decide +kernel
theorem dX4_become_65 : decode cX4_become 65 = .ok (.iload_n 2, 1) := by decide +kernel
theorem dX4_become_66 : decode cX4_become 66 = .ok (.iaload, 1) := by decide +kernel
theorem dX4_become_67 : decode cX4_become 67 = .ok (.iastore, 1) := by decide +kernel
theorem dX4_become_68 : decode cX4_become 68 = .ok (.aload_n 0, 1) := by decide +kernel
theorem dX4_become_69 : decode cX4_become 69 = .ok (.getfield 15, 3) := by decide +kernel
theorem dX4_become_72 : decode cX4_become 72 = .ok (.iload_n 2, 1) := by decide +kernel
theorem dX4_become_73 : decode cX4_become 73 = .ok (.aload_n 1, 1) := by decide +kernel
theorem dX4_become_74 : decode cX4_become 74 = .ok (.getfield 15, 3) := by decide +kernel
theorem dX4_become_77 : decode cX4_become 77 = .ok (.iload_n 2, 1) := by decide +kernel
theorem dX4_become_78 : decode cX4_become 78 = .ok (.iaload, 1) := by decide +kernel
theorem dX4_become_79 : decode cX4_become 79 = .ok (.iastore, 1) := by decide +kernel
theorem dX4_become_80 : decode cX4_become 80 = .ok (.aload_n 0, 1) := by decide +kernel
theorem dX4_become_81 : decode cX4_become 81 = .ok (.getfield 18, 3) := by decide +kernel
theorem dX4_become_84 : decode cX4_become 84 = .ok (.iload_n 2, 1) := by decide +kernel
theorem dX4_become_85 : decode cX4_become 85 = .ok (.aload_n 1, 1) := by decide +kernel
theorem dX4_become_86 : decode cX4_become 86 = .ok (.getfield 18, 3) := by decide +kernel
theorem dX4_become_89 : decode cX4_become 89 = .ok (.iload_n 2, 1) := by decide +kernel
theorem dX4_become_90 : decode cX4_become 90 = .ok (.iaload, 1) := by decide +kernel
theorem dX4_become_91 : decode cX4_become 91 = .ok (.iastore, 1) := by decide +kernel
theorem dX4_become_92 : decode cX4_become 92 = .ok (.iinc 2 1, 3) := by decide +kernel
theorem dX4_become_95 : decode cX4_become 95 = .ok (.goto (-45), 3) := by decide +kernel
theorem dX4_become_98 : decode cX4_become 98 = .ok (.return_, 1) := by decide +kernel
set_option maxHeartbeats 4000000 in
set_option maxRecDepth 100000 in
theorem B_X4_become {G : zG} {X : zX} {kd : kD} {N0 : Nat} (C : zCt G X 0 0 0 RX4 cX4_become 3) (hr : (zXh X).sig.returnType = none) : ∀ f : Nat,
    (∀ (S : aS) (v0 : Nat) (v1 : Nat) (res : Option Value × aS), zT0 kd N0 S → v0 < N0 → kd v0 = .inl 3 → v1 < N0 → kd v1 = .inl 3 → F_X4_become f 0 [.ref v0, .ref v1] S = some res → zV G X (zQX G X (zPo G kd N0 res) 0 0) 3 [some (.ref (zB G + v0)), some (.ref (zB G + v1)), none] [] (cn G kd N0 S) 0 0 0) ∧
    (∀ (S : aS) (v0 : Nat) (v1 : Nat) (v2 : Int32) (res : Option Value × aS), zT0 kd N0 S → v0 < N0 → kd v0 = .inl 3 → v1 < N0 → kd v1 = .inl 3 → F_X4_become f 1 [.ref v0, .ref v1, .int v2] S = some res → zV G X (zQX G X (zPo G kd N0 res) 0 0) 3 [some (.ref (zB G + v0)), some (.ref (zB G + v1)), some (.int v2)] [] (cn G kd N0 S) 50 0 0) := by
  intro f
  induction f with
  | zero => exact ⟨(fun _ _ _ _ _ _ _ _ _ h => by cases h), (fun _ _ _ _ _ _ _ _ _ _ h => by cases h)⟩
  | succ f ih =>
    obtain ⟨ih0, ih1⟩ := ih
    refine ⟨?_, ?_⟩
    · intro S v0 v1 res hT hpv0 hkv0 hpv1 hkv1 hF
      replace hF : F_X4_become_0 f (F_X4_become f) v0 v1 S = some res := hF
      unfold F_X4_become_0 at hF
      refine z_aload_n C dX4_become_0 rfl ?_
      refine z_aload_n C dX4_become_1 rfl ?_
      refine f_geti C dX4_become_2 zfRX4_27 hpv1 hkv1 rfl ?_
      refine f_puti C dX4_become_5 zfRX4_27 fw3_0 hpv0 hkv0 rfl rfl rfl ?_
      have hT1 : zT0 kd N0 (sI S v0 0 (gI S v1 0)) := zT0_sI hT
      replace hF := fS_e hF
      generalize sI S v0 0 (gI S v1 0) = S1 at hF hT1 ⊢
      refine z_aload_n C dX4_become_8 rfl ?_
      refine z_aload_n C dX4_become_9 rfl ?_
      refine f_geti C dX4_become_10 zfRX4_28 hpv1 hkv1 rfl ?_
      refine f_puti C dX4_become_13 zfRX4_28 fw3_4 hpv0 hkv0 rfl rfl rfl ?_
      have hT2 : zT0 kd N0 (sI S1 v0 4 (gI S1 v1 4)) := zT0_sI hT1
      replace hF := fS_e hF
      generalize sI S1 v0 4 (gI S1 v1 4) = S2 at hF hT2 ⊢
      refine z_aload_n C dX4_become_16 rfl ?_
      refine z_aload_n C dX4_become_17 rfl ?_
      refine f_geti C dX4_become_18 zfRX4_31 hpv1 hkv1 rfl ?_
      refine f_puti C dX4_become_21 zfRX4_31 fw3_5 hpv0 hkv0 rfl rfl rfl ?_
      have hT3 : zT0 kd N0 (sI S2 v0 5 (gI S2 v1 5)) := zT0_sI hT2
      replace hF := fS_e hF
      generalize sI S2 v0 5 (gI S2 v1 5) = S3 at hF hT3 ⊢
      refine z_aload_n C dX4_become_24 rfl ?_
      refine z_aload_n C dX4_become_25 rfl ?_
      refine f_geti C dX4_become_26 zfRX4_34 hpv1 hkv1 rfl ?_
      refine f_puti C dX4_become_29 zfRX4_34 fw3_6 hpv0 hkv0 rfl rfl rfl ?_
      have hT4 : zT0 kd N0 (sI S3 v0 6 (gI S3 v1 6)) := zT0_sI hT3
      replace hF := fS_e hF
      generalize sI S3 v0 6 (gI S3 v1 6) = S4 at hF hT4 ⊢
      refine z_aload_n C dX4_become_32 rfl ?_
      refine z_aload_n C dX4_become_33 rfl ?_
      refine f_geti C dX4_become_34 zfRX4_37 hpv1 hkv1 rfl ?_
      refine f_puti C dX4_become_37 zfRX4_37 fw3_7 hpv0 hkv0 rfl rfl rfl ?_
      have hT5 : zT0 kd N0 (sI S4 v0 7 (gI S4 v1 7)) := zT0_sI hT4
      replace hF := fS_e hF
      generalize sI S4 v0 7 (gI S4 v1 7) = S5 at hF hT5 ⊢
      refine z_aload_n C dX4_become_40 rfl ?_
      refine z_aload_n C dX4_become_41 rfl ?_
      refine f_geti C dX4_become_42 zfRX4_43 hpv1 hkv1 rfl ?_
      refine f_puti C dX4_become_45 zfRX4_43 fw3_8 hpv0 hkv0 rfl rfl rfl ?_
      have hT6 : zT0 kd N0 (sI S5 v0 8 (gI S5 v1 8)) := zT0_sI hT5
      replace hF := fS_e hF
      generalize sI S5 v0 8 (gI S5 v1 8) = S6 at hF hT6 ⊢
      refine z_iconst (v := 0) C dX4_become_48 (by decide) ?_
      refine z_istore_n (lv2 := [some (.ref (zB G + v0)), some (.ref (zB G + v1)), some (.int 0)]) C dX4_become_49 (by decide) rfl ?_
      exact ih1 S6 v0 v1 0 res hT6 hpv0 hkv0 hpv1 hkv1  hF
    · intro S v0 v1 v2 res hT hpv0 hkv0 hpv1 hkv1 hF
      replace hF : F_X4_become_1 f (F_X4_become f) v0 v1 v2 S = some res := hF
      unfold F_X4_become_1 at hF
      refine z_iload_n C dX4_become_50 rfl ?_
      refine z_bipush (v := 8) C dX4_become_51 (by decide) ?_
      refine z_icmp_ge C 98 dX4_become_53 (by decide) (fun c10 => ?_) (fun c10 => ?_)
      · replace hF := ip hF c10
        cases hF
        exact z_vret C hr dX4_become_98 ⟨rfl, rfl, hT⟩
      · replace hF := im hF c10
        refine z_aload_n C dX4_become_56 rfl ?_
        refine f_getr C dX4_become_57 zfRX4_9 hpv0 hkv0 rfl ?_
        obtain ⟨hp11, hk11⟩ := hT.1 v0 3 1 (.inr (0, 8)) hpv0 hkv0 rfl
        refine z_iload_n C dX4_become_60 rfl ?_
        refine z_aload_n C dX4_become_61 rfl ?_
        refine f_getr C dX4_become_62 zfRX4_9 hpv1 hkv1 rfl ?_
        obtain ⟨hp12, hk12⟩ := hT.1 v1 3 1 (.inr (0, 8)) hpv1 hkv1 rfl
        refine z_iload_n C dX4_become_65 rfl ?_
        obtain ⟨hi13, hF⟩ := bX_some hF
        obtain ⟨q13, eq13⟩ : ∃ q : Nat, q = Int32.toNatClampNeg v2 := ⟨_, rfl⟩
        rw [← eq13] at hF
        refine f_iald C dX4_become_66 hp12 hk12 hi13 ?_
        rw [← eq13]
        obtain ⟨hi14, hF⟩ := bX_some hF
        obtain ⟨q14, eq14⟩ : ∃ q : Nat, q = Int32.toNatClampNeg v2 := ⟨_, rfl⟩
        rw [← eq14] at hF
        refine f_iast C dX4_become_67 hp11 hk11 hi14 ?_
        rw [← eq14]
        have hT15 : zT0 kd N0 (sI S (gR S v0 1) q14 (gI S (gR S v1 1) q13)) := zT0_sI hT
        replace hF := fS_e hF
        generalize sI S (gR S v0 1) q14 (gI S (gR S v1 1) q13) = S15 at hF hT15 ⊢
        refine z_aload_n C dX4_become_68 rfl ?_
        refine f_getr C dX4_become_69 zfRX4_15 hpv0 hkv0 rfl ?_
        obtain ⟨hp16, hk16⟩ := hT15.1 v0 3 2 (.inr (0, 8)) hpv0 hkv0 rfl
        refine z_iload_n C dX4_become_72 rfl ?_
        refine z_aload_n C dX4_become_73 rfl ?_
        refine f_getr C dX4_become_74 zfRX4_15 hpv1 hkv1 rfl ?_
        obtain ⟨hp17, hk17⟩ := hT15.1 v1 3 2 (.inr (0, 8)) hpv1 hkv1 rfl
        refine z_iload_n C dX4_become_77 rfl ?_
        obtain ⟨hi18, hF⟩ := bX_some hF
        obtain ⟨q18, eq18⟩ : ∃ q : Nat, q = Int32.toNatClampNeg v2 := ⟨_, rfl⟩
        rw [← eq18] at hF
        refine f_iald C dX4_become_78 hp17 hk17 hi18 ?_
        rw [← eq18]
        obtain ⟨hi19, hF⟩ := bX_some hF
        obtain ⟨q19, eq19⟩ : ∃ q : Nat, q = Int32.toNatClampNeg v2 := ⟨_, rfl⟩
        rw [← eq19] at hF
        refine f_iast C dX4_become_79 hp16 hk16 hi19 ?_
        rw [← eq19]
        have hT20 : zT0 kd N0 (sI S15 (gR S15 v0 2) q19 (gI S15 (gR S15 v1 2) q18)) := zT0_sI hT15
        replace hF := fS_e hF
        generalize sI S15 (gR S15 v0 2) q19 (gI S15 (gR S15 v1 2) q18) = S20 at hF hT20 ⊢
        refine z_aload_n C dX4_become_80 rfl ?_
        refine f_getr C dX4_become_81 zfRX4_18 hpv0 hkv0 rfl ?_
        obtain ⟨hp21, hk21⟩ := hT20.1 v0 3 3 (.inr (0, 8)) hpv0 hkv0 rfl
        refine z_iload_n C dX4_become_84 rfl ?_
        refine z_aload_n C dX4_become_85 rfl ?_
        refine f_getr C dX4_become_86 zfRX4_18 hpv1 hkv1 rfl ?_
        obtain ⟨hp22, hk22⟩ := hT20.1 v1 3 3 (.inr (0, 8)) hpv1 hkv1 rfl
        refine z_iload_n C dX4_become_89 rfl ?_
        obtain ⟨hi23, hF⟩ := bX_some hF
        obtain ⟨q23, eq23⟩ : ∃ q : Nat, q = Int32.toNatClampNeg v2 := ⟨_, rfl⟩
        rw [← eq23] at hF
        refine f_iald C dX4_become_90 hp22 hk22 hi23 ?_
        rw [← eq23]
        obtain ⟨hi24, hF⟩ := bX_some hF
        obtain ⟨q24, eq24⟩ : ∃ q : Nat, q = Int32.toNatClampNeg v2 := ⟨_, rfl⟩
        rw [← eq24] at hF
        refine f_iast C dX4_become_91 hp21 hk21 hi24 ?_
        rw [← eq24]
        have hT25 : zT0 kd N0 (sI S20 (gR S20 v0 3) q24 (gI S20 (gR S20 v1 3) q23)) := zT0_sI hT20
        replace hF := fS_e hF
        generalize sI S20 (gR S20 v0 3) q24 (gI S20 (gR S20 v1 3) q23) = S25 at hF hT25 ⊢
        refine z_iinc (v := v2 + 1) (lv2 := [some (.ref (zB G + v0)), some (.ref (zB G + v1)), some (.int (v2 + 1))]) C dX4_become_92 rfl (by rw [show Int32.ofInt 1 = (1 : Int32) from by decide]) rfl ?_
        refine z_goto C 50 dX4_become_95 (by decide) ?_
        exact ih1 S25 v0 v1 (v2 + 1) res hT25 hpv0 hkv0 hpv1 hkv1  hF
theorem K_X4_become {G : zG} {l : Launch} {kd : kD} {N0 f : Nat} {S : aS} {v0 : Nat} {v1 : Nat} {res : Option Value × aS} (hT : zT0 kd N0 S) (hpv0 : v0 < N0) (hkv0 : kd v0 = .inl 3) (hpv1 : v1 < N0) (hkv1 : kd v1 = .inl 3) (hF : F_X4_become f 0 [.ref v0, .ref v1] S = some res) : zM G l 0 0 0 yX4_become cX4_become 3 none [.ref (zB G + v0), .ref (zB G + v1)] (cn G kd N0 S) (zPo G kd N0 res) := zM.of (by decide) rfl (Nat.le_of_ble_eq_true rfl) (fun X _ C hr _ => (B_X4_become C hr f).1 S v0 v1 res hT hpv0 hkv0 hpv1 hkv1 hF)
def F_X4_hasYard_0 (f : Nat) (rc : Nat → List Value → aS → aR) (v0 : Nat) (v1 : Int32) (S : aS) : aR :=
  bZ (if v1 < (0 : Int32) then (0 : Int32) else if (gI S v0 0) ≤ v1 then (0 : Int32) else (1 : Int32)) (some (some (.int (if v1 < (0 : Int32) then (0 : Int32) else if (gI S v0 0) ≤ v1 then (0 : Int32) else (1 : Int32))), S))
def F_X4_hasYard : Nat → Nat → List Value → aS → aR
  | 0, _, _, _ => none
  | f + 1, 0, vs, S => F_X4_hasYard_0 f (F_X4_hasYard f) (vR vs 0) (vI vs 1) S
  | _ + 1, _, _, _ => none
theorem dX4_hasYard_0 : decode cX4_hasYard 0 = .ok (.iload_n 1, 1) := by decide +kernel
theorem dX4_hasYard_1 : decode cX4_hasYard 1 = .ok (.ifCond .lt 15, 3) := by decide +kernel
theorem dX4_hasYard_4 : decode cX4_hasYard 4 = .ok (.iload_n 1, 1) := by decide +kernel
theorem dX4_hasYard_5 : decode cX4_hasYard 5 = .ok (.aload_n 0, 1) := by decide +kernel
theorem dX4_hasYard_6 : decode cX4_hasYard 6 = .ok (.getfield 27, 3) := by decide +kernel
theorem dX4_hasYard_9 : decode cX4_hasYard 9 = .ok (.if_icmp .ge 7, 3) := by decide +kernel
theorem dX4_hasYard_12 : decode cX4_hasYard 12 = .ok (.iconst 1, 1) := by decide +kernel
theorem dX4_hasYard_13 : decode cX4_hasYard 13 = .ok (.goto 4, 3) := by decide +kernel
theorem dX4_hasYard_16 : decode cX4_hasYard 16 = .ok (.iconst 0, 1) := by decide +kernel
theorem dX4_hasYard_17 : decode cX4_hasYard 17 = .ok (.ireturn, 1) := by decide +kernel
set_option maxHeartbeats 4000000 in
set_option maxRecDepth 100000 in
theorem B_X4_hasYard {G : zG} {X : zX} {kd : kD} {N0 : Nat} (C : zCt G X 0 0 0 RX4 cX4_hasYard 2) (hr : (zXh X).sig.returnType = (some .boolean)) : ∀ f : Nat,
    (∀ (S : aS) (v0 : Nat) (v1 : Int32) (res : Option Value × aS), zT0 kd N0 S → v0 < N0 → kd v0 = .inl 3 → F_X4_hasYard f 0 [.ref v0, .int v1] S = some res → zV G X (zQX G X (zPo G kd N0 res) 0 0) 2 [some (.ref (zB G + v0)), some (.int v1)] [] (cn G kd N0 S) 0 0 0) := by
  intro f
  induction f with
  | zero => exact (fun _ _ _ _ _ _ _ h => by cases h)
  | succ f ih =>
    have ih0 := ih
    intro S v0 v1 res hT hpv0 hkv0 hF
    replace hF : F_X4_hasYard_0 f (F_X4_hasYard f) v0 v1 S = some res := hF
    unfold F_X4_hasYard_0 at hF
    refine z_iload_n C dX4_hasYard_0 rfl ?_
    have hJ3 : zV G X (zQX G X (zPo G kd N0 res) 0 0) 2 [some (.ref (zB G + v0)), some (.int v1)] [.int (if v1 < (0 : Int32) then (0 : Int32) else if (gI S v0 0) ≤ v1 then (0 : Int32) else (1 : Int32))] (cn G kd N0 S) 17 0 0 := by
      obtain ⟨hz, hF⟩ := bZ_some hF
      cases hF
      exact z_zret C hr hz.1 dX4_hasYard_17 ⟨rfl, rfl, hT⟩
    refine z_if_lt C 16 dX4_hasYard_1 (by decide) (fun c1 => ?_) (fun c1 => ?_)
    · refine z_iconst (v := 0) C dX4_hasYard_16 (by decide) ?_
      exact zV.at hJ3 (by first | rfl | contradiction | (simp only [if_pos c1]; done)) (by first | rfl | contradiction | (simp only [if_pos c1]; done)) rfl rfl
    · refine z_iload_n C dX4_hasYard_4 rfl ?_
      refine z_aload_n C dX4_hasYard_5 rfl ?_
      refine f_geti C dX4_hasYard_6 zfRX4_27 hpv0 hkv0 rfl ?_
      refine z_icmp_ge C 16 dX4_hasYard_9 (by decide) (fun c2 => ?_) (fun c2 => ?_)
      · refine z_iconst (v := 0) C dX4_hasYard_16 (by decide) ?_
        exact zV.at hJ3 (by first | rfl | contradiction | (simp only [if_neg c1, if_pos c2]; done)) (by first | rfl | contradiction | (simp only [if_neg c1, if_pos c2]; done)) rfl rfl
      · refine z_iconst (v := 1) C dX4_hasYard_12 (by decide) ?_
        refine z_goto C 17 dX4_hasYard_13 (by decide) ?_
        exact zV.at hJ3 (by first | rfl | contradiction | (simp only [if_neg c1, if_neg c2]; done)) (by first | rfl | contradiction | (simp only [if_neg c1, if_neg c2]; done)) rfl rfl
theorem K_X4_hasYard {G : zG} {l : Launch} {kd : kD} {N0 f : Nat} {S : aS} {v0 : Nat} {v1 : Int32} {res : Option Value × aS} (hT : zT0 kd N0 S) (hpv0 : v0 < N0) (hkv0 : kd v0 = .inl 3) (hF : F_X4_hasYard f 0 [.ref v0, .int v1] S = some res) : zM G l 0 0 0 yX4_hasYard cX4_hasYard 2 (some .boolean) [.ref (zB G + v0), .int v1] (cn G kd N0 S) (zPo G kd N0 res) := zM.of (by decide) rfl (Nat.le_of_ble_eq_true rfl) (fun X _ C hr _ => (B_X4_hasYard C hr f) S v0 v1 res hT hpv0 hkv0 hF)
def F_X4_hasBin_0 (f : Nat) (rc : Nat → List Value → aS → aR) (v0 : Nat) (v1 : Int32) (S : aS) : aR :=
  bI (F_X4_hasYard f 0 [.ref v0, .int v1] S) fun x1 S1 => if x1 = (0 : Int32) then rc 1 [] S1 else bX v1 8 fun q6 => bZ (if (gI S1 (gR S1 v0 2) q6) ≤ (0 : Int32) then (0 : Int32) else (1 : Int32)) (some (some (.int (if (gI S1 (gR S1 v0 2) q6) ≤ (0 : Int32) then (0 : Int32) else (1 : Int32))), S1))
def F_X4_hasBin_1 (f : Nat) (rc : Nat → List Value → aS → aR)  (S : aS) : aR :=
  rc 2 [.int 0] S
def F_X4_hasBin_2 (f : Nat) (rc : Nat → List Value → aS → aR) (w0 : Int32) (S : aS) : aR :=
  bZ w0 (some (some (.int w0), S))
def F_X4_hasBin : Nat → Nat → List Value → aS → aR
  | 0, _, _, _ => none
  | f + 1, 0, vs, S => F_X4_hasBin_0 f (F_X4_hasBin f) (vR vs 0) (vI vs 1) S
  | f + 1, 1, vs, S => F_X4_hasBin_1 f (F_X4_hasBin f)  S
  | f + 1, 2, vs, S => F_X4_hasBin_2 f (F_X4_hasBin f) (vI vs 0) S
  | _ + 1, _, _, _ => none
theorem dX4_hasBin_0 : decode cX4_hasBin 0 = .ok (.aload_n 0, 1) := by decide +kernel
theorem dX4_hasBin_1 : decode cX4_hasBin 1 = .ok (.iload_n 1, 1) := by decide +kernel
theorem dX4_hasBin_2 : decode cX4_hasBin 2 = .ok (.invokevirtual 46, 3) := by decide +kernel
theorem dX4_hasBin_5 : decode cX4_hasBin 5 = .ok (.ifCond .eq 16, 3) := by decide +kernel
theorem dX4_hasBin_8 : decode cX4_hasBin 8 = .ok (.aload_n 0, 1) := by decide +kernel
theorem dX4_hasBin_9 : decode cX4_hasBin 9 = .ok (.getfield 15, 3) := by decide +kernel
theorem dX4_hasBin_12 : decode cX4_hasBin 12 = .ok (.iload_n 1, 1) := by decide +kernel
theorem dX4_hasBin_13 : decode cX4_hasBin 13 = .ok (.iaload, 1) := by decide +kernel
theorem dX4_hasBin_14 : decode cX4_hasBin 14 = .ok (.ifCond .le 7, 3) := by decide +kernel
theorem dX4_hasBin_17 : decode cX4_hasBin 17 = .ok (.iconst 1, 1) := by decide +kernel
theorem dX4_hasBin_18 : decode cX4_hasBin 18 = .ok (.goto 4, 3) := by decide +kernel
theorem dX4_hasBin_21 : decode cX4_hasBin 21 = .ok (.iconst 0, 1) := by decide +kernel
theorem dX4_hasBin_22 : decode cX4_hasBin 22 = .ok (.ireturn, 1) := by decide +kernel
set_option maxHeartbeats 4000000 in
set_option maxRecDepth 100000 in
theorem B_X4_hasBin {G : zG} {X : zX} {kd : kD} {N0 : Nat} (C : zCt G X 1 0 0 RX4 cX4_hasBin 2) (hr : (zXh X).sig.returnType = (some .boolean)) : ∀ f : Nat,
    (∀ (S : aS) (v0 : Nat) (v1 : Int32) (res : Option Value × aS), zT0 kd N0 S → v0 < N0 → kd v0 = .inl 3 → F_X4_hasBin f 0 [.ref v0, .int v1] S = some res → zV G X (zQX G X (zPo G kd N0 res) 0 0) 2 [some (.ref (zB G + v0)), some (.int v1)] [] (cn G kd N0 S) 0 0 0) ∧
    (∀ (S : aS)  (res : Option Value × aS), zT0 kd N0 S → F_X4_hasBin f 1 [] S = some res → zV G X (zQX G X (zPo G kd N0 res) 0 0) 2 [none, none] [] (cn G kd N0 S) 21 0 0) ∧
    (∀ (S : aS) (w0 : Int32) (res : Option Value × aS), zT0 kd N0 S → F_X4_hasBin f 2 [.int w0] S = some res → zV G X (zQX G X (zPo G kd N0 res) 0 0) 2 [none, none] [.int w0] (cn G kd N0 S) 22 0 0) := by
  intro f
  induction f with
  | zero => exact ⟨(fun _ _ _ _ _ _ _ h => by cases h), (fun _ _ _ h => by cases h), (fun _ _ _ _ h => by cases h)⟩
  | succ f ih =>
    obtain ⟨ih0, ih1, ih2⟩ := ih
    refine ⟨?_, ?_, ?_⟩
    · intro S v0 v1 res hT hpv0 hkv0 hF
      replace hF : F_X4_hasBin_0 f (F_X4_hasBin f) v0 v1 S = some res := hF
      unfold F_X4_hasBin_0 at hF
      refine z_aload_n C dX4_hasBin_0 rfl ?_
      refine z_iload_n C dX4_hasBin_1 rfl ?_
      obtain ⟨x1, S1, h1, hF⟩ := bI_some hF
      refine f_cV (st2 := [.int x1]) C dX4_hasBin_2 zyX4_hasYard zvX4_hasYard lkRX4_46 (K_X4_hasYard (l := zXl X) hT hpv0 hkv0  h1) hpv0 hkv0 rfl (by decide) rfl rfl (Nat.le_of_ble_eq_true rfl) rfl (fun hT1 => ?_)
      refine z_if_eq C 21 dX4_hasBin_5 (by decide) (fun c4 => ?_) (fun c4 => ?_)
      · replace hF := ip hF c4
        refine z_mask [false, false] ?_ rfl
        exact ih1 S1  res hT1  hF
      · replace hF := im hF c4
        refine z_aload_n C dX4_hasBin_8 rfl ?_
        refine f_getr C dX4_hasBin_9 zfRX4_15 hpv0 hkv0 rfl ?_
        obtain ⟨hp5, hk5⟩ := hT1.1 v0 3 2 (.inr (0, 8)) hpv0 hkv0 rfl
        refine z_iload_n C dX4_hasBin_12 rfl ?_
        obtain ⟨hi6, hF⟩ := bX_some hF
        obtain ⟨q6, eq6⟩ : ∃ q : Nat, q = Int32.toNatClampNeg v1 := ⟨_, rfl⟩
        rw [← eq6] at hF
        refine f_iald C dX4_hasBin_13 hp5 hk5 hi6 ?_
        rw [← eq6]
        have hJ8 : zV G X (zQX G X (zPo G kd N0 res) 0 0) 2 [some (.ref (zB G + v0)), some (.int v1)] [.int (if (gI S1 (gR S1 v0 2) q6) ≤ (0 : Int32) then (0 : Int32) else (1 : Int32))] (cn G kd N0 S1) 22 0 0 := by
          obtain ⟨hz, hF⟩ := bZ_some hF
          cases hF
          exact z_zret C hr hz.1 dX4_hasBin_22 ⟨rfl, rfl, hT1⟩
        refine z_if_le C 21 dX4_hasBin_14 (by decide) (fun c7 => ?_) (fun c7 => ?_)
        · refine z_iconst (v := 0) C dX4_hasBin_21 (by decide) ?_
          exact zV.at hJ8 (by first | rfl | contradiction | (simp only [if_pos c7]; done)) (by first | rfl | contradiction | (simp only [if_pos c7]; done)) rfl rfl
        · refine z_iconst (v := 1) C dX4_hasBin_17 (by decide) ?_
          refine z_goto C 22 dX4_hasBin_18 (by decide) ?_
          exact zV.at hJ8 (by first | rfl | contradiction | (simp only [if_neg c7]; done)) (by first | rfl | contradiction | (simp only [if_neg c7]; done)) rfl rfl
    · intro S  res hT  hF
      replace hF : F_X4_hasBin_1 f (F_X4_hasBin f)  S = some res := hF
      unfold F_X4_hasBin_1 at hF
      refine z_iconst (v := 0) C dX4_hasBin_21 (by decide) ?_
      exact ih2 S 0 res hT  hF
    · intro S w0 res hT  hF
      replace hF : F_X4_hasBin_2 f (F_X4_hasBin f) w0 S = some res := hF
      unfold F_X4_hasBin_2 at hF
      obtain ⟨hz, hF⟩ := bZ_some hF
      cases hF
      exact z_zret C hr hz.1 dX4_hasBin_22 ⟨rfl, rfl, hT⟩
theorem K_X4_hasBin {G : zG} {l : Launch} {kd : kD} {N0 f : Nat} {S : aS} {v0 : Nat} {v1 : Int32} {res : Option Value × aS} (hT : zT0 kd N0 S) (hpv0 : v0 < N0) (hkv0 : kd v0 = .inl 3) (hF : F_X4_hasBin f 0 [.ref v0, .int v1] S = some res) : zM G l 1 0 0 yX4_hasBin cX4_hasBin 2 (some .boolean) [.ref (zB G + v0), .int v1] (cn G kd N0 S) (zPo G kd N0 res) := zM.of (by decide) rfl (Nat.le_of_ble_eq_true rfl) (fun X _ C hr _ => (B_X4_hasBin C hr f).1 S v0 v1 res hT hpv0 hkv0 hF)
def F_X4_binBits_0 (f : Nat) (rc : Nat → List Value → aS → aR) (v0 : Nat) (S : aS) : aR :=
  rc 1 [.ref v0, .int 0, .int 0] S
def F_X4_binBits_1 (f : Nat) (rc : Nat → List Value → aS → aR) (v0 : Nat) (v1 : Int32) (v2 : Int32) (S : aS) : aR :=
  if (gI S v0 0) ≤ v2 then some (some (.int v1), S) else bX v2 8 fun q5 => lI (v1 ||| (if (gI S (gR S v0 2) q5) ≤ (0 : Int32) then (0 : Int32) else ((1 : Int32) <<< (v2 &&& 31)))) fun y8 => rc 1 [.ref v0, .int y8, .int (v2 + 1)] S
def F_X4_binBits : Nat → Nat → List Value → aS → aR
  | 0, _, _, _ => none
  | f + 1, 0, vs, S => F_X4_binBits_0 f (F_X4_binBits f) (vR vs 0) S
  | f + 1, 1, vs, S => F_X4_binBits_1 f (F_X4_binBits f) (vR vs 0) (vI vs 1) (vI vs 2) S
  | _ + 1, _, _, _ => none
theorem dX4_binBits_0 : decode cX4_binBits 0 = .ok (.iconst 0, 1) := by decide +kernel
theorem dX4_binBits_1 : decode cX4_binBits 1 = .ok (.istore_n 1, 1) := by decide +kernel
theorem dX4_binBits_2 : decode cX4_binBits 2 = .ok (.iconst 0, 1) := by decide +kernel
theorem dX4_binBits_3 : decode cX4_binBits 3 = .ok (.istore_n 2, 1) := by decide +kernel
theorem dX4_binBits_4 : decode cX4_binBits 4 = .ok (.iload_n 2, 1) := by decide +kernel
theorem dX4_binBits_5 : decode cX4_binBits 5 = .ok (.aload_n 0, 1) := by decide +kernel
theorem dX4_binBits_6 : decode cX4_binBits 6 = .ok (.getfield 27, 3) := by decide +kernel
theorem dX4_binBits_9 : decode cX4_binBits 9 = .ok (.if_icmp .ge 28, 3) := by decide +kernel
theorem dX4_binBits_12 : decode cX4_binBits 12 = .ok (.iload_n 1, 1) := by decide +kernel
theorem dX4_binBits_13 : decode cX4_binBits 13 = .ok (.aload_n 0, 1) := by decide +kernel
theorem dX4_binBits_14 : decode cX4_binBits 14 = .ok (.getfield 15, 3) := by decide +kernel
theorem dX4_binBits_17 : decode cX4_binBits 17 = .ok (.iload_n 2, 1) := by decide +kernel
theorem dX4_binBits_18 : decode cX4_binBits 18 = .ok (.iaload, 1) := by decide +kernel
theorem dX4_binBits_19 : decode cX4_binBits 19 = .ok (.ifCond .le 9, 3) := by decide +kernel
theorem dX4_binBits_22 : decode cX4_binBits 22 = .ok (.iconst 1, 1) := by decide +kernel
theorem dX4_binBits_23 : decode cX4_binBits 23 = .ok (.iload_n 2, 1) := by decide +kernel
theorem dX4_binBits_24 : decode cX4_binBits 24 = .ok (.ishl, 1) := by decide +kernel
theorem dX4_binBits_25 : decode cX4_binBits 25 = .ok (.goto 4, 3) := by decide +kernel
theorem dX4_binBits_28 : decode cX4_binBits 28 = .ok (.iconst 0, 1) := by decide +kernel
theorem dX4_binBits_29 : decode cX4_binBits 29 = .ok (.ior, 1) := by decide +kernel
theorem dX4_binBits_30 : decode cX4_binBits 30 = .ok (.istore_n 1, 1) := by decide +kernel
theorem dX4_binBits_31 : decode cX4_binBits 31 = .ok (.iinc 2 1, 3) := by decide +kernel
theorem dX4_binBits_34 : decode cX4_binBits 34 = .ok (.goto (-30), 3) := by decide +kernel
theorem dX4_binBits_37 : decode cX4_binBits 37 = .ok (.iload_n 1, 1) := by decide +kernel
theorem dX4_binBits_38 : decode cX4_binBits 38 = .ok (.ireturn, 1) := by decide +kernel
set_option maxHeartbeats 4000000 in
set_option maxRecDepth 100000 in
theorem B_X4_binBits {G : zG} {X : zX} {kd : kD} {N0 : Nat} (C : zCt G X 0 0 0 RX4 cX4_binBits 3) (hr : (zXh X).sig.returnType = (some .int)) : ∀ f : Nat,
    (∀ (S : aS) (v0 : Nat) (res : Option Value × aS), zT0 kd N0 S → v0 < N0 → kd v0 = .inl 3 → F_X4_binBits f 0 [.ref v0] S = some res → zV G X (zQX G X (zPo G kd N0 res) 0 0) 3 [some (.ref (zB G + v0)), none, none] [] (cn G kd N0 S) 0 0 0) ∧
    (∀ (S : aS) (v0 : Nat) (v1 : Int32) (v2 : Int32) (res : Option Value × aS), zT0 kd N0 S → v0 < N0 → kd v0 = .inl 3 → F_X4_binBits f 1 [.ref v0, .int v1, .int v2] S = some res → zV G X (zQX G X (zPo G kd N0 res) 0 0) 3 [some (.ref (zB G + v0)), some (.int v1), some (.int v2)] [] (cn G kd N0 S) 4 0 0) := by
  intro f
  induction f with
  | zero => exact ⟨(fun _ _ _ _ _ _ h => by cases h), (fun _ _ _ _ _ _ _ _ h => by cases h)⟩
  | succ f ih =>
    obtain ⟨ih0, ih1⟩ := ih
    refine ⟨?_, ?_⟩
    · intro S v0 res hT hpv0 hkv0 hF
      replace hF : F_X4_binBits_0 f (F_X4_binBits f) v0 S = some res := hF
      unfold F_X4_binBits_0 at hF
      refine z_iconst (v := 0) C dX4_binBits_0 (by decide) ?_
      refine z_istore_n (lv2 := [some (.ref (zB G + v0)), some (.int 0), none]) C dX4_binBits_1 (by decide) rfl ?_
      refine z_iconst (v := 0) C dX4_binBits_2 (by decide) ?_
      refine z_istore_n (lv2 := [some (.ref (zB G + v0)), some (.int 0), some (.int 0)]) C dX4_binBits_3 (by decide) rfl ?_
      exact ih1 S v0 0 0 res hT hpv0 hkv0   hF
    · intro S v0 v1 v2 res hT hpv0 hkv0 hF
      replace hF : F_X4_binBits_1 f (F_X4_binBits f) v0 v1 v2 S = some res := hF
      unfold F_X4_binBits_1 at hF
      refine z_iload_n C dX4_binBits_4 rfl ?_
      refine z_aload_n C dX4_binBits_5 rfl ?_
      refine f_geti C dX4_binBits_6 zfRX4_27 hpv0 hkv0 rfl ?_
      refine z_icmp_ge C 37 dX4_binBits_9 (by decide) (fun c3 => ?_) (fun c3 => ?_)
      · replace hF := ip hF c3
        refine z_iload_n C dX4_binBits_37 rfl ?_
        cases hF
        exact z_iret C hr dX4_binBits_38 ⟨rfl, rfl, hT⟩
      · replace hF := im hF c3
        refine z_iload_n C dX4_binBits_12 rfl ?_
        refine z_aload_n C dX4_binBits_13 rfl ?_
        refine f_getr C dX4_binBits_14 zfRX4_15 hpv0 hkv0 rfl ?_
        obtain ⟨hp4, hk4⟩ := hT.1 v0 3 2 (.inr (0, 8)) hpv0 hkv0 rfl
        refine z_iload_n C dX4_binBits_17 rfl ?_
        obtain ⟨hi5, hF⟩ := bX_some hF
        obtain ⟨q5, eq5⟩ : ∃ q : Nat, q = Int32.toNatClampNeg v2 := ⟨_, rfl⟩
        rw [← eq5] at hF
        refine f_iald C dX4_binBits_18 hp4 hk4 hi5 ?_
        rw [← eq5]
        have hJ7 : zV G X (zQX G X (zPo G kd N0 res) 0 0) 3 [some (.ref (zB G + v0)), some (.int v1), some (.int v2)] [.int (if (gI S (gR S v0 2) q5) ≤ (0 : Int32) then (0 : Int32) else ((1 : Int32) <<< (v2 &&& 31))), .int v1] (cn G kd N0 S) 29 0 0 := by
          refine z_ior C dX4_binBits_29 ?_
          replace hF := lI_e hF
          generalize (v1 ||| (if (gI S (gR S v0 2) q5) ≤ (0 : Int32) then (0 : Int32) else ((1 : Int32) <<< (v2 &&& 31)))) = y8 at hF ⊢
          refine z_istore_n (lv2 := [some (.ref (zB G + v0)), some (.int y8), some (.int v2)]) C dX4_binBits_30 (by decide) rfl ?_
          refine z_iinc (v := v2 + 1) (lv2 := [some (.ref (zB G + v0)), some (.int y8), some (.int (v2 + 1))]) C dX4_binBits_31 rfl (by rw [show Int32.ofInt 1 = (1 : Int32) from by decide]) rfl ?_
          refine z_goto C 4 dX4_binBits_34 (by decide) ?_
          exact ih1 S v0 y8 (v2 + 1) res hT hpv0 hkv0   hF
        refine z_if_le C 28 dX4_binBits_19 (by decide) (fun c6 => ?_) (fun c6 => ?_)
        · refine z_iconst (v := 0) C dX4_binBits_28 (by decide) ?_
          exact zV.at hJ7 (by first | rfl | contradiction | (simp only [if_pos c6]; done)) (by first | rfl | contradiction | (simp only [if_pos c6]; done)) rfl rfl
        · refine z_iconst (v := 1) C dX4_binBits_22 (by decide) ?_
          refine z_iload_n C dX4_binBits_23 rfl ?_
          refine z_ishl C dX4_binBits_24 ?_
          refine z_goto C 29 dX4_binBits_25 (by decide) ?_
          exact zV.at hJ7 (by first | rfl | contradiction | (simp only [if_neg c6]; done)) (by first | rfl | contradiction | (simp only [if_neg c6]; done)) rfl rfl
theorem K_X4_binBits {G : zG} {l : Launch} {kd : kD} {N0 f : Nat} {S : aS} {v0 : Nat} {res : Option Value × aS} (hT : zT0 kd N0 S) (hpv0 : v0 < N0) (hkv0 : kd v0 = .inl 3) (hF : F_X4_binBits f 0 [.ref v0] S = some res) : zM G l 0 0 0 yX4_binBits cX4_binBits 3 (some .int) [.ref (zB G + v0)] (cn G kd N0 S) (zPo G kd N0 res) := zM.of (by decide) rfl (Nat.le_of_ble_eq_true rfl) (fun X _ C hr _ => (B_X4_binBits C hr f).1 S v0 res hT hpv0 hkv0 hF)
def F_X4_total_0 (f : Nat) (rc : Nat → List Value → aS → aR) (v0 : Nat) (S : aS) : aR :=
  rc 1 [.ref v0, .int 0, .int 0] S
def F_X4_total_1 (f : Nat) (rc : Nat → List Value → aS → aR) (v0 : Nat) (v1 : Int32) (v2 : Int32) (S : aS) : aR :=
  if (gI S v0 0) ≤ v2 then some (some (.int v1), S) else bX v2 8 fun q5 => rc 1 [.ref v0, .int (v1 + (gI S (gR S v0 1) q5)), .int (v2 + 1)] S
def F_X4_total : Nat → Nat → List Value → aS → aR
  | 0, _, _, _ => none
  | f + 1, 0, vs, S => F_X4_total_0 f (F_X4_total f) (vR vs 0) S
  | f + 1, 1, vs, S => F_X4_total_1 f (F_X4_total f) (vR vs 0) (vI vs 1) (vI vs 2) S
  | _ + 1, _, _, _ => none
theorem dX4_total_0 : decode cX4_total 0 = .ok (.iconst 0, 1) := by decide +kernel
theorem dX4_total_1 : decode cX4_total 1 = .ok (.istore_n 1, 1) := by decide +kernel
theorem dX4_total_2 : decode cX4_total 2 = .ok (.iconst 0, 1) := by decide +kernel
theorem dX4_total_3 : decode cX4_total 3 = .ok (.istore_n 2, 1) := by decide +kernel
theorem dX4_total_4 : decode cX4_total 4 = .ok (.iload_n 2, 1) := by decide +kernel
theorem dX4_total_5 : decode cX4_total 5 = .ok (.aload_n 0, 1) := by decide +kernel
theorem dX4_total_6 : decode cX4_total 6 = .ok (.getfield 27, 3) := by decide +kernel
theorem dX4_total_9 : decode cX4_total 9 = .ok (.if_icmp .ge 18, 3) := by decide +kernel
theorem dX4_total_12 : decode cX4_total 12 = .ok (.iload_n 1, 1) := by decide +kernel
theorem dX4_total_13 : decode cX4_total 13 = .ok (.aload_n 0, 1) := by decide +kernel
theorem dX4_total_14 : decode cX4_total 14 = .ok (.getfield 9, 3) := by decide +kernel
theorem dX4_total_17 : decode cX4_total 17 = .ok (.iload_n 2, 1) := by decide +kernel
theorem dX4_total_18 : decode cX4_total 18 = .ok (.iaload, 1) := by decide +kernel
theorem dX4_total_19 : decode cX4_total 19 = .ok (.iadd, 1) := by decide +kernel
theorem dX4_total_20 : decode cX4_total 20 = .ok (.istore_n 1, 1) := by decide +kernel
theorem dX4_total_21 : decode cX4_total 21 = .ok (.iinc 2 1, 3) := by decide +kernel
theorem dX4_total_24 : decode cX4_total 24 = .ok (.goto (-20), 3) := by decide +kernel
theorem dX4_total_27 : decode cX4_total 27 = .ok (.iload_n 1, 1) := by decide +kernel
theorem dX4_total_28 : decode cX4_total 28 = .ok (.ireturn, 1) := by decide +kernel
set_option maxHeartbeats 4000000 in
set_option maxRecDepth 100000 in
theorem B_X4_total {G : zG} {X : zX} {kd : kD} {N0 : Nat} (C : zCt G X 0 0 0 RX4 cX4_total 3) (hr : (zXh X).sig.returnType = (some .int)) : ∀ f : Nat,
    (∀ (S : aS) (v0 : Nat) (res : Option Value × aS), zT0 kd N0 S → v0 < N0 → kd v0 = .inl 3 → F_X4_total f 0 [.ref v0] S = some res → zV G X (zQX G X (zPo G kd N0 res) 0 0) 3 [some (.ref (zB G + v0)), none, none] [] (cn G kd N0 S) 0 0 0) ∧
    (∀ (S : aS) (v0 : Nat) (v1 : Int32) (v2 : Int32) (res : Option Value × aS), zT0 kd N0 S → v0 < N0 → kd v0 = .inl 3 → F_X4_total f 1 [.ref v0, .int v1, .int v2] S = some res → zV G X (zQX G X (zPo G kd N0 res) 0 0) 3 [some (.ref (zB G + v0)), some (.int v1), some (.int v2)] [] (cn G kd N0 S) 4 0 0) := by
  intro f
  induction f with
  | zero => exact ⟨(fun _ _ _ _ _ _ h => by cases h), (fun _ _ _ _ _ _ _ _ h => by cases h)⟩
  | succ f ih =>
    obtain ⟨ih0, ih1⟩ := ih
    refine ⟨?_, ?_⟩
    · intro S v0 res hT hpv0 hkv0 hF
      replace hF : F_X4_total_0 f (F_X4_total f) v0 S = some res := hF
      unfold F_X4_total_0 at hF
      refine z_iconst (v := 0) C dX4_total_0 (by decide) ?_
      refine z_istore_n (lv2 := [some (.ref (zB G + v0)), some (.int 0), none]) C dX4_total_1 (by decide) rfl ?_
      refine z_iconst (v := 0) C dX4_total_2 (by decide) ?_
      refine z_istore_n (lv2 := [some (.ref (zB G + v0)), some (.int 0), some (.int 0)]) C dX4_total_3 (by decide) rfl ?_
      exact ih1 S v0 0 0 res hT hpv0 hkv0   hF
    · intro S v0 v1 v2 res hT hpv0 hkv0 hF
      replace hF : F_X4_total_1 f (F_X4_total f) v0 v1 v2 S = some res := hF
      unfold F_X4_total_1 at hF
      refine z_iload_n C dX4_total_4 rfl ?_
      refine z_aload_n C dX4_total_5 rfl ?_
      refine f_geti C dX4_total_6 zfRX4_27 hpv0 hkv0 rfl ?_
      refine z_icmp_ge C 27 dX4_total_9 (by decide) (fun c3 => ?_) (fun c3 => ?_)
      · replace hF := ip hF c3
        refine z_iload_n C dX4_total_27 rfl ?_
        cases hF
        exact z_iret C hr dX4_total_28 ⟨rfl, rfl, hT⟩
      · replace hF := im hF c3
        refine z_iload_n C dX4_total_12 rfl ?_
        refine z_aload_n C dX4_total_13 rfl ?_
        refine f_getr C dX4_total_14 zfRX4_9 hpv0 hkv0 rfl ?_
        obtain ⟨hp4, hk4⟩ := hT.1 v0 3 1 (.inr (0, 8)) hpv0 hkv0 rfl
        refine z_iload_n C dX4_total_17 rfl ?_
        obtain ⟨hi5, hF⟩ := bX_some hF
        obtain ⟨q5, eq5⟩ : ∃ q : Nat, q = Int32.toNatClampNeg v2 := ⟨_, rfl⟩
        rw [← eq5] at hF
        refine f_iald C dX4_total_18 hp4 hk4 hi5 ?_
        rw [← eq5]
        refine z_iadd C dX4_total_19 ?_
        refine z_istore_n (lv2 := [some (.ref (zB G + v0)), some (.int (v1 + (gI S (gR S v0 1) q5))), some (.int v2)]) C dX4_total_20 (by decide) rfl ?_
        refine z_iinc (v := v2 + 1) (lv2 := [some (.ref (zB G + v0)), some (.int (v1 + (gI S (gR S v0 1) q5))), some (.int (v2 + 1))]) C dX4_total_21 rfl (by rw [show Int32.ofInt 1 = (1 : Int32) from by decide]) rfl ?_
        refine z_goto C 4 dX4_total_24 (by decide) ?_
        exact ih1 S v0 (v1 + (gI S (gR S v0 1) q5)) (v2 + 1) res hT hpv0 hkv0   hF
theorem K_X4_total {G : zG} {l : Launch} {kd : kD} {N0 f : Nat} {S : aS} {v0 : Nat} {res : Option Value × aS} (hT : zT0 kd N0 S) (hpv0 : v0 < N0) (hkv0 : kd v0 = .inl 3) (hF : F_X4_total f 0 [.ref v0] S = some res) : zM G l 0 0 0 yX4_total cX4_total 3 (some .int) [.ref (zB G + v0)] (cn G kd N0 S) (zPo G kd N0 res) := zM.of (by decide) rfl (Nat.le_of_ble_eq_true rfl) (fun X _ C hr _ => (B_X4_total C hr f).1 S v0 res hT hpv0 hkv0 hF)
def F_X4_room_0 (f : Nat) (rc : Nat → List Value → aS → aR) (v0 : Nat) (S : aS) : aR :=
  rc 1 [.ref v0, .int 0, .int 0] S
def F_X4_room_1 (f : Nat) (rc : Nat → List Value → aS → aR) (v0 : Nat) (v1 : Int32) (v2 : Int32) (S : aS) : aR :=
  if (gI S v0 0) ≤ v2 then some (some (.int v1), S) else bX v2 8 fun q5 => bX v2 8 fun q7 => lI (v1 + ((gI S (gR S v0 2) q5) - (gI S (gR S v0 3) q7))) fun y8 => rc 1 [.ref v0, .int y8, .int (v2 + 1)] S
def F_X4_room : Nat → Nat → List Value → aS → aR
  | 0, _, _, _ => none
  | f + 1, 0, vs, S => F_X4_room_0 f (F_X4_room f) (vR vs 0) S
  | f + 1, 1, vs, S => F_X4_room_1 f (F_X4_room f) (vR vs 0) (vI vs 1) (vI vs 2) S
  | _ + 1, _, _, _ => none
theorem dX4_room_0 : decode cX4_room 0 = .ok (.iconst 0, 1) := by decide +kernel
theorem dX4_room_1 : decode cX4_room 1 = .ok (.istore_n 1, 1) := by decide +kernel
theorem dX4_room_2 : decode cX4_room 2 = .ok (.iconst 0, 1) := by decide +kernel
theorem dX4_room_3 : decode cX4_room 3 = .ok (.istore_n 2, 1) := by decide +kernel
theorem dX4_room_4 : decode cX4_room 4 = .ok (.iload_n 2, 1) := by decide +kernel
theorem dX4_room_5 : decode cX4_room 5 = .ok (.aload_n 0, 1) := by decide +kernel
theorem dX4_room_6 : decode cX4_room 6 = .ok (.getfield 27, 3) := by decide +kernel
theorem dX4_room_9 : decode cX4_room 9 = .ok (.if_icmp .ge 25, 3) := by decide +kernel
theorem dX4_room_12 : decode cX4_room 12 = .ok (.iload_n 1, 1) := by decide +kernel
theorem dX4_room_13 : decode cX4_room 13 = .ok (.aload_n 0, 1) := by decide +kernel
theorem dX4_room_14 : decode cX4_room 14 = .ok (.getfield 15, 3) := by decide +kernel
theorem dX4_room_17 : decode cX4_room 17 = .ok (.iload_n 2, 1) := by decide +kernel
theorem dX4_room_18 : decode cX4_room 18 = .ok (.iaload, 1) := by decide +kernel
theorem dX4_room_19 : decode cX4_room 19 = .ok (.aload_n 0, 1) := by decide +kernel
theorem dX4_room_20 : decode cX4_room 20 = .ok (.getfield 18, 3) := by decide +kernel
theorem dX4_room_23 : decode cX4_room 23 = .ok (.iload_n 2, 1) := by decide +kernel
theorem dX4_room_24 : decode cX4_room 24 = .ok (.iaload, 1) := by decide +kernel
theorem dX4_room_25 : decode cX4_room 25 = .ok (.isub, 1) := by decide +kernel
theorem dX4_room_26 : decode cX4_room 26 = .ok (.iadd, 1) := by decide +kernel
theorem dX4_room_27 : decode cX4_room 27 = .ok (.istore_n 1, 1) := by decide +kernel
theorem dX4_room_28 : decode cX4_room 28 = .ok (.iinc 2 1, 3) := by decide +kernel
theorem dX4_room_31 : decode cX4_room 31 = .ok (.goto (-27), 3) := by decide +kernel
theorem dX4_room_34 : decode cX4_room 34 = .ok (.iload_n 1, 1) := by decide +kernel
theorem dX4_room_35 : decode cX4_room 35 = .ok (.ireturn, 1) := by decide +kernel
set_option maxHeartbeats 4000000 in
set_option maxRecDepth 100000 in
theorem B_X4_room {G : zG} {X : zX} {kd : kD} {N0 : Nat} (C : zCt G X 0 0 0 RX4 cX4_room 3) (hr : (zXh X).sig.returnType = (some .int)) : ∀ f : Nat,
    (∀ (S : aS) (v0 : Nat) (res : Option Value × aS), zT0 kd N0 S → v0 < N0 → kd v0 = .inl 3 → F_X4_room f 0 [.ref v0] S = some res → zV G X (zQX G X (zPo G kd N0 res) 0 0) 3 [some (.ref (zB G + v0)), none, none] [] (cn G kd N0 S) 0 0 0) ∧
    (∀ (S : aS) (v0 : Nat) (v1 : Int32) (v2 : Int32) (res : Option Value × aS), zT0 kd N0 S → v0 < N0 → kd v0 = .inl 3 → F_X4_room f 1 [.ref v0, .int v1, .int v2] S = some res → zV G X (zQX G X (zPo G kd N0 res) 0 0) 3 [some (.ref (zB G + v0)), some (.int v1), some (.int v2)] [] (cn G kd N0 S) 4 0 0) := by
  intro f
  induction f with
  | zero => exact ⟨(fun _ _ _ _ _ _ h => by cases h), (fun _ _ _ _ _ _ _ _ h => by cases h)⟩
  | succ f ih =>
    obtain ⟨ih0, ih1⟩ := ih
    refine ⟨?_, ?_⟩
    · intro S v0 res hT hpv0 hkv0 hF
      replace hF : F_X4_room_0 f (F_X4_room f) v0 S = some res := hF
      unfold F_X4_room_0 at hF
      refine z_iconst (v := 0) C dX4_room_0 (by decide) ?_
      refine z_istore_n (lv2 := [some (.ref (zB G + v0)), some (.int 0), none]) C dX4_room_1 (by decide) rfl ?_
      refine z_iconst (v := 0) C dX4_room_2 (by decide) ?_
      refine z_istore_n (lv2 := [some (.ref (zB G + v0)), some (.int 0), some (.int 0)]) C dX4_room_3 (by decide) rfl ?_
      exact ih1 S v0 0 0 res hT hpv0 hkv0   hF
    · intro S v0 v1 v2 res hT hpv0 hkv0 hF
      replace hF : F_X4_room_1 f (F_X4_room f) v0 v1 v2 S = some res := hF
      unfold F_X4_room_1 at hF
      refine z_iload_n C dX4_room_4 rfl ?_
      refine z_aload_n C dX4_room_5 rfl ?_
      refine f_geti C dX4_room_6 zfRX4_27 hpv0 hkv0 rfl ?_
      refine z_icmp_ge C 34 dX4_room_9 (by decide) (fun c3 => ?_) (fun c3 => ?_)
      · replace hF := ip hF c3
        refine z_iload_n C dX4_room_34 rfl ?_
        cases hF
        exact z_iret C hr dX4_room_35 ⟨rfl, rfl, hT⟩
      · replace hF := im hF c3
        refine z_iload_n C dX4_room_12 rfl ?_
        refine z_aload_n C dX4_room_13 rfl ?_
        refine f_getr C dX4_room_14 zfRX4_15 hpv0 hkv0 rfl ?_
        obtain ⟨hp4, hk4⟩ := hT.1 v0 3 2 (.inr (0, 8)) hpv0 hkv0 rfl
        refine z_iload_n C dX4_room_17 rfl ?_
        obtain ⟨hi5, hF⟩ := bX_some hF
        obtain ⟨q5, eq5⟩ : ∃ q : Nat, q = Int32.toNatClampNeg v2 := ⟨_, rfl⟩
        rw [← eq5] at hF
        refine f_iald C dX4_room_18 hp4 hk4 hi5 ?_
        rw [← eq5]
        refine z_aload_n C dX4_room_19 rfl ?_
        refine f_getr C dX4_room_20 zfRX4_18 hpv0 hkv0 rfl ?_
        obtain ⟨hp6, hk6⟩ := hT.1 v0 3 3 (.inr (0, 8)) hpv0 hkv0 rfl
        refine z_iload_n C dX4_room_23 rfl ?_
        obtain ⟨hi7, hF⟩ := bX_some hF
        obtain ⟨q7, eq7⟩ : ∃ q : Nat, q = Int32.toNatClampNeg v2 := ⟨_, rfl⟩
        rw [← eq7] at hF
        refine f_iald C dX4_room_24 hp6 hk6 hi7 ?_
        rw [← eq7]
        refine z_isub C dX4_room_25 ?_
        refine z_iadd C dX4_room_26 ?_
        replace hF := lI_e hF
        generalize (v1 + ((gI S (gR S v0 2) q5) - (gI S (gR S v0 3) q7))) = y8 at hF ⊢
        refine z_istore_n (lv2 := [some (.ref (zB G + v0)), some (.int y8), some (.int v2)]) C dX4_room_27 (by decide) rfl ?_
        refine z_iinc (v := v2 + 1) (lv2 := [some (.ref (zB G + v0)), some (.int y8), some (.int (v2 + 1))]) C dX4_room_28 rfl (by rw [show Int32.ofInt 1 = (1 : Int32) from by decide]) rfl ?_
        refine z_goto C 4 dX4_room_31 (by decide) ?_
        exact ih1 S v0 y8 (v2 + 1) res hT hpv0 hkv0   hF
theorem K_X4_room {G : zG} {l : Launch} {kd : kD} {N0 f : Nat} {S : aS} {v0 : Nat} {res : Option Value × aS} (hT : zT0 kd N0 S) (hpv0 : v0 < N0) (hkv0 : kd v0 = .inl 3) (hF : F_X4_room f 0 [.ref v0] S = some res) : zM G l 0 0 0 yX4_room cX4_room 3 (some .int) [.ref (zB G + v0)] (cn G kd N0 S) (zPo G kd N0 res) := zM.of (by decide) rfl (Nat.le_of_ble_eq_true rfl) (fun X _ C hr _ => (B_X4_room C hr f).1 S v0 res hT hpv0 hkv0 hF)
def F_X4_yardsAbove_0 (f : Nat) (rc : Nat → List Value → aS → aR) (v0 : Nat) (v1 : Int32) (S : aS) : aR :=
  rc 1 [.ref v0, .int v1, .int 0, .int 0] S
def F_X4_yardsAbove_1 (f : Nat) (rc : Nat → List Value → aS → aR) (v0 : Nat) (v1 : Int32) (v2 : Int32) (v3 : Int32) (S : aS) : aR :=
  if (gI S v0 0) ≤ v3 then some (some (.int v2), S) else bX v3 8 fun q5 => lI (v2 ||| (if (gI S (gR S v0 1) q5) ≤ v1 then (0 : Int32) else ((1 : Int32) <<< (v3 &&& 31)))) fun y8 => rc 1 [.ref v0, .int v1, .int y8, .int (v3 + 1)] S
def F_X4_yardsAbove : Nat → Nat → List Value → aS → aR
  | 0, _, _, _ => none
  | f + 1, 0, vs, S => F_X4_yardsAbove_0 f (F_X4_yardsAbove f) (vR vs 0) (vI vs 1) S
  | f + 1, 1, vs, S => F_X4_yardsAbove_1 f (F_X4_yardsAbove f) (vR vs 0) (vI vs 1) (vI vs 2) (vI vs 3) S
  | _ + 1, _, _, _ => none
theorem dX4_yardsAbove_0 : decode cX4_yardsAbove 0 = .ok (.iconst 0, 1) := by decide +kernel
theorem dX4_yardsAbove_1 : decode cX4_yardsAbove 1 = .ok (.istore_n 2, 1) := by decide +kernel
theorem dX4_yardsAbove_2 : decode cX4_yardsAbove 2 = .ok (.iconst 0, 1) := by decide +kernel
theorem dX4_yardsAbove_3 : decode cX4_yardsAbove 3 = .ok (.istore_n 3, 1) := by decide +kernel
theorem dX4_yardsAbove_4 : decode cX4_yardsAbove 4 = .ok (.iload_n 3, 1) := by decide +kernel
theorem dX4_yardsAbove_5 : decode cX4_yardsAbove 5 = .ok (.aload_n 0, 1) := by decide +kernel
theorem dX4_yardsAbove_6 : decode cX4_yardsAbove 6 = .ok (.getfield 27, 3) := by decide +kernel
theorem dX4_yardsAbove_9 : decode cX4_yardsAbove 9 = .ok (.if_icmp .ge 29, 3) := by decide +kernel
theorem dX4_yardsAbove_12 : decode cX4_yardsAbove 12 = .ok (.iload_n 2, 1) := by decide +kernel
theorem dX4_yardsAbove_13 : decode cX4_yardsAbove 13 = .ok (.aload_n 0, 1) := by decide +kernel
theorem dX4_yardsAbove_14 : decode cX4_yardsAbove 14 = .ok (.getfield 9, 3) := by decide +kernel
theorem dX4_yardsAbove_17 : decode cX4_yardsAbove 17 = .ok (.iload_n 3, 1) := by decide +kernel
theorem dX4_yardsAbove_18 : decode cX4_yardsAbove 18 = .ok (.iaload, 1) := by decide +kernel
theorem dX4_yardsAbove_19 : decode cX4_yardsAbove 19 = .ok (.iload_n 1, 1) := by decide +kernel
theorem dX4_yardsAbove_20 : decode cX4_yardsAbove 20 = .ok (.if_icmp .le 9, 3) := by decide +kernel
theorem dX4_yardsAbove_23 : decode cX4_yardsAbove 23 = .ok (.iconst 1, 1) := by decide +kernel
theorem dX4_yardsAbove_24 : decode cX4_yardsAbove 24 = .ok (.iload_n 3, 1) := by decide +kernel
theorem dX4_yardsAbove_25 : decode cX4_yardsAbove 25 = .ok (.ishl, 1) := by decide +kernel
theorem dX4_yardsAbove_26 : decode cX4_yardsAbove 26 = .ok (.goto 4, 3) := by decide +kernel
theorem dX4_yardsAbove_29 : decode cX4_yardsAbove 29 = .ok (.iconst 0, 1) := by decide +kernel
theorem dX4_yardsAbove_30 : decode cX4_yardsAbove 30 = .ok (.ior, 1) := by decide +kernel
theorem dX4_yardsAbove_31 : decode cX4_yardsAbove 31 = .ok (.istore_n 2, 1) := by decide +kernel
theorem dX4_yardsAbove_32 : decode cX4_yardsAbove 32 = .ok (.iinc 3 1, 3) := by decide +kernel
theorem dX4_yardsAbove_35 : decode cX4_yardsAbove 35 = .ok (.goto (-31), 3) := by decide +kernel
theorem dX4_yardsAbove_38 : decode cX4_yardsAbove 38 = .ok (.iload_n 2, 1) := by decide +kernel
theorem dX4_yardsAbove_39 : decode cX4_yardsAbove 39 = .ok (.ireturn, 1) := by decide +kernel
set_option maxHeartbeats 4000000 in
set_option maxRecDepth 100000 in
theorem B_X4_yardsAbove {G : zG} {X : zX} {kd : kD} {N0 : Nat} (C : zCt G X 0 0 0 RX4 cX4_yardsAbove 4) (hr : (zXh X).sig.returnType = (some .int)) : ∀ f : Nat,
    (∀ (S : aS) (v0 : Nat) (v1 : Int32) (res : Option Value × aS), zT0 kd N0 S → v0 < N0 → kd v0 = .inl 3 → F_X4_yardsAbove f 0 [.ref v0, .int v1] S = some res → zV G X (zQX G X (zPo G kd N0 res) 0 0) 4 [some (.ref (zB G + v0)), some (.int v1), none, none] [] (cn G kd N0 S) 0 0 0) ∧
    (∀ (S : aS) (v0 : Nat) (v1 : Int32) (v2 : Int32) (v3 : Int32) (res : Option Value × aS), zT0 kd N0 S → v0 < N0 → kd v0 = .inl 3 → F_X4_yardsAbove f 1 [.ref v0, .int v1, .int v2, .int v3] S = some res → zV G X (zQX G X (zPo G kd N0 res) 0 0) 4 [some (.ref (zB G + v0)), some (.int v1), some (.int v2), some (.int v3)] [] (cn G kd N0 S) 4 0 0) := by
  intro f
  induction f with
  | zero => exact ⟨(fun _ _ _ _ _ _ _ h => by cases h), (fun _ _ _ _ _ _ _ _ _ h => by cases h)⟩
  | succ f ih =>
    obtain ⟨ih0, ih1⟩ := ih
    refine ⟨?_, ?_⟩
    · intro S v0 v1 res hT hpv0 hkv0 hF
      replace hF : F_X4_yardsAbove_0 f (F_X4_yardsAbove f) v0 v1 S = some res := hF
      unfold F_X4_yardsAbove_0 at hF
      refine z_iconst (v := 0) C dX4_yardsAbove_0 (by decide) ?_
      refine z_istore_n (lv2 := [some (.ref (zB G + v0)), some (.int v1), some (.int 0), none]) C dX4_yardsAbove_1 (by decide) rfl ?_
      refine z_iconst (v := 0) C dX4_yardsAbove_2 (by decide) ?_
      refine z_istore_n (lv2 := [some (.ref (zB G + v0)), some (.int v1), some (.int 0), some (.int 0)]) C dX4_yardsAbove_3 (by decide) rfl ?_
      exact ih1 S v0 v1 0 0 res hT hpv0 hkv0    hF
    · intro S v0 v1 v2 v3 res hT hpv0 hkv0 hF
      replace hF : F_X4_yardsAbove_1 f (F_X4_yardsAbove f) v0 v1 v2 v3 S = some res := hF
      unfold F_X4_yardsAbove_1 at hF
      refine z_iload_n C dX4_yardsAbove_4 rfl ?_
      refine z_aload_n C dX4_yardsAbove_5 rfl ?_
      refine f_geti C dX4_yardsAbove_6 zfRX4_27 hpv0 hkv0 rfl ?_
      refine z_icmp_ge C 38 dX4_yardsAbove_9 (by decide) (fun c3 => ?_) (fun c3 => ?_)
      · replace hF := ip hF c3
        refine z_iload_n C dX4_yardsAbove_38 rfl ?_
        cases hF
        exact z_iret C hr dX4_yardsAbove_39 ⟨rfl, rfl, hT⟩
      · replace hF := im hF c3
        refine z_iload_n C dX4_yardsAbove_12 rfl ?_
        refine z_aload_n C dX4_yardsAbove_13 rfl ?_
        refine f_getr C dX4_yardsAbove_14 zfRX4_9 hpv0 hkv0 rfl ?_
        obtain ⟨hp4, hk4⟩ := hT.1 v0 3 1 (.inr (0, 8)) hpv0 hkv0 rfl
        refine z_iload_n C dX4_yardsAbove_17 rfl ?_
        obtain ⟨hi5, hF⟩ := bX_some hF
        obtain ⟨q5, eq5⟩ : ∃ q : Nat, q = Int32.toNatClampNeg v3 := ⟨_, rfl⟩
        rw [← eq5] at hF
        refine f_iald C dX4_yardsAbove_18 hp4 hk4 hi5 ?_
        rw [← eq5]
        refine z_iload_n C dX4_yardsAbove_19 rfl ?_
        have hJ7 : zV G X (zQX G X (zPo G kd N0 res) 0 0) 4 [some (.ref (zB G + v0)), some (.int v1), some (.int v2), some (.int v3)] [.int (if (gI S (gR S v0 1) q5) ≤ v1 then (0 : Int32) else ((1 : Int32) <<< (v3 &&& 31))), .int v2] (cn G kd N0 S) 30 0 0 := by
          refine z_ior C dX4_yardsAbove_30 ?_
          replace hF := lI_e hF
          generalize (v2 ||| (if (gI S (gR S v0 1) q5) ≤ v1 then (0 : Int32) else ((1 : Int32) <<< (v3 &&& 31)))) = y8 at hF ⊢
          refine z_istore_n (lv2 := [some (.ref (zB G + v0)), some (.int v1), some (.int y8), some (.int v3)]) C dX4_yardsAbove_31 (by decide) rfl ?_
          refine z_iinc (v := v3 + 1) (lv2 := [some (.ref (zB G + v0)), some (.int v1), some (.int y8), some (.int (v3 + 1))]) C dX4_yardsAbove_32 rfl (by rw [show Int32.ofInt 1 = (1 : Int32) from by decide]) rfl ?_
          refine z_goto C 4 dX4_yardsAbove_35 (by decide) ?_
          exact ih1 S v0 v1 y8 (v3 + 1) res hT hpv0 hkv0    hF
        refine z_icmp_le C 29 dX4_yardsAbove_20 (by decide) (fun c6 => ?_) (fun c6 => ?_)
        · refine z_iconst (v := 0) C dX4_yardsAbove_29 (by decide) ?_
          exact zV.at hJ7 (by first | rfl | contradiction | (simp only [if_pos c6]; done)) (by first | rfl | contradiction | (simp only [if_pos c6]; done)) rfl rfl
        · refine z_iconst (v := 1) C dX4_yardsAbove_23 (by decide) ?_
          refine z_iload_n C dX4_yardsAbove_24 rfl ?_
          refine z_ishl C dX4_yardsAbove_25 ?_
          refine z_goto C 30 dX4_yardsAbove_26 (by decide) ?_
          exact zV.at hJ7 (by first | rfl | contradiction | (simp only [if_neg c6]; done)) (by first | rfl | contradiction | (simp only [if_neg c6]; done)) rfl rfl
theorem K_X4_yardsAbove {G : zG} {l : Launch} {kd : kD} {N0 f : Nat} {S : aS} {v0 : Nat} {v1 : Int32} {res : Option Value × aS} (hT : zT0 kd N0 S) (hpv0 : v0 < N0) (hkv0 : kd v0 = .inl 3) (hF : F_X4_yardsAbove f 0 [.ref v0, .int v1] S = some res) : zM G l 0 0 0 yX4_yardsAbove cX4_yardsAbove 4 (some .int) [.ref (zB G + v0), .int v1] (cn G kd N0 S) (zPo G kd N0 res) := zM.of (by decide) rfl (Nat.le_of_ble_eq_true rfl) (fun X _ C hr _ => (B_X4_yardsAbove C hr f).1 S v0 v1 res hT hpv0 hkv0 hF)
def F_X4_yardsToOpen_0 (f : Nat) (rc : Nat → List Value → aS → aR) (v0 : Nat) (v1 : Int32) (S : aS) : aR :=
  rc 1 [.ref v0, .int v1, .int (if (0 : Int32) < v1 then v1 else (0 : Int32))] S
def F_X4_yardsToOpen_1 (f : Nat) (rc : Nat → List Value → aS → aR) (v0 : Nat) (v1 : Int32) (v2 : Int32) (S : aS) : aR :=
  if (gI S v0 0) ≤ v2 then some (some (.int 9), S) else bX v2 8 fun q3 => bX v2 8 fun q5 => if (gI S (gR S v0 2) q5) ≤ (gI S (gR S v0 3) q3) then rc 1 [.ref v0, .int v1, .int (v2 + 1)] S else some (some (.int (v2 - v1)), S)
def F_X4_yardsToOpen : Nat → Nat → List Value → aS → aR
  | 0, _, _, _ => none
  | f + 1, 0, vs, S => F_X4_yardsToOpen_0 f (F_X4_yardsToOpen f) (vR vs 0) (vI vs 1) S
  | f + 1, 1, vs, S => F_X4_yardsToOpen_1 f (F_X4_yardsToOpen f) (vR vs 0) (vI vs 1) (vI vs 2) S
  | _ + 1, _, _, _ => none
theorem dX4_yardsToOpen_0 : decode cX4_yardsToOpen 0 = .ok (.iconst 0, 1) := by decide +kernel
theorem dX4_yardsToOpen_1 : decode cX4_yardsToOpen 1 = .ok (.iload_n 1, 1) := by decide +kernel
theorem dX4_yardsToOpen_2 : decode cX4_yardsToOpen 2 = .ok (.invokestatic 60, 3) := by decide +kernel
theorem dX4_yardsToOpen_5 : decode cX4_yardsToOpen 5 = .ok (.istore_n 2, 1) := by decide +kernel
theorem dX4_yardsToOpen_6 : decode cX4_yardsToOpen 6 = .ok (.iload_n 2, 1) := by decide +kernel
theorem dX4_yardsToOpen_7 : decode cX4_yardsToOpen 7 = .ok (.aload_n 0, 1) := by decide +kernel
theorem dX4_yardsToOpen_8 : decode cX4_yardsToOpen 8 = .ok (.getfield 27, 3) := by decide +kernel
theorem dX4_yardsToOpen_11 : decode cX4_yardsToOpen 11 = .ok (.if_icmp .ge 28, 3) := by decide +kernel
theorem dX4_yardsToOpen_14 : decode cX4_yardsToOpen 14 = .ok (.aload_n 0, 1) := by decide +kernel
theorem dX4_yardsToOpen_15 : decode cX4_yardsToOpen 15 = .ok (.getfield 18, 3) := by decide +kernel
theorem dX4_yardsToOpen_18 : decode cX4_yardsToOpen 18 = .ok (.iload_n 2, 1) := by decide +kernel
theorem dX4_yardsToOpen_19 : decode cX4_yardsToOpen 19 = .ok (.iaload, 1) := by decide +kernel
theorem dX4_yardsToOpen_20 : decode cX4_yardsToOpen 20 = .ok (.aload_n 0, 1) := by decide +kernel
theorem dX4_yardsToOpen_21 : decode cX4_yardsToOpen 21 = .ok (.getfield 15, 3) := by decide +kernel
theorem dX4_yardsToOpen_24 : decode cX4_yardsToOpen 24 = .ok (.iload_n 2, 1) := by decide +kernel
theorem dX4_yardsToOpen_25 : decode cX4_yardsToOpen 25 = .ok (.iaload, 1) := by decide +kernel
theorem dX4_yardsToOpen_26 : decode cX4_yardsToOpen 26 = .ok (.if_icmp .ge 7, 3) := by decide +kernel
theorem dX4_yardsToOpen_29 : decode cX4_yardsToOpen 29 = .ok (.iload_n 2, 1) := by decide +kernel
theorem dX4_yardsToOpen_30 : decode cX4_yardsToOpen 30 = .ok (.iload_n 1, 1) := by decide +kernel
theorem dX4_yardsToOpen_31 : decode cX4_yardsToOpen 31 = .ok (.isub, 1) := by decide +kernel
theorem dX4_yardsToOpen_32 : decode cX4_yardsToOpen 32 = .ok (.ireturn, 1) := by decide +kernel
theorem dX4_yardsToOpen_33 : decode cX4_yardsToOpen 33 = .ok (.iinc 2 1, 3) := by decide +kernel
theorem dX4_yardsToOpen_36 : decode cX4_yardsToOpen 36 = .ok (.goto (-30), 3) := by decide +kernel
theorem dX4_yardsToOpen_39 : decode cX4_yardsToOpen 39 = .ok (.bipush 9, 2) := by decide +kernel
theorem dX4_yardsToOpen_41 : decode cX4_yardsToOpen 41 = .ok (.ireturn, 1) := by decide +kernel
set_option maxHeartbeats 4000000 in
set_option maxRecDepth 100000 in
theorem B_X4_yardsToOpen {G : zG} {X : zX} {kd : kD} {N0 : Nat} (C : zCt G X 1 0 0 RX4 cX4_yardsToOpen 3) (hr : (zXh X).sig.returnType = (some .int)) : ∀ f : Nat,
    (∀ (S : aS) (v0 : Nat) (v1 : Int32) (res : Option Value × aS), zT0 kd N0 S → v0 < N0 → kd v0 = .inl 3 → F_X4_yardsToOpen f 0 [.ref v0, .int v1] S = some res → zV G X (zQX G X (zPo G kd N0 res) 0 0) 3 [some (.ref (zB G + v0)), some (.int v1), none] [] (cn G kd N0 S) 0 0 0) ∧
    (∀ (S : aS) (v0 : Nat) (v1 : Int32) (v2 : Int32) (res : Option Value × aS), zT0 kd N0 S → v0 < N0 → kd v0 = .inl 3 → F_X4_yardsToOpen f 1 [.ref v0, .int v1, .int v2] S = some res → zV G X (zQX G X (zPo G kd N0 res) 0 0) 3 [some (.ref (zB G + v0)), some (.int v1), some (.int v2)] [] (cn G kd N0 S) 6 0 0) := by
  intro f
  induction f with
  | zero => exact ⟨(fun _ _ _ _ _ _ _ h => by cases h), (fun _ _ _ _ _ _ _ _ h => by cases h)⟩
  | succ f ih =>
    obtain ⟨ih0, ih1⟩ := ih
    refine ⟨?_, ?_⟩
    · intro S v0 v1 res hT hpv0 hkv0 hF
      replace hF : F_X4_yardsToOpen_0 f (F_X4_yardsToOpen f) v0 v1 S = some res := hF
      unfold F_X4_yardsToOpen_0 at hF
      refine z_iconst (v := 0) C dX4_yardsToOpen_0 (by decide) ?_
      refine z_iload_n C dX4_yardsToOpen_1 rfl ?_
      refine f_mmax C dX4_yardsToOpen_2 lkRX4_60 (by decide) (Nat.le_of_ble_eq_true rfl) ?_
      refine z_istore_n (lv2 := [some (.ref (zB G + v0)), some (.int v1), some (.int (if (0 : Int32) < v1 then v1 else (0 : Int32)))]) C dX4_yardsToOpen_5 (by decide) rfl ?_
      exact ih1 S v0 v1 (if (0 : Int32) < v1 then v1 else (0 : Int32)) res hT hpv0 hkv0   hF
    · intro S v0 v1 v2 res hT hpv0 hkv0 hF
      replace hF : F_X4_yardsToOpen_1 f (F_X4_yardsToOpen f) v0 v1 v2 S = some res := hF
      unfold F_X4_yardsToOpen_1 at hF
      refine z_iload_n C dX4_yardsToOpen_6 rfl ?_
      refine z_aload_n C dX4_yardsToOpen_7 rfl ?_
      refine f_geti C dX4_yardsToOpen_8 zfRX4_27 hpv0 hkv0 rfl ?_
      refine z_icmp_ge C 39 dX4_yardsToOpen_11 (by decide) (fun c1 => ?_) (fun c1 => ?_)
      · replace hF := ip hF c1
        refine z_bipush (v := 9) C dX4_yardsToOpen_39 (by decide) ?_
        cases hF
        exact z_iret C hr dX4_yardsToOpen_41 ⟨rfl, rfl, hT⟩
      · replace hF := im hF c1
        refine z_aload_n C dX4_yardsToOpen_14 rfl ?_
        refine f_getr C dX4_yardsToOpen_15 zfRX4_18 hpv0 hkv0 rfl ?_
        obtain ⟨hp2, hk2⟩ := hT.1 v0 3 3 (.inr (0, 8)) hpv0 hkv0 rfl
        refine z_iload_n C dX4_yardsToOpen_18 rfl ?_
        obtain ⟨hi3, hF⟩ := bX_some hF
        obtain ⟨q3, eq3⟩ : ∃ q : Nat, q = Int32.toNatClampNeg v2 := ⟨_, rfl⟩
        rw [← eq3] at hF
        refine f_iald C dX4_yardsToOpen_19 hp2 hk2 hi3 ?_
        rw [← eq3]
        refine z_aload_n C dX4_yardsToOpen_20 rfl ?_
        refine f_getr C dX4_yardsToOpen_21 zfRX4_15 hpv0 hkv0 rfl ?_
        obtain ⟨hp4, hk4⟩ := hT.1 v0 3 2 (.inr (0, 8)) hpv0 hkv0 rfl
        refine z_iload_n C dX4_yardsToOpen_24 rfl ?_
        obtain ⟨hi5, hF⟩ := bX_some hF
        obtain ⟨q5, eq5⟩ : ∃ q : Nat, q = Int32.toNatClampNeg v2 := ⟨_, rfl⟩
        rw [← eq5] at hF
        refine f_iald C dX4_yardsToOpen_25 hp4 hk4 hi5 ?_
        rw [← eq5]
        refine z_icmp_ge C 33 dX4_yardsToOpen_26 (by decide) (fun c6 => ?_) (fun c6 => ?_)
        · replace hF := ip hF c6
          refine z_iinc (v := v2 + 1) (lv2 := [some (.ref (zB G + v0)), some (.int v1), some (.int (v2 + 1))]) C dX4_yardsToOpen_33 rfl (by rw [show Int32.ofInt 1 = (1 : Int32) from by decide]) rfl ?_
          refine z_goto C 6 dX4_yardsToOpen_36 (by decide) ?_
          exact ih1 S v0 v1 (v2 + 1) res hT hpv0 hkv0   hF
        · replace hF := im hF c6
          refine z_iload_n C dX4_yardsToOpen_29 rfl ?_
          refine z_iload_n C dX4_yardsToOpen_30 rfl ?_
          refine z_isub C dX4_yardsToOpen_31 ?_
          cases hF
          exact z_iret C hr dX4_yardsToOpen_32 ⟨rfl, rfl, hT⟩
theorem K_X4_yardsToOpen {G : zG} {l : Launch} {kd : kD} {N0 f : Nat} {S : aS} {v0 : Nat} {v1 : Int32} {res : Option Value × aS} (hT : zT0 kd N0 S) (hpv0 : v0 < N0) (hkv0 : kd v0 = .inl 3) (hF : F_X4_yardsToOpen f 0 [.ref v0, .int v1] S = some res) : zM G l 1 0 0 yX4_yardsToOpen cX4_yardsToOpen 3 (some .int) [.ref (zB G + v0), .int v1] (cn G kd N0 S) (zPo G kd N0 res) := zM.of (by decide) rfl (Nat.le_of_ble_eq_true rfl) (fun X _ C hr _ => (B_X4_yardsToOpen C hr f).1 S v0 v1 res hT hpv0 hkv0 hF)
def F_X4_nearOf_0 (f : Nat) (rc : Nat → List Value → aS → aR) (v0 : Nat) (v1 : Int32) (S : aS) : aR :=
  bI (F_X4_yardsToOpen f 0 [.ref v0, .int (v1 + (1 : Int32))] S) fun x1 S1 => some (some (.int (if x1 = (9 : Int32) then (9 : Int32) else (x1 + (1 : Int32)))), S1)
def F_X4_nearOf : Nat → Nat → List Value → aS → aR
  | 0, _, _, _ => none
  | f + 1, 0, vs, S => F_X4_nearOf_0 f (F_X4_nearOf f) (vR vs 0) (vI vs 1) S
  | _ + 1, _, _, _ => none
theorem dX4_nearOf_0 : decode cX4_nearOf 0 = .ok (.aload_n 0, 1) := by decide +kernel
theorem dX4_nearOf_1 : decode cX4_nearOf 1 = .ok (.iload_n 1, 1) := by decide +kernel
theorem dX4_nearOf_2 : decode cX4_nearOf 2 = .ok (.iconst 1, 1) := by decide +kernel
theorem dX4_nearOf_3 : decode cX4_nearOf 3 = .ok (.iadd, 1) := by decide +kernel
theorem dX4_nearOf_4 : decode cX4_nearOf 4 = .ok (.invokevirtual 66, 3) := by decide +kernel
theorem dX4_nearOf_7 : decode cX4_nearOf 7 = .ok (.istore_n 2, 1) := by decide +kernel
theorem dX4_nearOf_8 : decode cX4_nearOf 8 = .ok (.iload_n 2, 1) := by decide +kernel
theorem dX4_nearOf_9 : decode cX4_nearOf 9 = .ok (.bipush 9, 2) := by decide +kernel
theorem dX4_nearOf_11 : decode cX4_nearOf 11 = .ok (.if_icmp .ne 8, 3) := by decide +kernel
theorem dX4_nearOf_14 : decode cX4_nearOf 14 = .ok (.bipush 9, 2) := by decide +kernel
theorem dX4_nearOf_16 : decode cX4_nearOf 16 = .ok (.goto 6, 3) := by decide +kernel
theorem dX4_nearOf_19 : decode cX4_nearOf 19 = .ok (.iload_n 2, 1) := by decide +kernel
theorem dX4_nearOf_20 : decode cX4_nearOf 20 = .ok (.iconst 1, 1) := by decide +kernel
theorem dX4_nearOf_21 : decode cX4_nearOf 21 = .ok (.iadd, 1) := by decide +kernel
theorem dX4_nearOf_22 : decode cX4_nearOf 22 = .ok (.ireturn, 1) := by decide +kernel
set_option maxHeartbeats 4000000 in
set_option maxRecDepth 100000 in
theorem B_X4_nearOf {G : zG} {X : zX} {kd : kD} {N0 : Nat} (C : zCt G X 2 0 0 RX4 cX4_nearOf 3) (hr : (zXh X).sig.returnType = (some .int)) : ∀ f : Nat,
    (∀ (S : aS) (v0 : Nat) (v1 : Int32) (res : Option Value × aS), zT0 kd N0 S → v0 < N0 → kd v0 = .inl 3 → F_X4_nearOf f 0 [.ref v0, .int v1] S = some res → zV G X (zQX G X (zPo G kd N0 res) 0 0) 3 [some (.ref (zB G + v0)), some (.int v1), none] [] (cn G kd N0 S) 0 0 0) := by
  intro f
  induction f with
  | zero => exact (fun _ _ _ _ _ _ _ h => by cases h)
  | succ f ih =>
    have ih0 := ih
    intro S v0 v1 res hT hpv0 hkv0 hF
    replace hF : F_X4_nearOf_0 f (F_X4_nearOf f) v0 v1 S = some res := hF
    unfold F_X4_nearOf_0 at hF
    refine z_aload_n C dX4_nearOf_0 rfl ?_
    refine z_iload_n C dX4_nearOf_1 rfl ?_
    refine z_iconst (v := 1) C dX4_nearOf_2 (by decide) ?_
    refine z_iadd C dX4_nearOf_3 ?_
    obtain ⟨x1, S1, h1, hF⟩ := bI_some hF
    refine f_cV (st2 := [.int x1]) C dX4_nearOf_4 zyX4_yardsToOpen zvX4_yardsToOpen lkRX4_66 (K_X4_yardsToOpen (l := zXl X) hT hpv0 hkv0  h1) hpv0 hkv0 rfl (by decide) rfl rfl (Nat.le_of_ble_eq_true rfl) rfl (fun hT1 => ?_)
    refine z_istore_n (lv2 := [some (.ref (zB G + v0)), some (.int v1), some (.int x1)]) C dX4_nearOf_7 (by decide) rfl ?_
    refine z_iload_n C dX4_nearOf_8 rfl ?_
    refine z_bipush (v := 9) C dX4_nearOf_9 (by decide) ?_
    have hJ3 : zV G X (zQX G X (zPo G kd N0 res) 0 0) 3 [some (.ref (zB G + v0)), some (.int v1), some (.int x1)] [.int (if x1 = (9 : Int32) then (9 : Int32) else (x1 + (1 : Int32)))] (cn G kd N0 S1) 22 0 0 := by
      cases hF
      exact z_iret C hr dX4_nearOf_22 ⟨rfl, rfl, hT1⟩
    refine z_icmp_ne C 19 dX4_nearOf_11 (by decide) (fun c2 => ?_) (fun c2 => ?_)
    · refine z_iload_n C dX4_nearOf_19 rfl ?_
      refine z_iconst (v := 1) C dX4_nearOf_20 (by decide) ?_
      refine z_iadd C dX4_nearOf_21 ?_
      exact zV.at hJ3 (by first | rfl | contradiction | (simp only [if_neg c2]; done)) (by first | rfl | contradiction | (simp only [if_neg c2]; done)) rfl rfl
    · refine z_bipush (v := 9) C dX4_nearOf_14 (by decide) ?_
      refine z_goto C 22 dX4_nearOf_16 (by decide) ?_
      exact zV.at hJ3 (by first | rfl | contradiction | (simp only [if_pos c2]; done)) (by first | rfl | contradiction | (simp only [if_pos c2]; done)) rfl rfl
theorem K_X4_nearOf {G : zG} {l : Launch} {kd : kD} {N0 f : Nat} {S : aS} {v0 : Nat} {v1 : Int32} {res : Option Value × aS} (hT : zT0 kd N0 S) (hpv0 : v0 < N0) (hkv0 : kd v0 = .inl 3) (hF : F_X4_nearOf f 0 [.ref v0, .int v1] S = some res) : zM G l 2 0 0 yX4_nearOf cX4_nearOf 3 (some .int) [.ref (zB G + v0), .int v1] (cn G kd N0 S) (zPo G kd N0 res) := zM.of (by decide) rfl (Nat.le_of_ble_eq_true rfl) (fun X _ C hr _ => (B_X4_nearOf C hr f) S v0 v1 res hT hpv0 hkv0 hF)
def F_X4_emptyBin_0 (f : Nat) (rc : Nat → List Value → aS → aR) (v0 : Nat) (v1 : Int32) (v2 : Int32) (S : aS) : aR :=
  bX v1 8 fun q2 => bX v1 8 fun q4 => fS (sI S (gR S v0 3) q4 0) fun S5 => fS (sI S5 v0 7 ((gI S5 v0 7) + v2)) fun S6 => some (some (.int (gI S (gR S v0 3) q2)), S6)
def F_X4_emptyBin : Nat → Nat → List Value → aS → aR
  | 0, _, _, _ => none
  | f + 1, 0, vs, S => F_X4_emptyBin_0 f (F_X4_emptyBin f) (vR vs 0) (vI vs 1) (vI vs 2) S
  | _ + 1, _, _, _ => none
theorem dX4_emptyBin_0 : decode cX4_emptyBin 0 = .ok (.aload_n 0, 1) := by decide +kernel
theorem dX4_emptyBin_1 : decode cX4_emptyBin 1 = .ok (.getfield 18, 3) := by decide +kernel
theorem dX4_emptyBin_4 : decode cX4_emptyBin 4 = .ok (.iload_n 1, 1) := by decide +kernel
theorem dX4_emptyBin_5 : decode cX4_emptyBin 5 = .ok (.iaload, 1) := by decide +kernel
theorem dX4_emptyBin_6 : decode cX4_emptyBin 6 = .ok (.istore_n 3, 1) := by decide +kernel
theorem dX4_emptyBin_7 : decode cX4_emptyBin 7 = .ok (.aload_n 0, 1) := by decide +kernel
theorem dX4_emptyBin_8 : decode cX4_emptyBin 8 = .ok (.getfield 18, 3) := by decide +kernel
theorem dX4_emptyBin_11 : decode cX4_emptyBin 11 = .ok (.iload_n 1, 1) := by decide +kernel
theorem dX4_emptyBin_12 : decode cX4_emptyBin 12 = .ok (.iconst 0, 1) := by decide +kernel
theorem dX4_emptyBin_13 : decode cX4_emptyBin 13 = .ok (.iastore, 1) := by decide +kernel
theorem dX4_emptyBin_14 : decode cX4_emptyBin 14 = .ok (.aload_n 0, 1) := by decide +kernel
theorem dX4_emptyBin_15 : decode cX4_emptyBin 15 = .ok (.dup, 1) := by decide +kernel
theorem dX4_emptyBin_16 : decode cX4_emptyBin 16 = .ok (.getfield 37, 3) := by decide +kernel
theorem dX4_emptyBin_19 : decode cX4_emptyBin 19 = .ok (.iload_n 2, 1) := by decide +kernel
theorem dX4_emptyBin_20 : decode cX4_emptyBin 20 = .ok (.iadd, 1) := by decide +kernel
theorem dX4_emptyBin_21 : decode cX4_emptyBin 21 = .ok (.putfield 37, 3) := by decide +kernel
theorem dX4_emptyBin_24 : decode cX4_emptyBin 24 = .ok (.iload_n 3, 1) := by decide +kernel
theorem dX4_emptyBin_25 : decode cX4_emptyBin 25 = .ok (.ireturn, 1) := by decide +kernel
set_option maxHeartbeats 4000000 in
set_option maxRecDepth 100000 in
theorem B_X4_emptyBin {G : zG} {X : zX} {kd : kD} {N0 : Nat} (C : zCt G X 0 0 0 RX4 cX4_emptyBin 4) (hr : (zXh X).sig.returnType = (some .int)) : ∀ f : Nat,
    (∀ (S : aS) (v0 : Nat) (v1 : Int32) (v2 : Int32) (res : Option Value × aS), zT0 kd N0 S → v0 < N0 → kd v0 = .inl 3 → F_X4_emptyBin f 0 [.ref v0, .int v1, .int v2] S = some res → zV G X (zQX G X (zPo G kd N0 res) 0 0) 4 [some (.ref (zB G + v0)), some (.int v1), some (.int v2), none] [] (cn G kd N0 S) 0 0 0) := by
  intro f
  induction f with
  | zero => exact (fun _ _ _ _ _ _ _ _ h => by cases h)
  | succ f ih =>
    have ih0 := ih
    intro S v0 v1 v2 res hT hpv0 hkv0 hF
    replace hF : F_X4_emptyBin_0 f (F_X4_emptyBin f) v0 v1 v2 S = some res := hF
    unfold F_X4_emptyBin_0 at hF
    refine z_aload_n C dX4_emptyBin_0 rfl ?_
    refine f_getr C dX4_emptyBin_1 zfRX4_18 hpv0 hkv0 rfl ?_
    obtain ⟨hp1, hk1⟩ := hT.1 v0 3 3 (.inr (0, 8)) hpv0 hkv0 rfl
    refine z_iload_n C dX4_emptyBin_4 rfl ?_
    obtain ⟨hi2, hF⟩ := bX_some hF
    obtain ⟨q2, eq2⟩ : ∃ q : Nat, q = Int32.toNatClampNeg v1 := ⟨_, rfl⟩
    rw [← eq2] at hF
    refine f_iald C dX4_emptyBin_5 hp1 hk1 hi2 ?_
    rw [← eq2]
    refine z_istore_n (lv2 := [some (.ref (zB G + v0)), some (.int v1), some (.int v2), some (.int (gI S (gR S v0 3) q2))]) C dX4_emptyBin_6 (by decide) rfl ?_
    refine z_aload_n C dX4_emptyBin_7 rfl ?_
    refine f_getr C dX4_emptyBin_8 zfRX4_18 hpv0 hkv0 rfl ?_
    obtain ⟨hp3, hk3⟩ := hT.1 v0 3 3 (.inr (0, 8)) hpv0 hkv0 rfl
    refine z_iload_n C dX4_emptyBin_11 rfl ?_
    refine z_iconst (v := 0) C dX4_emptyBin_12 (by decide) ?_
    obtain ⟨hi4, hF⟩ := bX_some hF
    obtain ⟨q4, eq4⟩ : ∃ q : Nat, q = Int32.toNatClampNeg v1 := ⟨_, rfl⟩
    rw [← eq4] at hF
    refine f_iast C dX4_emptyBin_13 hp3 hk3 hi4 ?_
    rw [← eq4]
    have hT5 : zT0 kd N0 (sI S (gR S v0 3) q4 0) := zT0_sI hT
    replace hF := fS_e hF
    generalize sI S (gR S v0 3) q4 0 = S5 at hF hT5 ⊢
    refine z_aload_n C dX4_emptyBin_14 rfl ?_
    refine z_dup C dX4_emptyBin_15 rfl ?_
    refine f_geti C dX4_emptyBin_16 zfRX4_37 hpv0 hkv0 rfl ?_
    refine z_iload_n C dX4_emptyBin_19 rfl ?_
    refine z_iadd C dX4_emptyBin_20 ?_
    refine f_puti C dX4_emptyBin_21 zfRX4_37 fw3_7 hpv0 hkv0 rfl rfl rfl ?_
    have hT6 : zT0 kd N0 (sI S5 v0 7 ((gI S5 v0 7) + v2)) := zT0_sI hT5
    replace hF := fS_e hF
    generalize sI S5 v0 7 ((gI S5 v0 7) + v2) = S6 at hF hT6 ⊢
    refine z_iload_n C dX4_emptyBin_24 rfl ?_
    cases hF
    exact z_iret C hr dX4_emptyBin_25 ⟨rfl, rfl, hT6⟩
theorem K_X4_emptyBin {G : zG} {l : Launch} {kd : kD} {N0 f : Nat} {S : aS} {v0 : Nat} {v1 : Int32} {v2 : Int32} {res : Option Value × aS} (hT : zT0 kd N0 S) (hpv0 : v0 < N0) (hkv0 : kd v0 = .inl 3) (hF : F_X4_emptyBin f 0 [.ref v0, .int v1, .int v2] S = some res) : zM G l 0 0 0 yX4_emptyBin cX4_emptyBin 4 (some .int) [.ref (zB G + v0), .int v1, .int v2] (cn G kd N0 S) (zPo G kd N0 res) := zM.of (by decide) rfl (Nat.le_of_ble_eq_true rfl) (fun X _ C hr _ => (B_X4_emptyBin C hr f) S v0 v1 v2 res hT hpv0 hkv0 hF)
def F_X4_emptyBins_0 (f : Nat) (rc : Nat → List Value → aS → aR) (v0 : Nat) (v1 : Int32) (S : aS) : aR :=
  rc 1 [.ref v0, .int v1, .int 0] S
def F_X4_emptyBins_1 (f : Nat) (rc : Nat → List Value → aS → aR) (v0 : Nat) (v1 : Int32) (v2 : Int32) (S : aS) : aR :=
  if (gI S v0 0) ≤ v2 then some (none, S) else bX v2 8 fun q5 => if (gI S (gR S v0 2) q5) ≤ (0 : Int32) then rc 2 [.ref v0, .int v1, .int v2] S else bI (F_X4_emptyBin f 0 [.ref v0, .int v2, .int v1] S) fun x8 S8 => rc 2 [.ref v0, .int v1, .int v2] S8
def F_X4_emptyBins_2 (f : Nat) (rc : Nat → List Value → aS → aR) (v0 : Nat) (v1 : Int32) (v2 : Int32) (S : aS) : aR :=
  rc 1 [.ref v0, .int v1, .int (v2 + 1)] S
def F_X4_emptyBins : Nat → Nat → List Value → aS → aR
  | 0, _, _, _ => none
  | f + 1, 0, vs, S => F_X4_emptyBins_0 f (F_X4_emptyBins f) (vR vs 0) (vI vs 1) S
  | f + 1, 1, vs, S => F_X4_emptyBins_1 f (F_X4_emptyBins f) (vR vs 0) (vI vs 1) (vI vs 2) S
  | f + 1, 2, vs, S => F_X4_emptyBins_2 f (F_X4_emptyBins f) (vR vs 0) (vI vs 1) (vI vs 2) S
  | _ + 1, _, _, _ => none
theorem dX4_emptyBins_0 : decode cX4_emptyBins 0 = .ok (.iconst 0, 1) := by decide +kernel
theorem dX4_emptyBins_1 : decode cX4_emptyBins 1 = .ok (.istore_n 2, 1) := by decide +kernel
theorem dX4_emptyBins_2 : decode cX4_emptyBins 2 = .ok (.iload_n 2, 1) := by decide +kernel
theorem dX4_emptyBins_3 : decode cX4_emptyBins 3 = .ok (.aload_n 0, 1) := by decide +kernel
theorem dX4_emptyBins_4 : decode cX4_emptyBins 4 = .ok (.getfield 27, 3) := by decide +kernel
theorem dX4_emptyBins_7 : decode cX4_emptyBins 7 = .ok (.if_icmp .ge 25, 3) := by decide +kernel
theorem dX4_emptyBins_10 : decode cX4_emptyBins 10 = .ok (.aload_n 0, 1) := by decide +kernel
theorem dX4_emptyBins_11 : decode cX4_emptyBins 11 = .ok (.getfield 15, 3) := by decide +kernel
theorem dX4_emptyBins_14 : decode cX4_emptyBins 14 = .ok (.iload_n 2, 1) := by decide +kernel
theorem dX4_emptyBins_15 : decode cX4_emptyBins 15 = .ok (.iaload, 1) := by decide +kernel
theorem dX4_emptyBins_16 : decode cX4_emptyBins 16 = .ok (.ifCond .le 10, 3) := by decide +kernel
theorem dX4_emptyBins_19 : decode cX4_emptyBins 19 = .ok (.aload_n 0, 1) := by decide +kernel
theorem dX4_emptyBins_20 : decode cX4_emptyBins 20 = .ok (.iload_n 2, 1) := by decide +kernel
theorem dX4_emptyBins_21 : decode cX4_emptyBins 21 = .ok (.iload_n 1, 1) := by decide +kernel
theorem dX4_emptyBins_22 : decode cX4_emptyBins 22 = .ok (.invokevirtual 69, 3) := by decide +kernel
theorem dX4_emptyBins_25 : decode cX4_emptyBins 25 = .ok (.pop, 1) := by decide +kernel
theorem dX4_emptyBins_26 : decode cX4_emptyBins 26 = .ok (.iinc 2 1, 3) := by decide +kernel
theorem dX4_emptyBins_29 : decode cX4_emptyBins 29 = .ok (.goto (-27), 3) := by decide +kernel
theorem dX4_emptyBins_32 : decode cX4_emptyBins 32 = .ok (.return_, 1) := by decide +kernel
set_option maxHeartbeats 4000000 in
set_option maxRecDepth 100000 in
theorem B_X4_emptyBins {G : zG} {X : zX} {kd : kD} {N0 : Nat} (C : zCt G X 1 0 0 RX4 cX4_emptyBins 3) (hr : (zXh X).sig.returnType = none) : ∀ f : Nat,
    (∀ (S : aS) (v0 : Nat) (v1 : Int32) (res : Option Value × aS), zT0 kd N0 S → v0 < N0 → kd v0 = .inl 3 → F_X4_emptyBins f 0 [.ref v0, .int v1] S = some res → zV G X (zQX G X (zPo G kd N0 res) 0 0) 3 [some (.ref (zB G + v0)), some (.int v1), none] [] (cn G kd N0 S) 0 0 0) ∧
    (∀ (S : aS) (v0 : Nat) (v1 : Int32) (v2 : Int32) (res : Option Value × aS), zT0 kd N0 S → v0 < N0 → kd v0 = .inl 3 → F_X4_emptyBins f 1 [.ref v0, .int v1, .int v2] S = some res → zV G X (zQX G X (zPo G kd N0 res) 0 0) 3 [some (.ref (zB G + v0)), some (.int v1), some (.int v2)] [] (cn G kd N0 S) 2 0 0) ∧
    (∀ (S : aS) (v0 : Nat) (v1 : Int32) (v2 : Int32) (res : Option Value × aS), zT0 kd N0 S → v0 < N0 → kd v0 = .inl 3 → F_X4_emptyBins f 2 [.ref v0, .int v1, .int v2] S = some res → zV G X (zQX G X (zPo G kd N0 res) 0 0) 3 [some (.ref (zB G + v0)), some (.int v1), some (.int v2)] [] (cn G kd N0 S) 26 0 0) := by
  intro f
  induction f with
  | zero => exact ⟨(fun _ _ _ _ _ _ _ h => by cases h), (fun _ _ _ _ _ _ _ _ h => by cases h), (fun _ _ _ _ _ _ _ _ h => by cases h)⟩
  | succ f ih =>
    obtain ⟨ih0, ih1, ih2⟩ := ih
    refine ⟨?_, ?_, ?_⟩
    · intro S v0 v1 res hT hpv0 hkv0 hF
      replace hF : F_X4_emptyBins_0 f (F_X4_emptyBins f) v0 v1 S = some res := hF
      unfold F_X4_emptyBins_0 at hF
      refine z_iconst (v := 0) C dX4_emptyBins_0 (by decide) ?_
      refine z_istore_n (lv2 := [some (.ref (zB G + v0)), some (.int v1), some (.int 0)]) C dX4_emptyBins_1 (by decide) rfl ?_
      exact ih1 S v0 v1 0 res hT hpv0 hkv0   hF
    · intro S v0 v1 v2 res hT hpv0 hkv0 hF
      replace hF : F_X4_emptyBins_1 f (F_X4_emptyBins f) v0 v1 v2 S = some res := hF
      unfold F_X4_emptyBins_1 at hF
      refine z_iload_n C dX4_emptyBins_2 rfl ?_
      refine z_aload_n C dX4_emptyBins_3 rfl ?_
      refine f_geti C dX4_emptyBins_4 zfRX4_27 hpv0 hkv0 rfl ?_
      refine z_icmp_ge C 32 dX4_emptyBins_7 (by decide) (fun c3 => ?_) (fun c3 => ?_)
      · replace hF := ip hF c3
        cases hF
        exact z_vret C hr dX4_emptyBins_32 ⟨rfl, rfl, hT⟩
      · replace hF := im hF c3
        refine z_aload_n C dX4_emptyBins_10 rfl ?_
        refine f_getr C dX4_emptyBins_11 zfRX4_15 hpv0 hkv0 rfl ?_
        obtain ⟨hp4, hk4⟩ := hT.1 v0 3 2 (.inr (0, 8)) hpv0 hkv0 rfl
        refine z_iload_n C dX4_emptyBins_14 rfl ?_
        obtain ⟨hi5, hF⟩ := bX_some hF
        obtain ⟨q5, eq5⟩ : ∃ q : Nat, q = Int32.toNatClampNeg v2 := ⟨_, rfl⟩
        rw [← eq5] at hF
        refine f_iald C dX4_emptyBins_15 hp4 hk4 hi5 ?_
        rw [← eq5]
        refine z_if_le C 26 dX4_emptyBins_16 (by decide) (fun c7 => ?_) (fun c7 => ?_)
        · replace hF := ip hF c7
          exact ih2 S v0 v1 v2 res hT hpv0 hkv0   hF
        · replace hF := im hF c7
          refine z_aload_n C dX4_emptyBins_19 rfl ?_
          refine z_iload_n C dX4_emptyBins_20 rfl ?_
          refine z_iload_n C dX4_emptyBins_21 rfl ?_
          obtain ⟨x8, S8, h8, hF⟩ := bI_some hF
          refine f_cV (st2 := [.int x8]) C dX4_emptyBins_22 zyX4_emptyBin zvX4_emptyBin lkRX4_69 (K_X4_emptyBin (l := zXl X) hT hpv0 hkv0   h8) hpv0 hkv0 rfl (by decide) rfl rfl (Nat.le_of_ble_eq_true rfl) rfl (fun hT8 => ?_)
          refine z_pop C dX4_emptyBins_25 rfl ?_
          exact ih2 S8 v0 v1 v2 res hT8 hpv0 hkv0   hF
    · intro S v0 v1 v2 res hT hpv0 hkv0 hF
      replace hF : F_X4_emptyBins_2 f (F_X4_emptyBins f) v0 v1 v2 S = some res := hF
      unfold F_X4_emptyBins_2 at hF
      refine z_iinc (v := v2 + 1) (lv2 := [some (.ref (zB G + v0)), some (.int v1), some (.int (v2 + 1))]) C dX4_emptyBins_26 rfl (by rw [show Int32.ofInt 1 = (1 : Int32) from by decide]) rfl ?_
      refine z_goto C 2 dX4_emptyBins_29 (by decide) ?_
      exact ih1 S v0 v1 (v2 + 1) res hT hpv0 hkv0   hF
theorem K_X4_emptyBins {G : zG} {l : Launch} {kd : kD} {N0 f : Nat} {S : aS} {v0 : Nat} {v1 : Int32} {res : Option Value × aS} (hT : zT0 kd N0 S) (hpv0 : v0 < N0) (hkv0 : kd v0 = .inl 3) (hF : F_X4_emptyBins f 0 [.ref v0, .int v1] S = some res) : zM G l 1 0 0 yX4_emptyBins cX4_emptyBins 3 none [.ref (zB G + v0), .int v1] (cn G kd N0 S) (zPo G kd N0 res) := zM.of (by decide) rfl (Nat.le_of_ble_eq_true rfl) (fun X _ C hr _ => (B_X4_emptyBins C hr f).1 S v0 v1 res hT hpv0 hkv0 hF)
def F_X4_setBin_0 (f : Nat) (rc : Nat → List Value → aS → aR) (v0 : Nat) (v1 : Int32) (v2 : Int32) (S : aS) : aR :=
  bX v1 8 fun q2 => fS (sI S (gR S v0 2) q2 v2) fun S3 => bX v1 8 fun q5 => fS (sI S3 (gR S3 v0 3) q5 0) fun S6 => some (none, S6)
def F_X4_setBin : Nat → Nat → List Value → aS → aR
  | 0, _, _, _ => none
  | f + 1, 0, vs, S => F_X4_setBin_0 f (F_X4_setBin f) (vR vs 0) (vI vs 1) (vI vs 2) S
  | _ + 1, _, _, _ => none
theorem dX4_setBin_0 : decode cX4_setBin 0 = .ok (.aload_n 0, 1) := by decide +kernel
theorem dX4_setBin_1 : decode cX4_setBin 1 = .ok (.getfield 15, 3) := by decide +kernel
theorem dX4_setBin_4 : decode cX4_setBin 4 = .ok (.iload_n 1, 1) := by decide +kernel
theorem dX4_setBin_5 : decode cX4_setBin 5 = .ok (.iload_n 2, 1) := by decide +kernel
theorem dX4_setBin_6 : decode cX4_setBin 6 = .ok (.iastore, 1) := by decide +kernel
theorem dX4_setBin_7 : decode cX4_setBin 7 = .ok (.aload_n 0, 1) := by decide +kernel
theorem dX4_setBin_8 : decode cX4_setBin 8 = .ok (.getfield 18, 3) := by decide +kernel
theorem dX4_setBin_11 : decode cX4_setBin 11 = .ok (.iload_n 1, 1) := by decide +kernel
theorem dX4_setBin_12 : decode cX4_setBin 12 = .ok (.iconst 0, 1) := by decide +kernel
theorem dX4_setBin_13 : decode cX4_setBin 13 = .ok (.iastore, 1) := by decide +kernel
theorem dX4_setBin_14 : decode cX4_setBin 14 = .ok (.return_, 1) := by decide +kernel
set_option maxHeartbeats 4000000 in
set_option maxRecDepth 100000 in
theorem B_X4_setBin {G : zG} {X : zX} {kd : kD} {N0 : Nat} (C : zCt G X 0 0 0 RX4 cX4_setBin 3) (hr : (zXh X).sig.returnType = none) : ∀ f : Nat,
    (∀ (S : aS) (v0 : Nat) (v1 : Int32) (v2 : Int32) (res : Option Value × aS), zT0 kd N0 S → v0 < N0 → kd v0 = .inl 3 → F_X4_setBin f 0 [.ref v0, .int v1, .int v2] S = some res → zV G X (zQX G X (zPo G kd N0 res) 0 0) 3 [some (.ref (zB G + v0)), some (.int v1), some (.int v2)] [] (cn G kd N0 S) 0 0 0) := by
  intro f
  induction f with
  | zero => exact (fun _ _ _ _ _ _ _ _ h => by cases h)
  | succ f ih =>
    have ih0 := ih
    intro S v0 v1 v2 res hT hpv0 hkv0 hF
    replace hF : F_X4_setBin_0 f (F_X4_setBin f) v0 v1 v2 S = some res := hF
    unfold F_X4_setBin_0 at hF
    refine z_aload_n C dX4_setBin_0 rfl ?_
    refine f_getr C dX4_setBin_1 zfRX4_15 hpv0 hkv0 rfl ?_
    obtain ⟨hp1, hk1⟩ := hT.1 v0 3 2 (.inr (0, 8)) hpv0 hkv0 rfl
    refine z_iload_n C dX4_setBin_4 rfl ?_
    refine z_iload_n C dX4_setBin_5 rfl ?_
    obtain ⟨hi2, hF⟩ := bX_some hF
    obtain ⟨q2, eq2⟩ : ∃ q : Nat, q = Int32.toNatClampNeg v1 := ⟨_, rfl⟩
    rw [← eq2] at hF
    refine f_iast C dX4_setBin_6 hp1 hk1 hi2 ?_
    rw [← eq2]
    have hT3 : zT0 kd N0 (sI S (gR S v0 2) q2 v2) := zT0_sI hT
    replace hF := fS_e hF
    generalize sI S (gR S v0 2) q2 v2 = S3 at hF hT3 ⊢
    refine z_aload_n C dX4_setBin_7 rfl ?_
    refine f_getr C dX4_setBin_8 zfRX4_18 hpv0 hkv0 rfl ?_
    obtain ⟨hp4, hk4⟩ := hT3.1 v0 3 3 (.inr (0, 8)) hpv0 hkv0 rfl
    refine z_iload_n C dX4_setBin_11 rfl ?_
    refine z_iconst (v := 0) C dX4_setBin_12 (by decide) ?_
    obtain ⟨hi5, hF⟩ := bX_some hF
    obtain ⟨q5, eq5⟩ : ∃ q : Nat, q = Int32.toNatClampNeg v1 := ⟨_, rfl⟩
    rw [← eq5] at hF
    refine f_iast C dX4_setBin_13 hp4 hk4 hi5 ?_
    rw [← eq5]
    have hT6 : zT0 kd N0 (sI S3 (gR S3 v0 3) q5 0) := zT0_sI hT3
    replace hF := fS_e hF
    generalize sI S3 (gR S3 v0 3) q5 0 = S6 at hF hT6 ⊢
    cases hF
    exact z_vret C hr dX4_setBin_14 ⟨rfl, rfl, hT6⟩
theorem K_X4_setBin {G : zG} {l : Launch} {kd : kD} {N0 f : Nat} {S : aS} {v0 : Nat} {v1 : Int32} {v2 : Int32} {res : Option Value × aS} (hT : zT0 kd N0 S) (hpv0 : v0 < N0) (hkv0 : kd v0 = .inl 3) (hF : F_X4_setBin f 0 [.ref v0, .int v1, .int v2] S = some res) : zM G l 0 0 0 yX4_setBin cX4_setBin 3 none [.ref (zB G + v0), .int v1, .int v2] (cn G kd N0 S) (zPo G kd N0 res) := zM.of (by decide) rfl (Nat.le_of_ble_eq_true rfl) (fun X _ C hr _ => (B_X4_setBin C hr f) S v0 v1 v2 res hT hpv0 hkv0 hF)
def F_X4_takeBin_0 (f : Nat) (rc : Nat → List Value → aS → aR) (v0 : Nat) (v1 : Int32) (S : aS) : aR :=
  bX v1 8 fun q2 => bV (F_X4_setBin f 0 [.ref v0, .int v1, .int 0] S) fun S3 => some (some (.int (gI S (gR S v0 3) q2)), S3)
def F_X4_takeBin : Nat → Nat → List Value → aS → aR
  | 0, _, _, _ => none
  | f + 1, 0, vs, S => F_X4_takeBin_0 f (F_X4_takeBin f) (vR vs 0) (vI vs 1) S
  | _ + 1, _, _, _ => none
theorem dX4_takeBin_0 : decode cX4_takeBin 0 = .ok (.aload_n 0, 1) := by decide +kernel
theorem dX4_takeBin_1 : decode cX4_takeBin 1 = .ok (.getfield 18, 3) := by decide +kernel
theorem dX4_takeBin_4 : decode cX4_takeBin 4 = .ok (.iload_n 1, 1) := by decide +kernel
theorem dX4_takeBin_5 : decode cX4_takeBin 5 = .ok (.iaload, 1) := by decide +kernel
theorem dX4_takeBin_6 : decode cX4_takeBin 6 = .ok (.istore_n 2, 1) := by decide +kernel
theorem dX4_takeBin_7 : decode cX4_takeBin 7 = .ok (.aload_n 0, 1) := by decide +kernel
theorem dX4_takeBin_8 : decode cX4_takeBin 8 = .ok (.iload_n 1, 1) := by decide +kernel
theorem dX4_takeBin_9 : decode cX4_takeBin 9 = .ok (.iconst 0, 1) := by decide +kernel
theorem dX4_takeBin_10 : decode cX4_takeBin 10 = .ok (.invokevirtual 72, 3) := by decide +kernel
theorem dX4_takeBin_13 : decode cX4_takeBin 13 = .ok (.iload_n 2, 1) := by decide +kernel
theorem dX4_takeBin_14 : decode cX4_takeBin 14 = .ok (.ireturn, 1) := by decide +kernel
set_option maxHeartbeats 4000000 in
set_option maxRecDepth 100000 in
theorem B_X4_takeBin {G : zG} {X : zX} {kd : kD} {N0 : Nat} (C : zCt G X 1 0 0 RX4 cX4_takeBin 3) (hr : (zXh X).sig.returnType = (some .int)) : ∀ f : Nat,
    (∀ (S : aS) (v0 : Nat) (v1 : Int32) (res : Option Value × aS), zT0 kd N0 S → v0 < N0 → kd v0 = .inl 3 → F_X4_takeBin f 0 [.ref v0, .int v1] S = some res → zV G X (zQX G X (zPo G kd N0 res) 0 0) 3 [some (.ref (zB G + v0)), some (.int v1), none] [] (cn G kd N0 S) 0 0 0) := by
  intro f
  induction f with
  | zero => exact (fun _ _ _ _ _ _ _ h => by cases h)
  | succ f ih =>
    have ih0 := ih
    intro S v0 v1 res hT hpv0 hkv0 hF
    replace hF : F_X4_takeBin_0 f (F_X4_takeBin f) v0 v1 S = some res := hF
    unfold F_X4_takeBin_0 at hF
    refine z_aload_n C dX4_takeBin_0 rfl ?_
    refine f_getr C dX4_takeBin_1 zfRX4_18 hpv0 hkv0 rfl ?_
    obtain ⟨hp1, hk1⟩ := hT.1 v0 3 3 (.inr (0, 8)) hpv0 hkv0 rfl
    refine z_iload_n C dX4_takeBin_4 rfl ?_
    obtain ⟨hi2, hF⟩ := bX_some hF
    obtain ⟨q2, eq2⟩ : ∃ q : Nat, q = Int32.toNatClampNeg v1 := ⟨_, rfl⟩
    rw [← eq2] at hF
    refine f_iald C dX4_takeBin_5 hp1 hk1 hi2 ?_
    rw [← eq2]
    refine z_istore_n (lv2 := [some (.ref (zB G + v0)), some (.int v1), some (.int (gI S (gR S v0 3) q2))]) C dX4_takeBin_6 (by decide) rfl ?_
    refine z_aload_n C dX4_takeBin_7 rfl ?_
    refine z_iload_n C dX4_takeBin_8 rfl ?_
    refine z_iconst (v := 0) C dX4_takeBin_9 (by decide) ?_
    obtain ⟨S3, h3, hF⟩ := bV_some hF
    refine f_cV (st2 := []) C dX4_takeBin_10 zyX4_setBin zvX4_setBin lkRX4_72 (K_X4_setBin (l := zXl X) hT hpv0 hkv0   h3) hpv0 hkv0 rfl (by decide) rfl rfl (Nat.le_of_ble_eq_true rfl) rfl (fun hT3 => ?_)
    refine z_iload_n C dX4_takeBin_13 rfl ?_
    cases hF
    exact z_iret C hr dX4_takeBin_14 ⟨rfl, rfl, hT3⟩
theorem K_X4_takeBin {G : zG} {l : Launch} {kd : kD} {N0 f : Nat} {S : aS} {v0 : Nat} {v1 : Int32} {res : Option Value × aS} (hT : zT0 kd N0 S) (hpv0 : v0 < N0) (hkv0 : kd v0 = .inl 3) (hF : F_X4_takeBin f 0 [.ref v0, .int v1] S = some res) : zM G l 1 0 0 yX4_takeBin cX4_takeBin 3 (some .int) [.ref (zB G + v0), .int v1] (cn G kd N0 S) (zPo G kd N0 res) := zM.of (by decide) rfl (Nat.le_of_ble_eq_true rfl) (fun X _ C hr _ => (B_X4_takeBin C hr f) S v0 v1 res hT hpv0 hkv0 hF)
def F_X4_sweepYard_0 (f : Nat) (rc : Nat → List Value → aS → aR) (v0 : Nat) (v1 : Int32) (S : aS) : aR :=
  bX v1 8 fun q2 => bX v1 8 fun q4 => fS (sI S (gR S v0 1) q4 0) fun S5 => some (some (.int (gI S (gR S v0 1) q2)), S5)
def F_X4_sweepYard : Nat → Nat → List Value → aS → aR
  | 0, _, _, _ => none
  | f + 1, 0, vs, S => F_X4_sweepYard_0 f (F_X4_sweepYard f) (vR vs 0) (vI vs 1) S
  | _ + 1, _, _, _ => none
theorem dX4_sweepYard_0 : decode cX4_sweepYard 0 = .ok (.aload_n 0, 1) := by decide +kernel
theorem dX4_sweepYard_1 : decode cX4_sweepYard 1 = .ok (.getfield 9, 3) := by decide +kernel
theorem dX4_sweepYard_4 : decode cX4_sweepYard 4 = .ok (.iload_n 1, 1) := by decide +kernel
theorem dX4_sweepYard_5 : decode cX4_sweepYard 5 = .ok (.iaload, 1) := by decide +kernel
theorem dX4_sweepYard_6 : decode cX4_sweepYard 6 = .ok (.istore_n 2, 1) := by decide +kernel
theorem dX4_sweepYard_7 : decode cX4_sweepYard 7 = .ok (.aload_n 0, 1) := by decide +kernel
theorem dX4_sweepYard_8 : decode cX4_sweepYard 8 = .ok (.getfield 9, 3) := by decide +kernel
theorem dX4_sweepYard_11 : decode cX4_sweepYard 11 = .ok (.iload_n 1, 1) := by decide +kernel
theorem dX4_sweepYard_12 : decode cX4_sweepYard 12 = .ok (.iconst 0, 1) := by decide +kernel
theorem dX4_sweepYard_13 : decode cX4_sweepYard 13 = .ok (.iastore, 1) := by decide +kernel
theorem dX4_sweepYard_14 : decode cX4_sweepYard 14 = .ok (.iload_n 2, 1) := by decide +kernel
theorem dX4_sweepYard_15 : decode cX4_sweepYard 15 = .ok (.ireturn, 1) := by decide +kernel
set_option maxHeartbeats 4000000 in
set_option maxRecDepth 100000 in
theorem B_X4_sweepYard {G : zG} {X : zX} {kd : kD} {N0 : Nat} (C : zCt G X 0 0 0 RX4 cX4_sweepYard 3) (hr : (zXh X).sig.returnType = (some .int)) : ∀ f : Nat,
    (∀ (S : aS) (v0 : Nat) (v1 : Int32) (res : Option Value × aS), zT0 kd N0 S → v0 < N0 → kd v0 = .inl 3 → F_X4_sweepYard f 0 [.ref v0, .int v1] S = some res → zV G X (zQX G X (zPo G kd N0 res) 0 0) 3 [some (.ref (zB G + v0)), some (.int v1), none] [] (cn G kd N0 S) 0 0 0) := by
  intro f
  induction f with
  | zero => exact (fun _ _ _ _ _ _ _ h => by cases h)
  | succ f ih =>
    have ih0 := ih
    intro S v0 v1 res hT hpv0 hkv0 hF
    replace hF : F_X4_sweepYard_0 f (F_X4_sweepYard f) v0 v1 S = some res := hF
    unfold F_X4_sweepYard_0 at hF
    refine z_aload_n C dX4_sweepYard_0 rfl ?_
    refine f_getr C dX4_sweepYard_1 zfRX4_9 hpv0 hkv0 rfl ?_
    obtain ⟨hp1, hk1⟩ := hT.1 v0 3 1 (.inr (0, 8)) hpv0 hkv0 rfl
    refine z_iload_n C dX4_sweepYard_4 rfl ?_
    obtain ⟨hi2, hF⟩ := bX_some hF
    obtain ⟨q2, eq2⟩ : ∃ q : Nat, q = Int32.toNatClampNeg v1 := ⟨_, rfl⟩
    rw [← eq2] at hF
    refine f_iald C dX4_sweepYard_5 hp1 hk1 hi2 ?_
    rw [← eq2]
    refine z_istore_n (lv2 := [some (.ref (zB G + v0)), some (.int v1), some (.int (gI S (gR S v0 1) q2))]) C dX4_sweepYard_6 (by decide) rfl ?_
    refine z_aload_n C dX4_sweepYard_7 rfl ?_
    refine f_getr C dX4_sweepYard_8 zfRX4_9 hpv0 hkv0 rfl ?_
    obtain ⟨hp3, hk3⟩ := hT.1 v0 3 1 (.inr (0, 8)) hpv0 hkv0 rfl
    refine z_iload_n C dX4_sweepYard_11 rfl ?_
    refine z_iconst (v := 0) C dX4_sweepYard_12 (by decide) ?_
    obtain ⟨hi4, hF⟩ := bX_some hF
    obtain ⟨q4, eq4⟩ : ∃ q : Nat, q = Int32.toNatClampNeg v1 := ⟨_, rfl⟩
    rw [← eq4] at hF
    refine f_iast C dX4_sweepYard_13 hp3 hk3 hi4 ?_
    rw [← eq4]
    have hT5 : zT0 kd N0 (sI S (gR S v0 1) q4 0) := zT0_sI hT
    replace hF := fS_e hF
    generalize sI S (gR S v0 1) q4 0 = S5 at hF hT5 ⊢
    refine z_iload_n C dX4_sweepYard_14 rfl ?_
    cases hF
    exact z_iret C hr dX4_sweepYard_15 ⟨rfl, rfl, hT5⟩
theorem K_X4_sweepYard {G : zG} {l : Launch} {kd : kD} {N0 f : Nat} {S : aS} {v0 : Nat} {v1 : Int32} {res : Option Value × aS} (hT : zT0 kd N0 S) (hpv0 : v0 < N0) (hkv0 : kd v0 = .inl 3) (hF : F_X4_sweepYard f 0 [.ref v0, .int v1] S = some res) : zM G l 0 0 0 yX4_sweepYard cX4_sweepYard 3 (some .int) [.ref (zB G + v0), .int v1] (cn G kd N0 S) (zPo G kd N0 res) := zM.of (by decide) rfl (Nat.le_of_ble_eq_true rfl) (fun X _ C hr _ => (B_X4_sweepYard C hr f) S v0 v1 res hT hpv0 hkv0 hF)
def F_X4_drop_0 (f : Nat) (rc : Nat → List Value → aS → aR) (v0 : Nat) (v1 : Int32) (v2 : Int32) (S : aS) : aR :=
  bX v1 8 fun q3 => bX v1 8 fun q4 => fS (sI S (gR S v0 1) q4 (if ((gI S (gR S v0 1) q3) + v2) < (999 : Int32) then ((gI S (gR S v0 1) q3) + v2) else (999 : Int32))) fun S5 => some (none, S5)
def F_X4_drop : Nat → Nat → List Value → aS → aR
  | 0, _, _, _ => none
  | f + 1, 0, vs, S => F_X4_drop_0 f (F_X4_drop f) (vR vs 0) (vI vs 1) (vI vs 2) S
  | _ + 1, _, _, _ => none
theorem dX4_drop_0 : decode cX4_drop 0 = .ok (.aload_n 0, 1) := by decide +kernel
theorem dX4_drop_1 : decode cX4_drop 1 = .ok (.getfield 9, 3) := by decide +kernel
theorem dX4_drop_4 : decode cX4_drop 4 = .ok (.iload_n 1, 1) := by decide +kernel
theorem dX4_drop_5 : decode cX4_drop 5 = .ok (.sipush 999, 3) := by decide +kernel
theorem dX4_drop_8 : decode cX4_drop 8 = .ok (.aload_n 0, 1) := by decide +kernel
theorem dX4_drop_9 : decode cX4_drop 9 = .ok (.getfield 9, 3) := by decide +kernel
theorem dX4_drop_12 : decode cX4_drop 12 = .ok (.iload_n 1, 1) := by decide +kernel
theorem dX4_drop_13 : decode cX4_drop 13 = .ok (.iaload, 1) := by decide +kernel
theorem dX4_drop_14 : decode cX4_drop 14 = .ok (.iload_n 2, 1) := by decide +kernel
theorem dX4_drop_15 : decode cX4_drop 15 = .ok (.iadd, 1) := by decide +kernel
theorem dX4_drop_16 : decode cX4_drop 16 = .ok (.invokestatic 76, 3) := by decide +kernel
theorem dX4_drop_19 : decode cX4_drop 19 = .ok (.iastore, 1) := by decide +kernel
theorem dX4_drop_20 : decode cX4_drop 20 = .ok (.return_, 1) := by decide +kernel
set_option maxHeartbeats 4000000 in
set_option maxRecDepth 100000 in
theorem B_X4_drop {G : zG} {X : zX} {kd : kD} {N0 : Nat} (C : zCt G X 1 0 0 RX4 cX4_drop 3) (hr : (zXh X).sig.returnType = none) : ∀ f : Nat,
    (∀ (S : aS) (v0 : Nat) (v1 : Int32) (v2 : Int32) (res : Option Value × aS), zT0 kd N0 S → v0 < N0 → kd v0 = .inl 3 → F_X4_drop f 0 [.ref v0, .int v1, .int v2] S = some res → zV G X (zQX G X (zPo G kd N0 res) 0 0) 3 [some (.ref (zB G + v0)), some (.int v1), some (.int v2)] [] (cn G kd N0 S) 0 0 0) := by
  intro f
  induction f with
  | zero => exact (fun _ _ _ _ _ _ _ _ h => by cases h)
  | succ f ih =>
    have ih0 := ih
    intro S v0 v1 v2 res hT hpv0 hkv0 hF
    replace hF : F_X4_drop_0 f (F_X4_drop f) v0 v1 v2 S = some res := hF
    unfold F_X4_drop_0 at hF
    refine z_aload_n C dX4_drop_0 rfl ?_
    refine f_getr C dX4_drop_1 zfRX4_9 hpv0 hkv0 rfl ?_
    obtain ⟨hp1, hk1⟩ := hT.1 v0 3 1 (.inr (0, 8)) hpv0 hkv0 rfl
    refine z_iload_n C dX4_drop_4 rfl ?_
    refine z_sipush (v := 999) C dX4_drop_5 (by decide) ?_
    refine z_aload_n C dX4_drop_8 rfl ?_
    refine f_getr C dX4_drop_9 zfRX4_9 hpv0 hkv0 rfl ?_
    obtain ⟨hp2, hk2⟩ := hT.1 v0 3 1 (.inr (0, 8)) hpv0 hkv0 rfl
    refine z_iload_n C dX4_drop_12 rfl ?_
    obtain ⟨hi3, hF⟩ := bX_some hF
    obtain ⟨q3, eq3⟩ : ∃ q : Nat, q = Int32.toNatClampNeg v1 := ⟨_, rfl⟩
    rw [← eq3] at hF
    refine f_iald C dX4_drop_13 hp2 hk2 hi3 ?_
    rw [← eq3]
    refine z_iload_n C dX4_drop_14 rfl ?_
    refine z_iadd C dX4_drop_15 ?_
    refine f_mmin C dX4_drop_16 lkRX4_76 (by decide) (Nat.le_of_ble_eq_true rfl) ?_
    obtain ⟨hi4, hF⟩ := bX_some hF
    obtain ⟨q4, eq4⟩ : ∃ q : Nat, q = Int32.toNatClampNeg v1 := ⟨_, rfl⟩
    rw [← eq4] at hF
    refine f_iast C dX4_drop_19 hp1 hk1 hi4 ?_
    rw [← eq4]
    have hT5 : zT0 kd N0 (sI S (gR S v0 1) q4 (if ((gI S (gR S v0 1) q3) + v2) < (999 : Int32) then ((gI S (gR S v0 1) q3) + v2) else (999 : Int32))) := zT0_sI hT
    replace hF := fS_e hF
    generalize sI S (gR S v0 1) q4 (if ((gI S (gR S v0 1) q3) + v2) < (999 : Int32) then ((gI S (gR S v0 1) q3) + v2) else (999 : Int32)) = S5 at hF hT5 ⊢
    cases hF
    exact z_vret C hr dX4_drop_20 ⟨rfl, rfl, hT5⟩
theorem K_X4_drop {G : zG} {l : Launch} {kd : kD} {N0 f : Nat} {S : aS} {v0 : Nat} {v1 : Int32} {v2 : Int32} {res : Option Value × aS} (hT : zT0 kd N0 S) (hpv0 : v0 < N0) (hkv0 : kd v0 = .inl 3) (hF : F_X4_drop f 0 [.ref v0, .int v1, .int v2] S = some res) : zM G l 1 0 0 yX4_drop cX4_drop 3 none [.ref (zB G + v0), .int v1, .int v2] (cn G kd N0 S) (zPo G kd N0 res) := zM.of (by decide) rfl (Nat.le_of_ble_eq_true rfl) (fun X _ C hr _ => (B_X4_drop C hr f) S v0 v1 v2 res hT hpv0 hkv0 hF)
def F_X4_blowOn_0 (f : Nat) (rc : Nat → List Value → aS → aR) (v0 : Nat) (S : aS) : aR :=
  rc 1 [.ref v0, .int 0, .int 0] S
def F_X4_blowOn_1 (f : Nat) (rc : Nat → List Value → aS → aR) (v0 : Nat) (v1 : Int32) (v2 : Int32) (S : aS) : aR :=
  if (gI S v0 0) ≤ v2 then some (none, S) else if ((gI S v0 0) - (1 : Int32)) ≤ v2 then rc 2 [.ref v0, .int v1, .int v2, .int 0] S else bX v2 8 fun q9 => rc 2 [.ref v0, .int v1, .int v2, .int ((gI S (gR S v0 1) q9) / (2 : Int32))] S
def F_X4_blowOn_2 (f : Nat) (rc : Nat → List Value → aS → aR) (v0 : Nat) (v1 : Int32) (v2 : Int32) (w0 : Int32) (S : aS) : aR :=
  bX v2 8 fun q11 => bX v2 8 fun q12 => fS (sI S (gR S v0 1) q12 ((gI S (gR S v0 1) q11) - w0)) fun S13 => bV (F_X4_drop f 0 [.ref v0, .int v2, .int v1] S13) fun S14 => rc 1 [.ref v0, .int w0, .int (v2 + 1)] S14
def F_X4_blowOn : Nat → Nat → List Value → aS → aR
  | 0, _, _, _ => none
  | f + 1, 0, vs, S => F_X4_blowOn_0 f (F_X4_blowOn f) (vR vs 0) S
  | f + 1, 1, vs, S => F_X4_blowOn_1 f (F_X4_blowOn f) (vR vs 0) (vI vs 1) (vI vs 2) S
  | f + 1, 2, vs, S => F_X4_blowOn_2 f (F_X4_blowOn f) (vR vs 0) (vI vs 1) (vI vs 2) (vI vs 3) S
  | _ + 1, _, _, _ => none
theorem dX4_blowOn_0 : decode cX4_blowOn 0 = .ok (.iconst 0, 1) := by decide +kernel
theorem dX4_blowOn_1 : decode cX4_blowOn 1 = .ok (.istore_n 1, 1) := by decide +kernel
theorem dX4_blowOn_2 : decode cX4_blowOn 2 = .ok (.iconst 0, 1) := by decide +kernel
theorem dX4_blowOn_3 : decode cX4_blowOn 3 = .ok (.istore_n 2, 1) := by decide +kernel
theorem dX4_blowOn_4 : decode cX4_blowOn 4 = .ok (.iload_n 2, 1) := by decide +kernel
theorem dX4_blowOn_5 : decode cX4_blowOn 5 = .ok (.aload_n 0, 1) := by decide +kernel
theorem dX4_blowOn_6 : decode cX4_blowOn 6 = .ok (.getfield 27, 3) := by decide +kernel
theorem dX4_blowOn_9 : decode cX4_blowOn 9 = .ok (.if_icmp .ge 50, 3) := by decide +kernel
theorem dX4_blowOn_12 : decode cX4_blowOn 12 = .ok (.iload_n 2, 1) := by decide +kernel
theorem dX4_blowOn_13 : decode cX4_blowOn 13 = .ok (.aload_n 0, 1) := by decide +kernel
theorem dX4_blowOn_14 : decode cX4_blowOn 14 = .ok (.getfield 27, 3) := by decide +kernel
theorem dX4_blowOn_17 : decode cX4_blowOn 17 = .ok (.iconst 1, 1) := by decide +kernel
theorem dX4_blowOn_18 : decode cX4_blowOn 18 = .ok (.isub, 1) := by decide +kernel
theorem dX4_blowOn_19 : decode cX4_blowOn 19 = .ok (.if_icmp .ge 14, 3) := by decide +kernel
theorem dX4_blowOn_22 : decode cX4_blowOn 22 = .ok (.aload_n 0, 1) := by decide +kernel
theorem dX4_blowOn_23 : decode cX4_blowOn 23 = .ok (.getfield 9, 3) := by decide +kernel
theorem dX4_blowOn_26 : decode cX4_blowOn 26 = .ok (.iload_n 2, 1) := by decide +kernel
theorem dX4_blowOn_27 : decode cX4_blowOn 27 = .ok (.iaload, 1) := by decide +kernel
theorem dX4_blowOn_28 : decode cX4_blowOn 28 = .ok (.iconst 2, 1) := by decide +kernel
theorem dX4_blowOn_29 : decode cX4_blowOn 29 = .ok (.idiv, 1) := by decide +kernel
theorem dX4_blowOn_30 : decode cX4_blowOn 30 = .ok (.goto 4, 3) := by decide +kernel
theorem dX4_blowOn_33 : decode cX4_blowOn 33 = .ok (.iconst 0, 1) := by decide +kernel
theorem dX4_blowOn_34 : decode cX4_blowOn 34 = .ok (.istore_n 3, 1) := by decide +kernel
theorem dX4_blowOn_35 : decode cX4_blowOn 35 = .ok (.aload_n 0, 1) := by decide +kernel
theorem dX4_blowOn_36 : decode cX4_blowOn 36 = .ok (.getfield 9, 3) := by decide +kernel
theorem dX4_blowOn_39 : decode cX4_blowOn 39 = .ok (.iload_n 2, 1) := by decide +kernel
theorem dX4_blowOn_40 : decode cX4_blowOn 40 = .ok (.dup2, 1) := by decide +kernel
theorem dX4_blowOn_41 : decode cX4_blowOn 41 = .ok (.iaload, 1) := by decide +kernel
theorem dX4_blowOn_42 : decode cX4_blowOn 42 = .ok (.iload_n 3, 1) := by decide +kernel
theorem dX4_blowOn_43 : decode cX4_blowOn 43 = .ok (.isub, 1) := by decide +kernel
theorem dX4_blowOn_44 : decode cX4_blowOn 44 = .ok (.iastore, 1) := by decide +kernel
theorem dX4_blowOn_45 : decode cX4_blowOn 45 = .ok (.aload_n 0, 1) := by decide +kernel
theorem dX4_blowOn_46 : decode cX4_blowOn 46 = .ok (.iload_n 2, 1) := by decide +kernel
theorem dX4_blowOn_47 : decode cX4_blowOn 47 = .ok (.iload_n 1, 1) := by decide +kernel
theorem dX4_blowOn_48 : decode cX4_blowOn 48 = .ok (.invokevirtual 88, 3) := by decide +kernel
theorem dX4_blowOn_51 : decode cX4_blowOn 51 = .ok (.iload_n 3, 1) := by decide +kernel
theorem dX4_blowOn_52 : decode cX4_blowOn 52 = .ok (.istore_n 1, 1) := by decide +kernel
theorem dX4_blowOn_53 : decode cX4_blowOn 53 = .ok (.iinc 2 1, 3) := by decide +kernel
theorem dX4_blowOn_56 : decode cX4_blowOn 56 = .ok (.goto (-52), 3) := by decide +kernel
theorem dX4_blowOn_59 : decode cX4_blowOn 59 = .ok (.return_, 1) := by decide +kernel
set_option maxHeartbeats 4000000 in
set_option maxRecDepth 100000 in
theorem B_X4_blowOn {G : zG} {X : zX} {kd : kD} {N0 : Nat} (C : zCt G X 2 0 0 RX4 cX4_blowOn 4) (hr : (zXh X).sig.returnType = none) : ∀ f : Nat,
    (∀ (S : aS) (v0 : Nat) (res : Option Value × aS), zT0 kd N0 S → v0 < N0 → kd v0 = .inl 3 → F_X4_blowOn f 0 [.ref v0] S = some res → zV G X (zQX G X (zPo G kd N0 res) 0 0) 4 [some (.ref (zB G + v0)), none, none, none] [] (cn G kd N0 S) 0 0 0) ∧
    (∀ (S : aS) (v0 : Nat) (v1 : Int32) (v2 : Int32) (res : Option Value × aS), zT0 kd N0 S → v0 < N0 → kd v0 = .inl 3 → F_X4_blowOn f 1 [.ref v0, .int v1, .int v2] S = some res → zV G X (zQX G X (zPo G kd N0 res) 0 0) 4 [some (.ref (zB G + v0)), some (.int v1), some (.int v2), none] [] (cn G kd N0 S) 4 0 0) ∧
    (∀ (S : aS) (v0 : Nat) (v1 : Int32) (v2 : Int32) (w0 : Int32) (res : Option Value × aS), zT0 kd N0 S → v0 < N0 → kd v0 = .inl 3 → F_X4_blowOn f 2 [.ref v0, .int v1, .int v2, .int w0] S = some res → zV G X (zQX G X (zPo G kd N0 res) 0 0) 4 [some (.ref (zB G + v0)), some (.int v1), some (.int v2), none] [.int w0] (cn G kd N0 S) 34 0 0) := by
  intro f
  induction f with
  | zero => exact ⟨(fun _ _ _ _ _ _ h => by cases h), (fun _ _ _ _ _ _ _ _ h => by cases h), (fun _ _ _ _ _ _ _ _ _ h => by cases h)⟩
  | succ f ih =>
    obtain ⟨ih0, ih1, ih2⟩ := ih
    refine ⟨?_, ?_, ?_⟩
    · intro S v0 res hT hpv0 hkv0 hF
      replace hF : F_X4_blowOn_0 f (F_X4_blowOn f) v0 S = some res := hF
      unfold F_X4_blowOn_0 at hF
      refine z_iconst (v := 0) C dX4_blowOn_0 (by decide) ?_
      refine z_istore_n (lv2 := [some (.ref (zB G + v0)), some (.int 0), none, none]) C dX4_blowOn_1 (by decide) rfl ?_
      refine z_iconst (v := 0) C dX4_blowOn_2 (by decide) ?_
      refine z_istore_n (lv2 := [some (.ref (zB G + v0)), some (.int 0), some (.int 0), none]) C dX4_blowOn_3 (by decide) rfl ?_
      exact ih1 S v0 0 0 res hT hpv0 hkv0   hF
    · intro S v0 v1 v2 res hT hpv0 hkv0 hF
      replace hF : F_X4_blowOn_1 f (F_X4_blowOn f) v0 v1 v2 S = some res := hF
      unfold F_X4_blowOn_1 at hF
      refine z_iload_n C dX4_blowOn_4 rfl ?_
      refine z_aload_n C dX4_blowOn_5 rfl ?_
      refine f_geti C dX4_blowOn_6 zfRX4_27 hpv0 hkv0 rfl ?_
      refine z_icmp_ge C 59 dX4_blowOn_9 (by decide) (fun c4 => ?_) (fun c4 => ?_)
      · replace hF := ip hF c4
        cases hF
        exact z_vret C hr dX4_blowOn_59 ⟨rfl, rfl, hT⟩
      · replace hF := im hF c4
        refine z_iload_n C dX4_blowOn_12 rfl ?_
        refine z_aload_n C dX4_blowOn_13 rfl ?_
        refine f_geti C dX4_blowOn_14 zfRX4_27 hpv0 hkv0 rfl ?_
        refine z_iconst (v := 1) C dX4_blowOn_17 (by decide) ?_
        refine z_isub C dX4_blowOn_18 ?_
        refine z_icmp_ge C 33 dX4_blowOn_19 (by decide) (fun c7 => ?_) (fun c7 => ?_)
        · replace hF := ip hF c7
          refine z_iconst (v := 0) C dX4_blowOn_33 (by decide) ?_
          exact ih2 S v0 v1 v2 0 res hT hpv0 hkv0    hF
        · replace hF := im hF c7
          refine z_aload_n C dX4_blowOn_22 rfl ?_
          refine f_getr C dX4_blowOn_23 zfRX4_9 hpv0 hkv0 rfl ?_
          obtain ⟨hp8, hk8⟩ := hT.1 v0 3 1 (.inr (0, 8)) hpv0 hkv0 rfl
          refine z_iload_n C dX4_blowOn_26 rfl ?_
          obtain ⟨hi9, hF⟩ := bX_some hF
          obtain ⟨q9, eq9⟩ : ∃ q : Nat, q = Int32.toNatClampNeg v2 := ⟨_, rfl⟩
          rw [← eq9] at hF
          refine f_iald C dX4_blowOn_27 hp8 hk8 hi9 ?_
          rw [← eq9]
          refine z_iconst (v := 2) C dX4_blowOn_28 (by decide) ?_
          refine z_idiv C dX4_blowOn_29 (by decide) ?_
          refine z_goto C 34 dX4_blowOn_30 (by decide) ?_
          exact ih2 S v0 v1 v2 ((gI S (gR S v0 1) q9) / (2 : Int32)) res hT hpv0 hkv0    hF
    · intro S v0 v1 v2 w0 res hT hpv0 hkv0 hF
      replace hF : F_X4_blowOn_2 f (F_X4_blowOn f) v0 v1 v2 w0 S = some res := hF
      unfold F_X4_blowOn_2 at hF
      refine z_istore_n (lv2 := [some (.ref (zB G + v0)), some (.int v1), some (.int v2), some (.int w0)]) C dX4_blowOn_34 (by decide) rfl ?_
      refine z_aload_n C dX4_blowOn_35 rfl ?_
      refine f_getr C dX4_blowOn_36 zfRX4_9 hpv0 hkv0 rfl ?_
      obtain ⟨hp10, hk10⟩ := hT.1 v0 3 1 (.inr (0, 8)) hpv0 hkv0 rfl
      refine z_iload_n C dX4_blowOn_39 rfl ?_
      refine z_dup2 C dX4_blowOn_40 rfl rfl ?_
      obtain ⟨hi11, hF⟩ := bX_some hF
      obtain ⟨q11, eq11⟩ : ∃ q : Nat, q = Int32.toNatClampNeg v2 := ⟨_, rfl⟩
      rw [← eq11] at hF
      refine f_iald C dX4_blowOn_41 hp10 hk10 hi11 ?_
      rw [← eq11]
      refine z_iload_n C dX4_blowOn_42 rfl ?_
      refine z_isub C dX4_blowOn_43 ?_
      obtain ⟨hi12, hF⟩ := bX_some hF
      obtain ⟨q12, eq12⟩ : ∃ q : Nat, q = Int32.toNatClampNeg v2 := ⟨_, rfl⟩
      rw [← eq12] at hF
      refine f_iast C dX4_blowOn_44 hp10 hk10 hi12 ?_
      rw [← eq12]
      have hT13 : zT0 kd N0 (sI S (gR S v0 1) q12 ((gI S (gR S v0 1) q11) - w0)) := zT0_sI hT
      replace hF := fS_e hF
      generalize sI S (gR S v0 1) q12 ((gI S (gR S v0 1) q11) - w0) = S13 at hF hT13 ⊢
      refine z_aload_n C dX4_blowOn_45 rfl ?_
      refine z_iload_n C dX4_blowOn_46 rfl ?_
      refine z_iload_n C dX4_blowOn_47 rfl ?_
      obtain ⟨S14, h14, hF⟩ := bV_some hF
      refine f_cV (st2 := []) C dX4_blowOn_48 zyX4_drop zvX4_drop lkRX4_88 (K_X4_drop (l := zXl X) hT13 hpv0 hkv0   h14) hpv0 hkv0 rfl (by decide) rfl rfl (Nat.le_of_ble_eq_true rfl) rfl (fun hT14 => ?_)
      refine z_iload_n C dX4_blowOn_51 rfl ?_
      refine z_istore_n (lv2 := [some (.ref (zB G + v0)), some (.int w0), some (.int v2), some (.int w0)]) C dX4_blowOn_52 (by decide) rfl ?_
      refine z_iinc (v := v2 + 1) (lv2 := [some (.ref (zB G + v0)), some (.int w0), some (.int (v2 + 1)), some (.int w0)]) C dX4_blowOn_53 rfl (by rw [show Int32.ofInt 1 = (1 : Int32) from by decide]) rfl ?_
      refine z_goto C 4 dX4_blowOn_56 (by decide) ?_
      refine z_mask [true, true, true, false] ?_ rfl
      exact ih1 S14 v0 w0 (v2 + 1) res hT14 hpv0 hkv0   hF
theorem K_X4_blowOn {G : zG} {l : Launch} {kd : kD} {N0 f : Nat} {S : aS} {v0 : Nat} {res : Option Value × aS} (hT : zT0 kd N0 S) (hpv0 : v0 < N0) (hkv0 : kd v0 = .inl 3) (hF : F_X4_blowOn f 0 [.ref v0] S = some res) : zM G l 2 0 0 yX4_blowOn cX4_blowOn 4 none [.ref (zB G + v0)] (cn G kd N0 S) (zPo G kd N0 res) := zM.of (by decide) rfl (Nat.le_of_ble_eq_true rfl) (fun X _ C hr _ => (B_X4_blowOn C hr f).1 S v0 res hT hpv0 hkv0 hF)
def F_X4_blowBack_0 (f : Nat) (rc : Nat → List Value → aS → aR) (v0 : Nat) (S : aS) : aR :=
  rc 1 [.ref v0, .int 0, .int ((gI S v0 0) - (1 : Int32))] S
def F_X4_blowBack_1 (f : Nat) (rc : Nat → List Value → aS → aR) (v0 : Nat) (v1 : Int32) (v2 : Int32) (S : aS) : aR :=
  if v2 < (0 : Int32) then some (none, S) else if v2 ≤ (0 : Int32) then rc 2 [.ref v0, .int v1, .int v2, .int 0] S else bX v2 8 fun q9 => rc 2 [.ref v0, .int v1, .int v2, .int ((gI S (gR S v0 1) q9) / (2 : Int32))] S
def F_X4_blowBack_2 (f : Nat) (rc : Nat → List Value → aS → aR) (v0 : Nat) (v1 : Int32) (v2 : Int32) (w0 : Int32) (S : aS) : aR :=
  bX v2 8 fun q11 => bX v2 8 fun q12 => fS (sI S (gR S v0 1) q12 ((gI S (gR S v0 1) q11) - w0)) fun S13 => bV (F_X4_drop f 0 [.ref v0, .int v2, .int v1] S13) fun S14 => rc 1 [.ref v0, .int w0, .int (v2 + (-1))] S14
def F_X4_blowBack : Nat → Nat → List Value → aS → aR
  | 0, _, _, _ => none
  | f + 1, 0, vs, S => F_X4_blowBack_0 f (F_X4_blowBack f) (vR vs 0) S
  | f + 1, 1, vs, S => F_X4_blowBack_1 f (F_X4_blowBack f) (vR vs 0) (vI vs 1) (vI vs 2) S
  | f + 1, 2, vs, S => F_X4_blowBack_2 f (F_X4_blowBack f) (vR vs 0) (vI vs 1) (vI vs 2) (vI vs 3) S
  | _ + 1, _, _, _ => none
theorem dX4_blowBack_0 : decode cX4_blowBack 0 = .ok (.iconst 0, 1) := by decide +kernel
theorem dX4_blowBack_1 : decode cX4_blowBack 1 = .ok (.istore_n 1, 1) := by decide +kernel
theorem dX4_blowBack_2 : decode cX4_blowBack 2 = .ok (.aload_n 0, 1) := by decide +kernel
theorem dX4_blowBack_3 : decode cX4_blowBack 3 = .ok (.getfield 27, 3) := by decide +kernel
theorem dX4_blowBack_6 : decode cX4_blowBack 6 = .ok (.iconst 1, 1) := by decide +kernel
theorem dX4_blowBack_7 : decode cX4_blowBack 7 = .ok (.isub, 1) := by decide +kernel
theorem dX4_blowBack_8 : decode cX4_blowBack 8 = .ok (.istore_n 2, 1) := by decide +kernel
theorem dX4_blowBack_9 : decode cX4_blowBack 9 = .ok (.iload_n 2, 1) := by decide +kernel
theorem dX4_blowBack_10 : decode cX4_blowBack 10 = .ok (.ifCond .lt 44, 3) := by decide +kernel
theorem dX4_blowBack_13 : decode cX4_blowBack 13 = .ok (.iload_n 2, 1) := by decide +kernel
theorem dX4_blowBack_14 : decode cX4_blowBack 14 = .ok (.ifCond .le 14, 3) := by decide +kernel
theorem dX4_blowBack_17 : decode cX4_blowBack 17 = .ok (.aload_n 0, 1) := by decide +kernel
theorem dX4_blowBack_18 : decode cX4_blowBack 18 = .ok (.getfield 9, 3) := by decide +kernel
theorem dX4_blowBack_21 : decode cX4_blowBack 21 = .ok (.iload_n 2, 1) := by decide +kernel
theorem dX4_blowBack_22 : decode cX4_blowBack 22 = .ok (.iaload, 1) := by decide +kernel
theorem dX4_blowBack_23 : decode cX4_blowBack 23 = .ok (.iconst 2, 1) := by decide +kernel
theorem dX4_blowBack_24 : decode cX4_blowBack 24 = .ok (.idiv, 1) := by decide +kernel
theorem dX4_blowBack_25 : decode cX4_blowBack 25 = .ok (.goto 4, 3) := by decide +kernel
theorem dX4_blowBack_28 : decode cX4_blowBack 28 = .ok (.iconst 0, 1) := by decide +kernel
theorem dX4_blowBack_29 : decode cX4_blowBack 29 = .ok (.istore_n 3, 1) := by decide +kernel
theorem dX4_blowBack_30 : decode cX4_blowBack 30 = .ok (.aload_n 0, 1) := by decide +kernel
theorem dX4_blowBack_31 : decode cX4_blowBack 31 = .ok (.getfield 9, 3) := by decide +kernel
theorem dX4_blowBack_34 : decode cX4_blowBack 34 = .ok (.iload_n 2, 1) := by decide +kernel
theorem dX4_blowBack_35 : decode cX4_blowBack 35 = .ok (.dup2, 1) := by decide +kernel
theorem dX4_blowBack_36 : decode cX4_blowBack 36 = .ok (.iaload, 1) := by decide +kernel
theorem dX4_blowBack_37 : decode cX4_blowBack 37 = .ok (.iload_n 3, 1) := by decide +kernel
theorem dX4_blowBack_38 : decode cX4_blowBack 38 = .ok (.isub, 1) := by decide +kernel
theorem dX4_blowBack_39 : decode cX4_blowBack 39 = .ok (.iastore, 1) := by decide +kernel
theorem dX4_blowBack_40 : decode cX4_blowBack 40 = .ok (.aload_n 0, 1) := by decide +kernel
theorem dX4_blowBack_41 : decode cX4_blowBack 41 = .ok (.iload_n 2, 1) := by decide +kernel
theorem dX4_blowBack_42 : decode cX4_blowBack 42 = .ok (.iload_n 1, 1) := by decide +kernel
theorem dX4_blowBack_43 : decode cX4_blowBack 43 = .ok (.invokevirtual 88, 3) := by decide +kernel
theorem dX4_blowBack_46 : decode cX4_blowBack 46 = .ok (.iload_n 3, 1) := by decide +kernel
theorem dX4_blowBack_47 : decode cX4_blowBack 47 = .ok (.istore_n 1, 1) := by decide +kernel
theorem dX4_blowBack_48 : decode cX4_blowBack 48 = .ok (.iinc 2 (-1), 3) := by decide +kernel
theorem dX4_blowBack_51 : decode cX4_blowBack 51 = .ok (.goto (-42), 3) := by decide +kernel
theorem dX4_blowBack_54 : decode cX4_blowBack 54 = .ok (.return_, 1) := by decide +kernel
set_option maxHeartbeats 4000000 in
set_option maxRecDepth 100000 in
theorem B_X4_blowBack {G : zG} {X : zX} {kd : kD} {N0 : Nat} (C : zCt G X 2 0 0 RX4 cX4_blowBack 4) (hr : (zXh X).sig.returnType = none) : ∀ f : Nat,
    (∀ (S : aS) (v0 : Nat) (res : Option Value × aS), zT0 kd N0 S → v0 < N0 → kd v0 = .inl 3 → F_X4_blowBack f 0 [.ref v0] S = some res → zV G X (zQX G X (zPo G kd N0 res) 0 0) 4 [some (.ref (zB G + v0)), none, none, none] [] (cn G kd N0 S) 0 0 0) ∧
    (∀ (S : aS) (v0 : Nat) (v1 : Int32) (v2 : Int32) (res : Option Value × aS), zT0 kd N0 S → v0 < N0 → kd v0 = .inl 3 → F_X4_blowBack f 1 [.ref v0, .int v1, .int v2] S = some res → zV G X (zQX G X (zPo G kd N0 res) 0 0) 4 [some (.ref (zB G + v0)), some (.int v1), some (.int v2), none] [] (cn G kd N0 S) 9 0 0) ∧
    (∀ (S : aS) (v0 : Nat) (v1 : Int32) (v2 : Int32) (w0 : Int32) (res : Option Value × aS), zT0 kd N0 S → v0 < N0 → kd v0 = .inl 3 → F_X4_blowBack f 2 [.ref v0, .int v1, .int v2, .int w0] S = some res → zV G X (zQX G X (zPo G kd N0 res) 0 0) 4 [some (.ref (zB G + v0)), some (.int v1), some (.int v2), none] [.int w0] (cn G kd N0 S) 29 0 0) := by
  intro f
  induction f with
  | zero => exact ⟨(fun _ _ _ _ _ _ h => by cases h), (fun _ _ _ _ _ _ _ _ h => by cases h), (fun _ _ _ _ _ _ _ _ _ h => by cases h)⟩
  | succ f ih =>
    obtain ⟨ih0, ih1, ih2⟩ := ih
    refine ⟨?_, ?_, ?_⟩
    · intro S v0 res hT hpv0 hkv0 hF
      replace hF : F_X4_blowBack_0 f (F_X4_blowBack f) v0 S = some res := hF
      unfold F_X4_blowBack_0 at hF
      refine z_iconst (v := 0) C dX4_blowBack_0 (by decide) ?_
      refine z_istore_n (lv2 := [some (.ref (zB G + v0)), some (.int 0), none, none]) C dX4_blowBack_1 (by decide) rfl ?_
      refine z_aload_n C dX4_blowBack_2 rfl ?_
      refine f_geti C dX4_blowBack_3 zfRX4_27 hpv0 hkv0 rfl ?_
      refine z_iconst (v := 1) C dX4_blowBack_6 (by decide) ?_
      refine z_isub C dX4_blowBack_7 ?_
      refine z_istore_n (lv2 := [some (.ref (zB G + v0)), some (.int 0), some (.int ((gI S v0 0) - (1 : Int32))), none]) C dX4_blowBack_8 (by decide) rfl ?_
      exact ih1 S v0 0 ((gI S v0 0) - (1 : Int32)) res hT hpv0 hkv0   hF
    · intro S v0 v1 v2 res hT hpv0 hkv0 hF
      replace hF : F_X4_blowBack_1 f (F_X4_blowBack f) v0 v1 v2 S = some res := hF
      unfold F_X4_blowBack_1 at hF
      refine z_iload_n C dX4_blowBack_9 rfl ?_
      refine z_if_lt C 54 dX4_blowBack_10 (by decide) (fun c4 => ?_) (fun c4 => ?_)
      · replace hF := ip hF c4
        cases hF
        exact z_vret C hr dX4_blowBack_54 ⟨rfl, rfl, hT⟩
      · replace hF := im hF c4
        refine z_iload_n C dX4_blowBack_13 rfl ?_
        refine z_if_le C 28 dX4_blowBack_14 (by decide) (fun c7 => ?_) (fun c7 => ?_)
        · replace hF := ip hF c7
          refine z_iconst (v := 0) C dX4_blowBack_28 (by decide) ?_
          exact ih2 S v0 v1 v2 0 res hT hpv0 hkv0    hF
        · replace hF := im hF c7
          refine z_aload_n C dX4_blowBack_17 rfl ?_
          refine f_getr C dX4_blowBack_18 zfRX4_9 hpv0 hkv0 rfl ?_
          obtain ⟨hp8, hk8⟩ := hT.1 v0 3 1 (.inr (0, 8)) hpv0 hkv0 rfl
          refine z_iload_n C dX4_blowBack_21 rfl ?_
          obtain ⟨hi9, hF⟩ := bX_some hF
          obtain ⟨q9, eq9⟩ : ∃ q : Nat, q = Int32.toNatClampNeg v2 := ⟨_, rfl⟩
          rw [← eq9] at hF
          refine f_iald C dX4_blowBack_22 hp8 hk8 hi9 ?_
          rw [← eq9]
          refine z_iconst (v := 2) C dX4_blowBack_23 (by decide) ?_
          refine z_idiv C dX4_blowBack_24 (by decide) ?_
          refine z_goto C 29 dX4_blowBack_25 (by decide) ?_
          exact ih2 S v0 v1 v2 ((gI S (gR S v0 1) q9) / (2 : Int32)) res hT hpv0 hkv0    hF
    · intro S v0 v1 v2 w0 res hT hpv0 hkv0 hF
      replace hF : F_X4_blowBack_2 f (F_X4_blowBack f) v0 v1 v2 w0 S = some res := hF
      unfold F_X4_blowBack_2 at hF
      refine z_istore_n (lv2 := [some (.ref (zB G + v0)), some (.int v1), some (.int v2), some (.int w0)]) C dX4_blowBack_29 (by decide) rfl ?_
      refine z_aload_n C dX4_blowBack_30 rfl ?_
      refine f_getr C dX4_blowBack_31 zfRX4_9 hpv0 hkv0 rfl ?_
      obtain ⟨hp10, hk10⟩ := hT.1 v0 3 1 (.inr (0, 8)) hpv0 hkv0 rfl
      refine z_iload_n C dX4_blowBack_34 rfl ?_
      refine z_dup2 C dX4_blowBack_35 rfl rfl ?_
      obtain ⟨hi11, hF⟩ := bX_some hF
      obtain ⟨q11, eq11⟩ : ∃ q : Nat, q = Int32.toNatClampNeg v2 := ⟨_, rfl⟩
      rw [← eq11] at hF
      refine f_iald C dX4_blowBack_36 hp10 hk10 hi11 ?_
      rw [← eq11]
      refine z_iload_n C dX4_blowBack_37 rfl ?_
      refine z_isub C dX4_blowBack_38 ?_
      obtain ⟨hi12, hF⟩ := bX_some hF
      obtain ⟨q12, eq12⟩ : ∃ q : Nat, q = Int32.toNatClampNeg v2 := ⟨_, rfl⟩
      rw [← eq12] at hF
      refine f_iast C dX4_blowBack_39 hp10 hk10 hi12 ?_
      rw [← eq12]
      have hT13 : zT0 kd N0 (sI S (gR S v0 1) q12 ((gI S (gR S v0 1) q11) - w0)) := zT0_sI hT
      replace hF := fS_e hF
      generalize sI S (gR S v0 1) q12 ((gI S (gR S v0 1) q11) - w0) = S13 at hF hT13 ⊢
      refine z_aload_n C dX4_blowBack_40 rfl ?_
      refine z_iload_n C dX4_blowBack_41 rfl ?_
      refine z_iload_n C dX4_blowBack_42 rfl ?_
      obtain ⟨S14, h14, hF⟩ := bV_some hF
      refine f_cV (st2 := []) C dX4_blowBack_43 zyX4_drop zvX4_drop lkRX4_88 (K_X4_drop (l := zXl X) hT13 hpv0 hkv0   h14) hpv0 hkv0 rfl (by decide) rfl rfl (Nat.le_of_ble_eq_true rfl) rfl (fun hT14 => ?_)
      refine z_iload_n C dX4_blowBack_46 rfl ?_
      refine z_istore_n (lv2 := [some (.ref (zB G + v0)), some (.int w0), some (.int v2), some (.int w0)]) C dX4_blowBack_47 (by decide) rfl ?_
      refine z_iinc (v := v2 + (-1)) (lv2 := [some (.ref (zB G + v0)), some (.int w0), some (.int (v2 + (-1))), some (.int w0)]) C dX4_blowBack_48 rfl (by rw [show Int32.ofInt (-1) = ((-1) : Int32) from by decide]) rfl ?_
      refine z_goto C 9 dX4_blowBack_51 (by decide) ?_
      refine z_mask [true, true, true, false] ?_ rfl
      exact ih1 S14 v0 w0 (v2 + (-1)) res hT14 hpv0 hkv0   hF
theorem K_X4_blowBack {G : zG} {l : Launch} {kd : kD} {N0 f : Nat} {S : aS} {v0 : Nat} {res : Option Value × aS} (hT : zT0 kd N0 S) (hpv0 : v0 < N0) (hkv0 : kd v0 = .inl 3) (hF : F_X4_blowBack f 0 [.ref v0] S = some res) : zM G l 2 0 0 yX4_blowBack cX4_blowBack 4 none [.ref (zB G + v0)] (cn G kd N0 S) (zPo G kd N0 res) := zM.of (by decide) rfl (Nat.le_of_ble_eq_true rfl) (fun X _ C hr _ => (B_X4_blowBack C hr f).1 S v0 res hT hpv0 hkv0 hF)
def F_X5_clear_0 (f : Nat) (rc : Nat → List Value → aS → aR) (v0 : Nat) (S : aS) : aR :=
  fS (sI S v0 1 0) fun S1 => some (none, S1)
def F_X5_clear : Nat → Nat → List Value → aS → aR
  | 0, _, _, _ => none
  | f + 1, 0, vs, S => F_X5_clear_0 f (F_X5_clear f) (vR vs 0) S
  | _ + 1, _, _, _ => none
theorem dX5_clear_0 : decode cX5_clear 0 = .ok (.aload_n 0, 1) := by decide +kernel
theorem dX5_clear_1 : decode cX5_clear 1 = .ok (.iconst 0, 1) := by decide +kernel
theorem dX5_clear_2 : decode cX5_clear 2 = .ok (.putfield 23, 3) := by decide +kernel
theorem dX5_clear_5 : decode cX5_clear 5 = .ok (.return_, 1) := by decide +kernel
set_option maxHeartbeats 4000000 in
set_option maxRecDepth 100000 in
theorem B_X5_clear {G : zG} {X : zX} {kd : kD} {N0 : Nat} (C : zCt G X 0 0 0 RX5 cX5_clear 1) (hr : (zXh X).sig.returnType = none) : ∀ f : Nat,
    (∀ (S : aS) (v0 : Nat) (res : Option Value × aS), zT0 kd N0 S → v0 < N0 → kd v0 = .inl 4 → F_X5_clear f 0 [.ref v0] S = some res → zV G X (zQX G X (zPo G kd N0 res) 0 0) 1 [some (.ref (zB G + v0))] [] (cn G kd N0 S) 0 0 0) := by
  intro f
  induction f with
  | zero => exact (fun _ _ _ _ _ _ h => by cases h)
  | succ f ih =>
    have ih0 := ih
    intro S v0 res hT hpv0 hkv0 hF
    replace hF : F_X5_clear_0 f (F_X5_clear f) v0 S = some res := hF
    unfold F_X5_clear_0 at hF
    refine z_aload_n C dX5_clear_0 rfl ?_
    refine z_iconst (v := 0) C dX5_clear_1 (by decide) ?_
    refine f_puti C dX5_clear_2 zfRX5_23 fw4_1 hpv0 hkv0 rfl rfl rfl ?_
    have hT1 : zT0 kd N0 (sI S v0 1 0) := zT0_sI hT
    replace hF := fS_e hF
    generalize sI S v0 1 0 = S1 at hF hT1 ⊢
    cases hF
    exact z_vret C hr dX5_clear_5 ⟨rfl, rfl, hT1⟩
theorem K_X5_clear {G : zG} {l : Launch} {kd : kD} {N0 f : Nat} {S : aS} {v0 : Nat} {res : Option Value × aS} (hT : zT0 kd N0 S) (hpv0 : v0 < N0) (hkv0 : kd v0 = .inl 4) (hF : F_X5_clear f 0 [.ref v0] S = some res) : zM G l 0 0 0 yX5_clear cX5_clear 1 none [.ref (zB G + v0)] (cn G kd N0 S) (zPo G kd N0 res) := zM.of (by decide) rfl (Nat.le_of_ble_eq_true rfl) (fun X _ C hr _ => (B_X5_clear C hr f) S v0 res hT hpv0 hkv0 hF)
def F_X5_isTold_0 (f : Nat) (rc : Nat → List Value → aS → aR) (v0 : Nat) (S : aS) : aR :=
  bZ (if (gI S v0 1) ≤ (0 : Int32) then (0 : Int32) else (1 : Int32)) (some (some (.int (if (gI S v0 1) ≤ (0 : Int32) then (0 : Int32) else (1 : Int32))), S))
def F_X5_isTold : Nat → Nat → List Value → aS → aR
  | 0, _, _, _ => none
  | f + 1, 0, vs, S => F_X5_isTold_0 f (F_X5_isTold f) (vR vs 0) S
  | _ + 1, _, _, _ => none
theorem dX5_isTold_0 : decode cX5_isTold 0 = .ok (.aload_n 0, 1) := by decide +kernel
theorem dX5_isTold_1 : decode cX5_isTold 1 = .ok (.getfield 23, 3) := by decide +kernel
theorem dX5_isTold_4 : decode cX5_isTold 4 = .ok (.ifCond .le 7, 3) := by decide +kernel
theorem dX5_isTold_7 : decode cX5_isTold 7 = .ok (.iconst 1, 1) := by decide +kernel
theorem dX5_isTold_8 : decode cX5_isTold 8 = .ok (.goto 4, 3) := by decide +kernel
theorem dX5_isTold_11 : decode cX5_isTold 11 = .ok (.iconst 0, 1) := by decide +kernel
theorem dX5_isTold_12 : decode cX5_isTold 12 = .ok (.ireturn, 1) := by decide +kernel
set_option maxHeartbeats 4000000 in
set_option maxRecDepth 100000 in
theorem B_X5_isTold {G : zG} {X : zX} {kd : kD} {N0 : Nat} (C : zCt G X 0 0 0 RX5 cX5_isTold 1) (hr : (zXh X).sig.returnType = (some .boolean)) : ∀ f : Nat,
    (∀ (S : aS) (v0 : Nat) (res : Option Value × aS), zT0 kd N0 S → v0 < N0 → kd v0 = .inl 4 → F_X5_isTold f 0 [.ref v0] S = some res → zV G X (zQX G X (zPo G kd N0 res) 0 0) 1 [some (.ref (zB G + v0))] [] (cn G kd N0 S) 0 0 0) := by
  intro f
  induction f with
  | zero => exact (fun _ _ _ _ _ _ h => by cases h)
  | succ f ih =>
    have ih0 := ih
    intro S v0 res hT hpv0 hkv0 hF
    replace hF : F_X5_isTold_0 f (F_X5_isTold f) v0 S = some res := hF
    unfold F_X5_isTold_0 at hF
    refine z_aload_n C dX5_isTold_0 rfl ?_
    refine f_geti C dX5_isTold_1 zfRX5_23 hpv0 hkv0 rfl ?_
    have hJ2 : zV G X (zQX G X (zPo G kd N0 res) 0 0) 1 [some (.ref (zB G + v0))] [.int (if (gI S v0 1) ≤ (0 : Int32) then (0 : Int32) else (1 : Int32))] (cn G kd N0 S) 12 0 0 := by
      obtain ⟨hz, hF⟩ := bZ_some hF
      cases hF
      exact z_zret C hr hz.1 dX5_isTold_12 ⟨rfl, rfl, hT⟩
    refine z_if_le C 11 dX5_isTold_4 (by decide) (fun c1 => ?_) (fun c1 => ?_)
    · refine z_iconst (v := 0) C dX5_isTold_11 (by decide) ?_
      exact zV.at hJ2 (by first | rfl | contradiction | (simp only [if_pos c1]; done)) (by first | rfl | contradiction | (simp only [if_pos c1]; done)) rfl rfl
    · refine z_iconst (v := 1) C dX5_isTold_7 (by decide) ?_
      refine z_goto C 12 dX5_isTold_8 (by decide) ?_
      exact zV.at hJ2 (by first | rfl | contradiction | (simp only [if_neg c1]; done)) (by first | rfl | contradiction | (simp only [if_neg c1]; done)) rfl rfl
theorem K_X5_isTold {G : zG} {l : Launch} {kd : kD} {N0 f : Nat} {S : aS} {v0 : Nat} {res : Option Value × aS} (hT : zT0 kd N0 S) (hpv0 : v0 < N0) (hkv0 : kd v0 = .inl 4) (hF : F_X5_isTold f 0 [.ref v0] S = some res) : zM G l 0 0 0 yX5_isTold cX5_isTold 1 (some .boolean) [.ref (zB G + v0)] (cn G kd N0 S) (zPo G kd N0 res) := zM.of (by decide) rfl (Nat.le_of_ble_eq_true rfl) (fun X _ C hr _ => (B_X5_isTold C hr f) S v0 res hT hpv0 hkv0 hF)
def F_X5_add_0 (f : Nat) (rc : Nat → List Value → aS → aR) (v0 : Nat) (v1 : Int32) (S : aS) : aR :=
  if (1000 : Int32) ≤ (gI S v0 1) then rc 1 [] S else bX (gI S v0 1) 1000 fun q6 => fS (sI S (gR S v0 0) q6 v1) fun S7 => fS (sI S7 v0 1 ((gI S7 v0 1) + (1 : Int32))) fun S8 => rc 1 [] S8
def F_X5_add_1 (f : Nat) (rc : Nat → List Value → aS → aR)  (S : aS) : aR :=
  some (none, S)
def F_X5_add : Nat → Nat → List Value → aS → aR
  | 0, _, _, _ => none
  | f + 1, 0, vs, S => F_X5_add_0 f (F_X5_add f) (vR vs 0) (vI vs 1) S
  | f + 1, 1, vs, S => F_X5_add_1 f (F_X5_add f)  S
  | _ + 1, _, _, _ => none
theorem dX5_add_0 : decode cX5_add 0 = .ok (.aload_n 0, 1) := by decide +kernel
theorem dX5_add_1 : decode cX5_add 1 = .ok (.getfield 23, 3) := by decide +kernel
theorem dX5_add_4 : decode cX5_add 4 = .ok (.aload_n 0, 1) := by decide +kernel
theorem dX5_add_5 : decode cX5_add 5 = .ok (.getfield 11, 3) := by decide +kernel
theorem dX5_add_8 : decode cX5_add 8 = .ok (.arraylength, 1) := by decide +kernel
theorem dX5_add_9 : decode cX5_add 9 = .ok (.if_icmp .ge 23, 3) := by decide +kernel
theorem dX5_add_12 : decode cX5_add 12 = .ok (.aload_n 0, 1) := by decide +kernel
theorem dX5_add_13 : decode cX5_add 13 = .ok (.getfield 11, 3) := by decide +kernel
theorem dX5_add_16 : decode cX5_add 16 = .ok (.aload_n 0, 1) := by decide +kernel
theorem dX5_add_17 : decode cX5_add 17 = .ok (.getfield 23, 3) := by decide +kernel
theorem dX5_add_20 : decode cX5_add 20 = .ok (.iload_n 1, 1) := by decide +kernel
theorem dX5_add_21 : decode cX5_add 21 = .ok (.iastore, 1) := by decide +kernel
theorem dX5_add_22 : decode cX5_add 22 = .ok (.aload_n 0, 1) := by decide +kernel
theorem dX5_add_23 : decode cX5_add 23 = .ok (.dup, 1) := by decide +kernel
theorem dX5_add_24 : decode cX5_add 24 = .ok (.getfield 23, 3) := by decide +kernel
theorem dX5_add_27 : decode cX5_add 27 = .ok (.iconst 1, 1) := by decide +kernel
theorem dX5_add_28 : decode cX5_add 28 = .ok (.iadd, 1) := by decide +kernel
theorem dX5_add_29 : decode cX5_add 29 = .ok (.putfield 23, 3) := by decide +kernel
theorem dX5_add_32 : decode cX5_add 32 = .ok (.return_, 1) := by decide +kernel
set_option maxHeartbeats 4000000 in
set_option maxRecDepth 100000 in
theorem B_X5_add {G : zG} {X : zX} {kd : kD} {N0 : Nat} (C : zCt G X 0 0 0 RX5 cX5_add 2) (hr : (zXh X).sig.returnType = none) : ∀ f : Nat,
    (∀ (S : aS) (v0 : Nat) (v1 : Int32) (res : Option Value × aS), zT0 kd N0 S → v0 < N0 → kd v0 = .inl 4 → F_X5_add f 0 [.ref v0, .int v1] S = some res → zV G X (zQX G X (zPo G kd N0 res) 0 0) 2 [some (.ref (zB G + v0)), some (.int v1)] [] (cn G kd N0 S) 0 0 0) ∧
    (∀ (S : aS)  (res : Option Value × aS), zT0 kd N0 S → F_X5_add f 1 [] S = some res → zV G X (zQX G X (zPo G kd N0 res) 0 0) 2 [none, none] [] (cn G kd N0 S) 32 0 0) := by
  intro f
  induction f with
  | zero => exact ⟨(fun _ _ _ _ _ _ _ h => by cases h), (fun _ _ _ h => by cases h)⟩
  | succ f ih =>
    obtain ⟨ih0, ih1⟩ := ih
    refine ⟨?_, ?_⟩
    · intro S v0 v1 res hT hpv0 hkv0 hF
      replace hF : F_X5_add_0 f (F_X5_add f) v0 v1 S = some res := hF
      unfold F_X5_add_0 at hF
      refine z_aload_n C dX5_add_0 rfl ?_
      refine f_geti C dX5_add_1 zfRX5_23 hpv0 hkv0 rfl ?_
      refine z_aload_n C dX5_add_4 rfl ?_
      refine f_getr C dX5_add_5 zfRX5_11 hpv0 hkv0 rfl ?_
      obtain ⟨hp1, hk1⟩ := hT.1 v0 4 0 (.inr (0, 1000)) hpv0 hkv0 rfl
      refine f_alen (v := 1000) C dX5_add_8 hp1 hk1 rfl (by decide) ?_
      refine z_icmp_ge C 32 dX5_add_9 (by decide) (fun c4 => ?_) (fun c4 => ?_)
      · replace hF := ip hF c4
        refine z_mask [false, false] ?_ rfl
        exact ih1 S  res hT  hF
      · replace hF := im hF c4
        refine z_aload_n C dX5_add_12 rfl ?_
        refine f_getr C dX5_add_13 zfRX5_11 hpv0 hkv0 rfl ?_
        obtain ⟨hp5, hk5⟩ := hT.1 v0 4 0 (.inr (0, 1000)) hpv0 hkv0 rfl
        refine z_aload_n C dX5_add_16 rfl ?_
        refine f_geti C dX5_add_17 zfRX5_23 hpv0 hkv0 rfl ?_
        refine z_iload_n C dX5_add_20 rfl ?_
        obtain ⟨hi6, hF⟩ := bX_some hF
        obtain ⟨q6, eq6⟩ : ∃ q : Nat, q = Int32.toNatClampNeg (gI S v0 1) := ⟨_, rfl⟩
        rw [← eq6] at hF
        refine f_iast C dX5_add_21 hp5 hk5 hi6 ?_
        rw [← eq6]
        have hT7 : zT0 kd N0 (sI S (gR S v0 0) q6 v1) := zT0_sI hT
        replace hF := fS_e hF
        generalize sI S (gR S v0 0) q6 v1 = S7 at hF hT7 ⊢
        refine z_aload_n C dX5_add_22 rfl ?_
        refine z_dup C dX5_add_23 rfl ?_
        refine f_geti C dX5_add_24 zfRX5_23 hpv0 hkv0 rfl ?_
        refine z_iconst (v := 1) C dX5_add_27 (by decide) ?_
        refine z_iadd C dX5_add_28 ?_
        refine f_puti C dX5_add_29 zfRX5_23 fw4_1 hpv0 hkv0 rfl rfl rfl ?_
        have hT8 : zT0 kd N0 (sI S7 v0 1 ((gI S7 v0 1) + (1 : Int32))) := zT0_sI hT7
        replace hF := fS_e hF
        generalize sI S7 v0 1 ((gI S7 v0 1) + (1 : Int32)) = S8 at hF hT8 ⊢
        refine z_mask [false, false] ?_ rfl
        exact ih1 S8  res hT8  hF
    · intro S  res hT  hF
      replace hF : F_X5_add_1 f (F_X5_add f)  S = some res := hF
      unfold F_X5_add_1 at hF
      cases hF
      exact z_vret C hr dX5_add_32 ⟨rfl, rfl, hT⟩
theorem K_X5_add {G : zG} {l : Launch} {kd : kD} {N0 f : Nat} {S : aS} {v0 : Nat} {v1 : Int32} {res : Option Value × aS} (hT : zT0 kd N0 S) (hpv0 : v0 < N0) (hkv0 : kd v0 = .inl 4) (hF : F_X5_add f 0 [.ref v0, .int v1] S = some res) : zM G l 0 0 0 yX5_add cX5_add 2 none [.ref (zB G + v0), .int v1] (cn G kd N0 S) (zPo G kd N0 res) := zM.of (by decide) rfl (Nat.le_of_ble_eq_true rfl) (fun X _ C hr _ => (B_X5_add C hr f).1 S v0 v1 res hT hpv0 hkv0 hF)
def F_X5_isFact_0 (f : Nat) (rc : Nat → List Value → aS → aR) (v0 : Nat) (S : aS) : aR :=
  bZ (if v0 = 27 then (1 : Int32) else if v0 = 28 then (1 : Int32) else if v0 = 29 then (1 : Int32) else if v0 = 30 then (1 : Int32) else (0 : Int32)) (some (some (.int (if v0 = 27 then (1 : Int32) else if v0 = 28 then (1 : Int32) else if v0 = 29 then (1 : Int32) else if v0 = 30 then (1 : Int32) else (0 : Int32))), S))
def F_X5_isFact : Nat → Nat → List Value → aS → aR
  | 0, _, _, _ => none
  | f + 1, 0, vs, S => F_X5_isFact_0 f (F_X5_isFact f) (vR vs 0) S
  | _ + 1, _, _, _ => none
theorem dX5_isFact_0 : decode cX5_isFact 0 = .ok (.aload_n 0, 1) := by decide +kernel
theorem dX5_isFact_1 : decode cX5_isFact 1 = .ok (.getstatic 86, 3) := by decide +kernel
theorem dX5_isFact_4 : decode cX5_isFact 4 = .ok (.if_acmp .eq 24, 3) := by decide +kernel
theorem dX5_isFact_7 : decode cX5_isFact 7 = .ok (.aload_n 0, 1) := by decide +kernel
theorem dX5_isFact_8 : decode cX5_isFact 8 = .ok (.getstatic 89, 3) := by decide +kernel
theorem dX5_isFact_11 : decode cX5_isFact 11 = .ok (.if_acmp .eq 17, 3) := by decide +kernel
theorem dX5_isFact_14 : decode cX5_isFact 14 = .ok (.aload_n 0, 1) := by decide +kernel
theorem dX5_isFact_15 : decode cX5_isFact 15 = .ok (.getstatic 92, 3) := by decide +kernel
theorem dX5_isFact_18 : decode cX5_isFact 18 = .ok (.if_acmp .eq 10, 3) := by decide +kernel
theorem dX5_isFact_21 : decode cX5_isFact 21 = .ok (.aload_n 0, 1) := by decide +kernel
theorem dX5_isFact_22 : decode cX5_isFact 22 = .ok (.getstatic 95, 3) := by decide +kernel
theorem dX5_isFact_25 : decode cX5_isFact 25 = .ok (.if_acmp .ne 7, 3) := by decide +kernel
theorem dX5_isFact_28 : decode cX5_isFact 28 = .ok (.iconst 1, 1) := by decide +kernel
theorem dX5_isFact_29 : decode cX5_isFact 29 = .ok (.goto 4, 3) := by decide +kernel
theorem dX5_isFact_32 : decode cX5_isFact 32 = .ok (.iconst 0, 1) := by decide +kernel
theorem dX5_isFact_33 : decode cX5_isFact 33 = .ok (.ireturn, 1) := by decide +kernel
set_option maxHeartbeats 4000000 in
set_option maxRecDepth 100000 in
theorem B_X5_isFact {G : zG} {X : zX} {kd : kD} {N0 : Nat} (C : zCt G X 0 0 0 RX5 cX5_isFact 1) (hr : (zXh X).sig.returnType = (some .boolean)) : ∀ f : Nat,
    (∀ (S : aS) (v0 : Nat) (res : Option Value × aS), zT0 kd N0 S → v0 < 31 → F_X5_isFact f 0 [.ref v0] S = some res → zV G X (zQX G X (zPo G kd N0 res) 0 0) 1 [some (.ref (zC G v0))] [] (cn G kd N0 S) 0 0 0) := by
  intro f
  induction f with
  | zero => exact (fun _ _ _ _ _ h => by cases h)
  | succ f ih =>
    have ih0 := ih
    intro S v0 res hT hwv0 hF
    replace hF : F_X5_isFact_0 f (F_X5_isFact f) v0 S = some res := hF
    unfold F_X5_isFact_0 at hF
    refine z_aload_n C dX5_isFact_0 rfl ?_
    refine f_gets C dX5_isFact_1 fkRX5_86 (C.2.2.2.2.2.1.2.2.1 27 (by decide)).1 ?_
    have hJ5 : zV G X (zQX G X (zPo G kd N0 res) 0 0) 1 [some (.ref (zC G v0))] [.int (if v0 = 27 then (1 : Int32) else if v0 = 28 then (1 : Int32) else if v0 = 29 then (1 : Int32) else if v0 = 30 then (1 : Int32) else (0 : Int32))] (cn G kd N0 S) 33 0 0 := by
      obtain ⟨hz, hF⟩ := bZ_some hF
      cases hF
      exact z_zret C hr hz.1 dX5_isFact_33 ⟨rfl, rfl, hT⟩
    refine z_acmp_eq C 28 dX5_isFact_4 (by decide) (fun c1 => ?_) (fun c1 => ?_)
    · replace c1 := C.2.2.2.2.2.1.2.2.2.1 v0 27 hwv0 (by decide) c1
      refine z_iconst (v := 1) C dX5_isFact_28 (by decide) ?_
      refine z_goto C 33 dX5_isFact_29 (by decide) ?_
      exact zV.at hJ5 (by first | rfl | contradiction | (simp only [if_pos c1]; done)) (by first | rfl | contradiction | (simp only [if_pos c1]; done)) rfl rfl
    · replace c1 : ¬ v0 = 27 := fun e => c1 (by rw [e])
      refine z_aload_n C dX5_isFact_7 rfl ?_
      refine f_gets C dX5_isFact_8 fkRX5_89 (C.2.2.2.2.2.1.2.2.1 28 (by decide)).1 ?_
      refine z_acmp_eq C 28 dX5_isFact_11 (by decide) (fun c2 => ?_) (fun c2 => ?_)
      · replace c2 := C.2.2.2.2.2.1.2.2.2.1 v0 28 hwv0 (by decide) c2
        refine z_iconst (v := 1) C dX5_isFact_28 (by decide) ?_
        refine z_goto C 33 dX5_isFact_29 (by decide) ?_
        exact zV.at hJ5 (by first | rfl | contradiction | (simp only [if_neg c1, if_pos c2]; done)) (by first | rfl | contradiction | (simp only [if_neg c1, if_pos c2]; done)) rfl rfl
      · replace c2 : ¬ v0 = 28 := fun e => c2 (by rw [e])
        refine z_aload_n C dX5_isFact_14 rfl ?_
        refine f_gets C dX5_isFact_15 fkRX5_92 (C.2.2.2.2.2.1.2.2.1 29 (by decide)).1 ?_
        refine z_acmp_eq C 28 dX5_isFact_18 (by decide) (fun c3 => ?_) (fun c3 => ?_)
        · replace c3 := C.2.2.2.2.2.1.2.2.2.1 v0 29 hwv0 (by decide) c3
          refine z_iconst (v := 1) C dX5_isFact_28 (by decide) ?_
          refine z_goto C 33 dX5_isFact_29 (by decide) ?_
          exact zV.at hJ5 (by first | rfl | contradiction | (simp only [if_neg c1, if_neg c2, if_pos c3]; done)) (by first | rfl | contradiction | (simp only [if_neg c1, if_neg c2, if_pos c3]; done)) rfl rfl
        · replace c3 : ¬ v0 = 29 := fun e => c3 (by rw [e])
          refine z_aload_n C dX5_isFact_21 rfl ?_
          refine f_gets C dX5_isFact_22 fkRX5_95 (C.2.2.2.2.2.1.2.2.1 30 (by decide)).1 ?_
          refine z_acmp_ne C 32 dX5_isFact_25 (by decide) (fun c4 => ?_) (fun c4 => ?_)
          · replace c4 : ¬ v0 = 30 := fun e => c4 (by rw [e])
            refine z_iconst (v := 0) C dX5_isFact_32 (by decide) ?_
            exact zV.at hJ5 (by first | rfl | contradiction | (simp only [if_neg c1, if_neg c2, if_neg c3, if_neg c4]; done)) (by first | rfl | contradiction | (simp only [if_neg c1, if_neg c2, if_neg c3, if_neg c4]; done)) rfl rfl
          · replace c4 := C.2.2.2.2.2.1.2.2.2.1 v0 30 hwv0 (by decide) c4
            refine z_iconst (v := 1) C dX5_isFact_28 (by decide) ?_
            refine z_goto C 33 dX5_isFact_29 (by decide) ?_
            exact zV.at hJ5 (by first | rfl | contradiction | (simp only [if_neg c1, if_neg c2, if_neg c3, if_pos c4]; done)) (by first | rfl | contradiction | (simp only [if_neg c1, if_neg c2, if_neg c3, if_pos c4]; done)) rfl rfl
theorem K_X5_isFact {G : zG} {l : Launch} {kd : kD} {N0 f : Nat} {S : aS} {v0 : Nat} {res : Option Value × aS} (hT : zT0 kd N0 S) (hwv0 : v0 < 31) (hF : F_X5_isFact f 0 [.ref v0] S = some res) : zM G l 0 0 0 yX5_isFact cX5_isFact 1 (some .boolean) [.ref (zC G v0)] (cn G kd N0 S) (zPo G kd N0 res) := zM.of (by decide) rfl (Nat.le_of_ble_eq_true rfl) (fun X _ C hr _ => (B_X5_isFact C hr f) S v0 res hT hwv0 hF)
def F_X5_joined_0 (f : Nat) (rc : Nat → List Value → aS → aR) (v0 : Int32) (v1 : Int32) (v2 : Int32) (S : aS) : aR :=
  if v0 = (-11) then some (some (.int (v1 - v2)), S) else if v0 = (-10) then some (some (.int (v1 + v2)), S) else if v0 = (-9) then some (some (.int (if v1 = v2 then (1 : Int32) else (0 : Int32))), S) else if v0 = (-8) then some (some (.int (if v2 ≤ v1 then (0 : Int32) else (1 : Int32))), S) else if v0 = (-7) then some (some (.int (if v1 = (0 : Int32) then if v2 = (0 : Int32) then (0 : Int32) else (1 : Int32) else (1 : Int32))), S) else if v0 = (-6) then some (some (.int (if v1 = (0 : Int32) then (0 : Int32) else if v2 = (0 : Int32) then (0 : Int32) else (1 : Int32))), S) else some (some (.int (v1 * v2)), S)
def F_X5_joined : Nat → Nat → List Value → aS → aR
  | 0, _, _, _ => none
  | f + 1, 0, vs, S => F_X5_joined_0 f (F_X5_joined f) (vI vs 0) (vI vs 1) (vI vs 2) S
  | _ + 1, _, _, _ => none
theorem dX5_joined_0 : decode cX5_joined 0 = .ok (.iload_n 0, 1) := by decide +kernel
theorem dX5_joined_1 : decode cX5_joined 1 = .ok (.tableswitch 97 (-11) (-6) #[93, 89, 78, 67, 53, 39], 39) := by decide +kernel
theorem dX5_joined_40 : decode cX5_joined 40 = .ok (.iload_n 1, 1) := by decide +kernel
theorem dX5_joined_41 : decode cX5_joined 41 = .ok (.ifCond .eq 11, 3) := by decide +kernel
theorem dX5_joined_44 : decode cX5_joined 44 = .ok (.iload_n 2, 1) := by decide +kernel
theorem dX5_joined_45 : decode cX5_joined 45 = .ok (.ifCond .eq 7, 3) := by decide +kernel
theorem dX5_joined_48 : decode cX5_joined 48 = .ok (.iconst 1, 1) := by decide +kernel
theorem dX5_joined_49 : decode cX5_joined 49 = .ok (.goto 4, 3) := by decide +kernel
theorem dX5_joined_52 : decode cX5_joined 52 = .ok (.iconst 0, 1) := by decide +kernel
theorem dX5_joined_53 : decode cX5_joined 53 = .ok (.ireturn, 1) := by decide +kernel
theorem dX5_joined_54 : decode cX5_joined 54 = .ok (.iload_n 1, 1) := by decide +kernel
theorem dX5_joined_55 : decode cX5_joined 55 = .ok (.ifCond .ne 7, 3) := by decide +kernel
theorem dX5_joined_58 : decode cX5_joined 58 = .ok (.iload_n 2, 1) := by decide +kernel
theorem dX5_joined_59 : decode cX5_joined 59 = .ok (.ifCond .eq 7, 3) := by decide +kernel
theorem dX5_joined_62 : decode cX5_joined 62 = .ok (.iconst 1, 1) := by decide +kernel
theorem dX5_joined_63 : decode cX5_joined 63 = .ok (.goto 4, 3) := by decide +kernel
theorem dX5_joined_66 : decode cX5_joined 66 = .ok (.iconst 0, 1) := by decide +kernel
theorem dX5_joined_67 : decode cX5_joined 67 = .ok (.ireturn, 1) := by decide +kernel
theorem dX5_joined_68 : decode cX5_joined 68 = .ok (.iload_n 1, 1) := by decide +kernel
theorem dX5_joined_69 : decode cX5_joined 69 = .ok (.iload_n 2, 1) := by decide +kernel
theorem dX5_joined_70 : decode cX5_joined 70 = .ok (.if_icmp .ge 7, 3) := by decide +kernel
theorem dX5_joined_73 : decode cX5_joined 73 = .ok (.iconst 1, 1) := by decide +kernel
theorem dX5_joined_74 : decode cX5_joined 74 = .ok (.goto 4, 3) := by decide +kernel
theorem dX5_joined_77 : decode cX5_joined 77 = .ok (.iconst 0, 1) := by decide +kernel
theorem dX5_joined_78 : decode cX5_joined 78 = .ok (.ireturn, 1) := by decide +kernel
theorem dX5_joined_79 : decode cX5_joined 79 = .ok (.iload_n 1, 1) := by decide +kernel
theorem dX5_joined_80 : decode cX5_joined 80 = .ok (.iload_n 2, 1) := by decide +kernel
theorem dX5_joined_81 : decode cX5_joined 81 = .ok (.if_icmp .ne 7, 3) := by decide +kernel
theorem dX5_joined_84 : decode cX5_joined 84 = .ok (.iconst 1, 1) := by decide +kernel
theorem dX5_joined_85 : decode cX5_joined 85 = .ok (.goto 4, 3) := by decide +kernel
theorem dX5_joined_88 : decode cX5_joined 88 = .ok (.iconst 0, 1) := by decide +kernel
theorem dX5_joined_89 : decode cX5_joined 89 = .ok (.ireturn, 1) := by decide +kernel
theorem dX5_joined_90 : decode cX5_joined 90 = .ok (.iload_n 1, 1) := by decide +kernel
theorem dX5_joined_91 : decode cX5_joined 91 = .ok (.iload_n 2, 1) := by decide +kernel
theorem dX5_joined_92 : decode cX5_joined 92 = .ok (.iadd, 1) := by decide +kernel
theorem dX5_joined_93 : decode cX5_joined 93 = .ok (.ireturn, 1) := by decide +kernel
theorem dX5_joined_94 : decode cX5_joined 94 = .ok (.iload_n 1, 1) := by decide +kernel
theorem dX5_joined_95 : decode cX5_joined 95 = .ok (.iload_n 2, 1) := by decide +kernel
theorem dX5_joined_96 : decode cX5_joined 96 = .ok (.isub, 1) := by decide +kernel
theorem dX5_joined_97 : decode cX5_joined 97 = .ok (.ireturn, 1) := by decide +kernel
theorem dX5_joined_98 : decode cX5_joined 98 = .ok (.iload_n 1, 1) := by decide +kernel
theorem dX5_joined_99 : decode cX5_joined 99 = .ok (.iload_n 2, 1) := by decide +kernel
theorem dX5_joined_100 : decode cX5_joined 100 = .ok (.imul, 1) := by decide +kernel
theorem dX5_joined_101 : decode cX5_joined 101 = .ok (.ireturn, 1) := by decide +kernel
set_option maxHeartbeats 4000000 in
set_option maxRecDepth 100000 in
theorem B_X5_joined {G : zG} {X : zX} {kd : kD} {N0 : Nat} (C : zCt G X 0 0 0 RX5 cX5_joined 3) (hr : (zXh X).sig.returnType = (some .int)) : ∀ f : Nat,
    (∀ (S : aS) (v0 : Int32) (v1 : Int32) (v2 : Int32) (res : Option Value × aS), zT0 kd N0 S → F_X5_joined f 0 [.int v0, .int v1, .int v2] S = some res → zV G X (zQX G X (zPo G kd N0 res) 0 0) 3 [some (.int v0), some (.int v1), some (.int v2)] [] (cn G kd N0 S) 0 0 0) := by
  intro f
  induction f with
  | zero => exact (fun _ _ _ _ _ _ h => by cases h)
  | succ f ih =>
    have ih0 := ih
    intro S v0 v1 v2 res hT  hF
    replace hF : F_X5_joined_0 f (F_X5_joined f) v0 v1 v2 S = some res := hF
    unfold F_X5_joined_0 at hF
    refine z_iload_n C dX5_joined_0 rfl ?_
    by_cases c2 : v0 = (-11)
    · replace hF := ip hF c2
      refine z_tabIn C 94 dX5_joined_1 (by rw [c2]; decide) (by rw [c2]; decide) (off := 93) (by rw [c2]; rfl) (by decide) ?_
      refine z_iload_n C dX5_joined_94 rfl ?_
      refine z_iload_n C dX5_joined_95 rfl ?_
      refine z_isub C dX5_joined_96 ?_
      cases hF
      exact z_iret C hr dX5_joined_97 ⟨rfl, rfl, hT⟩
    replace hF := im hF c2
    by_cases c3 : v0 = (-10)
    · replace hF := ip hF c3
      refine z_tabIn C 90 dX5_joined_1 (by rw [c3]; decide) (by rw [c3]; decide) (off := 89) (by rw [c3]; rfl) (by decide) ?_
      refine z_iload_n C dX5_joined_90 rfl ?_
      refine z_iload_n C dX5_joined_91 rfl ?_
      refine z_iadd C dX5_joined_92 ?_
      cases hF
      exact z_iret C hr dX5_joined_93 ⟨rfl, rfl, hT⟩
    replace hF := im hF c3
    by_cases c6 : v0 = (-9)
    · replace hF := ip hF c6
      refine z_tabIn C 79 dX5_joined_1 (by rw [c6]; decide) (by rw [c6]; decide) (off := 78) (by rw [c6]; rfl) (by decide) ?_
      refine z_iload_n C dX5_joined_79 rfl ?_
      refine z_iload_n C dX5_joined_80 rfl ?_
      have hJ5 : zV G X (zQX G X (zPo G kd N0 res) 0 0) 3 [some (.int v0), some (.int v1), some (.int v2)] [.int (if v1 = v2 then (1 : Int32) else (0 : Int32))] (cn G kd N0 S) 89 0 0 := by
        cases hF
        exact z_iret C hr dX5_joined_89 ⟨rfl, rfl, hT⟩
      refine z_icmp_ne C 88 dX5_joined_81 (by decide) (fun c4 => ?_) (fun c4 => ?_)
      · refine z_iconst (v := 0) C dX5_joined_88 (by decide) ?_
        exact zV.at hJ5 (by first | rfl | contradiction | (simp only [if_neg c4]; done)) (by first | rfl | contradiction | (simp only [if_neg c4]; done)) rfl rfl
      · refine z_iconst (v := 1) C dX5_joined_84 (by decide) ?_
        refine z_goto C 89 dX5_joined_85 (by decide) ?_
        exact zV.at hJ5 (by first | rfl | contradiction | (simp only [if_pos c4]; done)) (by first | rfl | contradiction | (simp only [if_pos c4]; done)) rfl rfl
    replace hF := im hF c6
    by_cases c9 : v0 = (-8)
    · replace hF := ip hF c9
      refine z_tabIn C 68 dX5_joined_1 (by rw [c9]; decide) (by rw [c9]; decide) (off := 67) (by rw [c9]; rfl) (by decide) ?_
      refine z_iload_n C dX5_joined_68 rfl ?_
      refine z_iload_n C dX5_joined_69 rfl ?_
      have hJ8 : zV G X (zQX G X (zPo G kd N0 res) 0 0) 3 [some (.int v0), some (.int v1), some (.int v2)] [.int (if v2 ≤ v1 then (0 : Int32) else (1 : Int32))] (cn G kd N0 S) 78 0 0 := by
        cases hF
        exact z_iret C hr dX5_joined_78 ⟨rfl, rfl, hT⟩
      refine z_icmp_ge C 77 dX5_joined_70 (by decide) (fun c7 => ?_) (fun c7 => ?_)
      · refine z_iconst (v := 0) C dX5_joined_77 (by decide) ?_
        exact zV.at hJ8 (by first | rfl | contradiction | (simp only [if_pos c7]; done)) (by first | rfl | contradiction | (simp only [if_pos c7]; done)) rfl rfl
      · refine z_iconst (v := 1) C dX5_joined_73 (by decide) ?_
        refine z_goto C 78 dX5_joined_74 (by decide) ?_
        exact zV.at hJ8 (by first | rfl | contradiction | (simp only [if_neg c7]; done)) (by first | rfl | contradiction | (simp only [if_neg c7]; done)) rfl rfl
    replace hF := im hF c9
    by_cases c13 : v0 = (-7)
    · replace hF := ip hF c13
      refine z_tabIn C 54 dX5_joined_1 (by rw [c13]; decide) (by rw [c13]; decide) (off := 53) (by rw [c13]; rfl) (by decide) ?_
      refine z_iload_n C dX5_joined_54 rfl ?_
      have hJ12 : zV G X (zQX G X (zPo G kd N0 res) 0 0) 3 [some (.int v0), some (.int v1), some (.int v2)] [.int (if v1 = (0 : Int32) then if v2 = (0 : Int32) then (0 : Int32) else (1 : Int32) else (1 : Int32))] (cn G kd N0 S) 67 0 0 := by
        cases hF
        exact z_iret C hr dX5_joined_67 ⟨rfl, rfl, hT⟩
      refine z_if_ne C 62 dX5_joined_55 (by decide) (fun c10 => ?_) (fun c10 => ?_)
      · refine z_iconst (v := 1) C dX5_joined_62 (by decide) ?_
        refine z_goto C 67 dX5_joined_63 (by decide) ?_
        exact zV.at hJ12 (by first | rfl | contradiction | (simp only [if_neg c10]; done)) (by first | rfl | contradiction | (simp only [if_neg c10]; done)) rfl rfl
      · refine z_iload_n C dX5_joined_58 rfl ?_
        refine z_if_eq C 66 dX5_joined_59 (by decide) (fun c11 => ?_) (fun c11 => ?_)
        · refine z_iconst (v := 0) C dX5_joined_66 (by decide) ?_
          exact zV.at hJ12 (by first | rfl | contradiction | (simp only [if_pos c10, if_pos c11]; done)) (by first | rfl | contradiction | (simp only [if_pos c10, if_pos c11]; done)) rfl rfl
        · refine z_iconst (v := 1) C dX5_joined_62 (by decide) ?_
          refine z_goto C 67 dX5_joined_63 (by decide) ?_
          exact zV.at hJ12 (by first | rfl | contradiction | (simp only [if_pos c10, if_neg c11]; done)) (by first | rfl | contradiction | (simp only [if_pos c10, if_neg c11]; done)) rfl rfl
    replace hF := im hF c13
    by_cases c17 : v0 = (-6)
    · replace hF := ip hF c17
      refine z_tabIn C 40 dX5_joined_1 (by rw [c17]; decide) (by rw [c17]; decide) (off := 39) (by rw [c17]; rfl) (by decide) ?_
      refine z_iload_n C dX5_joined_40 rfl ?_
      have hJ16 : zV G X (zQX G X (zPo G kd N0 res) 0 0) 3 [some (.int v0), some (.int v1), some (.int v2)] [.int (if v1 = (0 : Int32) then (0 : Int32) else if v2 = (0 : Int32) then (0 : Int32) else (1 : Int32))] (cn G kd N0 S) 53 0 0 := by
        cases hF
        exact z_iret C hr dX5_joined_53 ⟨rfl, rfl, hT⟩
      refine z_if_eq C 52 dX5_joined_41 (by decide) (fun c14 => ?_) (fun c14 => ?_)
      · refine z_iconst (v := 0) C dX5_joined_52 (by decide) ?_
        exact zV.at hJ16 (by first | rfl | contradiction | (simp only [if_pos c14]; done)) (by first | rfl | contradiction | (simp only [if_pos c14]; done)) rfl rfl
      · refine z_iload_n C dX5_joined_44 rfl ?_
        refine z_if_eq C 52 dX5_joined_45 (by decide) (fun c15 => ?_) (fun c15 => ?_)
        · refine z_iconst (v := 0) C dX5_joined_52 (by decide) ?_
          exact zV.at hJ16 (by first | rfl | contradiction | (simp only [if_neg c14, if_pos c15]; done)) (by first | rfl | contradiction | (simp only [if_neg c14, if_pos c15]; done)) rfl rfl
        · refine z_iconst (v := 1) C dX5_joined_48 (by decide) ?_
          refine z_goto C 53 dX5_joined_49 (by decide) ?_
          exact zV.at hJ16 (by first | rfl | contradiction | (simp only [if_neg c14, if_neg c15]; done)) (by first | rfl | contradiction | (simp only [if_neg c14, if_neg c15]; done)) rfl rfl
    replace hF := im hF c17
    refine z_tabOut C 98 dX5_joined_1 (f_tabOut (fun v h1 h2 e => by
      rcases (show v = (-11) ∨ v = (-10) ∨ v = (-9) ∨ v = (-8) ∨ v = (-7) ∨ v = (-6) by omega) with rfl | rfl | rfl | rfl | rfl | rfl
      · exact c2 (Int32.toInt_inj.mp (e.trans (by decide)))
      · exact c3 (Int32.toInt_inj.mp (e.trans (by decide)))
      · exact c6 (Int32.toInt_inj.mp (e.trans (by decide)))
      · exact c9 (Int32.toInt_inj.mp (e.trans (by decide)))
      · exact c13 (Int32.toInt_inj.mp (e.trans (by decide)))
      · exact c17 (Int32.toInt_inj.mp (e.trans (by decide))))) (by decide) ?_
    refine z_iload_n C dX5_joined_98 rfl ?_
    refine z_iload_n C dX5_joined_99 rfl ?_
    refine z_imul C dX5_joined_100 ?_
    cases hF
    exact z_iret C hr dX5_joined_101 ⟨rfl, rfl, hT⟩
theorem K_X5_joined {G : zG} {l : Launch} {kd : kD} {N0 f : Nat} {S : aS} {v0 : Int32} {v1 : Int32} {v2 : Int32} {res : Option Value × aS} (hT : zT0 kd N0 S)  (hF : F_X5_joined f 0 [.int v0, .int v1, .int v2] S = some res) : zM G l 0 0 0 yX5_joined cX5_joined 3 (some .int) [.int v0, .int v1, .int v2] (cn G kd N0 S) (zPo G kd N0 res) := zM.of (by decide) rfl (Nat.le_of_ble_eq_true rfl) (fun X _ C hr _ => (B_X5_joined C hr f) S v0 v1 v2 res hT  hF)
def F_X6_clear_0 (f : Nat) (rc : Nat → List Value → aS → aR) (v0 : Nat) (S : aS) : aR :=
  fS (sI S v0 0 6) fun S1 => fS (sI S1 v0 1 0) fun S2 => fS (sI S2 v0 9 0) fun S3 => fS (sI S3 v0 10 5) fun S4 => fS (sI S4 v0 11 0) fun S5 => bV (F_X5_clear f 0 [.ref (gR S5 v0 12)] S5) fun S7 => bV (F_X5_clear f 0 [.ref (gR S7 v0 13)] S7) fun S9 => fS (sI S9 v0 14 0) fun S10 => fS (sI S10 v0 15 0) fun S11 => rc 1 [.ref v0, .int 0] S11
def F_X6_clear_1 (f : Nat) (rc : Nat → List Value → aS → aR) (v0 : Nat) (v1 : Int32) (S : aS) : aR :=
  if (8 : Int32) ≤ v1 then some (none, S) else bX v1 8 fun q16 => fS (sI S (gR S v0 6) q16 0) fun S17 => bX v1 8 fun q19 => fS (sI S17 (gR S17 v0 7) q19 0) fun S20 => rc 1 [.ref v0, .int (v1 + 1)] S20
def F_X6_clear : Nat → Nat → List Value → aS → aR
  | 0, _, _, _ => none
  | f + 1, 0, vs, S => F_X6_clear_0 f (F_X6_clear f) (vR vs 0) S
  | f + 1, 1, vs, S => F_X6_clear_1 f (F_X6_clear f) (vR vs 0) (vI vs 1) S
  | _ + 1, _, _, _ => none
theorem dX6_clear_0 : decode cX6_clear 0 = .ok (.aload_n 0, 1) := by decide +kernel
theorem dX6_clear_1 : decode cX6_clear 1 = .ok (.bipush 6, 2) := by decide +kernel
theorem dX6_clear_3 : decode cX6_clear 3 = .ok (.putfield 11, 3) := by decide +kernel
theorem dX6_clear_6 : decode cX6_clear 6 = .ok (.aload_n 0, 1) := by decide +kernel
theorem dX6_clear_7 : decode cX6_clear 7 = .ok (.iconst 0, 1) := by decide +kernel
theorem dX6_clear_8 : decode cX6_clear 8 = .ok (.putfield 51, 3) := by decide +kernel
theorem dX6_clear_11 : decode cX6_clear 11 = .ok (.aload_n 0, 1) := by decide +kernel
theorem dX6_clear_12 : decode cX6_clear 12 = .ok (.iconst 0, 1) := by decide +kernel
theorem dX6_clear_13 : decode cX6_clear 13 = .ok (.putfield 54, 3) := by decide +kernel
theorem dX6_clear_16 : decode cX6_clear 16 = .ok (.aload_n 0, 1) := by decide +kernel
theorem dX6_clear_17 : decode cX6_clear 17 = .ok (.iconst 5, 1) := by decide +kernel
theorem dX6_clear_18 : decode cX6_clear 18 = .ok (.putfield 38, 3) := by decide +kernel
theorem dX6_clear_21 : decode cX6_clear 21 = .ok (.aload_n 0, 1) := by decide +kernel
theorem dX6_clear_22 : decode cX6_clear 22 = .ok (.iconst 0, 1) := by decide +kernel
theorem dX6_clear_23 : decode cX6_clear 23 = .ok (.putfield 57, 3) := by decide +kernel
theorem dX6_clear_26 : decode cX6_clear 26 = .ok (.aload_n 0, 1) := by decide +kernel
theorem dX6_clear_27 : decode cX6_clear 27 = .ok (.getfield 44, 3) := by decide +kernel
theorem dX6_clear_30 : decode cX6_clear 30 = .ok (.invokevirtual 60, 3) := by decide +kernel
theorem dX6_clear_33 : decode cX6_clear 33 = .ok (.aload_n 0, 1) := by decide +kernel
theorem dX6_clear_34 : decode cX6_clear 34 = .ok (.getfield 48, 3) := by decide +kernel
theorem dX6_clear_37 : decode cX6_clear 37 = .ok (.invokevirtual 60, 3) := by decide +kernel
theorem dX6_clear_40 : decode cX6_clear 40 = .ok (.aload_n 0, 1) := by decide +kernel
theorem dX6_clear_41 : decode cX6_clear 41 = .ok (.iconst 0, 1) := by decide +kernel
theorem dX6_clear_42 : decode cX6_clear 42 = .ok (.putfield 63, 3) := by decide +kernel
theorem dX6_clear_45 : decode cX6_clear 45 = .ok (.aload_n 0, 1) := by decide +kernel
theorem dX6_clear_46 : decode cX6_clear 46 = .ok (.iconst 0, 1) := by decide +kernel
theorem dX6_clear_47 : decode cX6_clear 47 = .ok (.putfield 66, 3) := by decide +kernel
theorem dX6_clear_50 : decode cX6_clear 50 = .ok (.iconst 0, 1) := by decide +kernel
theorem dX6_clear_51 : decode cX6_clear 51 = .ok (.istore_n 1, 1) := by decide +kernel
theorem dX6_clear_52 : decode cX6_clear 52 = .ok (.iload_n 1, 1) := by decide +kernel
theorem dX6_clear_53 : decode cX6_clear 53 = .ok (.bipush 8, 2) := by decide +kernel
theorem dX6_clear_55 : decode cX6_clear 55 = .ok (.if_icmp .ge 23, 3) := by decide +kernel
theorem dX6_clear_58 : decode cX6_clear 58 = .ok (.aload_n 0, 1) := by decide +kernel
theorem dX6_clear_59 : decode cX6_clear 59 = .ok (.getfield 29, 3) := by decide +kernel
theorem dX6_clear_62 : decode cX6_clear 62 = .ok (.iload_n 1, 1) := by decide +kernel
theorem dX6_clear_63 : decode cX6_clear 63 = .ok (.iconst 0, 1) := by decide +kernel
theorem dX6_clear_64 : decode cX6_clear 64 = .ok (.iastore, 1) := by decide +kernel
theorem dX6_clear_65 : decode cX6_clear 65 = .ok (.aload_n 0, 1) := by decide +kernel
theorem dX6_clear_66 : decode cX6_clear 66 = .ok (.getfield 32, 3) := by decide +kernel
theorem dX6_clear_69 : decode cX6_clear 69 = .ok (.iload_n 1, 1) := by decide +kernel
theorem dX6_clear_70 : decode cX6_clear 70 = .ok (.iconst 0, 1) := by decide +kernel
theorem dX6_clear_71 : decode cX6_clear 71 = .ok (.iastore, 1) := by decide +kernel
theorem dX6_clear_72 : decode cX6_clear 72 = .ok (.iinc 1 1, 3) := by decide +kernel
theorem dX6_clear_75 : decode cX6_clear 75 = .ok (.goto (-23), 3) := by decide +kernel
theorem dX6_clear_78 : decode cX6_clear 78 = .ok (.return_, 1) := by decide +kernel
set_option maxHeartbeats 4000000 in
set_option maxRecDepth 100000 in
theorem B_X6_clear {G : zG} {X : zX} {kd : kD} {N0 : Nat} (C : zCt G X 1 0 0 RX6 cX6_clear 2) (hr : (zXh X).sig.returnType = none) : ∀ f : Nat,
    (∀ (S : aS) (v0 : Nat) (res : Option Value × aS), zT0 kd N0 S → v0 < N0 → kd v0 = .inl 5 → F_X6_clear f 0 [.ref v0] S = some res → zV G X (zQX G X (zPo G kd N0 res) 0 0) 2 [some (.ref (zB G + v0)), none] [] (cn G kd N0 S) 0 0 0) ∧
    (∀ (S : aS) (v0 : Nat) (v1 : Int32) (res : Option Value × aS), zT0 kd N0 S → v0 < N0 → kd v0 = .inl 5 → F_X6_clear f 1 [.ref v0, .int v1] S = some res → zV G X (zQX G X (zPo G kd N0 res) 0 0) 2 [some (.ref (zB G + v0)), some (.int v1)] [] (cn G kd N0 S) 52 0 0) := by
  intro f
  induction f with
  | zero => exact ⟨(fun _ _ _ _ _ _ h => by cases h), (fun _ _ _ _ _ _ _ h => by cases h)⟩
  | succ f ih =>
    obtain ⟨ih0, ih1⟩ := ih
    refine ⟨?_, ?_⟩
    · intro S v0 res hT hpv0 hkv0 hF
      replace hF : F_X6_clear_0 f (F_X6_clear f) v0 S = some res := hF
      unfold F_X6_clear_0 at hF
      refine z_aload_n C dX6_clear_0 rfl ?_
      refine z_bipush (v := 6) C dX6_clear_1 (by decide) ?_
      refine f_puti C dX6_clear_3 zfRX6_11 fw5_0 hpv0 hkv0 rfl rfl rfl ?_
      have hT1 : zT0 kd N0 (sI S v0 0 6) := zT0_sI hT
      replace hF := fS_e hF
      generalize sI S v0 0 6 = S1 at hF hT1 ⊢
      refine z_aload_n C dX6_clear_6 rfl ?_
      refine z_iconst (v := 0) C dX6_clear_7 (by decide) ?_
      refine f_puti C dX6_clear_8 zfRX6_51 fw5_1 hpv0 hkv0 rfl rfl rfl ?_
      have hT2 : zT0 kd N0 (sI S1 v0 1 0) := zT0_sI hT1
      replace hF := fS_e hF
      generalize sI S1 v0 1 0 = S2 at hF hT2 ⊢
      refine z_aload_n C dX6_clear_11 rfl ?_
      refine z_iconst (v := 0) C dX6_clear_12 (by decide) ?_
      refine f_puti C dX6_clear_13 zfRX6_54 fw5_9 hpv0 hkv0 rfl rfl rfl ?_
      have hT3 : zT0 kd N0 (sI S2 v0 9 0) := zT0_sI hT2
      replace hF := fS_e hF
      generalize sI S2 v0 9 0 = S3 at hF hT3 ⊢
      refine z_aload_n C dX6_clear_16 rfl ?_
      refine z_iconst (v := 5) C dX6_clear_17 (by decide) ?_
      refine f_puti C dX6_clear_18 zfRX6_38 fw5_10 hpv0 hkv0 rfl rfl rfl ?_
      have hT4 : zT0 kd N0 (sI S3 v0 10 5) := zT0_sI hT3
      replace hF := fS_e hF
      generalize sI S3 v0 10 5 = S4 at hF hT4 ⊢
      refine z_aload_n C dX6_clear_21 rfl ?_
      refine z_iconst (v := 0) C dX6_clear_22 (by decide) ?_
      refine f_puti C dX6_clear_23 zfRX6_57 fw5_11 hpv0 hkv0 rfl rfl rfl ?_
      have hT5 : zT0 kd N0 (sI S4 v0 11 0) := zT0_sI hT4
      replace hF := fS_e hF
      generalize sI S4 v0 11 0 = S5 at hF hT5 ⊢
      refine z_aload_n C dX6_clear_26 rfl ?_
      refine f_getr C dX6_clear_27 zfRX6_44 hpv0 hkv0 rfl ?_
      obtain ⟨hp6, hk6⟩ := hT5.1 v0 5 12 (.inl 4) hpv0 hkv0 rfl
      obtain ⟨S7, h7, hF⟩ := bV_some hF
      refine f_cV (st2 := []) C dX6_clear_30 zyX5_clear zvX5_clear lkRX6_60 (K_X5_clear (l := zXl X) hT5 hp6 hk6 h7) hp6 hk6 rfl (by decide) rfl rfl (Nat.le_of_ble_eq_true rfl) rfl (fun hT7 => ?_)
      refine z_aload_n C dX6_clear_33 rfl ?_
      refine f_getr C dX6_clear_34 zfRX6_48 hpv0 hkv0 rfl ?_
      obtain ⟨hp8, hk8⟩ := hT7.1 v0 5 13 (.inl 4) hpv0 hkv0 rfl
      obtain ⟨S9, h9, hF⟩ := bV_some hF
      refine f_cV (st2 := []) C dX6_clear_37 zyX5_clear zvX5_clear lkRX6_60 (K_X5_clear (l := zXl X) hT7 hp8 hk8 h9) hp8 hk8 rfl (by decide) rfl rfl (Nat.le_of_ble_eq_true rfl) rfl (fun hT9 => ?_)
      refine z_aload_n C dX6_clear_40 rfl ?_
      refine z_iconst (v := 0) C dX6_clear_41 (by decide) ?_
      refine f_puti C dX6_clear_42 zfRX6_63 fw5_14 hpv0 hkv0 rfl rfl rfl ?_
      have hT10 : zT0 kd N0 (sI S9 v0 14 0) := zT0_sI hT9
      replace hF := fS_e hF
      generalize sI S9 v0 14 0 = S10 at hF hT10 ⊢
      refine z_aload_n C dX6_clear_45 rfl ?_
      refine z_iconst (v := 0) C dX6_clear_46 (by decide) ?_
      refine f_puti C dX6_clear_47 zfRX6_66 fw5_15 hpv0 hkv0 rfl rfl rfl ?_
      have hT11 : zT0 kd N0 (sI S10 v0 15 0) := zT0_sI hT10
      replace hF := fS_e hF
      generalize sI S10 v0 15 0 = S11 at hF hT11 ⊢
      refine z_iconst (v := 0) C dX6_clear_50 (by decide) ?_
      refine z_istore_n (lv2 := [some (.ref (zB G + v0)), some (.int 0)]) C dX6_clear_51 (by decide) rfl ?_
      exact ih1 S11 v0 0 res hT11 hpv0 hkv0  hF
    · intro S v0 v1 res hT hpv0 hkv0 hF
      replace hF : F_X6_clear_1 f (F_X6_clear f) v0 v1 S = some res := hF
      unfold F_X6_clear_1 at hF
      refine z_iload_n C dX6_clear_52 rfl ?_
      refine z_bipush (v := 8) C dX6_clear_53 (by decide) ?_
      refine z_icmp_ge C 78 dX6_clear_55 (by decide) (fun c14 => ?_) (fun c14 => ?_)
      · replace hF := ip hF c14
        cases hF
        exact z_vret C hr dX6_clear_78 ⟨rfl, rfl, hT⟩
      · replace hF := im hF c14
        refine z_aload_n C dX6_clear_58 rfl ?_
        refine f_getr C dX6_clear_59 zfRX6_29 hpv0 hkv0 rfl ?_
        obtain ⟨hp15, hk15⟩ := hT.1 v0 5 6 (.inr (0, 8)) hpv0 hkv0 rfl
        refine z_iload_n C dX6_clear_62 rfl ?_
        refine z_iconst (v := 0) C dX6_clear_63 (by decide) ?_
        obtain ⟨hi16, hF⟩ := bX_some hF
        obtain ⟨q16, eq16⟩ : ∃ q : Nat, q = Int32.toNatClampNeg v1 := ⟨_, rfl⟩
        rw [← eq16] at hF
        refine f_iast C dX6_clear_64 hp15 hk15 hi16 ?_
        rw [← eq16]
        have hT17 : zT0 kd N0 (sI S (gR S v0 6) q16 0) := zT0_sI hT
        replace hF := fS_e hF
        generalize sI S (gR S v0 6) q16 0 = S17 at hF hT17 ⊢
        refine z_aload_n C dX6_clear_65 rfl ?_
        refine f_getr C dX6_clear_66 zfRX6_32 hpv0 hkv0 rfl ?_
        obtain ⟨hp18, hk18⟩ := hT17.1 v0 5 7 (.inr (0, 8)) hpv0 hkv0 rfl
        refine z_iload_n C dX6_clear_69 rfl ?_
        refine z_iconst (v := 0) C dX6_clear_70 (by decide) ?_
        obtain ⟨hi19, hF⟩ := bX_some hF
        obtain ⟨q19, eq19⟩ : ∃ q : Nat, q = Int32.toNatClampNeg v1 := ⟨_, rfl⟩
        rw [← eq19] at hF
        refine f_iast C dX6_clear_71 hp18 hk18 hi19 ?_
        rw [← eq19]
        have hT20 : zT0 kd N0 (sI S17 (gR S17 v0 7) q19 0) := zT0_sI hT17
        replace hF := fS_e hF
        generalize sI S17 (gR S17 v0 7) q19 0 = S20 at hF hT20 ⊢
        refine z_iinc (v := v1 + 1) (lv2 := [some (.ref (zB G + v0)), some (.int (v1 + 1))]) C dX6_clear_72 rfl (by rw [show Int32.ofInt 1 = (1 : Int32) from by decide]) rfl ?_
        refine z_goto C 52 dX6_clear_75 (by decide) ?_
        exact ih1 S20 v0 (v1 + 1) res hT20 hpv0 hkv0  hF
theorem K_X6_clear {G : zG} {l : Launch} {kd : kD} {N0 f : Nat} {S : aS} {v0 : Nat} {res : Option Value × aS} (hT : zT0 kd N0 S) (hpv0 : v0 < N0) (hkv0 : kd v0 = .inl 5) (hF : F_X6_clear f 0 [.ref v0] S = some res) : zM G l 1 0 0 yX6_clear cX6_clear 2 none [.ref (zB G + v0)] (cn G kd N0 S) (zPo G kd N0 res) := zM.of (by decide) rfl (Nat.le_of_ble_eq_true rfl) (fun X _ C hr _ => (B_X6_clear C hr f).1 S v0 res hT hpv0 hkv0 hF)
def F_X6_isToldOnce_0 (f : Nat) (rc : Nat → List Value → aS → aR) (v0 : Nat) (S : aS) : aR :=
  bZ (if v0 = 2 then (1 : Int32) else if v0 = 3 then (1 : Int32) else if v0 = 4 then (1 : Int32) else if v0 = 5 then (1 : Int32) else if v0 = 6 then (1 : Int32) else if v0 = 7 then (1 : Int32) else (0 : Int32)) (some (some (.int (if v0 = 2 then (1 : Int32) else if v0 = 3 then (1 : Int32) else if v0 = 4 then (1 : Int32) else if v0 = 5 then (1 : Int32) else if v0 = 6 then (1 : Int32) else if v0 = 7 then (1 : Int32) else (0 : Int32))), S))
def F_X6_isToldOnce : Nat → Nat → List Value → aS → aR
  | 0, _, _, _ => none
  | f + 1, 0, vs, S => F_X6_isToldOnce_0 f (F_X6_isToldOnce f) (vR vs 0) S
  | _ + 1, _, _, _ => none
theorem dX6_isToldOnce_0 : decode cX6_isToldOnce 0 = .ok (.aload_n 0, 1) := by decide +kernel
theorem dX6_isToldOnce_1 : decode cX6_isToldOnce 1 = .ok (.getstatic 123, 3) := by decide +kernel
theorem dX6_isToldOnce_4 : decode cX6_isToldOnce 4 = .ok (.if_acmp .eq 38, 3) := by decide +kernel
theorem dX6_isToldOnce_7 : decode cX6_isToldOnce 7 = .ok (.aload_n 0, 1) := by decide +kernel
theorem dX6_isToldOnce_8 : decode cX6_isToldOnce 8 = .ok (.getstatic 126, 3) := by decide +kernel
theorem dX6_isToldOnce_11 : decode cX6_isToldOnce 11 = .ok (.if_acmp .eq 31, 3) := by decide +kernel
theorem dX6_isToldOnce_14 : decode cX6_isToldOnce 14 = .ok (.aload_n 0, 1) := by decide +kernel
theorem dX6_isToldOnce_15 : decode cX6_isToldOnce 15 = .ok (.getstatic 129, 3) := by decide +kernel
theorem dX6_isToldOnce_18 : decode cX6_isToldOnce 18 = .ok (.if_acmp .eq 24, 3) := by decide +kernel
theorem dX6_isToldOnce_21 : decode cX6_isToldOnce 21 = .ok (.aload_n 0, 1) := by decide +kernel
theorem dX6_isToldOnce_22 : decode cX6_isToldOnce 22 = .ok (.getstatic 132, 3) := by decide +kernel
theorem dX6_isToldOnce_25 : decode cX6_isToldOnce 25 = .ok (.if_acmp .eq 17, 3) := by decide +kernel
theorem dX6_isToldOnce_28 : decode cX6_isToldOnce 28 = .ok (.aload_n 0, 1) := by decide +kernel
theorem dX6_isToldOnce_29 : decode cX6_isToldOnce 29 = .ok (.getstatic 135, 3) := by decide +kernel
theorem dX6_isToldOnce_32 : decode cX6_isToldOnce 32 = .ok (.if_acmp .eq 10, 3) := by decide +kernel
theorem dX6_isToldOnce_35 : decode cX6_isToldOnce 35 = .ok (.aload_n 0, 1) := by decide +kernel
theorem dX6_isToldOnce_36 : decode cX6_isToldOnce 36 = .ok (.getstatic 138, 3) := by decide +kernel
theorem dX6_isToldOnce_39 : decode cX6_isToldOnce 39 = .ok (.if_acmp .ne 7, 3) := by decide +kernel
theorem dX6_isToldOnce_42 : decode cX6_isToldOnce 42 = .ok (.iconst 1, 1) := by decide +kernel
theorem dX6_isToldOnce_43 : decode cX6_isToldOnce 43 = .ok (.goto 4, 3) := by decide +kernel
theorem dX6_isToldOnce_46 : decode cX6_isToldOnce 46 = .ok (.iconst 0, 1) := by decide +kernel
theorem dX6_isToldOnce_47 : decode cX6_isToldOnce 47 = .ok (.ireturn, 1) := by decide +kernel
set_option maxHeartbeats 4000000 in
set_option maxRecDepth 100000 in
theorem B_X6_isToldOnce {G : zG} {X : zX} {kd : kD} {N0 : Nat} (C : zCt G X 0 0 0 RX6 cX6_isToldOnce 1) (hr : (zXh X).sig.returnType = (some .boolean)) : ∀ f : Nat,
    (∀ (S : aS) (v0 : Nat) (res : Option Value × aS), zT0 kd N0 S → v0 < 31 → F_X6_isToldOnce f 0 [.ref v0] S = some res → zV G X (zQX G X (zPo G kd N0 res) 0 0) 1 [some (.ref (zC G v0))] [] (cn G kd N0 S) 0 0 0) := by
  intro f
  induction f with
  | zero => exact (fun _ _ _ _ _ h => by cases h)
  | succ f ih =>
    have ih0 := ih
    intro S v0 res hT hwv0 hF
    replace hF : F_X6_isToldOnce_0 f (F_X6_isToldOnce f) v0 S = some res := hF
    unfold F_X6_isToldOnce_0 at hF
    refine z_aload_n C dX6_isToldOnce_0 rfl ?_
    refine f_gets C dX6_isToldOnce_1 fkRX6_123 (C.2.2.2.2.2.1.2.2.1 2 (by decide)).1 ?_
    have hJ7 : zV G X (zQX G X (zPo G kd N0 res) 0 0) 1 [some (.ref (zC G v0))] [.int (if v0 = 2 then (1 : Int32) else if v0 = 3 then (1 : Int32) else if v0 = 4 then (1 : Int32) else if v0 = 5 then (1 : Int32) else if v0 = 6 then (1 : Int32) else if v0 = 7 then (1 : Int32) else (0 : Int32))] (cn G kd N0 S) 47 0 0 := by
      obtain ⟨hz, hF⟩ := bZ_some hF
      cases hF
      exact z_zret C hr hz.1 dX6_isToldOnce_47 ⟨rfl, rfl, hT⟩
    refine z_acmp_eq C 42 dX6_isToldOnce_4 (by decide) (fun c1 => ?_) (fun c1 => ?_)
    · replace c1 := C.2.2.2.2.2.1.2.2.2.1 v0 2 hwv0 (by decide) c1
      refine z_iconst (v := 1) C dX6_isToldOnce_42 (by decide) ?_
      refine z_goto C 47 dX6_isToldOnce_43 (by decide) ?_
      exact zV.at hJ7 (by first | rfl | contradiction | (simp only [if_pos c1]; done)) (by first | rfl | contradiction | (simp only [if_pos c1]; done)) rfl rfl
    · replace c1 : ¬ v0 = 2 := fun e => c1 (by rw [e])
      refine z_aload_n C dX6_isToldOnce_7 rfl ?_
      refine f_gets C dX6_isToldOnce_8 fkRX6_126 (C.2.2.2.2.2.1.2.2.1 3 (by decide)).1 ?_
      refine z_acmp_eq C 42 dX6_isToldOnce_11 (by decide) (fun c2 => ?_) (fun c2 => ?_)
      · replace c2 := C.2.2.2.2.2.1.2.2.2.1 v0 3 hwv0 (by decide) c2
        refine z_iconst (v := 1) C dX6_isToldOnce_42 (by decide) ?_
        refine z_goto C 47 dX6_isToldOnce_43 (by decide) ?_
        exact zV.at hJ7 (by first | rfl | contradiction | (simp only [if_neg c1, if_pos c2]; done)) (by first | rfl | contradiction | (simp only [if_neg c1, if_pos c2]; done)) rfl rfl
      · replace c2 : ¬ v0 = 3 := fun e => c2 (by rw [e])
        refine z_aload_n C dX6_isToldOnce_14 rfl ?_
        refine f_gets C dX6_isToldOnce_15 fkRX6_129 (C.2.2.2.2.2.1.2.2.1 4 (by decide)).1 ?_
        refine z_acmp_eq C 42 dX6_isToldOnce_18 (by decide) (fun c3 => ?_) (fun c3 => ?_)
        · replace c3 := C.2.2.2.2.2.1.2.2.2.1 v0 4 hwv0 (by decide) c3
          refine z_iconst (v := 1) C dX6_isToldOnce_42 (by decide) ?_
          refine z_goto C 47 dX6_isToldOnce_43 (by decide) ?_
          exact zV.at hJ7 (by first | rfl | contradiction | (simp only [if_neg c1, if_neg c2, if_pos c3]; done)) (by first | rfl | contradiction | (simp only [if_neg c1, if_neg c2, if_pos c3]; done)) rfl rfl
        · replace c3 : ¬ v0 = 4 := fun e => c3 (by rw [e])
          refine z_aload_n C dX6_isToldOnce_21 rfl ?_
          refine f_gets C dX6_isToldOnce_22 fkRX6_132 (C.2.2.2.2.2.1.2.2.1 5 (by decide)).1 ?_
          refine z_acmp_eq C 42 dX6_isToldOnce_25 (by decide) (fun c4 => ?_) (fun c4 => ?_)
          · replace c4 := C.2.2.2.2.2.1.2.2.2.1 v0 5 hwv0 (by decide) c4
            refine z_iconst (v := 1) C dX6_isToldOnce_42 (by decide) ?_
            refine z_goto C 47 dX6_isToldOnce_43 (by decide) ?_
            exact zV.at hJ7 (by first | rfl | contradiction | (simp only [if_neg c1, if_neg c2, if_neg c3, if_pos c4]; done)) (by first | rfl | contradiction | (simp only [if_neg c1, if_neg c2, if_neg c3, if_pos c4]; done)) rfl rfl
          · replace c4 : ¬ v0 = 5 := fun e => c4 (by rw [e])
            refine z_aload_n C dX6_isToldOnce_28 rfl ?_
            refine f_gets C dX6_isToldOnce_29 fkRX6_135 (C.2.2.2.2.2.1.2.2.1 6 (by decide)).1 ?_
            refine z_acmp_eq C 42 dX6_isToldOnce_32 (by decide) (fun c5 => ?_) (fun c5 => ?_)
            · replace c5 := C.2.2.2.2.2.1.2.2.2.1 v0 6 hwv0 (by decide) c5
              refine z_iconst (v := 1) C dX6_isToldOnce_42 (by decide) ?_
              refine z_goto C 47 dX6_isToldOnce_43 (by decide) ?_
              exact zV.at hJ7 (by first | rfl | contradiction | (simp only [if_neg c1, if_neg c2, if_neg c3, if_neg c4, if_pos c5]; done)) (by first | rfl | contradiction | (simp only [if_neg c1, if_neg c2, if_neg c3, if_neg c4, if_pos c5]; done)) rfl rfl
            · replace c5 : ¬ v0 = 6 := fun e => c5 (by rw [e])
              refine z_aload_n C dX6_isToldOnce_35 rfl ?_
              refine f_gets C dX6_isToldOnce_36 fkRX6_138 (C.2.2.2.2.2.1.2.2.1 7 (by decide)).1 ?_
              refine z_acmp_ne C 46 dX6_isToldOnce_39 (by decide) (fun c6 => ?_) (fun c6 => ?_)
              · replace c6 : ¬ v0 = 7 := fun e => c6 (by rw [e])
                refine z_iconst (v := 0) C dX6_isToldOnce_46 (by decide) ?_
                exact zV.at hJ7 (by first | rfl | contradiction | (simp only [if_neg c1, if_neg c2, if_neg c3, if_neg c4, if_neg c5, if_neg c6]; done)) (by first | rfl | contradiction | (simp only [if_neg c1, if_neg c2, if_neg c3, if_neg c4, if_neg c5, if_neg c6]; done)) rfl rfl
              · replace c6 := C.2.2.2.2.2.1.2.2.2.1 v0 7 hwv0 (by decide) c6
                refine z_iconst (v := 1) C dX6_isToldOnce_42 (by decide) ?_
                refine z_goto C 47 dX6_isToldOnce_43 (by decide) ?_
                exact zV.at hJ7 (by first | rfl | contradiction | (simp only [if_neg c1, if_neg c2, if_neg c3, if_neg c4, if_neg c5, if_pos c6]; done)) (by first | rfl | contradiction | (simp only [if_neg c1, if_neg c2, if_neg c3, if_neg c4, if_neg c5, if_pos c6]; done)) rfl rfl
theorem K_X6_isToldOnce {G : zG} {l : Launch} {kd : kD} {N0 f : Nat} {S : aS} {v0 : Nat} {res : Option Value × aS} (hT : zT0 kd N0 S) (hwv0 : v0 < 31) (hF : F_X6_isToldOnce f 0 [.ref v0] S = some res) : zM G l 0 0 0 yX6_isToldOnce cX6_isToldOnce 1 (some .boolean) [.ref (zC G v0)] (cn G kd N0 S) (zPo G kd N0 res) := zM.of (by decide) rfl (Nat.le_of_ble_eq_true rfl) (fun X _ C hr _ => (B_X6_isToldOnce C hr f) S v0 res hT hwv0 hF)
def F_X6_isKind_0 (f : Nat) (rc : Nat → List Value → aS → aR) (v0 : Nat) (S : aS) : aR :=
  bZ (if v0 = 20 then (1 : Int32) else if v0 = 21 then (1 : Int32) else if v0 = 22 then (1 : Int32) else if v0 = 23 then (1 : Int32) else (0 : Int32)) (some (some (.int (if v0 = 20 then (1 : Int32) else if v0 = 21 then (1 : Int32) else if v0 = 22 then (1 : Int32) else if v0 = 23 then (1 : Int32) else (0 : Int32))), S))
def F_X6_isKind : Nat → Nat → List Value → aS → aR
  | 0, _, _, _ => none
  | f + 1, 0, vs, S => F_X6_isKind_0 f (F_X6_isKind f) (vR vs 0) S
  | _ + 1, _, _, _ => none
theorem dX6_isKind_0 : decode cX6_isKind 0 = .ok (.aload_n 0, 1) := by decide +kernel
theorem dX6_isKind_1 : decode cX6_isKind 1 = .ok (.getstatic 204, 3) := by decide +kernel
theorem dX6_isKind_4 : decode cX6_isKind 4 = .ok (.if_acmp .eq 24, 3) := by decide +kernel
theorem dX6_isKind_7 : decode cX6_isKind 7 = .ok (.aload_n 0, 1) := by decide +kernel
theorem dX6_isKind_8 : decode cX6_isKind 8 = .ok (.getstatic 207, 3) := by decide +kernel
theorem dX6_isKind_11 : decode cX6_isKind 11 = .ok (.if_acmp .eq 17, 3) := by decide +kernel
theorem dX6_isKind_14 : decode cX6_isKind 14 = .ok (.aload_n 0, 1) := by decide +kernel
theorem dX6_isKind_15 : decode cX6_isKind 15 = .ok (.getstatic 210, 3) := by decide +kernel
theorem dX6_isKind_18 : decode cX6_isKind 18 = .ok (.if_acmp .eq 10, 3) := by decide +kernel
theorem dX6_isKind_21 : decode cX6_isKind 21 = .ok (.aload_n 0, 1) := by decide +kernel
theorem dX6_isKind_22 : decode cX6_isKind 22 = .ok (.getstatic 213, 3) := by decide +kernel
theorem dX6_isKind_25 : decode cX6_isKind 25 = .ok (.if_acmp .ne 7, 3) := by decide +kernel
theorem dX6_isKind_28 : decode cX6_isKind 28 = .ok (.iconst 1, 1) := by decide +kernel
theorem dX6_isKind_29 : decode cX6_isKind 29 = .ok (.goto 4, 3) := by decide +kernel
theorem dX6_isKind_32 : decode cX6_isKind 32 = .ok (.iconst 0, 1) := by decide +kernel
theorem dX6_isKind_33 : decode cX6_isKind 33 = .ok (.ireturn, 1) := by decide +kernel
set_option maxHeartbeats 4000000 in
set_option maxRecDepth 100000 in
theorem B_X6_isKind {G : zG} {X : zX} {kd : kD} {N0 : Nat} (C : zCt G X 0 0 0 RX6 cX6_isKind 1) (hr : (zXh X).sig.returnType = (some .boolean)) : ∀ f : Nat,
    (∀ (S : aS) (v0 : Nat) (res : Option Value × aS), zT0 kd N0 S → v0 < 31 → F_X6_isKind f 0 [.ref v0] S = some res → zV G X (zQX G X (zPo G kd N0 res) 0 0) 1 [some (.ref (zC G v0))] [] (cn G kd N0 S) 0 0 0) := by
  intro f
  induction f with
  | zero => exact (fun _ _ _ _ _ h => by cases h)
  | succ f ih =>
    have ih0 := ih
    intro S v0 res hT hwv0 hF
    replace hF : F_X6_isKind_0 f (F_X6_isKind f) v0 S = some res := hF
    unfold F_X6_isKind_0 at hF
    refine z_aload_n C dX6_isKind_0 rfl ?_
    refine f_gets C dX6_isKind_1 fkRX6_204 (C.2.2.2.2.2.1.2.2.1 20 (by decide)).1 ?_
    have hJ5 : zV G X (zQX G X (zPo G kd N0 res) 0 0) 1 [some (.ref (zC G v0))] [.int (if v0 = 20 then (1 : Int32) else if v0 = 21 then (1 : Int32) else if v0 = 22 then (1 : Int32) else if v0 = 23 then (1 : Int32) else (0 : Int32))] (cn G kd N0 S) 33 0 0 := by
      obtain ⟨hz, hF⟩ := bZ_some hF
      cases hF
      exact z_zret C hr hz.1 dX6_isKind_33 ⟨rfl, rfl, hT⟩
    refine z_acmp_eq C 28 dX6_isKind_4 (by decide) (fun c1 => ?_) (fun c1 => ?_)
    · replace c1 := C.2.2.2.2.2.1.2.2.2.1 v0 20 hwv0 (by decide) c1
      refine z_iconst (v := 1) C dX6_isKind_28 (by decide) ?_
      refine z_goto C 33 dX6_isKind_29 (by decide) ?_
      exact zV.at hJ5 (by first | rfl | contradiction | (simp only [if_pos c1]; done)) (by first | rfl | contradiction | (simp only [if_pos c1]; done)) rfl rfl
    · replace c1 : ¬ v0 = 20 := fun e => c1 (by rw [e])
      refine z_aload_n C dX6_isKind_7 rfl ?_
      refine f_gets C dX6_isKind_8 fkRX6_207 (C.2.2.2.2.2.1.2.2.1 21 (by decide)).1 ?_
      refine z_acmp_eq C 28 dX6_isKind_11 (by decide) (fun c2 => ?_) (fun c2 => ?_)
      · replace c2 := C.2.2.2.2.2.1.2.2.2.1 v0 21 hwv0 (by decide) c2
        refine z_iconst (v := 1) C dX6_isKind_28 (by decide) ?_
        refine z_goto C 33 dX6_isKind_29 (by decide) ?_
        exact zV.at hJ5 (by first | rfl | contradiction | (simp only [if_neg c1, if_pos c2]; done)) (by first | rfl | contradiction | (simp only [if_neg c1, if_pos c2]; done)) rfl rfl
      · replace c2 : ¬ v0 = 21 := fun e => c2 (by rw [e])
        refine z_aload_n C dX6_isKind_14 rfl ?_
        refine f_gets C dX6_isKind_15 fkRX6_210 (C.2.2.2.2.2.1.2.2.1 22 (by decide)).1 ?_
        refine z_acmp_eq C 28 dX6_isKind_18 (by decide) (fun c3 => ?_) (fun c3 => ?_)
        · replace c3 := C.2.2.2.2.2.1.2.2.2.1 v0 22 hwv0 (by decide) c3
          refine z_iconst (v := 1) C dX6_isKind_28 (by decide) ?_
          refine z_goto C 33 dX6_isKind_29 (by decide) ?_
          exact zV.at hJ5 (by first | rfl | contradiction | (simp only [if_neg c1, if_neg c2, if_pos c3]; done)) (by first | rfl | contradiction | (simp only [if_neg c1, if_neg c2, if_pos c3]; done)) rfl rfl
        · replace c3 : ¬ v0 = 22 := fun e => c3 (by rw [e])
          refine z_aload_n C dX6_isKind_21 rfl ?_
          refine f_gets C dX6_isKind_22 fkRX6_213 (C.2.2.2.2.2.1.2.2.1 23 (by decide)).1 ?_
          refine z_acmp_ne C 32 dX6_isKind_25 (by decide) (fun c4 => ?_) (fun c4 => ?_)
          · replace c4 : ¬ v0 = 23 := fun e => c4 (by rw [e])
            refine z_iconst (v := 0) C dX6_isKind_32 (by decide) ?_
            exact zV.at hJ5 (by first | rfl | contradiction | (simp only [if_neg c1, if_neg c2, if_neg c3, if_neg c4]; done)) (by first | rfl | contradiction | (simp only [if_neg c1, if_neg c2, if_neg c3, if_neg c4]; done)) rfl rfl
          · replace c4 := C.2.2.2.2.2.1.2.2.2.1 v0 23 hwv0 (by decide) c4
            refine z_iconst (v := 1) C dX6_isKind_28 (by decide) ?_
            refine z_goto C 33 dX6_isKind_29 (by decide) ?_
            exact zV.at hJ5 (by first | rfl | contradiction | (simp only [if_neg c1, if_neg c2, if_neg c3, if_pos c4]; done)) (by first | rfl | contradiction | (simp only [if_neg c1, if_neg c2, if_neg c3, if_pos c4]; done)) rfl rfl
theorem K_X6_isKind {G : zG} {l : Launch} {kd : kD} {N0 f : Nat} {S : aS} {v0 : Nat} {res : Option Value × aS} (hT : zT0 kd N0 S) (hwv0 : v0 < 31) (hF : F_X6_isKind f 0 [.ref v0] S = some res) : zM G l 0 0 0 yX6_isKind cX6_isKind 1 (some .boolean) [.ref (zC G v0)] (cn G kd N0 S) (zPo G kd N0 res) := zM.of (by decide) rfl (Nat.le_of_ble_eq_true rfl) (fun X _ C hr _ => (B_X6_isKind C hr f) S v0 res hT hwv0 hF)
def F_X6_hasPerson_0 (f : Nat) (rc : Nat → List Value → aS → aR) (v0 : Nat) (v1 : Int32) (S : aS) : aR :=
  bZ (if v1 < (0 : Int32) then (0 : Int32) else if (gI S v0 1) ≤ v1 then (0 : Int32) else (1 : Int32)) (some (some (.int (if v1 < (0 : Int32) then (0 : Int32) else if (gI S v0 1) ≤ v1 then (0 : Int32) else (1 : Int32))), S))
def F_X6_hasPerson : Nat → Nat → List Value → aS → aR
  | 0, _, _, _ => none
  | f + 1, 0, vs, S => F_X6_hasPerson_0 f (F_X6_hasPerson f) (vR vs 0) (vI vs 1) S
  | _ + 1, _, _, _ => none
theorem dX6_hasPerson_0 : decode cX6_hasPerson 0 = .ok (.iload_n 1, 1) := by decide +kernel
theorem dX6_hasPerson_1 : decode cX6_hasPerson 1 = .ok (.ifCond .lt 15, 3) := by decide +kernel
theorem dX6_hasPerson_4 : decode cX6_hasPerson 4 = .ok (.iload_n 1, 1) := by decide +kernel
theorem dX6_hasPerson_5 : decode cX6_hasPerson 5 = .ok (.aload_n 0, 1) := by decide +kernel
theorem dX6_hasPerson_6 : decode cX6_hasPerson 6 = .ok (.getfield 51, 3) := by decide +kernel
theorem dX6_hasPerson_9 : decode cX6_hasPerson 9 = .ok (.if_icmp .ge 7, 3) := by decide +kernel
theorem dX6_hasPerson_12 : decode cX6_hasPerson 12 = .ok (.iconst 1, 1) := by decide +kernel
theorem dX6_hasPerson_13 : decode cX6_hasPerson 13 = .ok (.goto 4, 3) := by decide +kernel
theorem dX6_hasPerson_16 : decode cX6_hasPerson 16 = .ok (.iconst 0, 1) := by decide +kernel
theorem dX6_hasPerson_17 : decode cX6_hasPerson 17 = .ok (.ireturn, 1) := by decide +kernel
set_option maxHeartbeats 4000000 in
set_option maxRecDepth 100000 in
theorem B_X6_hasPerson {G : zG} {X : zX} {kd : kD} {N0 : Nat} (C : zCt G X 0 0 0 RX6 cX6_hasPerson 2) (hr : (zXh X).sig.returnType = (some .boolean)) : ∀ f : Nat,
    (∀ (S : aS) (v0 : Nat) (v1 : Int32) (res : Option Value × aS), zT0 kd N0 S → v0 < N0 → kd v0 = .inl 5 → F_X6_hasPerson f 0 [.ref v0, .int v1] S = some res → zV G X (zQX G X (zPo G kd N0 res) 0 0) 2 [some (.ref (zB G + v0)), some (.int v1)] [] (cn G kd N0 S) 0 0 0) := by
  intro f
  induction f with
  | zero => exact (fun _ _ _ _ _ _ _ h => by cases h)
  | succ f ih =>
    have ih0 := ih
    intro S v0 v1 res hT hpv0 hkv0 hF
    replace hF : F_X6_hasPerson_0 f (F_X6_hasPerson f) v0 v1 S = some res := hF
    unfold F_X6_hasPerson_0 at hF
    refine z_iload_n C dX6_hasPerson_0 rfl ?_
    have hJ3 : zV G X (zQX G X (zPo G kd N0 res) 0 0) 2 [some (.ref (zB G + v0)), some (.int v1)] [.int (if v1 < (0 : Int32) then (0 : Int32) else if (gI S v0 1) ≤ v1 then (0 : Int32) else (1 : Int32))] (cn G kd N0 S) 17 0 0 := by
      obtain ⟨hz, hF⟩ := bZ_some hF
      cases hF
      exact z_zret C hr hz.1 dX6_hasPerson_17 ⟨rfl, rfl, hT⟩
    refine z_if_lt C 16 dX6_hasPerson_1 (by decide) (fun c1 => ?_) (fun c1 => ?_)
    · refine z_iconst (v := 0) C dX6_hasPerson_16 (by decide) ?_
      exact zV.at hJ3 (by first | rfl | contradiction | (simp only [if_pos c1]; done)) (by first | rfl | contradiction | (simp only [if_pos c1]; done)) rfl rfl
    · refine z_iload_n C dX6_hasPerson_4 rfl ?_
      refine z_aload_n C dX6_hasPerson_5 rfl ?_
      refine f_geti C dX6_hasPerson_6 zfRX6_51 hpv0 hkv0 rfl ?_
      refine z_icmp_ge C 16 dX6_hasPerson_9 (by decide) (fun c2 => ?_) (fun c2 => ?_)
      · refine z_iconst (v := 0) C dX6_hasPerson_16 (by decide) ?_
        exact zV.at hJ3 (by first | rfl | contradiction | (simp only [if_neg c1, if_pos c2]; done)) (by first | rfl | contradiction | (simp only [if_neg c1, if_pos c2]; done)) rfl rfl
      · refine z_iconst (v := 1) C dX6_hasPerson_12 (by decide) ?_
        refine z_goto C 17 dX6_hasPerson_13 (by decide) ?_
        exact zV.at hJ3 (by first | rfl | contradiction | (simp only [if_neg c1, if_neg c2]; done)) (by first | rfl | contradiction | (simp only [if_neg c1, if_neg c2]; done)) rfl rfl
theorem K_X6_hasPerson {G : zG} {l : Launch} {kd : kD} {N0 f : Nat} {S : aS} {v0 : Nat} {v1 : Int32} {res : Option Value × aS} (hT : zT0 kd N0 S) (hpv0 : v0 < N0) (hkv0 : kd v0 = .inl 5) (hF : F_X6_hasPerson f 0 [.ref v0, .int v1] S = some res) : zM G l 0 0 0 yX6_hasPerson cX6_hasPerson 2 (some .boolean) [.ref (zB G + v0), .int v1] (cn G kd N0 S) (zPo G kd N0 res) := zM.of (by decide) rfl (Nat.le_of_ble_eq_true rfl) (fun X _ C hr _ => (B_X6_hasPerson C hr f) S v0 v1 res hT hpv0 hkv0 hF)
def F_X6_numberOf_0 (f : Nat) (rc : Nat → List Value → aS → aR) (v0 : Nat) (v1 : Int64) (S : aS) : aR :=
  rc 1 [.ref v0, .long v1, .int 0] S
def F_X6_numberOf_1 (f : Nat) (rc : Nat → List Value → aS → aR) (v0 : Nat) (v1 : Int64) (v2 : Int32) (S : aS) : aR :=
  if (gI S v0 1) ≤ v2 then some (some (.int ((-1))), S) else bX v2 6 fun q3 => if (lg_cmp (gJ S (gR S v0 2) q3) v1) = (0 : Int32) then some (some (.int v2), S) else rc 1 [.ref v0, .long v1, .int (v2 + 1)] S
def F_X6_numberOf : Nat → Nat → List Value → aS → aR
  | 0, _, _, _ => none
  | f + 1, 0, vs, S => F_X6_numberOf_0 f (F_X6_numberOf f) (vR vs 0) (vJ vs 1) S
  | f + 1, 1, vs, S => F_X6_numberOf_1 f (F_X6_numberOf f) (vR vs 0) (vJ vs 1) (vI vs 2) S
  | _ + 1, _, _, _ => none
theorem dX6_numberOf_0 : decode cX6_numberOf 0 = .ok (.iconst 0, 1) := by decide +kernel
theorem dX6_numberOf_1 : decode cX6_numberOf 1 = .ok (.istore_n 3, 1) := by decide +kernel
theorem dX6_numberOf_2 : decode cX6_numberOf 2 = .ok (.iload_n 3, 1) := by decide +kernel
theorem dX6_numberOf_3 : decode cX6_numberOf 3 = .ok (.aload_n 0, 1) := by decide +kernel
theorem dX6_numberOf_4 : decode cX6_numberOf 4 = .ok (.getfield 51, 3) := by decide +kernel
theorem dX6_numberOf_7 : decode cX6_numberOf 7 = .ok (.if_icmp .ge 22, 3) := by decide +kernel
theorem dX6_numberOf_10 : decode cX6_numberOf 10 = .ok (.aload_n 0, 1) := by decide +kernel
theorem dX6_numberOf_11 : decode cX6_numberOf 11 = .ok (.getfield 15, 3) := by decide +kernel
theorem dX6_numberOf_14 : decode cX6_numberOf 14 = .ok (.iload_n 3, 1) := by decide +kernel
theorem dX6_numberOf_15 : decode cX6_numberOf 15 = .ok (.laload, 1) := by decide +kernel
theorem dX6_numberOf_16 : decode cX6_numberOf 16 = .ok (.lload_n 1, 1) := by decide +kernel
theorem dX6_numberOf_17 : decode cX6_numberOf 17 = .ok (.lcmp, 1) := by decide +kernel
theorem dX6_numberOf_18 : decode cX6_numberOf 18 = .ok (.ifCond .ne 5, 3) := by decide +kernel
theorem dX6_numberOf_21 : decode cX6_numberOf 21 = .ok (.iload_n 3, 1) := by decide +kernel
theorem dX6_numberOf_22 : decode cX6_numberOf 22 = .ok (.ireturn, 1) := by decide +kernel
theorem dX6_numberOf_23 : decode cX6_numberOf 23 = .ok (.iinc 3 1, 3) := by decide +kernel
theorem dX6_numberOf_26 : decode cX6_numberOf 26 = .ok (.goto (-24), 3) := by decide +kernel
theorem dX6_numberOf_29 : decode cX6_numberOf 29 = .ok (.iconst (-1), 1) := by decide +kernel
theorem dX6_numberOf_30 : decode cX6_numberOf 30 = .ok (.ireturn, 1) := by decide +kernel
set_option maxHeartbeats 4000000 in
set_option maxRecDepth 100000 in
theorem B_X6_numberOf {G : zG} {X : zX} {kd : kD} {N0 : Nat} (C : zCt G X 0 0 0 RX6 cX6_numberOf 4) (hr : (zXh X).sig.returnType = (some .int)) : ∀ f : Nat,
    (∀ (S : aS) (v0 : Nat) (v1 : Int64) (res : Option Value × aS), zT0 kd N0 S → v0 < N0 → kd v0 = .inl 5 → F_X6_numberOf f 0 [.ref v0, .long v1] S = some res → zV G X (zQX G X (zPo G kd N0 res) 0 0) 4 [some (.ref (zB G + v0)), some (.long v1), none, none] [] (cn G kd N0 S) 0 0 0) ∧
    (∀ (S : aS) (v0 : Nat) (v1 : Int64) (v2 : Int32) (res : Option Value × aS), zT0 kd N0 S → v0 < N0 → kd v0 = .inl 5 → F_X6_numberOf f 1 [.ref v0, .long v1, .int v2] S = some res → zV G X (zQX G X (zPo G kd N0 res) 0 0) 4 [some (.ref (zB G + v0)), some (.long v1), none, some (.int v2)] [] (cn G kd N0 S) 2 0 0) := by
  intro f
  induction f with
  | zero => exact ⟨(fun _ _ _ _ _ _ _ h => by cases h), (fun _ _ _ _ _ _ _ _ h => by cases h)⟩
  | succ f ih =>
    obtain ⟨ih0, ih1⟩ := ih
    refine ⟨?_, ?_⟩
    · intro S v0 v1 res hT hpv0 hkv0 hF
      replace hF : F_X6_numberOf_0 f (F_X6_numberOf f) v0 v1 S = some res := hF
      unfold F_X6_numberOf_0 at hF
      refine z_iconst (v := 0) C dX6_numberOf_0 (by decide) ?_
      refine z_istore_n (lv2 := [some (.ref (zB G + v0)), some (.long v1), none, some (.int 0)]) C dX6_numberOf_1 (by decide) rfl ?_
      exact ih1 S v0 v1 0 res hT hpv0 hkv0   hF
    · intro S v0 v1 v2 res hT hpv0 hkv0 hF
      replace hF : F_X6_numberOf_1 f (F_X6_numberOf f) v0 v1 v2 S = some res := hF
      unfold F_X6_numberOf_1 at hF
      refine z_iload_n C dX6_numberOf_2 rfl ?_
      refine z_aload_n C dX6_numberOf_3 rfl ?_
      refine f_geti C dX6_numberOf_4 zfRX6_51 hpv0 hkv0 rfl ?_
      refine z_icmp_ge C 29 dX6_numberOf_7 (by decide) (fun c1 => ?_) (fun c1 => ?_)
      · replace hF := ip hF c1
        refine z_iconst (v := (-1)) C dX6_numberOf_29 (by decide) ?_
        cases hF
        exact z_iret C hr dX6_numberOf_30 ⟨rfl, rfl, hT⟩
      · replace hF := im hF c1
        refine z_aload_n C dX6_numberOf_10 rfl ?_
        refine f_getr C dX6_numberOf_11 zfRX6_15 hpv0 hkv0 rfl ?_
        obtain ⟨hp2, hk2⟩ := hT.1 v0 5 2 (.inr (1, 6)) hpv0 hkv0 rfl
        refine z_iload_n C dX6_numberOf_14 rfl ?_
        obtain ⟨hi3, hF⟩ := bX_some hF
        obtain ⟨q3, eq3⟩ : ∃ q : Nat, q = Int32.toNatClampNeg v2 := ⟨_, rfl⟩
        rw [← eq3] at hF
        refine f_lald C dX6_numberOf_15 hp2 hk2 hi3 ?_
        rw [← eq3]
        refine z_lload_n C dX6_numberOf_16 rfl ?_
        refine z_lcmp C dX6_numberOf_17 ?_
        refine z_if_ne C 23 dX6_numberOf_18 (by decide) (fun c4 => ?_) (fun c4 => ?_)
        · replace hF := im hF c4
          refine z_iinc (v := v2 + 1) (lv2 := [some (.ref (zB G + v0)), some (.long v1), none, some (.int (v2 + 1))]) C dX6_numberOf_23 rfl (by rw [show Int32.ofInt 1 = (1 : Int32) from by decide]) rfl ?_
          refine z_goto C 2 dX6_numberOf_26 (by decide) ?_
          exact ih1 S v0 v1 (v2 + 1) res hT hpv0 hkv0   hF
        · replace hF := ip hF c4
          refine z_iload_n C dX6_numberOf_21 rfl ?_
          cases hF
          exact z_iret C hr dX6_numberOf_22 ⟨rfl, rfl, hT⟩
theorem K_X6_numberOf {G : zG} {l : Launch} {kd : kD} {N0 f : Nat} {S : aS} {v0 : Nat} {v1 : Int64} {res : Option Value × aS} (hT : zT0 kd N0 S) (hpv0 : v0 < N0) (hkv0 : kd v0 = .inl 5) (hF : F_X6_numberOf f 0 [.ref v0, .long v1] S = some res) : zM G l 0 0 0 yX6_numberOf cX6_numberOf 4 (some .int) [.ref (zB G + v0), .long v1] (cn G kd N0 S) (zPo G kd N0 res) := zM.of (by decide) rfl (Nat.le_of_ble_eq_true rfl) (fun X _ C hr _ => (B_X6_numberOf C hr f).1 S v0 v1 res hT hpv0 hkv0 hF)
def F_X6_windOf_0 (f : Nat) (rc : Nat → List Value → aS → aR) (v0 : Nat) (v1 : Int32) (S : aS) : aR :=
  if (gI S v0 9) ≤ (0 : Int32) then rc 1 [] S else if v1 < (0 : Int32) then rc 1 [] S else bN (gI S v0 9) (bX (v1 - v1 / (gI S v0 9) * (gI S v0 9)) 12 fun q10 => rc 2 [.int (gI S (gR S v0 8) q10)] S)
def F_X6_windOf_1 (f : Nat) (rc : Nat → List Value → aS → aR)  (S : aS) : aR :=
  rc 2 [.int 0] S
def F_X6_windOf_2 (f : Nat) (rc : Nat → List Value → aS → aR) (w0 : Int32) (S : aS) : aR :=
  some (some (.int w0), S)
def F_X6_windOf : Nat → Nat → List Value → aS → aR
  | 0, _, _, _ => none
  | f + 1, 0, vs, S => F_X6_windOf_0 f (F_X6_windOf f) (vR vs 0) (vI vs 1) S
  | f + 1, 1, vs, S => F_X6_windOf_1 f (F_X6_windOf f)  S
  | f + 1, 2, vs, S => F_X6_windOf_2 f (F_X6_windOf f) (vI vs 0) S
  | _ + 1, _, _, _ => none
theorem dX6_windOf_0 : decode cX6_windOf 0 = .ok (.aload_n 0, 1) := by decide +kernel
theorem dX6_windOf_1 : decode cX6_windOf 1 = .ok (.getfield 54, 3) := by decide +kernel
theorem dX6_windOf_4 : decode cX6_windOf 4 = .ok (.ifCond .le 21, 3) := by decide +kernel
theorem dX6_windOf_7 : decode cX6_windOf 7 = .ok (.iload_n 1, 1) := by decide +kernel
theorem dX6_windOf_8 : decode cX6_windOf 8 = .ok (.ifCond .lt 17, 3) := by decide +kernel
theorem dX6_windOf_11 : decode cX6_windOf 11 = .ok (.aload_n 0, 1) := by decide +kernel
theorem dX6_windOf_12 : decode cX6_windOf 12 = .ok (.getfield 35, 3) := by decide +kernel
theorem dX6_windOf_15 : decode cX6_windOf 15 = .ok (.iload_n 1, 1) := by decide +kernel
theorem dX6_windOf_16 : decode cX6_windOf 16 = .ok (.aload_n 0, 1) := by decide +kernel
theorem dX6_windOf_17 : decode cX6_windOf 17 = .ok (.getfield 54, 3) := by decide +kernel
theorem dX6_windOf_20 : decode cX6_windOf 20 = .ok (.irem, 1) := by decide +kernel
theorem dX6_windOf_21 : decode cX6_windOf 21 = .ok (.iaload, 1) := by decide +kernel
theorem dX6_windOf_22 : decode cX6_windOf 22 = .ok (.goto 4, 3) := by decide +kernel
theorem dX6_windOf_25 : decode cX6_windOf 25 = .ok (.iconst 0, 1) := by decide +kernel
theorem dX6_windOf_26 : decode cX6_windOf 26 = .ok (.ireturn, 1) := by decide +kernel
set_option maxHeartbeats 4000000 in
set_option maxRecDepth 100000 in
theorem B_X6_windOf {G : zG} {X : zX} {kd : kD} {N0 : Nat} (C : zCt G X 0 0 0 RX6 cX6_windOf 2) (hr : (zXh X).sig.returnType = (some .int)) : ∀ f : Nat,
    (∀ (S : aS) (v0 : Nat) (v1 : Int32) (res : Option Value × aS), zT0 kd N0 S → v0 < N0 → kd v0 = .inl 5 → F_X6_windOf f 0 [.ref v0, .int v1] S = some res → zV G X (zQX G X (zPo G kd N0 res) 0 0) 2 [some (.ref (zB G + v0)), some (.int v1)] [] (cn G kd N0 S) 0 0 0) ∧
    (∀ (S : aS)  (res : Option Value × aS), zT0 kd N0 S → F_X6_windOf f 1 [] S = some res → zV G X (zQX G X (zPo G kd N0 res) 0 0) 2 [none, none] [] (cn G kd N0 S) 25 0 0) ∧
    (∀ (S : aS) (w0 : Int32) (res : Option Value × aS), zT0 kd N0 S → F_X6_windOf f 2 [.int w0] S = some res → zV G X (zQX G X (zPo G kd N0 res) 0 0) 2 [none, none] [.int w0] (cn G kd N0 S) 26 0 0) := by
  intro f
  induction f with
  | zero => exact ⟨(fun _ _ _ _ _ _ _ h => by cases h), (fun _ _ _ h => by cases h), (fun _ _ _ _ h => by cases h)⟩
  | succ f ih =>
    obtain ⟨ih0, ih1, ih2⟩ := ih
    refine ⟨?_, ?_, ?_⟩
    · intro S v0 v1 res hT hpv0 hkv0 hF
      replace hF : F_X6_windOf_0 f (F_X6_windOf f) v0 v1 S = some res := hF
      unfold F_X6_windOf_0 at hF
      refine z_aload_n C dX6_windOf_0 rfl ?_
      refine f_geti C dX6_windOf_1 zfRX6_54 hpv0 hkv0 rfl ?_
      refine z_if_le C 25 dX6_windOf_4 (by decide) (fun c4 => ?_) (fun c4 => ?_)
      · replace hF := ip hF c4
        refine z_mask [false, false] ?_ rfl
        exact ih1 S  res hT  hF
      · replace hF := im hF c4
        refine z_iload_n C dX6_windOf_7 rfl ?_
        refine z_if_lt C 25 dX6_windOf_8 (by decide) (fun c7 => ?_) (fun c7 => ?_)
        · replace hF := ip hF c7
          refine z_mask [false, false] ?_ rfl
          exact ih1 S  res hT  hF
        · replace hF := im hF c7
          refine z_aload_n C dX6_windOf_11 rfl ?_
          refine f_getr C dX6_windOf_12 zfRX6_35 hpv0 hkv0 rfl ?_
          obtain ⟨hp8, hk8⟩ := hT.1 v0 5 8 (.inr (0, 12)) hpv0 hkv0 rfl
          refine z_iload_n C dX6_windOf_15 rfl ?_
          refine z_aload_n C dX6_windOf_16 rfl ?_
          refine f_geti C dX6_windOf_17 zfRX6_54 hpv0 hkv0 rfl ?_
          obtain ⟨hz9, hF⟩ := bN_some hF
          refine z_irem C dX6_windOf_20 hz9 ?_
          obtain ⟨hi10, hF⟩ := bX_some hF
          obtain ⟨q10, eq10⟩ : ∃ q : Nat, q = Int32.toNatClampNeg (v1 - v1 / (gI S v0 9) * (gI S v0 9)) := ⟨_, rfl⟩
          rw [← eq10] at hF
          refine f_iald C dX6_windOf_21 hp8 hk8 hi10 ?_
          rw [← eq10]
          refine z_goto C 26 dX6_windOf_22 (by decide) ?_
          refine z_mask [false, false] ?_ rfl
          exact ih2 S (gI S (gR S v0 8) q10) res hT  hF
    · intro S  res hT  hF
      replace hF : F_X6_windOf_1 f (F_X6_windOf f)  S = some res := hF
      unfold F_X6_windOf_1 at hF
      refine z_iconst (v := 0) C dX6_windOf_25 (by decide) ?_
      exact ih2 S 0 res hT  hF
    · intro S w0 res hT  hF
      replace hF : F_X6_windOf_2 f (F_X6_windOf f) w0 S = some res := hF
      unfold F_X6_windOf_2 at hF
      cases hF
      exact z_iret C hr dX6_windOf_26 ⟨rfl, rfl, hT⟩
theorem K_X6_windOf {G : zG} {l : Launch} {kd : kD} {N0 f : Nat} {S : aS} {v0 : Nat} {v1 : Int32} {res : Option Value × aS} (hT : zT0 kd N0 S) (hpv0 : v0 < N0) (hkv0 : kd v0 = .inl 5) (hF : F_X6_windOf f 0 [.ref v0, .int v1] S = some res) : zM G l 0 0 0 yX6_windOf cX6_windOf 2 (some .int) [.ref (zB G + v0), .int v1] (cn G kd N0 S) (zPo G kd N0 res) := zM.of (by decide) rfl (Nat.le_of_ble_eq_true rfl) (fun X _ C hr _ => (B_X6_windOf C hr f).1 S v0 v1 res hT hpv0 hkv0 hF)
def F_X6_droppedByHabit_0 (f : Nat) (rc : Nat → List Value → aS → aR) (v0 : Nat) (v1 : Int32) (v2 : Int32) (v3 : Int32) (v4 : Int32) (S : aS) : aR :=
  bX v1 6 fun q2 => if (gI S (gR S v0 3) q2) = (2 : Int32) then some (some (.int (if v2 ≤ (0 : Int32) then (0 : Int32) else v4)), S) else bX v1 6 fun q5 => lI (if (gI S (gR S v0 3) q5) = (1 : Int32) then (1 : Int32) else (0 : Int32)) fun y8 => if v2 ≤ (if y8 = (0 : Int32) then (4 : Int32) else (9 : Int32)) then bX v1 6 fun q13 => some (some (.int (if v3 ≤ ((gI S (gR S v0 4) q13) + (if y8 = (0 : Int32) then (0 : Int32) else (2 : Int32))) then (0 : Int32) else (1 : Int32))), S) else some (some (.int v4), S)
def F_X6_droppedByHabit : Nat → Nat → List Value → aS → aR
  | 0, _, _, _ => none
  | f + 1, 0, vs, S => F_X6_droppedByHabit_0 f (F_X6_droppedByHabit f) (vR vs 0) (vI vs 1) (vI vs 2) (vI vs 3) (vI vs 4) S
  | _ + 1, _, _, _ => none
theorem dX6_droppedByHabit_0 : decode cX6_droppedByHabit 0 = .ok (.aload_n 0, 1) := by decide +kernel
theorem dX6_droppedByHabit_1 : decode cX6_droppedByHabit 1 = .ok (.getfield 19, 3) := by decide +kernel
theorem dX6_droppedByHabit_4 : decode cX6_droppedByHabit 4 = .ok (.iload_n 1, 1) := by decide +kernel
theorem dX6_droppedByHabit_5 : decode cX6_droppedByHabit 5 = .ok (.iaload, 1) := by decide +kernel
theorem dX6_droppedByHabit_6 : decode cX6_droppedByHabit 6 = .ok (.iconst 2, 1) := by decide +kernel
theorem dX6_droppedByHabit_7 : decode cX6_droppedByHabit 7 = .ok (.if_icmp .ne 14, 3) := by decide +kernel
theorem dX6_droppedByHabit_10 : decode cX6_droppedByHabit 10 = .ok (.iload_n 2, 1) := by decide +kernel
theorem dX6_droppedByHabit_11 : decode cX6_droppedByHabit 11 = .ok (.ifCond .le 8, 3) := by decide +kernel
theorem dX6_droppedByHabit_14 : decode cX6_droppedByHabit 14 = .ok (.iload 4, 2) := by decide +kernel
theorem dX6_droppedByHabit_16 : decode cX6_droppedByHabit 16 = .ok (.goto 4, 3) := by decide +kernel
theorem dX6_droppedByHabit_19 : decode cX6_droppedByHabit 19 = .ok (.iconst 0, 1) := by decide +kernel
theorem dX6_droppedByHabit_20 : decode cX6_droppedByHabit 20 = .ok (.ireturn, 1) := by decide +kernel
theorem dX6_droppedByHabit_21 : decode cX6_droppedByHabit 21 = .ok (.aload_n 0, 1) := by decide +kernel
theorem dX6_droppedByHabit_22 : decode cX6_droppedByHabit 22 = .ok (.getfield 19, 3) := by decide +kernel
theorem dX6_droppedByHabit_25 : decode cX6_droppedByHabit 25 = .ok (.iload_n 1, 1) := by decide +kernel
theorem dX6_droppedByHabit_26 : decode cX6_droppedByHabit 26 = .ok (.iaload, 1) := by decide +kernel
theorem dX6_droppedByHabit_27 : decode cX6_droppedByHabit 27 = .ok (.iconst 1, 1) := by decide +kernel
theorem dX6_droppedByHabit_28 : decode cX6_droppedByHabit 28 = .ok (.if_icmp .ne 7, 3) := by decide +kernel
theorem dX6_droppedByHabit_31 : decode cX6_droppedByHabit 31 = .ok (.iconst 1, 1) := by decide +kernel
theorem dX6_droppedByHabit_32 : decode cX6_droppedByHabit 32 = .ok (.goto 4, 3) := by decide +kernel
theorem dX6_droppedByHabit_35 : decode cX6_droppedByHabit 35 = .ok (.iconst 0, 1) := by decide +kernel
theorem dX6_droppedByHabit_36 : decode cX6_droppedByHabit 36 = .ok (.istore 5, 2) := by decide +kernel
theorem dX6_droppedByHabit_38 : decode cX6_droppedByHabit 38 = .ok (.iload_n 2, 1) := by decide +kernel
theorem dX6_droppedByHabit_39 : decode cX6_droppedByHabit 39 = .ok (.iload 5, 2) := by decide +kernel
theorem dX6_droppedByHabit_41 : decode cX6_droppedByHabit 41 = .ok (.ifCond .eq 8, 3) := by decide +kernel
theorem dX6_droppedByHabit_44 : decode cX6_droppedByHabit 44 = .ok (.bipush 9, 2) := by decide +kernel
theorem dX6_droppedByHabit_46 : decode cX6_droppedByHabit 46 = .ok (.goto 4, 3) := by decide +kernel
theorem dX6_droppedByHabit_49 : decode cX6_droppedByHabit 49 = .ok (.iconst 4, 1) := by decide +kernel
theorem dX6_droppedByHabit_50 : decode cX6_droppedByHabit 50 = .ok (.if_icmp .le 6, 3) := by decide +kernel
theorem dX6_droppedByHabit_53 : decode cX6_droppedByHabit 53 = .ok (.iload 4, 2) := by decide +kernel
theorem dX6_droppedByHabit_55 : decode cX6_droppedByHabit 55 = .ok (.ireturn, 1) := by decide +kernel
theorem dX6_droppedByHabit_56 : decode cX6_droppedByHabit 56 = .ok (.iload_n 3, 1) := by decide +kernel
theorem dX6_droppedByHabit_57 : decode cX6_droppedByHabit 57 = .ok (.aload_n 0, 1) := by decide +kernel
theorem dX6_droppedByHabit_58 : decode cX6_droppedByHabit 58 = .ok (.getfield 23, 3) := by decide +kernel
theorem dX6_droppedByHabit_61 : decode cX6_droppedByHabit 61 = .ok (.iload_n 1, 1) := by decide +kernel
theorem dX6_droppedByHabit_62 : decode cX6_droppedByHabit 62 = .ok (.iaload, 1) := by decide +kernel
theorem dX6_droppedByHabit_63 : decode cX6_droppedByHabit 63 = .ok (.iload 5, 2) := by decide +kernel
theorem dX6_droppedByHabit_65 : decode cX6_droppedByHabit 65 = .ok (.ifCond .eq 7, 3) := by decide +kernel
theorem dX6_droppedByHabit_68 : decode cX6_droppedByHabit 68 = .ok (.iconst 2, 1) := by decide +kernel
theorem dX6_droppedByHabit_69 : decode cX6_droppedByHabit 69 = .ok (.goto 4, 3) := by decide +kernel
theorem dX6_droppedByHabit_72 : decode cX6_droppedByHabit 72 = .ok (.iconst 0, 1) := by decide +kernel
theorem dX6_droppedByHabit_73 : decode cX6_droppedByHabit 73 = .ok (.iadd, 1) := by decide +kernel
theorem dX6_droppedByHabit_74 : decode cX6_droppedByHabit 74 = .ok (.if_icmp .le 7, 3) := by decide +kernel
theorem dX6_droppedByHabit_77 : decode cX6_droppedByHabit 77 = .ok (.iconst 1, 1) := by decide +kernel
theorem dX6_droppedByHabit_78 : decode cX6_droppedByHabit 78 = .ok (.goto 4, 3) := by decide +kernel
theorem dX6_droppedByHabit_81 : decode cX6_droppedByHabit 81 = .ok (.iconst 0, 1) := by decide +kernel
theorem dX6_droppedByHabit_82 : decode cX6_droppedByHabit 82 = .ok (.ireturn, 1) := by decide +kernel
set_option maxHeartbeats 4000000 in
set_option maxRecDepth 100000 in
theorem B_X6_droppedByHabit {G : zG} {X : zX} {kd : kD} {N0 : Nat} (C : zCt G X 0 0 0 RX6 cX6_droppedByHabit 6) (hr : (zXh X).sig.returnType = (some .int)) : ∀ f : Nat,
    (∀ (S : aS) (v0 : Nat) (v1 : Int32) (v2 : Int32) (v3 : Int32) (v4 : Int32) (res : Option Value × aS), zT0 kd N0 S → v0 < N0 → kd v0 = .inl 5 → F_X6_droppedByHabit f 0 [.ref v0, .int v1, .int v2, .int v3, .int v4] S = some res → zV G X (zQX G X (zPo G kd N0 res) 0 0) 6 [some (.ref (zB G + v0)), some (.int v1), some (.int v2), some (.int v3), some (.int v4), none] [] (cn G kd N0 S) 0 0 0) := by
  intro f
  induction f with
  | zero => exact (fun _ _ _ _ _ _ _ _ _ _ h => by cases h)
  | succ f ih =>
    have ih0 := ih
    intro S v0 v1 v2 v3 v4 res hT hpv0 hkv0 hF
    replace hF : F_X6_droppedByHabit_0 f (F_X6_droppedByHabit f) v0 v1 v2 v3 v4 S = some res := hF
    unfold F_X6_droppedByHabit_0 at hF
    refine z_aload_n C dX6_droppedByHabit_0 rfl ?_
    refine f_getr C dX6_droppedByHabit_1 zfRX6_19 hpv0 hkv0 rfl ?_
    obtain ⟨hp1, hk1⟩ := hT.1 v0 5 3 (.inr (0, 6)) hpv0 hkv0 rfl
    refine z_iload_n C dX6_droppedByHabit_4 rfl ?_
    obtain ⟨hi2, hF⟩ := bX_some hF
    obtain ⟨q2, eq2⟩ : ∃ q : Nat, q = Int32.toNatClampNeg v1 := ⟨_, rfl⟩
    rw [← eq2] at hF
    refine f_iald C dX6_droppedByHabit_5 hp1 hk1 hi2 ?_
    rw [← eq2]
    refine z_iconst (v := 2) C dX6_droppedByHabit_6 (by decide) ?_
    refine z_icmp_ne C 21 dX6_droppedByHabit_7 (by decide) (fun c3 => ?_) (fun c3 => ?_)
    · replace hF := im hF c3
      refine z_aload_n C dX6_droppedByHabit_21 rfl ?_
      refine f_getr C dX6_droppedByHabit_22 zfRX6_19 hpv0 hkv0 rfl ?_
      obtain ⟨hp4, hk4⟩ := hT.1 v0 5 3 (.inr (0, 6)) hpv0 hkv0 rfl
      refine z_iload_n C dX6_droppedByHabit_25 rfl ?_
      obtain ⟨hi5, hF⟩ := bX_some hF
      obtain ⟨q5, eq5⟩ : ∃ q : Nat, q = Int32.toNatClampNeg v1 := ⟨_, rfl⟩
      rw [← eq5] at hF
      refine f_iald C dX6_droppedByHabit_26 hp4 hk4 hi5 ?_
      rw [← eq5]
      refine z_iconst (v := 1) C dX6_droppedByHabit_27 (by decide) ?_
      have hJ7 : zV G X (zQX G X (zPo G kd N0 res) 0 0) 6 [some (.ref (zB G + v0)), some (.int v1), some (.int v2), some (.int v3), some (.int v4), none] [.int (if (gI S (gR S v0 3) q5) = (1 : Int32) then (1 : Int32) else (0 : Int32))] (cn G kd N0 S) 36 0 0 := by
        replace hF := lI_e hF
        generalize (if (gI S (gR S v0 3) q5) = (1 : Int32) then (1 : Int32) else (0 : Int32)) = y8 at hF ⊢
        refine z_istore (lv2 := [some (.ref (zB G + v0)), some (.int v1), some (.int v2), some (.int v3), some (.int v4), some (.int y8)]) C dX6_droppedByHabit_36 (by decide) rfl ?_
        refine z_iload_n C dX6_droppedByHabit_38 rfl ?_
        refine z_iload C dX6_droppedByHabit_39 rfl ?_
        have hJ10 : zV G X (zQX G X (zPo G kd N0 res) 0 0) 6 [some (.ref (zB G + v0)), some (.int v1), some (.int v2), some (.int v3), some (.int v4), some (.int y8)] [.int (if y8 = (0 : Int32) then (4 : Int32) else (9 : Int32)), .int v2] (cn G kd N0 S) 50 0 0 := by
          refine z_icmp_le C 56 dX6_droppedByHabit_50 (by decide) (fun c11 => ?_) (fun c11 => ?_)
          · replace hF := ip hF c11
            refine z_iload_n C dX6_droppedByHabit_56 rfl ?_
            refine z_aload_n C dX6_droppedByHabit_57 rfl ?_
            refine f_getr C dX6_droppedByHabit_58 zfRX6_23 hpv0 hkv0 rfl ?_
            obtain ⟨hp12, hk12⟩ := hT.1 v0 5 4 (.inr (0, 6)) hpv0 hkv0 rfl
            refine z_iload_n C dX6_droppedByHabit_61 rfl ?_
            obtain ⟨hi13, hF⟩ := bX_some hF
            obtain ⟨q13, eq13⟩ : ∃ q : Nat, q = Int32.toNatClampNeg v1 := ⟨_, rfl⟩
            rw [← eq13] at hF
            refine f_iald C dX6_droppedByHabit_62 hp12 hk12 hi13 ?_
            rw [← eq13]
            refine z_iload C dX6_droppedByHabit_63 rfl ?_
            have hJ15 : zV G X (zQX G X (zPo G kd N0 res) 0 0) 6 [some (.ref (zB G + v0)), some (.int v1), some (.int v2), some (.int v3), some (.int v4), some (.int y8)] [.int (if y8 = (0 : Int32) then (0 : Int32) else (2 : Int32)), .int (gI S (gR S v0 4) q13), .int v3] (cn G kd N0 S) 73 0 0 := by
              refine z_iadd C dX6_droppedByHabit_73 ?_
              have hJ17 : zV G X (zQX G X (zPo G kd N0 res) 0 0) 6 [some (.ref (zB G + v0)), some (.int v1), some (.int v2), some (.int v3), some (.int v4), some (.int y8)] [.int (if v3 ≤ ((gI S (gR S v0 4) q13) + (if y8 = (0 : Int32) then (0 : Int32) else (2 : Int32))) then (0 : Int32) else (1 : Int32))] (cn G kd N0 S) 82 0 0 := by
                cases hF
                exact z_iret C hr dX6_droppedByHabit_82 ⟨rfl, rfl, hT⟩
              refine z_icmp_le C 81 dX6_droppedByHabit_74 (by decide) (fun c16 => ?_) (fun c16 => ?_)
              · refine z_iconst (v := 0) C dX6_droppedByHabit_81 (by decide) ?_
                exact zV.at hJ17 (by first | rfl | contradiction | (simp only [if_pos c16]; done)) (by first | rfl | contradiction | (simp only [if_pos c16]; done)) rfl rfl
              · refine z_iconst (v := 1) C dX6_droppedByHabit_77 (by decide) ?_
                refine z_goto C 82 dX6_droppedByHabit_78 (by decide) ?_
                exact zV.at hJ17 (by first | rfl | contradiction | (simp only [if_neg c16]; done)) (by first | rfl | contradiction | (simp only [if_neg c16]; done)) rfl rfl
            refine z_if_eq C 72 dX6_droppedByHabit_65 (by decide) (fun c14 => ?_) (fun c14 => ?_)
            · refine z_iconst (v := 0) C dX6_droppedByHabit_72 (by decide) ?_
              exact zV.at hJ15 (by first | rfl | contradiction | (simp only [if_pos c14]; done)) (by first | rfl | contradiction | (simp only [if_pos c14]; done)) rfl rfl
            · refine z_iconst (v := 2) C dX6_droppedByHabit_68 (by decide) ?_
              refine z_goto C 73 dX6_droppedByHabit_69 (by decide) ?_
              exact zV.at hJ15 (by first | rfl | contradiction | (simp only [if_neg c14]; done)) (by first | rfl | contradiction | (simp only [if_neg c14]; done)) rfl rfl
          · replace hF := im hF c11
            refine z_iload C dX6_droppedByHabit_53 rfl ?_
            cases hF
            exact z_iret C hr dX6_droppedByHabit_55 ⟨rfl, rfl, hT⟩
        refine z_if_eq C 49 dX6_droppedByHabit_41 (by decide) (fun c9 => ?_) (fun c9 => ?_)
        · refine z_iconst (v := 4) C dX6_droppedByHabit_49 (by decide) ?_
          exact zV.at hJ10 (by first | rfl | contradiction | (simp only [if_pos c9]; done)) (by first | rfl | contradiction | (simp only [if_pos c9]; done)) rfl rfl
        · refine z_bipush (v := 9) C dX6_droppedByHabit_44 (by decide) ?_
          refine z_goto C 50 dX6_droppedByHabit_46 (by decide) ?_
          exact zV.at hJ10 (by first | rfl | contradiction | (simp only [if_neg c9]; done)) (by first | rfl | contradiction | (simp only [if_neg c9]; done)) rfl rfl
      refine z_icmp_ne C 35 dX6_droppedByHabit_28 (by decide) (fun c6 => ?_) (fun c6 => ?_)
      · refine z_iconst (v := 0) C dX6_droppedByHabit_35 (by decide) ?_
        exact zV.at hJ7 (by first | rfl | contradiction | (simp only [if_neg c6]; done)) (by first | rfl | contradiction | (simp only [if_neg c6]; done)) rfl rfl
      · refine z_iconst (v := 1) C dX6_droppedByHabit_31 (by decide) ?_
        refine z_goto C 36 dX6_droppedByHabit_32 (by decide) ?_
        exact zV.at hJ7 (by first | rfl | contradiction | (simp only [if_pos c6]; done)) (by first | rfl | contradiction | (simp only [if_pos c6]; done)) rfl rfl
    · replace hF := ip hF c3
      refine z_iload_n C dX6_droppedByHabit_10 rfl ?_
      have hJ19 : zV G X (zQX G X (zPo G kd N0 res) 0 0) 6 [some (.ref (zB G + v0)), some (.int v1), some (.int v2), some (.int v3), some (.int v4), none] [.int (if v2 ≤ (0 : Int32) then (0 : Int32) else v4)] (cn G kd N0 S) 20 0 0 := by
        cases hF
        exact z_iret C hr dX6_droppedByHabit_20 ⟨rfl, rfl, hT⟩
      refine z_if_le C 19 dX6_droppedByHabit_11 (by decide) (fun c18 => ?_) (fun c18 => ?_)
      · refine z_iconst (v := 0) C dX6_droppedByHabit_19 (by decide) ?_
        exact zV.at hJ19 (by first | rfl | contradiction | (simp only [if_pos c18]; done)) (by first | rfl | contradiction | (simp only [if_pos c18]; done)) rfl rfl
      · refine z_iload C dX6_droppedByHabit_14 rfl ?_
        refine z_goto C 20 dX6_droppedByHabit_16 (by decide) ?_
        exact zV.at hJ19 (by first | rfl | contradiction | (simp only [if_neg c18]; done)) (by first | rfl | contradiction | (simp only [if_neg c18]; done)) rfl rfl
theorem K_X6_droppedByHabit {G : zG} {l : Launch} {kd : kD} {N0 f : Nat} {S : aS} {v0 : Nat} {v1 : Int32} {v2 : Int32} {v3 : Int32} {v4 : Int32} {res : Option Value × aS} (hT : zT0 kd N0 S) (hpv0 : v0 < N0) (hkv0 : kd v0 = .inl 5) (hF : F_X6_droppedByHabit f 0 [.ref v0, .int v1, .int v2, .int v3, .int v4] S = some res) : zM G l 0 0 0 yX6_droppedByHabit cX6_droppedByHabit 6 (some .int) [.ref (zB G + v0), .int v1, .int v2, .int v3, .int v4] (cn G kd N0 S) (zPo G kd N0 res) := zM.of (by decide) rfl (Nat.le_of_ble_eq_true rfl) (fun X _ C hr _ => (B_X6_droppedByHabit C hr f) S v0 v1 v2 v3 v4 res hT hpv0 hkv0 hF)
def F_X7_use_0 (f : Nat) (rc : Nat → List Value → aS → aR) (v0 : Nat) (v1 : Nat) (S : aS) : aR :=
  fS (sR S v0 2 v1) fun S1 => some (none, S1)
def F_X7_use : Nat → Nat → List Value → aS → aR
  | 0, _, _, _ => none
  | f + 1, 0, vs, S => F_X7_use_0 f (F_X7_use f) (vR vs 0) (vR vs 1) S
  | _ + 1, _, _, _ => none
theorem dX7_use_0 : decode cX7_use 0 = .ok (.aload_n 0, 1) := by decide +kernel
theorem dX7_use_1 : decode cX7_use 1 = .ok (.aload_n 1, 1) := by decide +kernel
theorem dX7_use_2 : decode cX7_use 2 = .ok (.putfield 33, 3) := by decide +kernel
theorem dX7_use_5 : decode cX7_use 5 = .ok (.return_, 1) := by decide +kernel
set_option maxHeartbeats 4000000 in
set_option maxRecDepth 100000 in
theorem B_X7_use {G : zG} {X : zX} {kd : kD} {N0 : Nat} (C : zCt G X 0 0 0 RX7 cX7_use 2) (hr : (zXh X).sig.returnType = none) : ∀ f : Nat,
    (∀ (S : aS) (v0 : Nat) (v1 : Nat) (res : Option Value × aS), zT0 kd N0 S → v0 < N0 → kd v0 = .inl 6 → v1 < N0 → kd v1 = .inl 5 → F_X7_use f 0 [.ref v0, .ref v1] S = some res → zV G X (zQX G X (zPo G kd N0 res) 0 0) 2 [some (.ref (zB G + v0)), some (.ref (zB G + v1))] [] (cn G kd N0 S) 0 0 0) := by
  intro f
  induction f with
  | zero => exact (fun _ _ _ _ _ _ _ _ _ h => by cases h)
  | succ f ih =>
    have ih0 := ih
    intro S v0 v1 res hT hpv0 hkv0 hpv1 hkv1 hF
    replace hF : F_X7_use_0 f (F_X7_use f) v0 v1 S = some res := hF
    unfold F_X7_use_0 at hF
    refine z_aload_n C dX7_use_0 rfl ?_
    refine z_aload_n C dX7_use_1 rfl ?_
    refine f_putr C dX7_use_2 zfRX7_33 fw6_2 hpv0 hkv0 rfl rfl rfl ?_
    have hT1 : zT0 kd N0 (sR S v0 2 v1) := zT0_sR hT hkv0 (fun q hq => by cases hq; exact ⟨hpv1, hkv1⟩) (fun h _ => by cases h)
    replace hF := fS_e hF
    generalize sR S v0 2 v1 = S1 at hF hT1 ⊢
    cases hF
    exact z_vret C hr dX7_use_5 ⟨rfl, rfl, hT1⟩
theorem K_X7_use {G : zG} {l : Launch} {kd : kD} {N0 f : Nat} {S : aS} {v0 : Nat} {v1 : Nat} {res : Option Value × aS} (hT : zT0 kd N0 S) (hpv0 : v0 < N0) (hkv0 : kd v0 = .inl 6) (hpv1 : v1 < N0) (hkv1 : kd v1 = .inl 5) (hF : F_X7_use f 0 [.ref v0, .ref v1] S = some res) : zM G l 0 0 0 yX7_use cX7_use 2 none [.ref (zB G + v0), .ref (zB G + v1)] (cn G kd N0 S) (zPo G kd N0 res) := zM.of (by decide) rfl (Nat.le_of_ble_eq_true rfl) (fun X _ C hr _ => (B_X7_use C hr f) S v0 v1 res hT hpv0 hkv0 hpv1 hkv1 hF)
def F_X7_start_0 (f : Nat) (rc : Nat → List Value → aS → aR) (v0 : Nat) (S : aS) : aR :=
  fS (sI S v0 7 7993) fun S1 => fS (sI S1 v0 8 0) fun S2 => bX 0 7 fun q4 => bV (F_X4_become f 0 [.ref (gR S2 (gR S2 v0 3) q4), .ref (gR S2 v0 0)] S2) fun S6 => some (none, S6)
def F_X7_start : Nat → Nat → List Value → aS → aR
  | 0, _, _, _ => none
  | f + 1, 0, vs, S => F_X7_start_0 f (F_X7_start f) (vR vs 0) S
  | _ + 1, _, _, _ => none
theorem dX7_start_0 : decode cX7_start 0 = .ok (.aload_n 0, 1) := by decide +kernel
theorem dX7_start_1 : decode cX7_start 1 = .ok (.sipush 7993, 3) := by decide +kernel
theorem dX7_start_4 : decode cX7_start 4 = .ok (.putfield 42, 3) := by decide +kernel
theorem dX7_start_7 : decode cX7_start 7 = .ok (.aload_n 0, 1) := by decide +kernel
theorem dX7_start_8 : decode cX7_start 8 = .ok (.iconst 0, 1) := by decide +kernel
theorem dX7_start_9 : decode cX7_start 9 = .ok (.putfield 46, 3) := by decide +kernel
theorem dX7_start_12 : decode cX7_start 12 = .ok (.aload_n 0, 1) := by decide +kernel
theorem dX7_start_13 : decode cX7_start 13 = .ok (.getfield 13, 3) := by decide +kernel
theorem dX7_start_16 : decode cX7_start 16 = .ok (.iconst 0, 1) := by decide +kernel
theorem dX7_start_17 : decode cX7_start 17 = .ok (.aaload, 1) := by decide +kernel
theorem dX7_start_18 : decode cX7_start 18 = .ok (.aload_n 0, 1) := by decide +kernel
theorem dX7_start_19 : decode cX7_start 19 = .ok (.getfield 29, 3) := by decide +kernel
theorem dX7_start_22 : decode cX7_start 22 = .ok (.invokevirtual 49, 3) := by decide +kernel
theorem dX7_start_25 : decode cX7_start 25 = .ok (.return_, 1) := by decide +kernel
set_option maxHeartbeats 4000000 in
set_option maxRecDepth 100000 in
theorem B_X7_start {G : zG} {X : zX} {kd : kD} {N0 : Nat} (C : zCt G X 1 0 0 RX7 cX7_start 1) (hr : (zXh X).sig.returnType = none) : ∀ f : Nat,
    (∀ (S : aS) (v0 : Nat) (res : Option Value × aS), zT0 kd N0 S → v0 < N0 → kd v0 = .inl 6 → F_X7_start f 0 [.ref v0] S = some res → zV G X (zQX G X (zPo G kd N0 res) 0 0) 1 [some (.ref (zB G + v0))] [] (cn G kd N0 S) 0 0 0) := by
  intro f
  induction f with
  | zero => exact (fun _ _ _ _ _ _ h => by cases h)
  | succ f ih =>
    have ih0 := ih
    intro S v0 res hT hpv0 hkv0 hF
    replace hF : F_X7_start_0 f (F_X7_start f) v0 S = some res := hF
    unfold F_X7_start_0 at hF
    refine z_aload_n C dX7_start_0 rfl ?_
    refine z_sipush (v := 7993) C dX7_start_1 (by decide) ?_
    refine f_puti C dX7_start_4 zfRX7_42 fw6_7 hpv0 hkv0 rfl rfl rfl ?_
    have hT1 : zT0 kd N0 (sI S v0 7 7993) := zT0_sI hT
    replace hF := fS_e hF
    generalize sI S v0 7 7993 = S1 at hF hT1 ⊢
    refine z_aload_n C dX7_start_7 rfl ?_
    refine z_iconst (v := 0) C dX7_start_8 (by decide) ?_
    refine f_puti C dX7_start_9 zfRX7_46 fw6_8 hpv0 hkv0 rfl rfl rfl ?_
    have hT2 : zT0 kd N0 (sI S1 v0 8 0) := zT0_sI hT1
    replace hF := fS_e hF
    generalize sI S1 v0 8 0 = S2 at hF hT2 ⊢
    refine z_aload_n C dX7_start_12 rfl ?_
    refine f_getr C dX7_start_13 zfRX7_13 hpv0 hkv0 rfl ?_
    obtain ⟨hp3, hk3⟩ := hT2.1 v0 6 3 (.inr (4, 7)) hpv0 hkv0 rfl
    refine z_iconst (v := 0) C dX7_start_16 (by decide) ?_
    obtain ⟨hi4, hF⟩ := bX_some hF
    obtain ⟨q4, eq4⟩ : ∃ q : Nat, q = Int32.toNatClampNeg 0 := ⟨_, rfl⟩
    rw [← eq4] at hF
    refine f_aald C dX7_start_17 hp3 hk3 rfl rfl rfl hi4 ?_
    obtain ⟨hp4, hk4⟩ := hT2.2.1 (gR S2 v0 3) 4 7 (.inl 3) q4 hp3 hk3 rfl (by rw [eq4]; exact Nat.not_le.mp fun z => hi4 (Or.inr z))
    rw [← eq4]
    refine z_aload_n C dX7_start_18 rfl ?_
    refine f_getr C dX7_start_19 zfRX7_29 hpv0 hkv0 rfl ?_
    obtain ⟨hp5, hk5⟩ := hT2.1 v0 6 0 (.inl 3) hpv0 hkv0 rfl
    obtain ⟨S6, h6, hF⟩ := bV_some hF
    refine f_cV (st2 := []) C dX7_start_22 zyX4_become zvX4_become lkRX7_49 (K_X4_become (l := zXl X) hT2 hp4 hk4 hp5 hk5 h6) hp4 hk4 rfl (by decide) rfl rfl (Nat.le_of_ble_eq_true rfl) rfl (fun hT6 => ?_)
    cases hF
    exact z_vret C hr dX7_start_25 ⟨rfl, rfl, hT6⟩
theorem K_X7_start {G : zG} {l : Launch} {kd : kD} {N0 f : Nat} {S : aS} {v0 : Nat} {res : Option Value × aS} (hT : zT0 kd N0 S) (hpv0 : v0 < N0) (hkv0 : kd v0 = .inl 6) (hF : F_X7_start f 0 [.ref v0] S = some res) : zM G l 1 0 0 yX7_start cX7_start 1 none [.ref (zB G + v0)] (cn G kd N0 S) (zPo G kd N0 res) := zM.of (by decide) rfl (Nat.le_of_ble_eq_true rfl) (fun X _ C hr _ => (B_X7_start C hr f) S v0 res hT hpv0 hkv0 hF)
def F_X7_offerRow_0 (f : Nat) (rc : Nat → List Value → aS → aR) (v0 : Nat) (v1 : Int32) (S : aS) : aR :=
  if (gI S v0 7) ≤ v1 then rc 1 [] S else fS (sI S v0 7 v1) fun S3 => rc 2 [.ref v0, .int 0] S3
def F_X7_offerRow_1 (f : Nat) (rc : Nat → List Value → aS → aR)  (S : aS) : aR :=
  some (none, S)
def F_X7_offerRow_2 (f : Nat) (rc : Nat → List Value → aS → aR) (v0 : Nat) (v1 : Int32) (S : aS) : aR :=
  if (gI S (gR S v0 2) 1) ≤ v1 then rc 1 [] S else bX v1 6 fun q11 => bX v1 6 fun q12 => fS (sI S (gR S v0 5) q12 (gI S (gR S v0 4) q11)) fun S13 => rc 2 [.ref v0, .int (v1 + 1)] S13
def F_X7_offerRow : Nat → Nat → List Value → aS → aR
  | 0, _, _, _ => none
  | f + 1, 0, vs, S => F_X7_offerRow_0 f (F_X7_offerRow f) (vR vs 0) (vI vs 1) S
  | f + 1, 1, vs, S => F_X7_offerRow_1 f (F_X7_offerRow f)  S
  | f + 1, 2, vs, S => F_X7_offerRow_2 f (F_X7_offerRow f) (vR vs 0) (vI vs 1) S
  | _ + 1, _, _, _ => none
theorem dX7_offerRow_0 : decode cX7_offerRow 0 = .ok (.iload_n 1, 1) := by decide +kernel
theorem dX7_offerRow_1 : decode cX7_offerRow 1 = .ok (.aload_n 0, 1) := by decide +kernel
theorem dX7_offerRow_2 : decode cX7_offerRow 2 = .ok (.getfield 42, 3) := by decide +kernel
theorem dX7_offerRow_5 : decode cX7_offerRow 5 = .ok (.if_icmp .ge 39, 3) := by decide +kernel
theorem dX7_offerRow_8 : decode cX7_offerRow 8 = .ok (.aload_n 0, 1) := by decide +kernel
theorem dX7_offerRow_9 : decode cX7_offerRow 9 = .ok (.iload_n 1, 1) := by decide +kernel
theorem dX7_offerRow_10 : decode cX7_offerRow 10 = .ok (.putfield 42, 3) := by decide +kernel
theorem dX7_offerRow_13 : decode cX7_offerRow 13 = .ok (.iconst 0, 1) := by decide +kernel
theorem dX7_offerRow_14 : decode cX7_offerRow 14 = .ok (.istore_n 2, 1) := by decide +kernel
theorem dX7_offerRow_15 : decode cX7_offerRow 15 = .ok (.iload_n 2, 1) := by decide +kernel
theorem dX7_offerRow_16 : decode cX7_offerRow 16 = .ok (.aload_n 0, 1) := by decide +kernel
theorem dX7_offerRow_17 : decode cX7_offerRow 17 = .ok (.getfield 33, 3) := by decide +kernel
theorem dX7_offerRow_20 : decode cX7_offerRow 20 = .ok (.getfield 102, 3) := by decide +kernel
theorem dX7_offerRow_23 : decode cX7_offerRow 23 = .ok (.if_icmp .ge 21, 3) := by decide +kernel
theorem dX7_offerRow_26 : decode cX7_offerRow 26 = .ok (.aload_n 0, 1) := by decide +kernel
theorem dX7_offerRow_27 : decode cX7_offerRow 27 = .ok (.getfield 21, 3) := by decide +kernel
theorem dX7_offerRow_30 : decode cX7_offerRow 30 = .ok (.iload_n 2, 1) := by decide +kernel
theorem dX7_offerRow_31 : decode cX7_offerRow 31 = .ok (.aload_n 0, 1) := by decide +kernel
theorem dX7_offerRow_32 : decode cX7_offerRow 32 = .ok (.getfield 17, 3) := by decide +kernel
theorem dX7_offerRow_35 : decode cX7_offerRow 35 = .ok (.iload_n 2, 1) := by decide +kernel
theorem dX7_offerRow_36 : decode cX7_offerRow 36 = .ok (.iaload, 1) := by decide +kernel
theorem dX7_offerRow_37 : decode cX7_offerRow 37 = .ok (.iastore, 1) := by decide +kernel
theorem dX7_offerRow_38 : decode cX7_offerRow 38 = .ok (.iinc 2 1, 3) := by decide +kernel
theorem dX7_offerRow_41 : decode cX7_offerRow 41 = .ok (.goto (-26), 3) := by decide +kernel
theorem dX7_offerRow_44 : decode cX7_offerRow 44 = .ok (.return_, 1) := by decide +kernel
set_option maxHeartbeats 4000000 in
set_option maxRecDepth 100000 in
theorem B_X7_offerRow {G : zG} {X : zX} {kd : kD} {N0 : Nat} (C : zCt G X 0 0 0 RX7 cX7_offerRow 3) (hr : (zXh X).sig.returnType = none) : ∀ f : Nat,
    (∀ (S : aS) (v0 : Nat) (v1 : Int32) (res : Option Value × aS), zT0 kd N0 S → v0 < N0 → kd v0 = .inl 6 → F_X7_offerRow f 0 [.ref v0, .int v1] S = some res → zV G X (zQX G X (zPo G kd N0 res) 0 0) 3 [some (.ref (zB G + v0)), some (.int v1), none] [] (cn G kd N0 S) 0 0 0) ∧
    (∀ (S : aS)  (res : Option Value × aS), zT0 kd N0 S → F_X7_offerRow f 1 [] S = some res → zV G X (zQX G X (zPo G kd N0 res) 0 0) 3 [none, none, none] [] (cn G kd N0 S) 44 0 0) ∧
    (∀ (S : aS) (v0 : Nat) (v1 : Int32) (res : Option Value × aS), zT0 kd N0 S → v0 < N0 → kd v0 = .inl 6 → F_X7_offerRow f 2 [.ref v0, .int v1] S = some res → zV G X (zQX G X (zPo G kd N0 res) 0 0) 3 [some (.ref (zB G + v0)), none, some (.int v1)] [] (cn G kd N0 S) 15 0 0) := by
  intro f
  induction f with
  | zero => exact ⟨(fun _ _ _ _ _ _ _ h => by cases h), (fun _ _ _ h => by cases h), (fun _ _ _ _ _ _ _ h => by cases h)⟩
  | succ f ih =>
    obtain ⟨ih0, ih1, ih2⟩ := ih
    refine ⟨?_, ?_, ?_⟩
    · intro S v0 v1 res hT hpv0 hkv0 hF
      replace hF : F_X7_offerRow_0 f (F_X7_offerRow f) v0 v1 S = some res := hF
      unfold F_X7_offerRow_0 at hF
      refine z_iload_n C dX7_offerRow_0 rfl ?_
      refine z_aload_n C dX7_offerRow_1 rfl ?_
      refine f_geti C dX7_offerRow_2 zfRX7_42 hpv0 hkv0 rfl ?_
      refine z_icmp_ge C 44 dX7_offerRow_5 (by decide) (fun c2 => ?_) (fun c2 => ?_)
      · replace hF := ip hF c2
        refine z_mask [false, false, true] ?_ rfl
        exact ih1 S  res hT  hF
      · replace hF := im hF c2
        refine z_aload_n C dX7_offerRow_8 rfl ?_
        refine z_iload_n C dX7_offerRow_9 rfl ?_
        refine f_puti C dX7_offerRow_10 zfRX7_42 fw6_7 hpv0 hkv0 rfl rfl rfl ?_
        have hT3 : zT0 kd N0 (sI S v0 7 v1) := zT0_sI hT
        replace hF := fS_e hF
        generalize sI S v0 7 v1 = S3 at hF hT3 ⊢
        refine z_iconst (v := 0) C dX7_offerRow_13 (by decide) ?_
        refine z_istore_n (lv2 := [some (.ref (zB G + v0)), some (.int v1), some (.int 0)]) C dX7_offerRow_14 (by decide) rfl ?_
        refine z_mask [true, false, true] ?_ rfl
        exact ih2 S3 v0 0 res hT3 hpv0 hkv0  hF
    · intro S  res hT  hF
      replace hF : F_X7_offerRow_1 f (F_X7_offerRow f)  S = some res := hF
      unfold F_X7_offerRow_1 at hF
      cases hF
      exact z_vret C hr dX7_offerRow_44 ⟨rfl, rfl, hT⟩
    · intro S v0 v1 res hT hpv0 hkv0 hF
      replace hF : F_X7_offerRow_2 f (F_X7_offerRow f) v0 v1 S = some res := hF
      unfold F_X7_offerRow_2 at hF
      refine z_iload_n C dX7_offerRow_15 rfl ?_
      refine z_aload_n C dX7_offerRow_16 rfl ?_
      refine f_getr C dX7_offerRow_17 zfRX7_33 hpv0 hkv0 rfl ?_
      obtain ⟨hp4, hk4⟩ := hT.1 v0 6 2 (.inl 5) hpv0 hkv0 rfl
      refine f_geti C dX7_offerRow_20 zfRX7_102 hp4 hk4 rfl ?_
      refine z_icmp_ge C 44 dX7_offerRow_23 (by decide) (fun c8 => ?_) (fun c8 => ?_)
      · replace hF := ip hF c8
        refine z_mask [false, true, false] ?_ rfl
        exact ih1 S  res hT  hF
      · replace hF := im hF c8
        refine z_aload_n C dX7_offerRow_26 rfl ?_
        refine f_getr C dX7_offerRow_27 zfRX7_21 hpv0 hkv0 rfl ?_
        obtain ⟨hp9, hk9⟩ := hT.1 v0 6 5 (.inr (0, 6)) hpv0 hkv0 rfl
        refine z_iload_n C dX7_offerRow_30 rfl ?_
        refine z_aload_n C dX7_offerRow_31 rfl ?_
        refine f_getr C dX7_offerRow_32 zfRX7_17 hpv0 hkv0 rfl ?_
        obtain ⟨hp10, hk10⟩ := hT.1 v0 6 4 (.inr (0, 6)) hpv0 hkv0 rfl
        refine z_iload_n C dX7_offerRow_35 rfl ?_
        obtain ⟨hi11, hF⟩ := bX_some hF
        obtain ⟨q11, eq11⟩ : ∃ q : Nat, q = Int32.toNatClampNeg v1 := ⟨_, rfl⟩
        rw [← eq11] at hF
        refine f_iald C dX7_offerRow_36 hp10 hk10 hi11 ?_
        rw [← eq11]
        obtain ⟨hi12, hF⟩ := bX_some hF
        obtain ⟨q12, eq12⟩ : ∃ q : Nat, q = Int32.toNatClampNeg v1 := ⟨_, rfl⟩
        rw [← eq12] at hF
        refine f_iast C dX7_offerRow_37 hp9 hk9 hi12 ?_
        rw [← eq12]
        have hT13 : zT0 kd N0 (sI S (gR S v0 5) q12 (gI S (gR S v0 4) q11)) := zT0_sI hT
        replace hF := fS_e hF
        generalize sI S (gR S v0 5) q12 (gI S (gR S v0 4) q11) = S13 at hF hT13 ⊢
        refine z_iinc (v := v1 + 1) (lv2 := [some (.ref (zB G + v0)), none, some (.int (v1 + 1))]) C dX7_offerRow_38 rfl (by rw [show Int32.ofInt 1 = (1 : Int32) from by decide]) rfl ?_
        refine z_goto C 15 dX7_offerRow_41 (by decide) ?_
        exact ih2 S13 v0 (v1 + 1) res hT13 hpv0 hkv0  hF
theorem K_X7_offerRow {G : zG} {l : Launch} {kd : kD} {N0 f : Nat} {S : aS} {v0 : Nat} {v1 : Int32} {res : Option Value × aS} (hT : zT0 kd N0 S) (hpv0 : v0 < N0) (hkv0 : kd v0 = .inl 6) (hF : F_X7_offerRow f 0 [.ref v0, .int v1] S = some res) : zM G l 0 0 0 yX7_offerRow cX7_offerRow 3 none [.ref (zB G + v0), .int v1] (cn G kd N0 S) (zPo G kd N0 res) := zM.of (by decide) rfl (Nat.le_of_ble_eq_true rfl) (fun X _ C hr _ => (B_X7_offerRow C hr f).1 S v0 v1 res hT hpv0 hkv0 hF)
def F_X7_mostAlike_0 (f : Nat) (rc : Nat → List Value → aS → aR) (v0 : Nat) (v1 : Int32) (v2 : Int32) (S : aS) : aR :=
  rc 1 [.ref v0, .int v1, .int v2, .int 0, .int 0] S
def F_X7_mostAlike_1 (f : Nat) (rc : Nat → List Value → aS → aR) (v0 : Nat) (v1 : Int32) (v2 : Int32) (v3 : Int32) (v4 : Int32) (S : aS) : aR :=
  if (gI S (gR S v0 2) 1) ≤ v4 then some (some (.int v3), S) else rc 2 [.ref v0, .int v1, .int v2, .int v3, .int v4, .int 0, .int 0] S
def F_X7_mostAlike_2 (f : Nat) (rc : Nat → List Value → aS → aR) (v0 : Nat) (v1 : Int32) (v2 : Int32) (v3 : Int32) (v4 : Int32) (v5 : Int32) (v6 : Int32) (S : aS) : aR :=
  if (gI S (gR S v0 2) 1) ≤ v6 then rc 1 [.ref v0, .int v1, .int v2, .int (if v3 < v5 then v5 else v3), .int (v4 + 1)] S else lI (if (v2 &&& ((1 : Int32) <<< (v4 &&& 31))) = (0 : Int32) then (0 : Int32) else if (v2 &&& ((1 : Int32) <<< (v6 &&& 31))) = (0 : Int32) then (0 : Int32) else (1 : Int32)) fun y14 => if y14 = (0 : Int32) then rc 3 [.ref v0, .int v1, .int v2, .int v3, .int v4, .int v6, .int v5] S else bX v4 6 fun q19 => bX v1 8 fun q20 => bX v6 6 fun q22 => bX v1 8 fun q23 => lI (v5 + (if (gI S (gR S (gR S v0 6) q19) q20) = (gI S (gR S (gR S v0 6) q22) q23) then (1 : Int32) else (0 : Int32))) fun y26 => rc 2 [.ref v0, .int v1, .int v2, .int v3, .int v4, .int y26, .int (v6 + 1)] S
def F_X7_mostAlike_3 (f : Nat) (rc : Nat → List Value → aS → aR) (v0 : Nat) (v1 : Int32) (v2 : Int32) (v3 : Int32) (v4 : Int32) (v5 : Int32) (w0 : Int32) (S : aS) : aR :=
  rc 4 [.ref v0, .int v1, .int v2, .int v3, .int v4, .int v5, .int 0, .int w0] S
def F_X7_mostAlike_4 (f : Nat) (rc : Nat → List Value → aS → aR) (v0 : Nat) (v1 : Int32) (v2 : Int32) (v3 : Int32) (v4 : Int32) (v5 : Int32) (w0 : Int32) (w1 : Int32) (S : aS) : aR :=
  rc 2 [.ref v0, .int v1, .int v2, .int v3, .int v4, .int (w1 + w0), .int (v5 + 1)] S
def F_X7_mostAlike : Nat → Nat → List Value → aS → aR
  | 0, _, _, _ => none
  | f + 1, 0, vs, S => F_X7_mostAlike_0 f (F_X7_mostAlike f) (vR vs 0) (vI vs 1) (vI vs 2) S
  | f + 1, 1, vs, S => F_X7_mostAlike_1 f (F_X7_mostAlike f) (vR vs 0) (vI vs 1) (vI vs 2) (vI vs 3) (vI vs 4) S
  | f + 1, 2, vs, S => F_X7_mostAlike_2 f (F_X7_mostAlike f) (vR vs 0) (vI vs 1) (vI vs 2) (vI vs 3) (vI vs 4) (vI vs 5) (vI vs 6) S
  | f + 1, 3, vs, S => F_X7_mostAlike_3 f (F_X7_mostAlike f) (vR vs 0) (vI vs 1) (vI vs 2) (vI vs 3) (vI vs 4) (vI vs 5) (vI vs 6) S
  | f + 1, 4, vs, S => F_X7_mostAlike_4 f (F_X7_mostAlike f) (vR vs 0) (vI vs 1) (vI vs 2) (vI vs 3) (vI vs 4) (vI vs 5) (vI vs 6) (vI vs 7) S
  | _ + 1, _, _, _ => none
theorem dX7_mostAlike_0 : decode cX7_mostAlike 0 = .ok (.iconst 0, 1) := by decide +kernel
theorem dX7_mostAlike_1 : decode cX7_mostAlike 1 = .ok (.istore_n 3, 1) := by decide +kernel
theorem dX7_mostAlike_2 : decode cX7_mostAlike 2 = .ok (.iconst 0, 1) := by decide +kernel
theorem dX7_mostAlike_3 : decode cX7_mostAlike 3 = .ok (.istore 4, 2) := by decide +kernel
theorem dX7_mostAlike_5 : decode cX7_mostAlike 5 = .ok (.iload 4, 2) := by decide +kernel
theorem dX7_mostAlike_7 : decode cX7_mostAlike 7 = .ok (.aload_n 0, 1) := by decide +kernel
theorem dX7_mostAlike_8 : decode cX7_mostAlike 8 = .ok (.getfield 33, 3) := by decide +kernel
theorem dX7_mostAlike_11 : decode cX7_mostAlike 11 = .ok (.getfield 102, 3) := by decide +kernel
theorem dX7_mostAlike_14 : decode cX7_mostAlike 14 = .ok (.if_icmp .ge 101, 3) := by decide +kernel
theorem dX7_mostAlike_17 : decode cX7_mostAlike 17 = .ok (.iconst 0, 1) := by decide +kernel
theorem dX7_mostAlike_18 : decode cX7_mostAlike 18 = .ok (.istore 5, 2) := by decide +kernel
theorem dX7_mostAlike_20 : decode cX7_mostAlike 20 = .ok (.iconst 0, 1) := by decide +kernel
theorem dX7_mostAlike_21 : decode cX7_mostAlike 21 = .ok (.istore 6, 2) := by decide +kernel
theorem dX7_mostAlike_23 : decode cX7_mostAlike 23 = .ok (.iload 6, 2) := by decide +kernel
theorem dX7_mostAlike_25 : decode cX7_mostAlike 25 = .ok (.aload_n 0, 1) := by decide +kernel
theorem dX7_mostAlike_26 : decode cX7_mostAlike 26 = .ok (.getfield 33, 3) := by decide +kernel
theorem dX7_mostAlike_29 : decode cX7_mostAlike 29 = .ok (.getfield 102, 3) := by decide +kernel
theorem dX7_mostAlike_32 : decode cX7_mostAlike 32 = .ok (.if_icmp .ge 70, 3) := by decide +kernel
theorem dX7_mostAlike_35 : decode cX7_mostAlike 35 = .ok (.iload_n 2, 1) := by decide +kernel
theorem dX7_mostAlike_36 : decode cX7_mostAlike 36 = .ok (.iconst 1, 1) := by decide +kernel
theorem dX7_mostAlike_37 : decode cX7_mostAlike 37 = .ok (.iload 4, 2) := by decide +kernel
theorem dX7_mostAlike_39 : decode cX7_mostAlike 39 = .ok (.ishl, 1) := by decide +kernel
theorem dX7_mostAlike_40 : decode cX7_mostAlike 40 = .ok (.iand, 1) := by decide +kernel
theorem dX7_mostAlike_41 : decode cX7_mostAlike 41 = .ok (.ifCond .eq 16, 3) := by decide +kernel
theorem dX7_mostAlike_44 : decode cX7_mostAlike 44 = .ok (.iload_n 2, 1) := by decide +kernel
theorem dX7_mostAlike_45 : decode cX7_mostAlike 45 = .ok (.iconst 1, 1) := by decide +kernel
theorem dX7_mostAlike_46 : decode cX7_mostAlike 46 = .ok (.iload 6, 2) := by decide +kernel
theorem dX7_mostAlike_48 : decode cX7_mostAlike 48 = .ok (.ishl, 1) := by decide +kernel
theorem dX7_mostAlike_49 : decode cX7_mostAlike 49 = .ok (.iand, 1) := by decide +kernel
theorem dX7_mostAlike_50 : decode cX7_mostAlike 50 = .ok (.ifCond .eq 7, 3) := by decide +kernel
theorem dX7_mostAlike_53 : decode cX7_mostAlike 53 = .ok (.iconst 1, 1) := by decide +kernel
theorem dX7_mostAlike_54 : decode cX7_mostAlike 54 = .ok (.goto 4, 3) := by decide +kernel
theorem dX7_mostAlike_57 : decode cX7_mostAlike 57 = .ok (.iconst 0, 1) := by decide +kernel
theorem dX7_mostAlike_58 : decode cX7_mostAlike 58 = .ok (.istore 7, 2) := by decide +kernel
theorem dX7_mostAlike_60 : decode cX7_mostAlike 60 = .ok (.iload 5, 2) := by decide +kernel
theorem dX7_mostAlike_62 : decode cX7_mostAlike 62 = .ok (.iload 7, 2) := by decide +kernel
theorem dX7_mostAlike_64 : decode cX7_mostAlike 64 = .ok (.ifCond .eq 28, 3) := by decide +kernel
theorem dX7_mostAlike_67 : decode cX7_mostAlike 67 = .ok (.aload_n 0, 1) := by decide +kernel
theorem dX7_mostAlike_68 : decode cX7_mostAlike 68 = .ok (.getfield 26, 3) := by decide +kernel
theorem dX7_mostAlike_71 : decode cX7_mostAlike 71 = .ok (.iload 4, 2) := by decide +kernel
theorem dX7_mostAlike_73 : decode cX7_mostAlike 73 = .ok (.aaload, 1) := by decide +kernel
theorem dX7_mostAlike_74 : decode cX7_mostAlike 74 = .ok (.iload_n 1, 1) := by decide +kernel
theorem dX7_mostAlike_75 : decode cX7_mostAlike 75 = .ok (.iaload, 1) := by decide +kernel
theorem dX7_mostAlike_76 : decode cX7_mostAlike 76 = .ok (.aload_n 0, 1) := by decide +kernel
theorem dX7_mostAlike_77 : decode cX7_mostAlike 77 = .ok (.getfield 26, 3) := by decide +kernel
theorem dX7_mostAlike_80 : decode cX7_mostAlike 80 = .ok (.iload 6, 2) := by decide +kernel
theorem dX7_mostAlike_82 : decode cX7_mostAlike 82 = .ok (.aaload, 1) := by decide +kernel
theorem dX7_mostAlike_83 : decode cX7_mostAlike 83 = .ok (.iload_n 1, 1) := by decide +kernel
theorem dX7_mostAlike_84 : decode cX7_mostAlike 84 = .ok (.iaload, 1) := by decide +kernel
theorem dX7_mostAlike_85 : decode cX7_mostAlike 85 = .ok (.if_icmp .ne 7, 3) := by decide +kernel
theorem dX7_mostAlike_88 : decode cX7_mostAlike 88 = .ok (.iconst 1, 1) := by decide +kernel
theorem dX7_mostAlike_89 : decode cX7_mostAlike 89 = .ok (.goto 4, 3) := by decide +kernel
theorem dX7_mostAlike_92 : decode cX7_mostAlike 92 = .ok (.iconst 0, 1) := by decide +kernel
theorem dX7_mostAlike_93 : decode cX7_mostAlike 93 = .ok (.iadd, 1) := by decide +kernel
theorem dX7_mostAlike_94 : decode cX7_mostAlike 94 = .ok (.istore 5, 2) := by decide +kernel
theorem dX7_mostAlike_96 : decode cX7_mostAlike 96 = .ok (.iinc 6 1, 3) := by decide +kernel
theorem dX7_mostAlike_99 : decode cX7_mostAlike 99 = .ok (.goto (-76), 3) := by decide +kernel
theorem dX7_mostAlike_102 : decode cX7_mostAlike 102 = .ok (.iload_n 3, 1) := by decide +kernel
theorem dX7_mostAlike_103 : decode cX7_mostAlike 103 = .ok (.iload 5, 2) := by decide +kernel
theorem dX7_mostAlike_105 : decode cX7_mostAlike 105 = .ok (.invokestatic 162, 3) := by decide +kernel
theorem dX7_mostAlike_108 : decode cX7_mostAlike 108 = .ok (.istore_n 3, 1) := by decide +kernel
theorem dX7_mostAlike_109 : decode cX7_mostAlike 109 = .ok (.iinc 4 1, 3) := by decide +kernel
theorem dX7_mostAlike_112 : decode cX7_mostAlike 112 = .ok (.goto (-107), 3) := by decide +kernel
theorem dX7_mostAlike_115 : decode cX7_mostAlike 115 = .ok (.iload_n 3, 1) := by decide +kernel
theorem dX7_mostAlike_116 : decode cX7_mostAlike 116 = .ok (.ireturn, 1) := by decide +kernel
set_option maxHeartbeats 4000000 in
set_option maxRecDepth 100000 in
theorem B_X7_mostAlike {G : zG} {X : zX} {kd : kD} {N0 : Nat} (C : zCt G X 1 0 0 RX7 cX7_mostAlike 8) (hr : (zXh X).sig.returnType = (some .int)) : ∀ f : Nat,
    (∀ (S : aS) (v0 : Nat) (v1 : Int32) (v2 : Int32) (res : Option Value × aS), zT0 kd N0 S → v0 < N0 → kd v0 = .inl 6 → F_X7_mostAlike f 0 [.ref v0, .int v1, .int v2] S = some res → zV G X (zQX G X (zPo G kd N0 res) 0 0) 8 [some (.ref (zB G + v0)), some (.int v1), some (.int v2), none, none, none, none, none] [] (cn G kd N0 S) 0 0 0) ∧
    (∀ (S : aS) (v0 : Nat) (v1 : Int32) (v2 : Int32) (v3 : Int32) (v4 : Int32) (res : Option Value × aS), zT0 kd N0 S → v0 < N0 → kd v0 = .inl 6 → F_X7_mostAlike f 1 [.ref v0, .int v1, .int v2, .int v3, .int v4] S = some res → zV G X (zQX G X (zPo G kd N0 res) 0 0) 8 [some (.ref (zB G + v0)), some (.int v1), some (.int v2), some (.int v3), some (.int v4), none, none, none] [] (cn G kd N0 S) 5 0 0) ∧
    (∀ (S : aS) (v0 : Nat) (v1 : Int32) (v2 : Int32) (v3 : Int32) (v4 : Int32) (v5 : Int32) (v6 : Int32) (res : Option Value × aS), zT0 kd N0 S → v0 < N0 → kd v0 = .inl 6 → F_X7_mostAlike f 2 [.ref v0, .int v1, .int v2, .int v3, .int v4, .int v5, .int v6] S = some res → zV G X (zQX G X (zPo G kd N0 res) 0 0) 8 [some (.ref (zB G + v0)), some (.int v1), some (.int v2), some (.int v3), some (.int v4), some (.int v5), some (.int v6), none] [] (cn G kd N0 S) 23 0 0) ∧
    (∀ (S : aS) (v0 : Nat) (v1 : Int32) (v2 : Int32) (v3 : Int32) (v4 : Int32) (v5 : Int32) (w0 : Int32) (res : Option Value × aS), zT0 kd N0 S → v0 < N0 → kd v0 = .inl 6 → F_X7_mostAlike f 3 [.ref v0, .int v1, .int v2, .int v3, .int v4, .int v5, .int w0] S = some res → zV G X (zQX G X (zPo G kd N0 res) 0 0) 8 [some (.ref (zB G + v0)), some (.int v1), some (.int v2), some (.int v3), some (.int v4), none, some (.int v5), none] [.int w0] (cn G kd N0 S) 92 0 0) ∧
    (∀ (S : aS) (v0 : Nat) (v1 : Int32) (v2 : Int32) (v3 : Int32) (v4 : Int32) (v5 : Int32) (w0 : Int32) (w1 : Int32) (res : Option Value × aS), zT0 kd N0 S → v0 < N0 → kd v0 = .inl 6 → F_X7_mostAlike f 4 [.ref v0, .int v1, .int v2, .int v3, .int v4, .int v5, .int w0, .int w1] S = some res → zV G X (zQX G X (zPo G kd N0 res) 0 0) 8 [some (.ref (zB G + v0)), some (.int v1), some (.int v2), some (.int v3), some (.int v4), none, some (.int v5), none] [.int w0, .int w1] (cn G kd N0 S) 93 0 0) := by
  intro f
  induction f with
  | zero => exact ⟨(fun _ _ _ _ _ _ _ _ h => by cases h), (fun _ _ _ _ _ _ _ _ _ _ h => by cases h), (fun _ _ _ _ _ _ _ _ _ _ _ _ h => by cases h), (fun _ _ _ _ _ _ _ _ _ _ _ _ h => by cases h), (fun _ _ _ _ _ _ _ _ _ _ _ _ _ h => by cases h)⟩
  | succ f ih =>
    obtain ⟨ih0, ih1, ih2, ih3, ih4⟩ := ih
    refine ⟨?_, ?_, ?_, ?_, ?_⟩
    · intro S v0 v1 v2 res hT hpv0 hkv0 hF
      replace hF : F_X7_mostAlike_0 f (F_X7_mostAlike f) v0 v1 v2 S = some res := hF
      unfold F_X7_mostAlike_0 at hF
      refine z_iconst (v := 0) C dX7_mostAlike_0 (by decide) ?_
      refine z_istore_n (lv2 := [some (.ref (zB G + v0)), some (.int v1), some (.int v2), some (.int 0), none, none, none, none]) C dX7_mostAlike_1 (by decide) rfl ?_
      refine z_iconst (v := 0) C dX7_mostAlike_2 (by decide) ?_
      refine z_istore (lv2 := [some (.ref (zB G + v0)), some (.int v1), some (.int v2), some (.int 0), some (.int 0), none, none, none]) C dX7_mostAlike_3 (by decide) rfl ?_
      exact ih1 S v0 v1 v2 0 0 res hT hpv0 hkv0     hF
    · intro S v0 v1 v2 v3 v4 res hT hpv0 hkv0 hF
      replace hF : F_X7_mostAlike_1 f (F_X7_mostAlike f) v0 v1 v2 v3 v4 S = some res := hF
      unfold F_X7_mostAlike_1 at hF
      refine z_iload C dX7_mostAlike_5 rfl ?_
      refine z_aload_n C dX7_mostAlike_7 rfl ?_
      refine f_getr C dX7_mostAlike_8 zfRX7_33 hpv0 hkv0 rfl ?_
      obtain ⟨hp1, hk1⟩ := hT.1 v0 6 2 (.inl 5) hpv0 hkv0 rfl
      refine f_geti C dX7_mostAlike_11 zfRX7_102 hp1 hk1 rfl ?_
      refine z_icmp_ge C 115 dX7_mostAlike_14 (by decide) (fun c5 => ?_) (fun c5 => ?_)
      · replace hF := ip hF c5
        refine z_iload_n C dX7_mostAlike_115 rfl ?_
        cases hF
        exact z_iret C hr dX7_mostAlike_116 ⟨rfl, rfl, hT⟩
      · replace hF := im hF c5
        refine z_iconst (v := 0) C dX7_mostAlike_17 (by decide) ?_
        refine z_istore (lv2 := [some (.ref (zB G + v0)), some (.int v1), some (.int v2), some (.int v3), some (.int v4), some (.int 0), none, none]) C dX7_mostAlike_18 (by decide) rfl ?_
        refine z_iconst (v := 0) C dX7_mostAlike_20 (by decide) ?_
        refine z_istore (lv2 := [some (.ref (zB G + v0)), some (.int v1), some (.int v2), some (.int v3), some (.int v4), some (.int 0), some (.int 0), none]) C dX7_mostAlike_21 (by decide) rfl ?_
        exact ih2 S v0 v1 v2 v3 v4 0 0 res hT hpv0 hkv0       hF
    · intro S v0 v1 v2 v3 v4 v5 v6 res hT hpv0 hkv0 hF
      replace hF : F_X7_mostAlike_2 f (F_X7_mostAlike f) v0 v1 v2 v3 v4 v5 v6 S = some res := hF
      unfold F_X7_mostAlike_2 at hF
      refine z_iload C dX7_mostAlike_23 rfl ?_
      refine z_aload_n C dX7_mostAlike_25 rfl ?_
      refine f_getr C dX7_mostAlike_26 zfRX7_33 hpv0 hkv0 rfl ?_
      obtain ⟨hp6, hk6⟩ := hT.1 v0 6 2 (.inl 5) hpv0 hkv0 rfl
      refine f_geti C dX7_mostAlike_29 zfRX7_102 hp6 hk6 rfl ?_
      refine z_icmp_ge C 102 dX7_mostAlike_32 (by decide) (fun c10 => ?_) (fun c10 => ?_)
      · replace hF := ip hF c10
        refine z_iload_n C dX7_mostAlike_102 rfl ?_
        refine z_iload C dX7_mostAlike_103 rfl ?_
        refine f_mmax C dX7_mostAlike_105 lkRX7_162 (by decide) (Nat.le_of_ble_eq_true rfl) ?_
        refine z_istore_n (lv2 := [some (.ref (zB G + v0)), some (.int v1), some (.int v2), some (.int (if v3 < v5 then v5 else v3)), some (.int v4), some (.int v5), some (.int v6), none]) C dX7_mostAlike_108 (by decide) rfl ?_
        refine z_iinc (v := v4 + 1) (lv2 := [some (.ref (zB G + v0)), some (.int v1), some (.int v2), some (.int (if v3 < v5 then v5 else v3)), some (.int (v4 + 1)), some (.int v5), some (.int v6), none]) C dX7_mostAlike_109 rfl (by rw [show Int32.ofInt 1 = (1 : Int32) from by decide]) rfl ?_
        refine z_goto C 5 dX7_mostAlike_112 (by decide) ?_
        refine z_mask [true, true, true, true, true, false, false, true] ?_ rfl
        exact ih1 S v0 v1 v2 (if v3 < v5 then v5 else v3) (v4 + 1) res hT hpv0 hkv0     hF
      · replace hF := im hF c10
        refine z_iload_n C dX7_mostAlike_35 rfl ?_
        refine z_iconst (v := 1) C dX7_mostAlike_36 (by decide) ?_
        refine z_iload C dX7_mostAlike_37 rfl ?_
        refine z_ishl C dX7_mostAlike_39 ?_
        refine z_iand C dX7_mostAlike_40 ?_
        have hJ13 : zV G X (zQX G X (zPo G kd N0 res) 0 0) 8 [some (.ref (zB G + v0)), some (.int v1), some (.int v2), some (.int v3), some (.int v4), some (.int v5), some (.int v6), none] [.int (if (v2 &&& ((1 : Int32) <<< (v4 &&& 31))) = (0 : Int32) then (0 : Int32) else if (v2 &&& ((1 : Int32) <<< (v6 &&& 31))) = (0 : Int32) then (0 : Int32) else (1 : Int32))] (cn G kd N0 S) 58 0 0 := by
          replace hF := lI_e hF
          generalize (if (v2 &&& ((1 : Int32) <<< (v4 &&& 31))) = (0 : Int32) then (0 : Int32) else if (v2 &&& ((1 : Int32) <<< (v6 &&& 31))) = (0 : Int32) then (0 : Int32) else (1 : Int32)) = y14 at hF ⊢
          refine z_istore (lv2 := [some (.ref (zB G + v0)), some (.int v1), some (.int v2), some (.int v3), some (.int v4), some (.int v5), some (.int v6), some (.int y14)]) C dX7_mostAlike_58 (by decide) rfl ?_
          refine z_iload C dX7_mostAlike_60 rfl ?_
          refine z_iload C dX7_mostAlike_62 rfl ?_
          refine z_if_eq C 92 dX7_mostAlike_64 (by decide) (fun c17 => ?_) (fun c17 => ?_)
          · replace hF := ip hF c17
            refine z_mask [true, true, true, true, true, false, true, false] ?_ rfl
            exact ih3 S v0 v1 v2 v3 v4 v6 v5 res hT hpv0 hkv0       hF
          · replace hF := im hF c17
            refine z_aload_n C dX7_mostAlike_67 rfl ?_
            refine f_getr C dX7_mostAlike_68 zfRX7_26 hpv0 hkv0 rfl ?_
            obtain ⟨hp18, hk18⟩ := hT.1 v0 6 6 (.inr (6, 6)) hpv0 hkv0 rfl
            refine z_iload C dX7_mostAlike_71 rfl ?_
            obtain ⟨hi19, hF⟩ := bX_some hF
            obtain ⟨q19, eq19⟩ : ∃ q : Nat, q = Int32.toNatClampNeg v4 := ⟨_, rfl⟩
            rw [← eq19] at hF
            refine f_aald C dX7_mostAlike_73 hp18 hk18 rfl rfl rfl hi19 ?_
            obtain ⟨hp19, hk19⟩ := hT.2.1 (gR S v0 6) 6 6 (.inr (0, 8)) q19 hp18 hk18 rfl (by rw [eq19]; exact Nat.not_le.mp fun z => hi19 (Or.inr z))
            rw [← eq19]
            refine z_iload_n C dX7_mostAlike_74 rfl ?_
            obtain ⟨hi20, hF⟩ := bX_some hF
            obtain ⟨q20, eq20⟩ : ∃ q : Nat, q = Int32.toNatClampNeg v1 := ⟨_, rfl⟩
            rw [← eq20] at hF
            refine f_iald C dX7_mostAlike_75 hp19 hk19 hi20 ?_
            rw [← eq20]
            refine z_aload_n C dX7_mostAlike_76 rfl ?_
            refine f_getr C dX7_mostAlike_77 zfRX7_26 hpv0 hkv0 rfl ?_
            obtain ⟨hp21, hk21⟩ := hT.1 v0 6 6 (.inr (6, 6)) hpv0 hkv0 rfl
            refine z_iload C dX7_mostAlike_80 rfl ?_
            obtain ⟨hi22, hF⟩ := bX_some hF
            obtain ⟨q22, eq22⟩ : ∃ q : Nat, q = Int32.toNatClampNeg v6 := ⟨_, rfl⟩
            rw [← eq22] at hF
            refine f_aald C dX7_mostAlike_82 hp21 hk21 rfl rfl rfl hi22 ?_
            obtain ⟨hp22, hk22⟩ := hT.2.1 (gR S v0 6) 6 6 (.inr (0, 8)) q22 hp21 hk21 rfl (by rw [eq22]; exact Nat.not_le.mp fun z => hi22 (Or.inr z))
            rw [← eq22]
            refine z_iload_n C dX7_mostAlike_83 rfl ?_
            obtain ⟨hi23, hF⟩ := bX_some hF
            obtain ⟨q23, eq23⟩ : ∃ q : Nat, q = Int32.toNatClampNeg v1 := ⟨_, rfl⟩
            rw [← eq23] at hF
            refine f_iald C dX7_mostAlike_84 hp22 hk22 hi23 ?_
            rw [← eq23]
            have hJ25 : zV G X (zQX G X (zPo G kd N0 res) 0 0) 8 [some (.ref (zB G + v0)), some (.int v1), some (.int v2), some (.int v3), some (.int v4), some (.int v5), some (.int v6), some (.int y14)] [.int (if (gI S (gR S (gR S v0 6) q19) q20) = (gI S (gR S (gR S v0 6) q22) q23) then (1 : Int32) else (0 : Int32)), .int v5] (cn G kd N0 S) 93 0 0 := by
              refine z_iadd C dX7_mostAlike_93 ?_
              replace hF := lI_e hF
              generalize (v5 + (if (gI S (gR S (gR S v0 6) q19) q20) = (gI S (gR S (gR S v0 6) q22) q23) then (1 : Int32) else (0 : Int32))) = y26 at hF ⊢
              refine z_istore (lv2 := [some (.ref (zB G + v0)), some (.int v1), some (.int v2), some (.int v3), some (.int v4), some (.int y26), some (.int v6), some (.int y14)]) C dX7_mostAlike_94 (by decide) rfl ?_
              refine z_iinc (v := v6 + 1) (lv2 := [some (.ref (zB G + v0)), some (.int v1), some (.int v2), some (.int v3), some (.int v4), some (.int y26), some (.int (v6 + 1)), some (.int y14)]) C dX7_mostAlike_96 rfl (by rw [show Int32.ofInt 1 = (1 : Int32) from by decide]) rfl ?_
              refine z_goto C 23 dX7_mostAlike_99 (by decide) ?_
              refine z_mask [true, true, true, true, true, true, true, false] ?_ rfl
              exact ih2 S v0 v1 v2 v3 v4 y26 (v6 + 1) res hT hpv0 hkv0       hF
            refine z_icmp_ne C 92 dX7_mostAlike_85 (by decide) (fun c24 => ?_) (fun c24 => ?_)
            · refine z_iconst (v := 0) C dX7_mostAlike_92 (by decide) ?_
              exact zV.at hJ25 (by first | rfl | contradiction | (simp only [if_neg c24]; done)) (by first | rfl | contradiction | (simp only [if_neg c24]; done)) rfl rfl
            · refine z_iconst (v := 1) C dX7_mostAlike_88 (by decide) ?_
              refine z_goto C 93 dX7_mostAlike_89 (by decide) ?_
              exact zV.at hJ25 (by first | rfl | contradiction | (simp only [if_pos c24]; done)) (by first | rfl | contradiction | (simp only [if_pos c24]; done)) rfl rfl
        refine z_if_eq C 57 dX7_mostAlike_41 (by decide) (fun c11 => ?_) (fun c11 => ?_)
        · refine z_iconst (v := 0) C dX7_mostAlike_57 (by decide) ?_
          exact zV.at hJ13 (by first | rfl | contradiction | (simp only [if_pos c11]; done)) (by first | rfl | contradiction | (simp only [if_pos c11]; done)) rfl rfl
        · refine z_iload_n C dX7_mostAlike_44 rfl ?_
          refine z_iconst (v := 1) C dX7_mostAlike_45 (by decide) ?_
          refine z_iload C dX7_mostAlike_46 rfl ?_
          refine z_ishl C dX7_mostAlike_48 ?_
          refine z_iand C dX7_mostAlike_49 ?_
          refine z_if_eq C 57 dX7_mostAlike_50 (by decide) (fun c12 => ?_) (fun c12 => ?_)
          · refine z_iconst (v := 0) C dX7_mostAlike_57 (by decide) ?_
            exact zV.at hJ13 (by first | rfl | contradiction | (simp only [if_neg c11, if_pos c12]; done)) (by first | rfl | contradiction | (simp only [if_neg c11, if_pos c12]; done)) rfl rfl
          · refine z_iconst (v := 1) C dX7_mostAlike_53 (by decide) ?_
            refine z_goto C 58 dX7_mostAlike_54 (by decide) ?_
            exact zV.at hJ13 (by first | rfl | contradiction | (simp only [if_neg c11, if_neg c12]; done)) (by first | rfl | contradiction | (simp only [if_neg c11, if_neg c12]; done)) rfl rfl
    · intro S v0 v1 v2 v3 v4 v5 w0 res hT hpv0 hkv0 hF
      replace hF : F_X7_mostAlike_3 f (F_X7_mostAlike f) v0 v1 v2 v3 v4 v5 w0 S = some res := hF
      unfold F_X7_mostAlike_3 at hF
      refine z_iconst (v := 0) C dX7_mostAlike_92 (by decide) ?_
      exact ih4 S v0 v1 v2 v3 v4 v5 0 w0 res hT hpv0 hkv0        hF
    · intro S v0 v1 v2 v3 v4 v5 w0 w1 res hT hpv0 hkv0 hF
      replace hF : F_X7_mostAlike_4 f (F_X7_mostAlike f) v0 v1 v2 v3 v4 v5 w0 w1 S = some res := hF
      unfold F_X7_mostAlike_4 at hF
      refine z_iadd C dX7_mostAlike_93 ?_
      refine z_istore (lv2 := [some (.ref (zB G + v0)), some (.int v1), some (.int v2), some (.int v3), some (.int v4), some (.int (w1 + w0)), some (.int v5), none]) C dX7_mostAlike_94 (by decide) rfl ?_
      refine z_iinc (v := v5 + 1) (lv2 := [some (.ref (zB G + v0)), some (.int v1), some (.int v2), some (.int v3), some (.int v4), some (.int (w1 + w0)), some (.int (v5 + 1)), none]) C dX7_mostAlike_96 rfl (by rw [show Int32.ofInt 1 = (1 : Int32) from by decide]) rfl ?_
      refine z_goto C 23 dX7_mostAlike_99 (by decide) ?_
      exact ih2 S v0 v1 v2 v3 v4 (w1 + w0) (v5 + 1) res hT hpv0 hkv0       hF
theorem K_X7_mostAlike {G : zG} {l : Launch} {kd : kD} {N0 f : Nat} {S : aS} {v0 : Nat} {v1 : Int32} {v2 : Int32} {res : Option Value × aS} (hT : zT0 kd N0 S) (hpv0 : v0 < N0) (hkv0 : kd v0 = .inl 6) (hF : F_X7_mostAlike f 0 [.ref v0, .int v1, .int v2] S = some res) : zM G l 1 0 0 yX7_mostAlike cX7_mostAlike 8 (some .int) [.ref (zB G + v0), .int v1, .int v2] (cn G kd N0 S) (zPo G kd N0 res) := zM.of (by decide) rfl (Nat.le_of_ble_eq_true rfl) (fun X _ C hr _ => (B_X7_mostAlike C hr f).1 S v0 v1 v2 res hT hpv0 hkv0 hF)

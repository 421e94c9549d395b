def F_X2_clear_0 (f : Nat) (rc : Nat → List Value → aS → aR) (v0 : Nat) (S : aS) : aR :=
  fS (sI S v0 1 0) fun S1 => some (none, S1)
def F_X2_clear : Nat → Nat → List Value → aS → aR
  | 0, _, _, _ => none
  | f + 1, 0, vs, S => F_X2_clear_0 f (F_X2_clear f) (vR vs 0) S
  | _ + 1, _, _, _ => none
theorem dX2_clear_0 : decode cX2_clear 0 = .ok (.aload_n 0, 1) := by decide +kernel
theorem dX2_clear_1 : decode cX2_clear 1 = .ok (.iconst 0, 1) := by decide +kernel
theorem dX2_clear_2 : decode cX2_clear 2 = .ok (.putfield 15, 3) := by decide +kernel
theorem dX2_clear_5 : decode cX2_clear 5 = .ok (.return_, 1) := by decide +kernel
set_option maxHeartbeats 4000000 in
set_option maxRecDepth 100000 in
theorem B_X2_clear {G : zG} {X : zX} {kd : kD} {N0 : Nat} (C : zCt G X 0 0 0 RX2 cX2_clear 1) (hr : (zXh X).sig.returnType = none) : ∀ f : Nat,
    (∀ (S : aS) (v0 : Nat) (res : Option Value × aS), zT0 kd N0 S → v0 < N0 → kd v0 = .inl 1 → F_X2_clear f 0 [.ref v0] S = some res → zV G X (zQX G X (zPo G kd N0 res) 0 0) 1 [some (.ref (zB G + v0))] [] (cn G kd N0 S) 0 0 0) := by
  intro f
  induction f with
  | zero => exact (fun _ _ _ _ _ _ h => by cases h)
  | succ f ih =>
    have ih0 := ih
    intro S v0 res hT hpv0 hkv0 hF
    replace hF : F_X2_clear_0 f (F_X2_clear f) v0 S = some res := hF
    unfold F_X2_clear_0 at hF
    refine z_aload_n C dX2_clear_0 rfl ?_
    refine z_iconst (v := 0) C dX2_clear_1 (by decide) ?_
    refine f_puti C dX2_clear_2 zfRX2_15 fw1_1 hpv0 hkv0 rfl rfl rfl ?_
    have hT1 : zT0 kd N0 (sI S v0 1 0) := zT0_sI hT
    replace hF := fS_e hF
    generalize sI S v0 1 0 = S1 at hF hT1 ⊢
    cases hF
    exact z_vret C hr dX2_clear_5 ⟨rfl, rfl, hT1⟩
theorem K_X2_clear {G : zG} {l : Launch} {kd : kD} {N0 f : Nat} {S : aS} {v0 : Nat} {res : Option Value × aS} (hT : zT0 kd N0 S) (hpv0 : v0 < N0) (hkv0 : kd v0 = .inl 1) (hF : F_X2_clear f 0 [.ref v0] S = some res) : zM G l 0 0 0 yX2_clear cX2_clear 1 none [.ref (zB G + v0)] (cn G kd N0 S) (zPo G kd N0 res) := zM.of (by decide) rfl (Nat.le_of_ble_eq_true rfl) (fun X _ C hr _ => (B_X2_clear C hr f) S v0 res hT hpv0 hkv0 hF)
def F_X2_set_0 (f : Nat) (rc : Nat → List Value → aS → aR) (v0 : Nat) (v1 : Int32) (v2 : Int32) (S : aS) : aR :=
  bX v1 8 fun q2 => fS (sI S (gR S v0 0) q2 v2) fun S3 => fS (sI S3 v0 1 ((gI S3 v0 1) ||| (1 <<< (v1 &&& 31)))) fun S4 => some (none, S4)
def F_X2_set : Nat → Nat → List Value → aS → aR
  | 0, _, _, _ => none
  | f + 1, 0, vs, S => F_X2_set_0 f (F_X2_set f) (vR vs 0) (vI vs 1) (vI vs 2) S
  | _ + 1, _, _, _ => none
theorem dX2_set_0 : decode cX2_set 0 = .ok (.aload_n 0, 1) := by decide +kernel
theorem dX2_set_1 : decode cX2_set 1 = .ok (.getfield 9, 3) := by decide +kernel
theorem dX2_set_4 : decode cX2_set 4 = .ok (.iload_n 1, 1) := by decide +kernel
theorem dX2_set_5 : decode cX2_set 5 = .ok (.iload_n 2, 1) := by decide +kernel
theorem dX2_set_6 : decode cX2_set 6 = .ok (.iastore, 1) := by decide +kernel
theorem dX2_set_7 : decode cX2_set 7 = .ok (.aload_n 0, 1) := by decide +kernel
theorem dX2_set_8 : decode cX2_set 8 = .ok (.dup, 1) := by decide +kernel
theorem dX2_set_9 : decode cX2_set 9 = .ok (.getfield 15, 3) := by decide +kernel
theorem dX2_set_12 : decode cX2_set 12 = .ok (.iconst 1, 1) := by decide +kernel
theorem dX2_set_13 : decode cX2_set 13 = .ok (.iload_n 1, 1) := by decide +kernel
theorem dX2_set_14 : decode cX2_set 14 = .ok (.ishl, 1) := by decide +kernel
theorem dX2_set_15 : decode cX2_set 15 = .ok (.ior, 1) := by decide +kernel
theorem dX2_set_16 : decode cX2_set 16 = .ok (.putfield 15, 3) := by decide +kernel
theorem dX2_set_19 : decode cX2_set 19 = .ok (.return_, 1) := by decide +kernel
set_option maxHeartbeats 4000000 in
set_option maxRecDepth 100000 in
theorem B_X2_set {G : zG} {X : zX} {kd : kD} {N0 : Nat} (C : zCt G X 0 0 0 RX2 cX2_set 3) (hr : (zXh X).sig.returnType = none) : ∀ f : Nat,
    (∀ (S : aS) (v0 : Nat) (v1 : Int32) (v2 : Int32) (res : Option Value × aS), zT0 kd N0 S → v0 < N0 → kd v0 = .inl 1 → F_X2_set f 0 [.ref v0, .int v1, .int v2] S = some res → zV G X (zQX G X (zPo G kd N0 res) 0 0) 3 [some (.ref (zB G + v0)), some (.int v1), some (.int v2)] [] (cn G kd N0 S) 0 0 0) := by
  intro f
  induction f with
  | zero => exact (fun _ _ _ _ _ _ _ _ h => by cases h)
  | succ f ih =>
    have ih0 := ih
    intro S v0 v1 v2 res hT hpv0 hkv0 hF
    replace hF : F_X2_set_0 f (F_X2_set f) v0 v1 v2 S = some res := hF
    unfold F_X2_set_0 at hF
    refine z_aload_n C dX2_set_0 rfl ?_
    refine f_getr C dX2_set_1 zfRX2_9 hpv0 hkv0 rfl ?_
    obtain ⟨hp1, hk1⟩ := hT.1 v0 1 0 (.inr (0, 8)) hpv0 hkv0 rfl
    refine z_iload_n C dX2_set_4 rfl ?_
    refine z_iload_n C dX2_set_5 rfl ?_
    obtain ⟨hi2, hF⟩ := bX_some hF
    obtain ⟨q2, eq2⟩ : ∃ q : Nat, q = Int32.toNatClampNeg v1 := ⟨_, rfl⟩
    rw [← eq2] at hF
    refine f_iast C dX2_set_6 hp1 hk1 hi2 ?_
    rw [← eq2]
    have hT3 : zT0 kd N0 (sI S (gR S v0 0) q2 v2) := zT0_sI hT
    replace hF := fS_e hF
    generalize sI S (gR S v0 0) q2 v2 = S3 at hF hT3 ⊢
    refine z_aload_n C dX2_set_7 rfl ?_
    refine z_dup C dX2_set_8 rfl ?_
    refine f_geti C dX2_set_9 zfRX2_15 hpv0 hkv0 rfl ?_
    refine z_iconst (v := 1) C dX2_set_12 (by decide) ?_
    refine z_iload_n C dX2_set_13 rfl ?_
    refine z_ishl C dX2_set_14 ?_
    refine z_ior C dX2_set_15 ?_
    refine f_puti C dX2_set_16 zfRX2_15 fw1_1 hpv0 hkv0 rfl rfl rfl ?_
    have hT4 : zT0 kd N0 (sI S3 v0 1 ((gI S3 v0 1) ||| (1 <<< (v1 &&& 31)))) := zT0_sI hT3
    replace hF := fS_e hF
    generalize sI S3 v0 1 ((gI S3 v0 1) ||| (1 <<< (v1 &&& 31))) = S4 at hF hT4 ⊢
    cases hF
    exact z_vret C hr dX2_set_19 ⟨rfl, rfl, hT4⟩
theorem K_X2_set {G : zG} {l : Launch} {kd : kD} {N0 f : Nat} {S : aS} {v0 : Nat} {v1 : Int32} {v2 : Int32} {res : Option Value × aS} (hT : zT0 kd N0 S) (hpv0 : v0 < N0) (hkv0 : kd v0 = .inl 1) (hF : F_X2_set f 0 [.ref v0, .int v1, .int v2] S = some res) : zM G l 0 0 0 yX2_set cX2_set 3 none [.ref (zB G + v0), .int v1, .int v2] (cn G kd N0 S) (zPo G kd N0 res) := zM.of (by decide) rfl (Nat.le_of_ble_eq_true rfl) (fun X _ C hr _ => (B_X2_set C hr f) S v0 v1 v2 res hT hpv0 hkv0 hF)
def F_X2_become_0 (f : Nat) (rc : Nat → List Value → aS → aR) (v0 : Nat) (v1 : Nat) (S : aS) : aR :=
  fS (sI S v0 1 (gI S v1 1)) fun S1 => rc 1 [.ref v0, .ref v1, .int 0] S1
def F_X2_become_1 (f : Nat) (rc : Nat → List Value → aS → aR) (v0 : Nat) (v1 : Nat) (v2 : Int32) (S : aS) : aR :=
  if 8 ≤ v2 then some (none, S) else bX v2 8 fun q8 => bX v2 8 fun q9 => fS (sI S (gR S v0 0) q9 (gI S (gR S v1 0) q8)) fun S10 => rc 1 [.ref v0, .ref v1, .int (v2 + 1)] S10
def F_X2_become : Nat → Nat → List Value → aS → aR
  | 0, _, _, _ => none
  | f + 1, 0, vs, S => F_X2_become_0 f (F_X2_become f) (vR vs 0) (vR vs 1) S
  | f + 1, 1, vs, S => F_X2_become_1 f (F_X2_become f) (vR vs 0) (vR vs 1) (vI vs 2) S
  | _ + 1, _, _, _ => none
theorem dX2_become_0 : decode cX2_become 0 = .ok (.aload_n 0, 1) := by decide +kernel
theorem dX2_become_1 : decode cX2_become 1 = .ok (.aload_n 1, 1) := by decide +kernel
theorem dX2_become_2 : decode cX2_become 2 = .ok (.getfield 15, 3) := by decide +kernel
theorem dX2_become_5 : decode cX2_become 5 = .ok (.putfield 15, 3) := by decide +kernel
theorem dX2_become_8 : decode cX2_become 8 = .ok (.iconst 0, 1) := by decide +kernel
theorem dX2_become_9 : decode cX2_become 9 = .ok (.istore_n 2, 1) := by decide +kernel
theorem dX2_become_10 : decode cX2_become 10 = .ok (.iload_n 2, 1) := by decide +kernel
theorem dX2_become_11 : decode cX2_become 11 = .ok (.bipush 8, 2) := by decide +kernel
theorem dX2_become_13 : decode cX2_become 13 = .ok (.if_icmp .ge 21, 3) := by decide +kernel
theorem dX2_become_16 : decode cX2_become 16 = .ok (.aload_n 0, 1) := by decide +kernel
theorem dX2_become_17 : decode cX2_become 17 = .ok (.getfield 9, 3) := by decide +kernel
theorem dX2_become_20 : decode cX2_become 20 = .ok (.iload_n 2, 1) := by decide +kernel
theorem dX2_become_21 : decode cX2_become 21 = .ok (.aload_n 1, 1) := by decide +kernel
theorem dX2_become_22 : decode cX2_become 22 = .ok (.getfield 9, 3) := by decide +kernel
theorem dX2_become_25 : decode cX2_become 25 = .ok (.iload_n 2, 1) := by decide +kernel
theorem dX2_become_26 : decode cX2_become 26 = .ok (.iaload, 1) := by decide +kernel
theorem dX2_become_27 : decode cX2_become 27 = .ok (.iastore, 1) := by decide +kernel
theorem dX2_become_28 : decode cX2_become 28 = .ok (.iinc 2 1, 3) := by decide +kernel
theorem dX2_become_31 : decode cX2_become 31 = .ok (.goto (-21), 3) := by decide +kernel
theorem dX2_become_34 : decode cX2_become 34 = .ok (.return_, 1) := by decide +kernel
set_option maxHeartbeats 4000000 in
set_option maxRecDepth 100000 in
theorem B_X2_become {G : zG} {X : zX} {kd : kD} {N0 : Nat} (C : zCt G X 0 0 0 RX2 cX2_become 3) (hr : (zXh X).sig.returnType = none) : ∀ f : Nat,
    (∀ (S : aS) (v0 : Nat) (v1 : Nat) (res : Option Value × aS), zT0 kd N0 S → v0 < N0 → kd v0 = .inl 1 → v1 < N0 → kd v1 = .inl 1 → F_X2_become f 0 [.ref v0, .ref v1] S = some res → zV G X (zQX G X (zPo G kd N0 res) 0 0) 3 [some (.ref (zB G + v0)), some (.ref (zB G + v1)), none] [] (cn G kd N0 S) 0 0 0) ∧
    (∀ (S : aS) (v0 : Nat) (v1 : Nat) (v2 : Int32) (res : Option Value × aS), zT0 kd N0 S → v0 < N0 → kd v0 = .inl 1 → v1 < N0 → kd v1 = .inl 1 → F_X2_become f 1 [.ref v0, .ref v1, .int v2] S = some res → zV G X (zQX G X (zPo G kd N0 res) 0 0) 3 [some (.ref (zB G + v0)), some (.ref (zB G + v1)), some (.int v2)] [] (cn G kd N0 S) 10 0 0) := by
  intro f
  induction f with
  | zero => exact ⟨(fun _ _ _ _ _ _ _ _ _ h => by cases h), (fun _ _ _ _ _ _ _ _ _ _ h => by cases h)⟩
  | succ f ih =>
    obtain ⟨ih0, ih1⟩ := ih
    refine ⟨?_, ?_⟩
    · intro S v0 v1 res hT hpv0 hkv0 hpv1 hkv1 hF
      replace hF : F_X2_become_0 f (F_X2_become f) v0 v1 S = some res := hF
      unfold F_X2_become_0 at hF
      refine z_aload_n C dX2_become_0 rfl ?_
      refine z_aload_n C dX2_become_1 rfl ?_
      refine f_geti C dX2_become_2 zfRX2_15 hpv1 hkv1 rfl ?_
      refine f_puti C dX2_become_5 zfRX2_15 fw1_1 hpv0 hkv0 rfl rfl rfl ?_
      have hT1 : zT0 kd N0 (sI S v0 1 (gI S v1 1)) := zT0_sI hT
      replace hF := fS_e hF
      generalize sI S v0 1 (gI S v1 1) = S1 at hF hT1 ⊢
      refine z_iconst (v := 0) C dX2_become_8 (by decide) ?_
      refine z_istore_n (lv2 := [some (.ref (zB G + v0)), some (.ref (zB G + v1)), some (.int 0)]) C dX2_become_9 (by decide) rfl ?_
      exact ih1 S1 v0 v1 0 res hT1 hpv0 hkv0 hpv1 hkv1  hF
    · intro S v0 v1 v2 res hT hpv0 hkv0 hpv1 hkv1 hF
      replace hF : F_X2_become_1 f (F_X2_become f) v0 v1 v2 S = some res := hF
      unfold F_X2_become_1 at hF
      refine z_iload_n C dX2_become_10 rfl ?_
      refine z_bipush (v := 8) C dX2_become_11 (by decide) ?_
      refine z_icmp_ge C 34 dX2_become_13 (by decide) (fun c5 => ?_) (fun c5 => ?_)
      · replace hF := ip hF c5
        cases hF
        exact z_vret C hr dX2_become_34 ⟨rfl, rfl, hT⟩
      · replace hF := im hF c5
        refine z_aload_n C dX2_become_16 rfl ?_
        refine f_getr C dX2_become_17 zfRX2_9 hpv0 hkv0 rfl ?_
        obtain ⟨hp6, hk6⟩ := hT.1 v0 1 0 (.inr (0, 8)) hpv0 hkv0 rfl
        refine z_iload_n C dX2_become_20 rfl ?_
        refine z_aload_n C dX2_become_21 rfl ?_
        refine f_getr C dX2_become_22 zfRX2_9 hpv1 hkv1 rfl ?_
        obtain ⟨hp7, hk7⟩ := hT.1 v1 1 0 (.inr (0, 8)) hpv1 hkv1 rfl
        refine z_iload_n C dX2_become_25 rfl ?_
        obtain ⟨hi8, hF⟩ := bX_some hF
        obtain ⟨q8, eq8⟩ : ∃ q : Nat, q = Int32.toNatClampNeg v2 := ⟨_, rfl⟩
        rw [← eq8] at hF
        refine f_iald C dX2_become_26 hp7 hk7 hi8 ?_
        rw [← eq8]
        obtain ⟨hi9, hF⟩ := bX_some hF
        obtain ⟨q9, eq9⟩ : ∃ q : Nat, q = Int32.toNatClampNeg v2 := ⟨_, rfl⟩
        rw [← eq9] at hF
        refine f_iast C dX2_become_27 hp6 hk6 hi9 ?_
        rw [← eq9]
        have hT10 : zT0 kd N0 (sI S (gR S v0 0) q9 (gI S (gR S v1 0) q8)) := zT0_sI hT
        replace hF := fS_e hF
        generalize sI S (gR S v0 0) q9 (gI S (gR S v1 0) q8) = S10 at hF hT10 ⊢
        refine z_iinc (v := v2 + 1) (lv2 := [some (.ref (zB G + v0)), some (.ref (zB G + v1)), some (.int (v2 + 1))]) C dX2_become_28 rfl (by rw [show Int32.ofInt 1 = (1 : Int32) from by decide]) rfl ?_
        refine z_goto C 10 dX2_become_31 (by decide) ?_
        exact ih1 S10 v0 v1 (v2 + 1) res hT10 hpv0 hkv0 hpv1 hkv1  hF
theorem K_X2_become {G : zG} {l : Launch} {kd : kD} {N0 f : Nat} {S : aS} {v0 : Nat} {v1 : Nat} {res : Option Value × aS} (hT : zT0 kd N0 S) (hpv0 : v0 < N0) (hkv0 : kd v0 = .inl 1) (hpv1 : v1 < N0) (hkv1 : kd v1 = .inl 1) (hF : F_X2_become f 0 [.ref v0, .ref v1] S = some res) : zM G l 0 0 0 yX2_become cX2_become 3 none [.ref (zB G + v0), .ref (zB G + v1)] (cn G kd N0 S) (zPo G kd N0 res) := zM.of (by decide) rfl (Nat.le_of_ble_eq_true rfl) (fun X _ C hr _ => (B_X2_become C hr f).1 S v0 v1 res hT hpv0 hkv0 hpv1 hkv1 hF)
def F_X2_agrees_0 (f : Nat) (rc : Nat → List Value → aS → aR) (v0 : Nat) (v1 : Nat) (v2 : Int32) (S : aS) : aR :=
  rc 1 [.ref v0, .ref v1, .int v2, .int 0] S
def F_X2_agrees_1 (f : Nat) (rc : Nat → List Value → aS → aR) (v0 : Nat) (v1 : Nat) (v2 : Int32) (v3 : Int32) (S : aS) : aR :=
  if v2 ≤ v3 then bZ 1 (some (some (.int 1), S)) else if ((gI S v0 1) &&& (1 <<< (v3 &&& 31))) = 0 then rc 2 [.ref v0, .ref v1, .int v2, .int v3] S else bX v3 8 fun q3 => bX v3 8 fun q5 => if (gI S v1 q3) = (gI S (gR S v0 0) q5) then rc 2 [.ref v0, .ref v1, .int v2, .int v3] S else bZ 0 (some (some (.int 0), S))
def F_X2_agrees_2 (f : Nat) (rc : Nat → List Value → aS → aR) (v0 : Nat) (v1 : Nat) (v2 : Int32) (v3 : Int32) (S : aS) : aR :=
  rc 1 [.ref v0, .ref v1, .int v2, .int (v3 + 1)] S
def F_X2_agrees : Nat → Nat → List Value → aS → aR
  | 0, _, _, _ => none
  | f + 1, 0, vs, S => F_X2_agrees_0 f (F_X2_agrees f) (vR vs 0) (vR vs 1) (vI vs 2) S
  | f + 1, 1, vs, S => F_X2_agrees_1 f (F_X2_agrees f) (vR vs 0) (vR vs 1) (vI vs 2) (vI vs 3) S
  | f + 1, 2, vs, S => F_X2_agrees_2 f (F_X2_agrees f) (vR vs 0) (vR vs 1) (vI vs 2) (vI vs 3) S
  | _ + 1, _, _, _ => none
theorem dX2_agrees_0 : decode cX2_agrees 0 = .ok (.iconst 0, 1) := by decide +kernel
theorem dX2_agrees_1 : decode cX2_agrees 1 = .ok (.istore_n 3, 1) := by decide +kernel
theorem dX2_agrees_2 : decode cX2_agrees 2 = .ok (.iload_n 3, 1) := by decide +kernel
theorem dX2_agrees_3 : decode cX2_agrees 3 = .ok (.iload_n 2, 1) := by decide +kernel
theorem dX2_agrees_4 : decode cX2_agrees 4 = .ok (.if_icmp .ge 34, 3) := by decide +kernel
theorem dX2_agrees_7 : decode cX2_agrees 7 = .ok (.aload_n 0, 1) := by decide +kernel
theorem dX2_agrees_8 : decode cX2_agrees 8 = .ok (.getfield 15, 3) := by decide +kernel
theorem dX2_agrees_11 : decode cX2_agrees 11 = .ok (.iconst 1, 1) := by decide +kernel
theorem dX2_agrees_12 : decode cX2_agrees 12 = .ok (.iload_n 3, 1) := by decide +kernel
theorem dX2_agrees_13 : decode cX2_agrees 13 = .ok (.ishl, 1) := by decide +kernel
theorem dX2_agrees_14 : decode cX2_agrees 14 = .ok (.iand, 1) := by decide +kernel
theorem dX2_agrees_15 : decode cX2_agrees 15 = .ok (.ifCond .eq 17, 3) := by decide +kernel
theorem dX2_agrees_18 : decode cX2_agrees 18 = .ok (.aload_n 1, 1) := by decide +kernel
theorem dX2_agrees_19 : decode cX2_agrees 19 = .ok (.iload_n 3, 1) := by decide +kernel
theorem dX2_agrees_20 : decode cX2_agrees 20 = .ok (.iaload, 1) := by decide +kernel
theorem dX2_agrees_21 : decode cX2_agrees 21 = .ok (.aload_n 0, 1) := by decide +kernel
theorem dX2_agrees_22 : decode cX2_agrees 22 = .ok (.getfield 9, 3) := by decide +kernel
theorem dX2_agrees_25 : decode cX2_agrees 25 = .ok (.iload_n 3, 1) := by decide +kernel
theorem dX2_agrees_26 : decode cX2_agrees 26 = .ok (.iaload, 1) := by decide +kernel
theorem dX2_agrees_27 : decode cX2_agrees 27 = .ok (.if_icmp .eq 5, 3) := by decide +kernel
theorem dX2_agrees_30 : decode cX2_agrees 30 = .ok (.iconst 0, 1) := by decide +kernel
theorem dX2_agrees_31 : decode cX2_agrees 31 = .ok (.ireturn, 1) := by decide +kernel
theorem dX2_agrees_32 : decode cX2_agrees 32 = .ok (.iinc 3 1, 3) := by decide +kernel
theorem dX2_agrees_35 : decode cX2_agrees 35 = .ok (.goto (-33), 3) := by decide +kernel
theorem dX2_agrees_38 : decode cX2_agrees 38 = .ok (.iconst 1, 1) := by decide +kernel
theorem dX2_agrees_39 : decode cX2_agrees 39 = .ok (.ireturn, 1) := by decide +kernel
set_option maxHeartbeats 4000000 in
set_option maxRecDepth 100000 in
theorem B_X2_agrees {G : zG} {X : zX} {kd : kD} {N0 : Nat} (C : zCt G X 0 0 0 RX2 cX2_agrees 4) (hr : (zXh X).sig.returnType = (some .boolean)) : ∀ f : Nat,
    (∀ (S : aS) (v0 : Nat) (v1 : Nat) (v2 : Int32) (res : Option Value × aS), zT0 kd N0 S → v0 < N0 → kd v0 = .inl 1 → v1 < N0 → kd v1 = .inr (0, 8) → F_X2_agrees f 0 [.ref v0, .ref v1, .int v2] S = some res → zV G X (zQX G X (zPo G kd N0 res) 0 0) 4 [some (.ref (zB G + v0)), some (.ref (zB G + v1)), some (.int v2), none] [] (cn G kd N0 S) 0 0 0) ∧
    (∀ (S : aS) (v0 : Nat) (v1 : Nat) (v2 : Int32) (v3 : Int32) (res : Option Value × aS), zT0 kd N0 S → v0 < N0 → kd v0 = .inl 1 → v1 < N0 → kd v1 = .inr (0, 8) → F_X2_agrees f 1 [.ref v0, .ref v1, .int v2, .int v3] S = some res → zV G X (zQX G X (zPo G kd N0 res) 0 0) 4 [some (.ref (zB G + v0)), some (.ref (zB G + v1)), some (.int v2), some (.int v3)] [] (cn G kd N0 S) 2 0 0) ∧
    (∀ (S : aS) (v0 : Nat) (v1 : Nat) (v2 : Int32) (v3 : Int32) (res : Option Value × aS), zT0 kd N0 S → v0 < N0 → kd v0 = .inl 1 → v1 < N0 → kd v1 = .inr (0, 8) → F_X2_agrees f 2 [.ref v0, .ref v1, .int v2, .int v3] S = some res → zV G X (zQX G X (zPo G kd N0 res) 0 0) 4 [some (.ref (zB G + v0)), some (.ref (zB G + v1)), some (.int v2), some (.int v3)] [] (cn G kd N0 S) 32 0 0) := by
  intro f
  induction f with
  | zero => exact ⟨(fun _ _ _ _ _ _ _ _ _ _ h => by cases h), (fun _ _ _ _ _ _ _ _ _ _ _ h => by cases h), (fun _ _ _ _ _ _ _ _ _ _ _ h => by cases h)⟩
  | succ f ih =>
    obtain ⟨ih0, ih1, ih2⟩ := ih
    refine ⟨?_, ?_, ?_⟩
    · intro S v0 v1 v2 res hT hpv0 hkv0 hpv1 hkv1 hF
      replace hF : F_X2_agrees_0 f (F_X2_agrees f) v0 v1 v2 S = some res := hF
      unfold F_X2_agrees_0 at hF
      refine z_iconst (v := 0) C dX2_agrees_0 (by decide) ?_
      refine z_istore_n (lv2 := [some (.ref (zB G + v0)), some (.ref (zB G + v1)), some (.int v2), some (.int 0)]) C dX2_agrees_1 (by decide) rfl ?_
      exact ih1 S v0 v1 v2 0 res hT hpv0 hkv0 hpv1 hkv1   hF
    · intro S v0 v1 v2 v3 res hT hpv0 hkv0 hpv1 hkv1 hF
      replace hF : F_X2_agrees_1 f (F_X2_agrees f) v0 v1 v2 v3 S = some res := hF
      unfold F_X2_agrees_1 at hF
      refine z_iload_n C dX2_agrees_2 rfl ?_
      refine z_iload_n C dX2_agrees_3 rfl ?_
      refine z_icmp_ge C 38 dX2_agrees_4 (by decide) (fun c1 => ?_) (fun c1 => ?_)
      · replace hF := ip hF c1
        refine z_iconst (v := 1) C dX2_agrees_38 (by decide) ?_
        obtain ⟨hz, hF⟩ := bZ_some hF
        cases hF
        exact z_zret C hr hz.1 dX2_agrees_39 ⟨rfl, rfl, hT⟩
      · replace hF := im hF c1
        refine z_aload_n C dX2_agrees_7 rfl ?_
        refine f_geti C dX2_agrees_8 zfRX2_15 hpv0 hkv0 rfl ?_
        refine z_iconst (v := 1) C dX2_agrees_11 (by decide) ?_
        refine z_iload_n C dX2_agrees_12 rfl ?_
        refine z_ishl C dX2_agrees_13 ?_
        refine z_iand C dX2_agrees_14 ?_
        refine z_if_eq C 32 dX2_agrees_15 (by decide) (fun c2 => ?_) (fun c2 => ?_)
        · replace hF := ip hF c2
          exact ih2 S v0 v1 v2 v3 res hT hpv0 hkv0 hpv1 hkv1   hF
        · replace hF := im hF c2
          refine z_aload_n C dX2_agrees_18 rfl ?_
          refine z_iload_n C dX2_agrees_19 rfl ?_
          obtain ⟨hi3, hF⟩ := bX_some hF
          obtain ⟨q3, eq3⟩ : ∃ q : Nat, q = Int32.toNatClampNeg v3 := ⟨_, rfl⟩
          rw [← eq3] at hF
          refine f_iald C dX2_agrees_20 hpv1 hkv1 hi3 ?_
          rw [← eq3]
          refine z_aload_n C dX2_agrees_21 rfl ?_
          refine f_getr C dX2_agrees_22 zfRX2_9 hpv0 hkv0 rfl ?_
          obtain ⟨hp4, hk4⟩ := hT.1 v0 1 0 (.inr (0, 8)) hpv0 hkv0 rfl
          refine z_iload_n C dX2_agrees_25 rfl ?_
          obtain ⟨hi5, hF⟩ := bX_some hF
          obtain ⟨q5, eq5⟩ : ∃ q : Nat, q = Int32.toNatClampNeg v3 := ⟨_, rfl⟩
          rw [← eq5] at hF
          refine f_iald C dX2_agrees_26 hp4 hk4 hi5 ?_
          rw [← eq5]
          refine z_icmp_eq C 32 dX2_agrees_27 (by decide) (fun c6 => ?_) (fun c6 => ?_)
          · replace hF := ip hF c6
            exact ih2 S v0 v1 v2 v3 res hT hpv0 hkv0 hpv1 hkv1   hF
          · replace hF := im hF c6
            refine z_iconst (v := 0) C dX2_agrees_30 (by decide) ?_
            obtain ⟨hz, hF⟩ := bZ_some hF
            cases hF
            exact z_zret C hr hz.1 dX2_agrees_31 ⟨rfl, rfl, hT⟩
    · intro S v0 v1 v2 v3 res hT hpv0 hkv0 hpv1 hkv1 hF
      replace hF : F_X2_agrees_2 f (F_X2_agrees f) v0 v1 v2 v3 S = some res := hF
      unfold F_X2_agrees_2 at hF
      refine z_iinc (v := v3 + 1) (lv2 := [some (.ref (zB G + v0)), some (.ref (zB G + v1)), some (.int v2), some (.int (v3 + 1))]) C dX2_agrees_32 rfl (by rw [show Int32.ofInt 1 = (1 : Int32) from by decide]) rfl ?_
      refine z_goto C 2 dX2_agrees_35 (by decide) ?_
      exact ih1 S v0 v1 v2 (v3 + 1) res hT hpv0 hkv0 hpv1 hkv1   hF
theorem K_X2_agrees {G : zG} {l : Launch} {kd : kD} {N0 f : Nat} {S : aS} {v0 : Nat} {v1 : Nat} {v2 : Int32} {res : Option Value × aS} (hT : zT0 kd N0 S) (hpv0 : v0 < N0) (hkv0 : kd v0 = .inl 1) (hpv1 : v1 < N0) (hkv1 : kd v1 = .inr (0, 8)) (hF : F_X2_agrees f 0 [.ref v0, .ref v1, .int v2] S = some res) : zM G l 0 0 0 yX2_agrees cX2_agrees 4 (some .boolean) [.ref (zB G + v0), .ref (zB G + v1), .int v2] (cn G kd N0 S) (zPo G kd N0 res) := zM.of (by decide) rfl (Nat.le_of_ble_eq_true rfl) (fun X _ C hr _ => (B_X2_agrees C hr f).1 S v0 v1 v2 res hT hpv0 hkv0 hpv1 hkv1 hF)
def F_X4_begin_0 (f : Nat) (rc : Nat → List Value → aS → aR) (v0 : Nat) (v1 : Nat) (S : aS) : aR :=
  fS (sI S v0 0 (gI S v1 0)) fun S1 => fS (sI S1 v0 4 0) fun S2 => fS (sI S2 v0 5 0) fun S3 => fS (sI S3 v0 6 0) fun S4 => fS (sI S4 v0 7 0) fun S5 => fS (sI S5 v0 8 (gI S5 v1 11)) fun S6 => rc 1 [.ref v0, .ref v1, .int 0] S6
def F_X4_begin_1 (f : Nat) (rc : Nat → List Value → aS → aR) (v0 : Nat) (v1 : Nat) (v2 : Int32) (S : aS) : aR :=
  if 8 ≤ v2 then some (none, S) else if (gI S v0 0) ≤ v2 then rc 2 [.ref v0, .ref v1, .int v2, .int 0, .int v2, .ref (gR S v0 1)] S else bX v2 8 fun q16 => rc 2 [.ref v0, .ref v1, .int v2, .int (gI S (gR S v1 7) q16), .int v2, .ref (gR S v0 1)] S
def F_X4_begin_2 (f : Nat) (rc : Nat → List Value → aS → aR) (v0 : Nat) (v1 : Nat) (v2 : Int32) (w0 : Int32) (w1 : Int32) (w2 : Nat) (S : aS) : aR :=
  bX w1 8 fun q17 => fS (sI S w2 q17 w0) fun S18 => if (gI S18 v0 0) ≤ v2 then rc 3 [.ref v0, .ref v1, .int v2, .int 0, .int v2, .ref (gR S18 v0 2)] S18 else bX v2 8 fun q24 => rc 3 [.ref v0, .ref v1, .int v2, .int (gI S18 (gR S18 v1 6) q24), .int v2, .ref (gR S18 v0 2)] S18
def F_X4_begin_3 (f : Nat) (rc : Nat → List Value → aS → aR) (v0 : Nat) (v1 : Nat) (v2 : Int32) (w0 : Int32) (w1 : Int32) (w2 : Nat) (S : aS) : aR :=
  bX w1 8 fun q25 => fS (sI S w2 q25 w0) fun S26 => bX v2 8 fun q28 => fS (sI S26 (gR S26 v0 3) q28 0) fun S29 => rc 1 [.ref v0, .ref v1, .int (v2 + 1)] S29
def F_X4_begin : Nat → Nat → List Value → aS → aR
  | 0, _, _, _ => none
  | f + 1, 0, vs, S => F_X4_begin_0 f (F_X4_begin f) (vR vs 0) (vR vs 1) S
  | f + 1, 1, vs, S => F_X4_begin_1 f (F_X4_begin f) (vR vs 0) (vR vs 1) (vI vs 2) S
  | f + 1, 2, vs, S => F_X4_begin_2 f (F_X4_begin f) (vR vs 0) (vR vs 1) (vI vs 2) (vI vs 3) (vI vs 4) (vR vs 5) S
  | f + 1, 3, vs, S => F_X4_begin_3 f (F_X4_begin f) (vR vs 0) (vR vs 1) (vI vs 2) (vI vs 3) (vI vs 4) (vR vs 5) S
  | _ + 1, _, _, _ => none
theorem dX4_begin_0 : decode cX4_begin 0 = .ok (.aload_n 0, 1) := by decide +kernel
theorem dX4_begin_1 : decode cX4_begin 1 = .ok (.aload_n 1, 1) := by decide +kernel
theorem dX4_begin_2 : decode cX4_begin 2 = .ok (.getfield 21, 3) := by decide +kernel
theorem dX4_begin_5 : decode cX4_begin 5 = .ok (.putfield 27, 3) := by decide +kernel
theorem dX4_begin_8 : decode cX4_begin 8 = .ok (.aload_n 0, 1) := by decide +kernel
theorem dX4_begin_9 : decode cX4_begin 9 = .ok (.iconst 0, 1) := by decide +kernel
theorem dX4_begin_10 : decode cX4_begin 10 = .ok (.putfield 28, 3) := by decide +kernel
theorem dX4_begin_13 : decode cX4_begin 13 = .ok (.aload_n 0, 1) := by decide +kernel
theorem dX4_begin_14 : decode cX4_begin 14 = .ok (.iconst 0, 1) := by decide +kernel
theorem dX4_begin_15 : decode cX4_begin 15 = .ok (.putfield 31, 3) := by decide +kernel
theorem dX4_begin_18 : decode cX4_begin 18 = .ok (.aload_n 0, 1) := by decide +kernel
theorem dX4_begin_19 : decode cX4_begin 19 = .ok (.iconst 0, 1) := by decide +kernel
theorem dX4_begin_20 : decode cX4_begin 20 = .ok (.putfield 34, 3) := by decide +kernel
theorem dX4_begin_23 : decode cX4_begin 23 = .ok (.aload_n 0, 1) := by decide +kernel
theorem dX4_begin_24 : decode cX4_begin 24 = .ok (.iconst 0, 1) := by decide +kernel
theorem dX4_begin_25 : decode cX4_begin 25 = .ok (.putfield 37, 3) := by decide +kernel
theorem dX4_begin_28 : decode cX4_begin 28 = .ok (.aload_n 0, 1) := by decide +kernel
theorem dX4_begin_29 : decode cX4_begin 29 = .ok (.aload_n 1, 1) := by decide +kernel
theorem dX4_begin_30 : decode cX4_begin 30 = .ok (.getfield 40, 3) := by decide +kernel
theorem dX4_begin_33 : decode cX4_begin 33 = .ok (.putfield 43, 3) := by decide +kernel
theorem dX4_begin_36 : decode cX4_begin 36 = .ok (.iconst 0, 1) := by decide +kernel
theorem dX4_begin_37 : decode cX4_begin 37 = .ok (.istore_n 2, 1) := by decide +kernel
theorem dX4_begin_38 : decode cX4_begin 38 = .ok (.iload_n 2, 1) := by decide +kernel
theorem dX4_begin_39 : decode cX4_begin 39 = .ok (.bipush 8, 2) := by decide +kernel
theorem dX4_begin_41 : decode cX4_begin 41 = .ok (.if_icmp .ge 64, 3) := by decide +kernel
theorem dX4_begin_44 : decode cX4_begin 44 = .ok (.aload_n 0, 1) := by decide +kernel
theorem dX4_begin_45 : decode cX4_begin 45 = .ok (.getfield 9, 3) := by decide +kernel
theorem dX4_begin_48 : decode cX4_begin 48 = .ok (.iload_n 2, 1) := by decide +kernel
theorem dX4_begin_49 : decode cX4_begin 49 = .ok (.iload_n 2, 1) := by decide +kernel
theorem dX4_begin_50 : decode cX4_begin 50 = .ok (.aload_n 0, 1) := by decide +kernel
theorem dX4_begin_51 : decode cX4_begin 51 = .ok (.getfield 27, 3) := by decide +kernel
theorem dX4_begin_54 : decode cX4_begin 54 = .ok (.if_icmp .ge 12, 3) := by decide +kernel
theorem dX4_begin_57 : decode cX4_begin 57 = .ok (.aload_n 1, 1) := by decide +kernel
theorem dX4_begin_58 : decode cX4_begin 58 = .ok (.getfield 44, 3) := by decide +kernel
theorem dX4_begin_61 : decode cX4_begin 61 = .ok (.iload_n 2, 1) := by decide +kernel
theorem dX4_begin_62 : decode cX4_begin 62 = .ok (.iaload, 1) := by decide +kernel
theorem dX4_begin_63 : decode cX4_begin 63 = .ok (.goto 4, 3) := by decide +kernel
theorem dX4_begin_66 : decode cX4_begin 66 = .ok (.iconst 0, 1) := by decide +kernel
theorem dX4_begin_67 : decode cX4_begin 67 = .ok (.iastore, 1) := by decide +kernel
theorem dX4_begin_68 : decode cX4_begin 68 = .ok (.aload_n 0, 1) := by decide +kernel
theorem dX4_begin_69 : decode cX4_begin 69 = .ok (.getfield 15, 3) := by decide +kernel
theorem dX4_begin_72 : decode cX4_begin 72 = .ok (.iload_n 2, 1) := by decide +kernel
theorem dX4_begin_73 : decode cX4_begin 73 = .ok (.iload_n 2, 1) := by decide +kernel
theorem dX4_begin_74 : decode cX4_begin 74 = .ok (.aload_n 0, 1) := by decide +kernel
theorem dX4_begin_75 : decode cX4_begin 75 = .ok (.getfield 27, 3) := by decide +kernel
theorem dX4_begin_78 : decode cX4_begin 78 = .ok (.if_icmp .ge 12, 3) := by decide +kernel
theorem dX4_begin_81 : decode cX4_begin 81 = .ok (.aload_n 1, 1) := by decide +kernel
theorem dX4_begin_82 : decode cX4_begin 82 = .ok (.getfield 45, 3) := by decide +kernel
theorem dX4_begin_85 : decode cX4_begin 85 = .ok (.iload_n 2, 1) := by decide +kernel
theorem dX4_begin_86 : decode cX4_begin 86 = .ok (.iaload, 1) := by decide +kernel
theorem dX4_begin_87 : decode cX4_begin 87 = .ok (.goto 4, 3) := by decide +kernel
theorem dX4_begin_90 : decode cX4_begin 90 = .ok (.iconst 0, 1) := by decide +kernel
theorem dX4_begin_91 : decode cX4_begin 91 = .ok (.iastore, 1) := by decide +kernel
theorem dX4_begin_92 : decode cX4_begin 92 = .ok (.aload_n 0, 1) := by decide +kernel
theorem dX4_begin_93 : decode cX4_begin 93 = .ok (.getfield 18, 3) := by decide +kernel
theorem dX4_begin_96 : decode cX4_begin 96 = .ok (.iload_n 2, 1) := by decide +kernel
theorem dX4_begin_97 : decode cX4_begin 97 = .ok (.iconst 0, 1) := by decide +kernel
theorem dX4_begin_98 : decode cX4_begin 98 = .ok (.iastore, 1) := by decide +kernel
theorem dX4_begin_99 : decode cX4_begin 99 = .ok (.iinc 2 1, 3) := by decide +kernel
theorem dX4_begin_102 : decode cX4_begin 102 = .ok (.goto (-64), 3) := by decide +kernel
theorem dX4_begin_105 : decode cX4_begin 105 = .ok (.return_, 1) := by decide +kernel
set_option maxHeartbeats 4000000 in
set_option maxRecDepth 100000 in
theorem B_X4_begin {G : zG} {X : zX} {kd : kD} {N0 : Nat} (C : zCt G X 0 0 0 RX4 cX4_begin 3) (hr : (zXh X).sig.returnType = none) : ∀ f : Nat,
    (∀ (S : aS) (v0 : Nat) (v1 : Nat) (res : Option Value × aS), zT0 kd N0 S → v0 < N0 → kd v0 = .inl 3 → v1 < N0 → kd v1 = .inl 5 → F_X4_begin f 0 [.ref v0, .ref v1] S = some res → zV G X (zQX G X (zPo G kd N0 res) 0 0) 3 [some (.ref (zB G + v0)), some (.ref (zB G + v1)), none] [] (cn G kd N0 S) 0 0 0) ∧
    (∀ (S : aS) (v0 : Nat) (v1 : Nat) (v2 : Int32) (res : Option Value × aS), zT0 kd N0 S → v0 < N0 → kd v0 = .inl 3 → v1 < N0 → kd v1 = .inl 5 → F_X4_begin f 1 [.ref v0, .ref v1, .int v2] S = some res → zV G X (zQX G X (zPo G kd N0 res) 0 0) 3 [some (.ref (zB G + v0)), some (.ref (zB G + v1)), some (.int v2)] [] (cn G kd N0 S) 38 0 0) ∧
    (∀ (S : aS) (v0 : Nat) (v1 : Nat) (v2 : Int32) (w0 : Int32) (w1 : Int32) (w2 : Nat) (res : Option Value × aS), zT0 kd N0 S → v0 < N0 → kd v0 = .inl 3 → v1 < N0 → kd v1 = .inl 5 → w2 < N0 → kd w2 = .inr (0, 8) → F_X4_begin f 2 [.ref v0, .ref v1, .int v2, .int w0, .int w1, .ref w2] S = some res → zV G X (zQX G X (zPo G kd N0 res) 0 0) 3 [some (.ref (zB G + v0)), some (.ref (zB G + v1)), some (.int v2)] [.int w0, .int w1, .ref (zB G + w2)] (cn G kd N0 S) 67 0 0) ∧
    (∀ (S : aS) (v0 : Nat) (v1 : Nat) (v2 : Int32) (w0 : Int32) (w1 : Int32) (w2 : Nat) (res : Option Value × aS), zT0 kd N0 S → v0 < N0 → kd v0 = .inl 3 → v1 < N0 → kd v1 = .inl 5 → w2 < N0 → kd w2 = .inr (0, 8) → F_X4_begin f 3 [.ref v0, .ref v1, .int v2, .int w0, .int w1, .ref w2] S = some res → zV G X (zQX G X (zPo G kd N0 res) 0 0) 3 [some (.ref (zB G + v0)), some (.ref (zB G + v1)), some (.int v2)] [.int w0, .int w1, .ref (zB G + w2)] (cn G kd N0 S) 91 0 0) := by
  intro f
  induction f with
  | zero => exact ⟨(fun _ _ _ _ _ _ _ _ _ h => by cases h), (fun _ _ _ _ _ _ _ _ _ _ h => by cases h), (fun _ _ _ _ _ _ _ _ _ _ _ _ _ _ _ h => by cases h), (fun _ _ _ _ _ _ _ _ _ _ _ _ _ _ _ h => by cases h)⟩
  | succ f ih =>
    obtain ⟨ih0, ih1, ih2, ih3⟩ := ih
    refine ⟨?_, ?_, ?_, ?_⟩
    · intro S v0 v1 res hT hpv0 hkv0 hpv1 hkv1 hF
      replace hF : F_X4_begin_0 f (F_X4_begin f) v0 v1 S = some res := hF
      unfold F_X4_begin_0 at hF
      refine z_aload_n C dX4_begin_0 rfl ?_
      refine z_aload_n C dX4_begin_1 rfl ?_
      refine f_geti C dX4_begin_2 zfRX4_21 hpv1 hkv1 rfl ?_
      refine f_puti C dX4_begin_5 zfRX4_27 fw3_0 hpv0 hkv0 rfl rfl rfl ?_
      have hT1 : zT0 kd N0 (sI S v0 0 (gI S v1 0)) := zT0_sI hT
      replace hF := fS_e hF
      generalize sI S v0 0 (gI S v1 0) = S1 at hF hT1 ⊢
      refine z_aload_n C dX4_begin_8 rfl ?_
      refine z_iconst (v := 0) C dX4_begin_9 (by decide) ?_
      refine f_puti C dX4_begin_10 zfRX4_28 fw3_4 hpv0 hkv0 rfl rfl rfl ?_
      have hT2 : zT0 kd N0 (sI S1 v0 4 0) := zT0_sI hT1
      replace hF := fS_e hF
      generalize sI S1 v0 4 0 = S2 at hF hT2 ⊢
      refine z_aload_n C dX4_begin_13 rfl ?_
      refine z_iconst (v := 0) C dX4_begin_14 (by decide) ?_
      refine f_puti C dX4_begin_15 zfRX4_31 fw3_5 hpv0 hkv0 rfl rfl rfl ?_
      have hT3 : zT0 kd N0 (sI S2 v0 5 0) := zT0_sI hT2
      replace hF := fS_e hF
      generalize sI S2 v0 5 0 = S3 at hF hT3 ⊢
      refine z_aload_n C dX4_begin_18 rfl ?_
      refine z_iconst (v := 0) C dX4_begin_19 (by decide) ?_
      refine f_puti C dX4_begin_20 zfRX4_34 fw3_6 hpv0 hkv0 rfl rfl rfl ?_
      have hT4 : zT0 kd N0 (sI S3 v0 6 0) := zT0_sI hT3
      replace hF := fS_e hF
      generalize sI S3 v0 6 0 = S4 at hF hT4 ⊢
      refine z_aload_n C dX4_begin_23 rfl ?_
      refine z_iconst (v := 0) C dX4_begin_24 (by decide) ?_
      refine f_puti C dX4_begin_25 zfRX4_37 fw3_7 hpv0 hkv0 rfl rfl rfl ?_
      have hT5 : zT0 kd N0 (sI S4 v0 7 0) := zT0_sI hT4
      replace hF := fS_e hF
      generalize sI S4 v0 7 0 = S5 at hF hT5 ⊢
      refine z_aload_n C dX4_begin_28 rfl ?_
      refine z_aload_n C dX4_begin_29 rfl ?_
      refine f_geti C dX4_begin_30 zfRX4_40 hpv1 hkv1 rfl ?_
      refine f_puti C dX4_begin_33 zfRX4_43 fw3_8 hpv0 hkv0 rfl rfl rfl ?_
      have hT6 : zT0 kd N0 (sI S5 v0 8 (gI S5 v1 11)) := zT0_sI hT5
      replace hF := fS_e hF
      generalize sI S5 v0 8 (gI S5 v1 11) = S6 at hF hT6 ⊢
      refine z_iconst (v := 0) C dX4_begin_36 (by decide) ?_
      refine z_istore_n (lv2 := [some (.ref (zB G + v0)), some (.ref (zB G + v1)), some (.int 0)]) C dX4_begin_37 (by decide) rfl ?_
      exact ih1 S6 v0 v1 0 res hT6 hpv0 hkv0 hpv1 hkv1  hF
    · intro S v0 v1 v2 res hT hpv0 hkv0 hpv1 hkv1 hF
      replace hF : F_X4_begin_1 f (F_X4_begin f) v0 v1 v2 S = some res := hF
      unfold F_X4_begin_1 at hF
      refine z_iload_n C dX4_begin_38 rfl ?_
      refine z_bipush (v := 8) C dX4_begin_39 (by decide) ?_
      refine z_icmp_ge C 105 dX4_begin_41 (by decide) (fun c10 => ?_) (fun c10 => ?_)
      · replace hF := ip hF c10
        cases hF
        exact z_vret C hr dX4_begin_105 ⟨rfl, rfl, hT⟩
      · replace hF := im hF c10
        refine z_aload_n C dX4_begin_44 rfl ?_
        refine f_getr C dX4_begin_45 zfRX4_9 hpv0 hkv0 rfl ?_
        obtain ⟨hp11, hk11⟩ := hT.1 v0 3 1 (.inr (0, 8)) hpv0 hkv0 rfl
        refine z_iload_n C dX4_begin_48 rfl ?_
        refine z_iload_n C dX4_begin_49 rfl ?_
        refine z_aload_n C dX4_begin_50 rfl ?_
        refine f_geti C dX4_begin_51 zfRX4_27 hpv0 hkv0 rfl ?_
        refine z_icmp_ge C 66 dX4_begin_54 (by decide) (fun c14 => ?_) (fun c14 => ?_)
        · replace hF := ip hF c14
          refine z_iconst (v := 0) C dX4_begin_66 (by decide) ?_
          exact ih2 S v0 v1 v2 0 v2 (gR S v0 1) res hT hpv0 hkv0 hpv1 hkv1    hp11 hk11 hF
        · replace hF := im hF c14
          refine z_aload_n C dX4_begin_57 rfl ?_
          refine f_getr C dX4_begin_58 zfRX4_44 hpv1 hkv1 rfl ?_
          obtain ⟨hp15, hk15⟩ := hT.1 v1 5 7 (.inr (0, 8)) hpv1 hkv1 rfl
          refine z_iload_n C dX4_begin_61 rfl ?_
          obtain ⟨hi16, hF⟩ := bX_some hF
          obtain ⟨q16, eq16⟩ : ∃ q : Nat, q = Int32.toNatClampNeg v2 := ⟨_, rfl⟩
          rw [← eq16] at hF
          refine f_iald C dX4_begin_62 hp15 hk15 hi16 ?_
          rw [← eq16]
          refine z_goto C 67 dX4_begin_63 (by decide) ?_
          exact ih2 S v0 v1 v2 (gI S (gR S v1 7) q16) v2 (gR S v0 1) res hT hpv0 hkv0 hpv1 hkv1    hp11 hk11 hF
    · intro S v0 v1 v2 w0 w1 w2 res hT hpv0 hkv0 hpv1 hkv1 hpw2 hkw2 hF
      replace hF : F_X4_begin_2 f (F_X4_begin f) v0 v1 v2 w0 w1 w2 S = some res := hF
      unfold F_X4_begin_2 at hF
      obtain ⟨hi17, hF⟩ := bX_some hF
      obtain ⟨q17, eq17⟩ : ∃ q : Nat, q = Int32.toNatClampNeg w1 := ⟨_, rfl⟩
      rw [← eq17] at hF
      refine f_iast C dX4_begin_67 hpw2 hkw2 hi17 ?_
      rw [← eq17]
      have hT18 : zT0 kd N0 (sI S w2 q17 w0) := zT0_sI hT
      replace hF := fS_e hF
      generalize sI S w2 q17 w0 = S18 at hF hT18 ⊢
      refine z_aload_n C dX4_begin_68 rfl ?_
      refine f_getr C dX4_begin_69 zfRX4_15 hpv0 hkv0 rfl ?_
      obtain ⟨hp19, hk19⟩ := hT18.1 v0 3 2 (.inr (0, 8)) hpv0 hkv0 rfl
      refine z_iload_n C dX4_begin_72 rfl ?_
      refine z_iload_n C dX4_begin_73 rfl ?_
      refine z_aload_n C dX4_begin_74 rfl ?_
      refine f_geti C dX4_begin_75 zfRX4_27 hpv0 hkv0 rfl ?_
      refine z_icmp_ge C 90 dX4_begin_78 (by decide) (fun c22 => ?_) (fun c22 => ?_)
      · replace hF := ip hF c22
        refine z_iconst (v := 0) C dX4_begin_90 (by decide) ?_
        exact ih3 S18 v0 v1 v2 0 v2 (gR S18 v0 2) res hT18 hpv0 hkv0 hpv1 hkv1    hp19 hk19 hF
      · replace hF := im hF c22
        refine z_aload_n C dX4_begin_81 rfl ?_
        refine f_getr C dX4_begin_82 zfRX4_45 hpv1 hkv1 rfl ?_
        obtain ⟨hp23, hk23⟩ := hT18.1 v1 5 6 (.inr (0, 8)) hpv1 hkv1 rfl
        refine z_iload_n C dX4_begin_85 rfl ?_
        obtain ⟨hi24, hF⟩ := bX_some hF
        obtain ⟨q24, eq24⟩ : ∃ q : Nat, q = Int32.toNatClampNeg v2 := ⟨_, rfl⟩
        rw [← eq24] at hF
        refine f_iald C dX4_begin_86 hp23 hk23 hi24 ?_
        rw [← eq24]
        refine z_goto C 91 dX4_begin_87 (by decide) ?_
        exact ih3 S18 v0 v1 v2 (gI S18 (gR S18 v1 6) q24) v2 (gR S18 v0 2) res hT18 hpv0 hkv0 hpv1 hkv1    hp19 hk19 hF
    · intro S v0 v1 v2 w0 w1 w2 res hT hpv0 hkv0 hpv1 hkv1 hpw2 hkw2 hF
      replace hF : F_X4_begin_3 f (F_X4_begin f) v0 v1 v2 w0 w1 w2 S = some res := hF
      unfold F_X4_begin_3 at hF
      obtain ⟨hi25, hF⟩ := bX_some hF
      obtain ⟨q25, eq25⟩ : ∃ q : Nat, q = Int32.toNatClampNeg w1 := ⟨_, rfl⟩
      rw [← eq25] at hF
      refine f_iast C dX4_begin_91 hpw2 hkw2 hi25 ?_
      rw [← eq25]
      have hT26 : zT0 kd N0 (sI S w2 q25 w0) := zT0_sI hT
      replace hF := fS_e hF
      generalize sI S w2 q25 w0 = S26 at hF hT26 ⊢
      refine z_aload_n C dX4_begin_92 rfl ?_
      refine f_getr C dX4_begin_93 zfRX4_18 hpv0 hkv0 rfl ?_
      obtain ⟨hp27, hk27⟩ := hT26.1 v0 3 3 (.inr (0, 8)) hpv0 hkv0 rfl
      refine z_iload_n C dX4_begin_96 rfl ?_
      refine z_iconst (v := 0) C dX4_begin_97 (by decide) ?_
      obtain ⟨hi28, hF⟩ := bX_some hF
      obtain ⟨q28, eq28⟩ : ∃ q : Nat, q = Int32.toNatClampNeg v2 := ⟨_, rfl⟩
      rw [← eq28] at hF
      refine f_iast C dX4_begin_98 hp27 hk27 hi28 ?_
      rw [← eq28]
      have hT29 : zT0 kd N0 (sI S26 (gR S26 v0 3) q28 0) := zT0_sI hT26
      replace hF := fS_e hF
      generalize sI S26 (gR S26 v0 3) q28 0 = S29 at hF hT29 ⊢
      refine z_iinc (v := v2 + 1) (lv2 := [some (.ref (zB G + v0)), some (.ref (zB G + v1)), some (.int (v2 + 1))]) C dX4_begin_99 rfl (by rw [show Int32.ofInt 1 = (1 : Int32) from by decide]) rfl ?_
      refine z_goto C 38 dX4_begin_102 (by decide) ?_
      exact ih1 S29 v0 v1 (v2 + 1) res hT29 hpv0 hkv0 hpv1 hkv1  hF
theorem K_X4_begin {G : zG} {l : Launch} {kd : kD} {N0 f : Nat} {S : aS} {v0 : Nat} {v1 : Nat} {res : Option Value × aS} (hT : zT0 kd N0 S) (hpv0 : v0 < N0) (hkv0 : kd v0 = .inl 3) (hpv1 : v1 < N0) (hkv1 : kd v1 = .inl 5) (hF : F_X4_begin f 0 [.ref v0, .ref v1] S = some res) : zM G l 0 0 0 yX4_begin cX4_begin 3 none [.ref (zB G + v0), .ref (zB G + v1)] (cn G kd N0 S) (zPo G kd N0 res) := zM.of (by decide) rfl (Nat.le_of_ble_eq_true rfl) (fun X _ C hr _ => (B_X4_begin C hr f).1 S v0 v1 res hT hpv0 hkv0 hpv1 hkv1 hF)
def F_X4_become_0 (f : Nat) (rc : Nat → List Value → aS → aR) (v0 : Nat) (v1 : Nat) (S : aS) : aR :=
  fS (sI S v0 0 (gI S v1 0)) fun S1 => fS (sI S1 v0 4 (gI S1 v1 4)) fun S2 => fS (sI S2 v0 5 (gI S2 v1 5)) fun S3 => fS (sI S3 v0 6 (gI S3 v1 6)) fun S4 => fS (sI S4 v0 7 (gI S4 v1 7)) fun S5 => fS (sI S5 v0 8 (gI S5 v1 8)) fun S6 => rc 1 [.ref v0, .ref v1, .int 0] S6
def F_X4_become_1 (f : Nat) (rc : Nat → List Value → aS → aR) (v0 : Nat) (v1 : Nat) (v2 : Int32) (S : aS) : aR :=
  if 8 ≤ v2 then some (none, S) else bX v2 8 fun q13 => bX v2 8 fun q14 => fS (sI S (gR S v0 1) q14 (gI S (gR S v1 1) q13)) fun S15 => bX v2 8 fun q18 => bX v2 8 fun q19 => fS (sI S15 (gR S15 v0 2) q19 (gI S15 (gR S15 v1 2) q18)) fun S20 => bX v2 8 fun q23 => bX v2 8 fun q24 => fS (sI S20 (gR S20 v0 3) q24 (gI S20 (gR S20 v1 3) q23)) fun S25 => rc 1 [.ref v0, .ref v1, .int (v2 + 1)] S25
def F_X4_become : Nat → Nat → List Value → aS → aR
  | 0, _, _, _ => none
  | f + 1, 0, vs, S => F_X4_become_0 f (F_X4_become f) (vR vs 0) (vR vs 1) S
  | f + 1, 1, vs, S => F_X4_become_1 f (F_X4_become f) (vR vs 0) (vR vs 1) (vI vs 2) S
  | _ + 1, _, _, _ => none
theorem dX4_become_0 : decode cX4_become 0 = .ok (.aload_n 0, 1) := by decide +kernel
theorem dX4_become_1 : decode cX4_become 1 = .ok (.aload_n 1, 1) := by decide +kernel
theorem dX4_become_2 : decode cX4_become 2 = .ok (.getfield 27, 3) := by decide +kernel
theorem dX4_become_5 : decode cX4_become 5 = .ok (.putfield 27, 3) := by decide +kernel
theorem dX4_become_8 : decode cX4_become 8 = .ok (.aload_n 0, 1) := by decide +kernel
theorem dX4_become_9 : decode cX4_become 9 = .ok (.aload_n 1, 1) := by decide +kernel
theorem dX4_become_10 : decode cX4_become 10 = .ok (.getfield 28, 3) := by decide +kernel
theorem dX4_become_13 : decode cX4_become 13 = .ok (.putfield 28, 3) := by decide +kernel
theorem dX4_become_16 : decode cX4_become 16 = .ok (.aload_n 0, 1) := by decide +kernel
theorem dX4_become_17 : decode cX4_become 17 = .ok (.aload_n 1, 1) := by decide +kernel
theorem dX4_become_18 : decode cX4_become 18 = .ok (.getfield 31, 3) := by decide +kernel
theorem dX4_become_21 : decode cX4_become 21 = .ok (.putfield 31, 3) := by decide +kernel
theorem dX4_become_24 : decode cX4_become 24 = .ok (.aload_n 0, 1) := by decide +kernel
theorem dX4_become_25 : decode cX4_become 25 = .ok (.aload_n 1, 1) := by decide +kernel
theorem dX4_become_26 : decode cX4_become 26 = .ok (.getfield 34, 3) := by decide +kernel
theorem dX4_become_29 : decode cX4_become 29 = .ok (.putfield 34, 3) := by decide +kernel
theorem dX4_become_32 : decode cX4_become 32 = .ok (.aload_n 0, 1) := by decide +kernel
theorem dX4_become_33 : decode cX4_become 33 = .ok (.aload_n 1, 1) := by decide +kernel
theorem dX4_become_34 : decode cX4_become 34 = .ok (.getfield 37, 3) := by decide +kernel
theorem dX4_become_37 : decode cX4_become 37 = .ok (.putfield 37, 3) := by decide +kernel
theorem dX4_become_40 : decode cX4_become 40 = .ok (.aload_n 0, 1) := by decide +kernel
theorem dX4_become_41 : decode cX4_become 41 = .ok (.aload_n 1, 1) := by decide +kernel
theorem dX4_become_42 : decode cX4_become 42 = .ok (.getfield 43, 3) := by decide +kernel
theorem dX4_become_45 : decode cX4_become 45 = .ok (.putfield 43, 3) := by decide +kernel
theorem dX4_become_48 : decode cX4_become 48 = .ok (.iconst 0, 1) := by decide +kernel
theorem dX4_become_49 : decode cX4_become 49 = .ok (.istore_n 2, 1) := by decide +kernel
theorem dX4_become_50 : decode cX4_become 50 = .ok (.iload_n 2, 1) := by decide +kernel
theorem dX4_become_51 : decode cX4_become 51 = .ok (.bipush 8, 2) := by decide +kernel
theorem dX4_become_53 : decode cX4_become 53 = .ok (.if_icmp .ge 45, 3) := by decide +kernel
theorem dX4_become_56 : decode cX4_become 56 = .ok (.aload_n 0, 1) := by decide +kernel
theorem dX4_become_57 : decode cX4_become 57 = .ok (.getfield 9, 3) := by decide +kernel
theorem dX4_become_60 : decode cX4_become 60 = .ok (.iload_n 2, 1) := by decide +kernel
theorem dX4_become_61 : decode cX4_become 61 = .ok (.aload_n 1, 1) := by decide +kernel
theorem dX4_become_62 : decode cX4_become 62 = .ok (.getfield 9, 3) := by decide +kernel
theorem dX4_become_65 : decode cX4_become 65 = .ok (.iload_n 2, 1) := by decide +kernel
theorem dX4_become_66 : decode cX4_become 66 = .ok (.iaload, 1) := by decide +kernel
theorem dX4_become_67 : decode cX4_become 67 = .ok (.iastore, 1) := by decide +kernel
theorem dX4_become_68 : decode cX4_become 68 = .ok (.aload_n 0, 1) := by decide +kernel
theorem dX4_become_69 : decode cX4_become 69 = .ok (.getfield 15, 3) := by decide +kernel
theorem dX4_become_72 : decode cX4_become 72 = .ok (.iload_n 2, 1) := by decide +kernel
theorem dX4_become_73 : decode cX4_become 73 = .ok (.aload_n 1, 1) := by decide +kernel
theorem dX4_become_74 : decode cX4_become 74 = .ok (.getfield 15, 3) := by decide +kernel
theorem dX4_become_77 : decode cX4_become 77 = .ok (.iload_n 2, 1) := by decide +kernel
theorem dX4_become_78 : decode cX4_become 78 = .ok (.iaload, 1) := by decide +kernel
theorem dX4_become_79 : decode cX4_become 79 = .ok (.iastore, 1) := by decide +kernel
theorem dX4_become_80 : decode cX4_become 80 = .ok (.aload_n 0, 1) := by decide +kernel
theorem dX4_become_81 : decode cX4_become 81 = .ok (.getfield 18, 3) := by decide +kernel
theorem dX4_become_84 : decode cX4_become 84 = .ok (.iload_n 2, 1) := by decide +kernel
theorem dX4_become_85 : decode cX4_become 85 = .ok (.aload_n 1, 1) := by decide +kernel
theorem dX4_become_86 : decode cX4_become 86 = .ok (.getfield 18, 3) := by decide +kernel
theorem dX4_become_89 : decode cX4_become 89 = .ok (.iload_n 2, 1) := by decide +kernel
theorem dX4_become_90 : decode cX4_become 90 = .ok (.iaload, 1) := by decide +kernel
theorem dX4_become_91 : decode cX4_become 91 = .ok (.iastore, 1) := by decide +kernel
theorem dX4_become_92 : decode cX4_become 92 = .ok (.iinc 2 1, 3) := by decide +kernel
theorem dX4_become_95 : decode cX4_become 95 = .ok (.goto (-45), 3) := by decide +kernel
theorem dX4_become_98 : decode cX4_become 98 = .ok (.return_, 1) := by decide +kernel
set_option maxHeartbeats 4000000 in
set_option maxRecDepth 100000 in
theorem B_X4_become {G : zG} {X : zX} {kd : kD} {N0 : Nat} (C : zCt G X 0 0 0 RX4 cX4_become 3) (hr : (zXh X).sig.returnType = none) : ∀ f : Nat,
    (∀ (S : aS) (v0 : Nat) (v1 : Nat) (res : Option Value × aS), zT0 kd N0 S → v0 < N0 → kd v0 = .inl 3 → v1 < N0 → kd v1 = .inl 3 → F_X4_become f 0 [.ref v0, .ref v1] S = some res → zV G X (zQX G X (zPo G kd N0 res) 0 0) 3 [some (.ref (zB G + v0)), some (.ref (zB G + v1)), none] [] (cn G kd N0 S) 0 0 0) ∧
    (∀ (S : aS) (v0 : Nat) (v1 : Nat) (v2 : Int32) (res : Option Value × aS), zT0 kd N0 S → v0 < N0 → kd v0 = .inl 3 → v1 < N0 → kd v1 = .inl 3 → F_X4_become f 1 [.ref v0, .ref v1, .int v2] S = some res → zV G X (zQX G X (zPo G kd N0 res) 0 0) 3 [some (.ref (zB G + v0)), some (.ref (zB G + v1)), some (.int v2)] [] (cn G kd N0 S) 50 0 0) := by
  intro f
  induction f with
  | zero => exact ⟨(fun _ _ _ _ _ _ _ _ _ h => by cases h), (fun _ _ _ _ _ _ _ _ _ _ h => by cases h)⟩
  | succ f ih =>
    obtain ⟨ih0, ih1⟩ := ih
    refine ⟨?_, ?_⟩
    · intro S v0 v1 res hT hpv0 hkv0 hpv1 hkv1 hF
      replace hF : F_X4_become_0 f (F_X4_become f) v0 v1 S = some res := hF
      unfold F_X4_become_0 at hF
      refine z_aload_n C dX4_become_0 rfl ?_
      refine z_aload_n C dX4_become_1 rfl ?_
      refine f_geti C dX4_become_2 zfRX4_27 hpv1 hkv1 rfl ?_
      refine f_puti C dX4_become_5 zfRX4_27 fw3_0 hpv0 hkv0 rfl rfl rfl ?_
      have hT1 : zT0 kd N0 (sI S v0 0 (gI S v1 0)) := zT0_sI hT
      replace hF := fS_e hF
      generalize sI S v0 0 (gI S v1 0) = S1 at hF hT1 ⊢
      refine z_aload_n C dX4_become_8 rfl ?_
      refine z_aload_n C dX4_become_9 rfl ?_
      refine f_geti C dX4_become_10 zfRX4_28 hpv1 hkv1 rfl ?_
      refine f_puti C dX4_become_13 zfRX4_28 fw3_4 hpv0 hkv0 rfl rfl rfl ?_
      have hT2 : zT0 kd N0 (sI S1 v0 4 (gI S1 v1 4)) := zT0_sI hT1
      replace hF := fS_e hF
      generalize sI S1 v0 4 (gI S1 v1 4) = S2 at hF hT2 ⊢
      refine z_aload_n C dX4_become_16 rfl ?_
      refine z_aload_n C dX4_become_17 rfl ?_
      refine f_geti C dX4_become_18 zfRX4_31 hpv1 hkv1 rfl ?_
      refine f_puti C dX4_become_21 zfRX4_31 fw3_5 hpv0 hkv0 rfl rfl rfl ?_
      have hT3 : zT0 kd N0 (sI S2 v0 5 (gI S2 v1 5)) := zT0_sI hT2
      replace hF := fS_e hF
      generalize sI S2 v0 5 (gI S2 v1 5) = S3 at hF hT3 ⊢
      refine z_aload_n C dX4_become_24 rfl ?_
      refine z_aload_n C dX4_become_25 rfl ?_
      refine f_geti C dX4_become_26 zfRX4_34 hpv1 hkv1 rfl ?_
      refine f_puti C dX4_become_29 zfRX4_34 fw3_6 hpv0 hkv0 rfl rfl rfl ?_
      have hT4 : zT0 kd N0 (sI S3 v0 6 (gI S3 v1 6)) := zT0_sI hT3
      replace hF := fS_e hF
      generalize sI S3 v0 6 (gI S3 v1 6) = S4 at hF hT4 ⊢
      refine z_aload_n C dX4_become_32 rfl ?_
      refine z_aload_n C dX4_become_33 rfl ?_
      refine f_geti C dX4_become_34 zfRX4_37 hpv1 hkv1 rfl ?_
      refine f_puti C dX4_become_37 zfRX4_37 fw3_7 hpv0 hkv0 rfl rfl rfl ?_
      have hT5 : zT0 kd N0 (sI S4 v0 7 (gI S4 v1 7)) := zT0_sI hT4
      replace hF := fS_e hF
      generalize sI S4 v0 7 (gI S4 v1 7) = S5 at hF hT5 ⊢
      refine z_aload_n C dX4_become_40 rfl ?_
      refine z_aload_n C dX4_become_41 rfl ?_
      refine f_geti C dX4_become_42 zfRX4_43 hpv1 hkv1 rfl ?_
      refine f_puti C dX4_become_45 zfRX4_43 fw3_8 hpv0 hkv0 rfl rfl rfl ?_
      have hT6 : zT0 kd N0 (sI S5 v0 8 (gI S5 v1 8)) := zT0_sI hT5
      replace hF := fS_e hF
      generalize sI S5 v0 8 (gI S5 v1 8) = S6 at hF hT6 ⊢
      refine z_iconst (v := 0) C dX4_become_48 (by decide) ?_
      refine z_istore_n (lv2 := [some (.ref (zB G + v0)), some (.ref (zB G + v1)), some (.int 0)]) C dX4_become_49 (by decide) rfl ?_
      exact ih1 S6 v0 v1 0 res hT6 hpv0 hkv0 hpv1 hkv1  hF
    · intro S v0 v1 v2 res hT hpv0 hkv0 hpv1 hkv1 hF
      replace hF : F_X4_become_1 f (F_X4_become f) v0 v1 v2 S = some res := hF
      unfold F_X4_become_1 at hF
      refine z_iload_n C dX4_become_50 rfl ?_
      refine z_bipush (v := 8) C dX4_become_51 (by decide) ?_
      refine z_icmp_ge C 98 dX4_become_53 (by decide) (fun c10 => ?_) (fun c10 => ?_)
      · replace hF := ip hF c10
        cases hF
        exact z_vret C hr dX4_become_98 ⟨rfl, rfl, hT⟩
      · replace hF := im hF c10
        refine z_aload_n C dX4_become_56 rfl ?_
        refine f_getr C dX4_become_57 zfRX4_9 hpv0 hkv0 rfl ?_
        obtain ⟨hp11, hk11⟩ := hT.1 v0 3 1 (.inr (0, 8)) hpv0 hkv0 rfl
        refine z_iload_n C dX4_become_60 rfl ?_
        refine z_aload_n C dX4_become_61 rfl ?_
        refine f_getr C dX4_become_62 zfRX4_9 hpv1 hkv1 rfl ?_
        obtain ⟨hp12, hk12⟩ := hT.1 v1 3 1 (.inr (0, 8)) hpv1 hkv1 rfl
        refine z_iload_n C dX4_become_65 rfl ?_
        obtain ⟨hi13, hF⟩ := bX_some hF
        obtain ⟨q13, eq13⟩ : ∃ q : Nat, q = Int32.toNatClampNeg v2 := ⟨_, rfl⟩
        rw [← eq13] at hF
        refine f_iald C dX4_become_66 hp12 hk12 hi13 ?_
        rw [← eq13]
        obtain ⟨hi14, hF⟩ := bX_some hF
        obtain ⟨q14, eq14⟩ : ∃ q : Nat, q = Int32.toNatClampNeg v2 := ⟨_, rfl⟩
        rw [← eq14] at hF
        refine f_iast C dX4_become_67 hp11 hk11 hi14 ?_
        rw [← eq14]
        have hT15 : zT0 kd N0 (sI S (gR S v0 1) q14 (gI S (gR S v1 1) q13)) := zT0_sI hT
        replace hF := fS_e hF
        generalize sI S (gR S v0 1) q14 (gI S (gR S v1 1) q13) = S15 at hF hT15 ⊢
        refine z_aload_n C dX4_become_68 rfl ?_
        refine f_getr C dX4_become_69 zfRX4_15 hpv0 hkv0 rfl ?_
        obtain ⟨hp16, hk16⟩ := hT15.1 v0 3 2 (.inr (0, 8)) hpv0 hkv0 rfl
        refine z_iload_n C dX4_become_72 rfl ?_
        refine z_aload_n C dX4_become_73 rfl ?_
        refine f_getr C dX4_become_74 zfRX4_15 hpv1 hkv1 rfl ?_
        obtain ⟨hp17, hk17⟩ := hT15.1 v1 3 2 (.inr (0, 8)) hpv1 hkv1 rfl
        refine z_iload_n C dX4_become_77 rfl ?_
        obtain ⟨hi18, hF⟩ := bX_some hF
        obtain ⟨q18, eq18⟩ : ∃ q : Nat, q = Int32.toNatClampNeg v2 := ⟨_, rfl⟩
        rw [← eq18] at hF
        refine f_iald C dX4_become_78 hp17 hk17 hi18 ?_
        rw [← eq18]
        obtain ⟨hi19, hF⟩ := bX_some hF
        obtain ⟨q19, eq19⟩ : ∃ q : Nat, q = Int32.toNatClampNeg v2 := ⟨_, rfl⟩
        rw [← eq19] at hF
        refine f_iast C dX4_become_79 hp16 hk16 hi19 ?_
        rw [← eq19]
        have hT20 : zT0 kd N0 (sI S15 (gR S15 v0 2) q19 (gI S15 (gR S15 v1 2) q18)) := zT0_sI hT15
        replace hF := fS_e hF
        generalize sI S15 (gR S15 v0 2) q19 (gI S15 (gR S15 v1 2) q18) = S20 at hF hT20 ⊢
        refine z_aload_n C dX4_become_80 rfl ?_
        refine f_getr C dX4_become_81 zfRX4_18 hpv0 hkv0 rfl ?_
        obtain ⟨hp21, hk21⟩ := hT20.1 v0 3 3 (.inr (0, 8)) hpv0 hkv0 rfl
        refine z_iload_n C dX4_become_84 rfl ?_
        refine z_aload_n C dX4_become_85 rfl ?_
        refine f_getr C dX4_become_86 zfRX4_18 hpv1 hkv1 rfl ?_
        obtain ⟨hp22, hk22⟩ := hT20.1 v1 3 3 (.inr (0, 8)) hpv1 hkv1 rfl
        refine z_iload_n C dX4_become_89 rfl ?_
        obtain ⟨hi23, hF⟩ := bX_some hF
        obtain ⟨q23, eq23⟩ : ∃ q : Nat, q = Int32.toNatClampNeg v2 := ⟨_, rfl⟩
        rw [← eq23] at hF
        refine f_iald C dX4_become_90 hp22 hk22 hi23 ?_
        rw [← eq23]
        obtain ⟨hi24, hF⟩ := bX_some hF
        obtain ⟨q24, eq24⟩ : ∃ q : Nat, q = Int32.toNatClampNeg v2 := ⟨_, rfl⟩
        rw [← eq24] at hF
        refine f_iast C dX4_become_91 hp21 hk21 hi24 ?_
        rw [← eq24]
        have hT25 : zT0 kd N0 (sI S20 (gR S20 v0 3) q24 (gI S20 (gR S20 v1 3) q23)) := zT0_sI hT20
        replace hF := fS_e hF
        generalize sI S20 (gR S20 v0 3) q24 (gI S20 (gR S20 v1 3) q23) = S25 at hF hT25 ⊢
        refine z_iinc (v := v2 + 1) (lv2 := [some (.ref (zB G + v0)), some (.ref (zB G + v1)), some (.int (v2 + 1))]) C dX4_become_92 rfl (by rw [show Int32.ofInt 1 = (1 : Int32) from by decide]) rfl ?_
        refine z_goto C 50 dX4_become_95 (by decide) ?_
        exact ih1 S25 v0 v1 (v2 + 1) res hT25 hpv0 hkv0 hpv1 hkv1  hF
theorem K_X4_become {G : zG} {l : Launch} {kd : kD} {N0 f : Nat} {S : aS} {v0 : Nat} {v1 : Nat} {res : Option Value × aS} (hT : zT0 kd N0 S) (hpv0 : v0 < N0) (hkv0 : kd v0 = .inl 3) (hpv1 : v1 < N0) (hkv1 : kd v1 = .inl 3) (hF : F_X4_become f 0 [.ref v0, .ref v1] S = some res) : zM G l 0 0 0 yX4_become cX4_become 3 none [.ref (zB G + v0), .ref (zB G + v1)] (cn G kd N0 S) (zPo G kd N0 res) := zM.of (by decide) rfl (Nat.le_of_ble_eq_true rfl) (fun X _ C hr _ => (B_X4_become C hr f).1 S v0 v1 res hT hpv0 hkv0 hpv1 hkv1 hF)
def F_X4_hasYard_0 (f : Nat) (rc : Nat → List Value → aS → aR) (v0 : Nat) (v1 : Int32) (S : aS) : aR :=
  bZ (if v1 < 0 then 0 else if (gI S v0 0) ≤ v1 then 0 else 1) (some (some (.int (if v1 < 0 then 0 else if (gI S v0 0) ≤ v1 then 0 else 1)), S))
def F_X4_hasYard : Nat → Nat → List Value → aS → aR
  | 0, _, _, _ => none
  | f + 1, 0, vs, S => F_X4_hasYard_0 f (F_X4_hasYard f) (vR vs 0) (vI vs 1) S
  | _ + 1, _, _, _ => none
theorem dX4_hasYard_0 : decode cX4_hasYard 0 = .ok (.iload_n 1, 1) := by decide +kernel
theorem dX4_hasYard_1 : decode cX4_hasYard 1 = .ok (.ifCond .lt 15, 3) := by decide +kernel
theorem dX4_hasYard_4 : decode cX4_hasYard 4 = .ok (.iload_n 1, 1) := by decide +kernel
theorem dX4_hasYard_5 : decode cX4_hasYard 5 = .ok (.aload_n 0, 1) := by decide +kernel
theorem dX4_hasYard_6 : decode cX4_hasYard 6 = .ok (.getfield 27, 3) := by decide +kernel
theorem dX4_hasYard_9 : decode cX4_hasYard 9 = .ok (.if_icmp .ge 7, 3) := by decide +kernel
theorem dX4_hasYard_12 : decode cX4_hasYard 12 = .ok (.iconst 1, 1) := by decide +kernel
theorem dX4_hasYard_13 : decode cX4_hasYard 13 = .ok (.goto 4, 3) := by decide +kernel
theorem dX4_hasYard_16 : decode cX4_hasYard 16 = .ok (.iconst 0, 1) := by decide +kernel
theorem dX4_hasYard_17 : decode cX4_hasYard 17 = .ok (.ireturn, 1) := by decide +kernel
set_option maxHeartbeats 4000000 in
set_option maxRecDepth 100000 in
theorem B_X4_hasYard {G : zG} {X : zX} {kd : kD} {N0 : Nat} (C : zCt G X 0 0 0 RX4 cX4_hasYard 2) (hr : (zXh X).sig.returnType = (some .boolean)) : ∀ f : Nat,
    (∀ (S : aS) (v0 : Nat) (v1 : Int32) (res : Option Value × aS), zT0 kd N0 S → v0 < N0 → kd v0 = .inl 3 → F_X4_hasYard f 0 [.ref v0, .int v1] S = some res → zV G X (zQX G X (zPo G kd N0 res) 0 0) 2 [some (.ref (zB G + v0)), some (.int v1)] [] (cn G kd N0 S) 0 0 0) := by
  intro f
  induction f with
  | zero => exact (fun _ _ _ _ _ _ _ h => by cases h)
  | succ f ih =>
    have ih0 := ih
    intro S v0 v1 res hT hpv0 hkv0 hF
    replace hF : F_X4_hasYard_0 f (F_X4_hasYard f) v0 v1 S = some res := hF
    unfold F_X4_hasYard_0 at hF
    refine z_iload_n C dX4_hasYard_0 rfl ?_
    have hJ3 : zV G X (zQX G X (zPo G kd N0 res) 0 0) 2 [some (.ref (zB G + v0)), some (.int v1)] [.int (if v1 < 0 then 0 else if (gI S v0 0) ≤ v1 then 0 else 1)] (cn G kd N0 S) 17 0 0 := by
      obtain ⟨hz, hF⟩ := bZ_some hF
      cases hF
      exact z_zret C hr hz.1 dX4_hasYard_17 ⟨rfl, rfl, hT⟩
    refine z_if_lt C 16 dX4_hasYard_1 (by decide) (fun c1 => ?_) (fun c1 => ?_)
    · refine z_iconst (v := 0) C dX4_hasYard_16 (by decide) ?_
      exact zV.at hJ3 (by first | rfl | simp only [if_pos c1]) (by first | rfl | simp only [if_pos c1]) rfl rfl
    · refine z_iload_n C dX4_hasYard_4 rfl ?_
      refine z_aload_n C dX4_hasYard_5 rfl ?_
      refine f_geti C dX4_hasYard_6 zfRX4_27 hpv0 hkv0 rfl ?_
      refine z_icmp_ge C 16 dX4_hasYard_9 (by decide) (fun c2 => ?_) (fun c2 => ?_)
      · refine z_iconst (v := 0) C dX4_hasYard_16 (by decide) ?_
        exact zV.at hJ3 (by first | rfl | simp only [if_neg c1, if_pos c2]) (by first | rfl | simp only [if_neg c1, if_pos c2]) rfl rfl
      · refine z_iconst (v := 1) C dX4_hasYard_12 (by decide) ?_
        refine z_goto C 17 dX4_hasYard_13 (by decide) ?_
        exact zV.at hJ3 (by first | rfl | simp only [if_neg c1, if_neg c2]) (by first | rfl | simp only [if_neg c1, if_neg c2]) rfl rfl
theorem K_X4_hasYard {G : zG} {l : Launch} {kd : kD} {N0 f : Nat} {S : aS} {v0 : Nat} {v1 : Int32} {res : Option Value × aS} (hT : zT0 kd N0 S) (hpv0 : v0 < N0) (hkv0 : kd v0 = .inl 3) (hF : F_X4_hasYard f 0 [.ref v0, .int v1] S = some res) : zM G l 0 0 0 yX4_hasYard cX4_hasYard 2 (some .boolean) [.ref (zB G + v0), .int v1] (cn G kd N0 S) (zPo G kd N0 res) := zM.of (by decide) rfl (Nat.le_of_ble_eq_true rfl) (fun X _ C hr _ => (B_X4_hasYard C hr f) S v0 v1 res hT hpv0 hkv0 hF)
def F_X4_hasBin_0 (f : Nat) (rc : Nat → List Value → aS → aR) (v0 : Nat) (v1 : Int32) (S : aS) : aR :=
  bI (F_X4_hasYard f 0 [.ref v0, .int v1] S) fun x1 S1 => if x1 = 0 then rc 1 [] S1 else bX v1 8 fun q6 => bZ (if (gI S1 (gR S1 v0 2) q6) ≤ 0 then 0 else 1) (some (some (.int (if (gI S1 (gR S1 v0 2) q6) ≤ 0 then 0 else 1)), S1))
def F_X4_hasBin_1 (f : Nat) (rc : Nat → List Value → aS → aR)  (S : aS) : aR :=
  rc 2 [.int 0] S
def F_X4_hasBin_2 (f : Nat) (rc : Nat → List Value → aS → aR) (w0 : Int32) (S : aS) : aR :=
  bZ w0 (some (some (.int w0), S))
def F_X4_hasBin : Nat → Nat → List Value → aS → aR
  | 0, _, _, _ => none
  | f + 1, 0, vs, S => F_X4_hasBin_0 f (F_X4_hasBin f) (vR vs 0) (vI vs 1) S
  | f + 1, 1, vs, S => F_X4_hasBin_1 f (F_X4_hasBin f)  S
  | f + 1, 2, vs, S => F_X4_hasBin_2 f (F_X4_hasBin f) (vI vs 0) S
  | _ + 1, _, _, _ => none
theorem dX4_hasBin_0 : decode cX4_hasBin 0 = .ok (.aload_n 0, 1) := by decide +kernel
theorem dX4_hasBin_1 : decode cX4_hasBin 1 = .ok (.iload_n 1, 1) := by decide +kernel
theorem dX4_hasBin_2 : decode cX4_hasBin 2 = .ok (.invokevirtual 46, 3) := by decide +kernel
theorem dX4_hasBin_5 : decode cX4_hasBin 5 = .ok (.ifCond .eq 16, 3) := by decide +kernel
theorem dX4_hasBin_8 : decode cX4_hasBin 8 = .ok (.aload_n 0, 1) := by decide +kernel
theorem dX4_hasBin_9 : decode cX4_hasBin 9 = .ok (.getfield 15, 3) := by decide +kernel
theorem dX4_hasBin_12 : decode cX4_hasBin 12 = .ok (.iload_n 1, 1) := by decide +kernel
theorem dX4_hasBin_13 : decode cX4_hasBin 13 = .ok (.iaload, 1) := by decide +kernel
theorem dX4_hasBin_14 : decode cX4_hasBin 14 = .ok (.ifCond .le 7, 3) := by decide +kernel
theorem dX4_hasBin_17 : decode cX4_hasBin 17 = .ok (.iconst 1, 1) := by decide +kernel
theorem dX4_hasBin_18 : decode cX4_hasBin 18 = .ok (.goto 4, 3) := by decide +kernel
theorem dX4_hasBin_21 : decode cX4_hasBin 21 = .ok (.iconst 0, 1) := by decide +kernel
theorem dX4_hasBin_22 : decode cX4_hasBin 22 = .ok (.ireturn, 1) := by decide +kernel
set_option maxHeartbeats 4000000 in
set_option maxRecDepth 100000 in
theorem B_X4_hasBin {G : zG} {X : zX} {kd : kD} {N0 : Nat} (C : zCt G X 1 0 0 RX4 cX4_hasBin 2) (hr : (zXh X).sig.returnType = (some .boolean)) : ∀ f : Nat,
    (∀ (S : aS) (v0 : Nat) (v1 : Int32) (res : Option Value × aS), zT0 kd N0 S → v0 < N0 → kd v0 = .inl 3 → F_X4_hasBin f 0 [.ref v0, .int v1] S = some res → zV G X (zQX G X (zPo G kd N0 res) 0 0) 2 [some (.ref (zB G + v0)), some (.int v1)] [] (cn G kd N0 S) 0 0 0) ∧
    (∀ (S : aS)  (res : Option Value × aS), zT0 kd N0 S → F_X4_hasBin f 1 [] S = some res → zV G X (zQX G X (zPo G kd N0 res) 0 0) 2 [none, none] [] (cn G kd N0 S) 21 0 0) ∧
    (∀ (S : aS) (w0 : Int32) (res : Option Value × aS), zT0 kd N0 S → F_X4_hasBin f 2 [.int w0] S = some res → zV G X (zQX G X (zPo G kd N0 res) 0 0) 2 [none, none] [.int w0] (cn G kd N0 S) 22 0 0) := by
  intro f
  induction f with
  | zero => exact ⟨(fun _ _ _ _ _ _ _ h => by cases h), (fun _ _ _ h => by cases h), (fun _ _ _ _ h => by cases h)⟩
  | succ f ih =>
    obtain ⟨ih0, ih1, ih2⟩ := ih
    refine ⟨?_, ?_, ?_⟩
    · intro S v0 v1 res hT hpv0 hkv0 hF
      replace hF : F_X4_hasBin_0 f (F_X4_hasBin f) v0 v1 S = some res := hF
      unfold F_X4_hasBin_0 at hF
      refine z_aload_n C dX4_hasBin_0 rfl ?_
      refine z_iload_n C dX4_hasBin_1 rfl ?_
      obtain ⟨x1, S1, h1, hF⟩ := bI_some hF
      refine f_cV (st2 := [.int x1]) C dX4_hasBin_2 zyX4_hasYard zvX4_hasYard lkRX4_46 (K_X4_hasYard (l := zXl X) hT hpv0 hkv0  h1) hpv0 hkv0 rfl (by decide) rfl rfl (Nat.le_of_ble_eq_true rfl) rfl (fun hT1 => ?_)
      refine z_if_eq C 21 dX4_hasBin_5 (by decide) (fun c4 => ?_) (fun c4 => ?_)
      · replace hF := ip hF c4
        refine z_mask [false, false] ?_ rfl
        exact ih1 S1  res hT1  hF
      · replace hF := im hF c4
        refine z_aload_n C dX4_hasBin_8 rfl ?_
        refine f_getr C dX4_hasBin_9 zfRX4_15 hpv0 hkv0 rfl ?_
        obtain ⟨hp5, hk5⟩ := hT1.1 v0 3 2 (.inr (0, 8)) hpv0 hkv0 rfl
        refine z_iload_n C dX4_hasBin_12 rfl ?_
        obtain ⟨hi6, hF⟩ := bX_some hF
        obtain ⟨q6, eq6⟩ : ∃ q : Nat, q = Int32.toNatClampNeg v1 := ⟨_, rfl⟩
        rw [← eq6] at hF
        refine f_iald C dX4_hasBin_13 hp5 hk5 hi6 ?_
        rw [← eq6]
        have hJ8 : zV G X (zQX G X (zPo G kd N0 res) 0 0) 2 [some (.ref (zB G + v0)), some (.int v1)] [.int (if (gI S1 (gR S1 v0 2) q6) ≤ 0 then 0 else 1)] (cn G kd N0 S1) 22 0 0 := by
          obtain ⟨hz, hF⟩ := bZ_some hF
          cases hF
          exact z_zret C hr hz.1 dX4_hasBin_22 ⟨rfl, rfl, hT1⟩
        refine z_if_le C 21 dX4_hasBin_14 (by decide) (fun c7 => ?_) (fun c7 => ?_)
        · refine z_iconst (v := 0) C dX4_hasBin_21 (by decide) ?_
          exact zV.at hJ8 (by first | rfl | simp only [if_pos c7]) (by first | rfl | simp only [if_pos c7]) rfl rfl
        · refine z_iconst (v := 1) C dX4_hasBin_17 (by decide) ?_
          refine z_goto C 22 dX4_hasBin_18 (by decide) ?_
          exact zV.at hJ8 (by first | rfl | simp only [if_neg c7]) (by first | rfl | simp only [if_neg c7]) rfl rfl
    · intro S  res hT  hF
      replace hF : F_X4_hasBin_1 f (F_X4_hasBin f)  S = some res := hF
      unfold F_X4_hasBin_1 at hF
      refine z_iconst (v := 0) C dX4_hasBin_21 (by decide) ?_
      exact ih2 S 0 res hT  hF
    · intro S w0 res hT  hF
      replace hF : F_X4_hasBin_2 f (F_X4_hasBin f) w0 S = some res := hF
      unfold F_X4_hasBin_2 at hF
      obtain ⟨hz, hF⟩ := bZ_some hF
      cases hF
      exact z_zret C hr hz.1 dX4_hasBin_22 ⟨rfl, rfl, hT⟩
theorem K_X4_hasBin {G : zG} {l : Launch} {kd : kD} {N0 f : Nat} {S : aS} {v0 : Nat} {v1 : Int32} {res : Option Value × aS} (hT : zT0 kd N0 S) (hpv0 : v0 < N0) (hkv0 : kd v0 = .inl 3) (hF : F_X4_hasBin f 0 [.ref v0, .int v1] S = some res) : zM G l 1 0 0 yX4_hasBin cX4_hasBin 2 (some .boolean) [.ref (zB G + v0), .int v1] (cn G kd N0 S) (zPo G kd N0 res) := zM.of (by decide) rfl (Nat.le_of_ble_eq_true rfl) (fun X _ C hr _ => (B_X4_hasBin C hr f).1 S v0 v1 res hT hpv0 hkv0 hF)
def F_X4_binBits_0 (f : Nat) (rc : Nat → List Value → aS → aR) (v0 : Nat) (S : aS) : aR :=
  rc 1 [.ref v0, .int 0, .int 0] S
def F_X4_binBits_1 (f : Nat) (rc : Nat → List Value → aS → aR) (v0 : Nat) (v1 : Int32) (v2 : Int32) (S : aS) : aR :=
  if (gI S v0 0) ≤ v2 then some (some (.int v1), S) else bX v2 8 fun q5 => if (gI S (gR S v0 2) q5) ≤ 0 then rc 2 [.ref v0, .int v2, .int 0, .int v1] S else rc 2 [.ref v0, .int v2, .int (1 <<< (v2 &&& 31)), .int v1] S
def F_X4_binBits_2 (f : Nat) (rc : Nat → List Value → aS → aR) (v0 : Nat) (v1 : Int32) (w0 : Int32) (w1 : Int32) (S : aS) : aR :=
  rc 1 [.ref v0, .int (w1 ||| w0), .int (v1 + 1)] S
def F_X4_binBits : Nat → Nat → List Value → aS → aR
  | 0, _, _, _ => none
  | f + 1, 0, vs, S => F_X4_binBits_0 f (F_X4_binBits f) (vR vs 0) S
  | f + 1, 1, vs, S => F_X4_binBits_1 f (F_X4_binBits f) (vR vs 0) (vI vs 1) (vI vs 2) S
  | f + 1, 2, vs, S => F_X4_binBits_2 f (F_X4_binBits f) (vR vs 0) (vI vs 1) (vI vs 2) (vI vs 3) S
  | _ + 1, _, _, _ => none
theorem dX4_binBits_0 : decode cX4_binBits 0 = .ok (.iconst 0, 1) := by decide +kernel
theorem dX4_binBits_1 : decode cX4_binBits 1 = .ok (.istore_n 1, 1) := by decide +kernel
theorem dX4_binBits_2 : decode cX4_binBits 2 = .ok (.iconst 0, 1) := by decide +kernel
theorem dX4_binBits_3 : decode cX4_binBits 3 = .ok (.istore_n 2, 1) := by decide +kernel
theorem dX4_binBits_4 : decode cX4_binBits 4 = .ok (.iload_n 2, 1) := by decide +kernel
theorem dX4_binBits_5 : decode cX4_binBits 5 = .ok (.aload_n 0, 1) := by decide +kernel
theorem dX4_binBits_6 : decode cX4_binBits 6 = .ok (.getfield 27, 3) := by decide +kernel
theorem dX4_binBits_9 : decode cX4_binBits 9 = .ok (.if_icmp .ge 28, 3) := by decide +kernel
theorem dX4_binBits_12 : decode cX4_binBits 12 = .ok (.iload_n 1, 1) := by decide +kernel
theorem dX4_binBits_13 : decode cX4_binBits 13 = .ok (.aload_n 0, 1) := by decide +kernel
theorem dX4_binBits_14 : decode cX4_binBits 14 = .ok (.getfield 15, 3) := by decide +kernel
theorem dX4_binBits_17 : decode cX4_binBits 17 = .ok (.iload_n 2, 1) := by decide +kernel
theorem dX4_binBits_18 : decode cX4_binBits 18 = .ok (.iaload, 1) := by decide +kernel
theorem dX4_binBits_19 : decode cX4_binBits 19 = .ok (.ifCond .le 9, 3) := by decide +kernel
theorem dX4_binBits_22 : decode cX4_binBits 22 = .ok (.iconst 1, 1) := by decide +kernel
theorem dX4_binBits_23 : decode cX4_binBits 23 = .ok (.iload_n 2, 1) := by decide +kernel
theorem dX4_binBits_24 : decode cX4_binBits 24 = .ok (.ishl, 1) := by decide +kernel
theorem dX4_binBits_25 : decode cX4_binBits 25 = .ok (.goto 4, 3) := by decide +kernel
theorem dX4_binBits_28 : decode cX4_binBits 28 = .ok (.iconst 0, 1) := by decide +kernel
theorem dX4_binBits_29 : decode cX4_binBits 29 = .ok (.ior, 1) := by decide +kernel
theorem dX4_binBits_30 : decode cX4_binBits 30 = .ok (.istore_n 1, 1) := by decide +kernel
theorem dX4_binBits_31 : decode cX4_binBits 31 = .ok (.iinc 2 1, 3) := by decide +kernel
theorem dX4_binBits_34 : decode cX4_binBits 34 = .ok (.goto (-30), 3) := by decide +kernel
theorem dX4_binBits_37 : decode cX4_binBits 37 = .ok (.iload_n 1, 1) := by decide +kernel
theorem dX4_binBits_38 : decode cX4_binBits 38 = .ok (.ireturn, 1) := by decide +kernel
set_option maxHeartbeats 4000000 in
set_option maxRecDepth 100000 in
theorem B_X4_binBits {G : zG} {X : zX} {kd : kD} {N0 : Nat} (C : zCt G X 0 0 0 RX4 cX4_binBits 3) (hr : (zXh X).sig.returnType = (some .int)) : ∀ f : Nat,
    (∀ (S : aS) (v0 : Nat) (res : Option Value × aS), zT0 kd N0 S → v0 < N0 → kd v0 = .inl 3 → F_X4_binBits f 0 [.ref v0] S = some res → zV G X (zQX G X (zPo G kd N0 res) 0 0) 3 [some (.ref (zB G + v0)), none, none] [] (cn G kd N0 S) 0 0 0) ∧
    (∀ (S : aS) (v0 : Nat) (v1 : Int32) (v2 : Int32) (res : Option Value × aS), zT0 kd N0 S → v0 < N0 → kd v0 = .inl 3 → F_X4_binBits f 1 [.ref v0, .int v1, .int v2] S = some res → zV G X (zQX G X (zPo G kd N0 res) 0 0) 3 [some (.ref (zB G + v0)), some (.int v1), some (.int v2)] [] (cn G kd N0 S) 4 0 0) ∧
    (∀ (S : aS) (v0 : Nat) (v1 : Int32) (w0 : Int32) (w1 : Int32) (res : Option Value × aS), zT0 kd N0 S → v0 < N0 → kd v0 = .inl 3 → F_X4_binBits f 2 [.ref v0, .int v1, .int w0, .int w1] S = some res → zV G X (zQX G X (zPo G kd N0 res) 0 0) 3 [some (.ref (zB G + v0)), none, some (.int v1)] [.int w0, .int w1] (cn G kd N0 S) 29 0 0) := by
  intro f
  induction f with
  | zero => exact ⟨(fun _ _ _ _ _ _ h => by cases h), (fun _ _ _ _ _ _ _ _ h => by cases h), (fun _ _ _ _ _ _ _ _ _ h => by cases h)⟩
  | succ f ih =>
    obtain ⟨ih0, ih1, ih2⟩ := ih
    refine ⟨?_, ?_, ?_⟩
    · intro S v0 res hT hpv0 hkv0 hF
      replace hF : F_X4_binBits_0 f (F_X4_binBits f) v0 S = some res := hF
      unfold F_X4_binBits_0 at hF
      refine z_iconst (v := 0) C dX4_binBits_0 (by decide) ?_
      refine z_istore_n (lv2 := [some (.ref (zB G + v0)), some (.int 0), none]) C dX4_binBits_1 (by decide) rfl ?_
      refine z_iconst (v := 0) C dX4_binBits_2 (by decide) ?_
      refine z_istore_n (lv2 := [some (.ref (zB G + v0)), some (.int 0), some (.int 0)]) C dX4_binBits_3 (by decide) rfl ?_
      exact ih1 S v0 0 0 res hT hpv0 hkv0   hF
    · intro S v0 v1 v2 res hT hpv0 hkv0 hF
      replace hF : F_X4_binBits_1 f (F_X4_binBits f) v0 v1 v2 S = some res := hF
      unfold F_X4_binBits_1 at hF
      refine z_iload_n C dX4_binBits_4 rfl ?_
      refine z_aload_n C dX4_binBits_5 rfl ?_
      refine f_geti C dX4_binBits_6 zfRX4_27 hpv0 hkv0 rfl ?_
      refine z_icmp_ge C 37 dX4_binBits_9 (by decide) (fun c3 => ?_) (fun c3 => ?_)
      · replace hF := ip hF c3
        refine z_iload_n C dX4_binBits_37 rfl ?_
        cases hF
        exact z_iret C hr dX4_binBits_38 ⟨rfl, rfl, hT⟩
      · replace hF := im hF c3
        refine z_iload_n C dX4_binBits_12 rfl ?_
        refine z_aload_n C dX4_binBits_13 rfl ?_
        refine f_getr C dX4_binBits_14 zfRX4_15 hpv0 hkv0 rfl ?_
        obtain ⟨hp4, hk4⟩ := hT.1 v0 3 2 (.inr (0, 8)) hpv0 hkv0 rfl
        refine z_iload_n C dX4_binBits_17 rfl ?_
        obtain ⟨hi5, hF⟩ := bX_some hF
        obtain ⟨q5, eq5⟩ : ∃ q : Nat, q = Int32.toNatClampNeg v2 := ⟨_, rfl⟩
        rw [← eq5] at hF
        refine f_iald C dX4_binBits_18 hp4 hk4 hi5 ?_
        rw [← eq5]
        refine z_if_le C 28 dX4_binBits_19 (by decide) (fun c8 => ?_) (fun c8 => ?_)
        · replace hF := ip hF c8
          refine z_iconst (v := 0) C dX4_binBits_28 (by decide) ?_
          refine z_mask [true, false, true] ?_ rfl
          exact ih2 S v0 v2 0 v1 res hT hpv0 hkv0    hF
        · replace hF := im hF c8
          refine z_iconst (v := 1) C dX4_binBits_22 (by decide) ?_
          refine z_iload_n C dX4_binBits_23 rfl ?_
          refine z_ishl C dX4_binBits_24 ?_
          refine z_goto C 29 dX4_binBits_25 (by decide) ?_
          refine z_mask [true, false, true] ?_ rfl
          exact ih2 S v0 v2 (1 <<< (v2 &&& 31)) v1 res hT hpv0 hkv0    hF
    · intro S v0 v1 w0 w1 res hT hpv0 hkv0 hF
      replace hF : F_X4_binBits_2 f (F_X4_binBits f) v0 v1 w0 w1 S = some res := hF
      unfold F_X4_binBits_2 at hF
      refine z_ior C dX4_binBits_29 ?_
      refine z_istore_n (lv2 := [some (.ref (zB G + v0)), some (.int (w1 ||| w0)), some (.int v1)]) C dX4_binBits_30 (by decide) rfl ?_
      refine z_iinc (v := v1 + 1) (lv2 := [some (.ref (zB G + v0)), some (.int (w1 ||| w0)), some (.int (v1 + 1))]) C dX4_binBits_31 rfl (by rw [show Int32.ofInt 1 = (1 : Int32) from by decide]) rfl ?_
      refine z_goto C 4 dX4_binBits_34 (by decide) ?_
      exact ih1 S v0 (w1 ||| w0) (v1 + 1) res hT hpv0 hkv0   hF
theorem K_X4_binBits {G : zG} {l : Launch} {kd : kD} {N0 f : Nat} {S : aS} {v0 : Nat} {res : Option Value × aS} (hT : zT0 kd N0 S) (hpv0 : v0 < N0) (hkv0 : kd v0 = .inl 3) (hF : F_X4_binBits f 0 [.ref v0] S = some res) : zM G l 0 0 0 yX4_binBits cX4_binBits 3 (some .int) [.ref (zB G + v0)] (cn G kd N0 S) (zPo G kd N0 res) := zM.of (by decide) rfl (Nat.le_of_ble_eq_true rfl) (fun X _ C hr _ => (B_X4_binBits C hr f).1 S v0 res hT hpv0 hkv0 hF)
def F_X4_total_0 (f : Nat) (rc : Nat → List Value → aS → aR) (v0 : Nat) (S : aS) : aR :=
  rc 1 [.ref v0, .int 0, .int 0] S
def F_X4_total_1 (f : Nat) (rc : Nat → List Value → aS → aR) (v0 : Nat) (v1 : Int32) (v2 : Int32) (S : aS) : aR :=
  if (gI S v0 0) ≤ v2 then some (some (.int v1), S) else bX v2 8 fun q5 => rc 1 [.ref v0, .int (v1 + (gI S (gR S v0 1) q5)), .int (v2 + 1)] S
def F_X4_total : Nat → Nat → List Value → aS → aR
  | 0, _, _, _ => none
  | f + 1, 0, vs, S => F_X4_total_0 f (F_X4_total f) (vR vs 0) S
  | f + 1, 1, vs, S => F_X4_total_1 f (F_X4_total f) (vR vs 0) (vI vs 1) (vI vs 2) S
  | _ + 1, _, _, _ => none
theorem dX4_total_0 : decode cX4_total 0 = .ok (.iconst 0, 1) := by decide +kernel
theorem dX4_total_1 : decode cX4_total 1 = .ok (.istore_n 1, 1) := by decide +kernel
theorem dX4_total_2 : decode cX4_total 2 = .ok (.iconst 0, 1) := by decide +kernel
theorem dX4_total_3 : decode cX4_total 3 = .ok (.istore_n 2, 1) := by decide +kernel
theorem dX4_total_4 : decode cX4_total 4 = .ok (.iload_n 2, 1) := by decide +kernel
theorem dX4_total_5 : decode cX4_total 5 = .ok (.aload_n 0, 1) := by decide +kernel
theorem dX4_total_6 : decode cX4_total 6 = .ok (.getfield 27, 3) := by decide +kernel
theorem dX4_total_9 : decode cX4_total 9 = .ok (.if_icmp .ge 18, 3) := by decide +kernel
theorem dX4_total_12 : decode cX4_total 12 = .ok (.iload_n 1, 1) := by decide +kernel
theorem dX4_total_13 : decode cX4_total 13 = .ok (.aload_n 0, 1) := by decide +kernel
theorem dX4_total_14 : decode cX4_total 14 = .ok (.getfield 9, 3) := by decide +kernel
theorem dX4_total_17 : decode cX4_total 17 = .ok (.iload_n 2, 1) := by decide +kernel
theorem dX4_total_18 : decode cX4_total 18 = .ok (.iaload, 1) := by decide +kernel
theorem dX4_total_19 : decode cX4_total 19 = .ok (.iadd, 1) := by decide +kernel
theorem dX4_total_20 : decode cX4_total 20 = .ok (.istore_n 1, 1) := by decide +kernel
theorem dX4_total_21 : decode cX4_total 21 = .ok (.iinc 2 1, 3) := by decide +kernel
theorem dX4_total_24 : decode cX4_total 24 = .ok (.goto (-20), 3) := by decide +kernel
theorem dX4_total_27 : decode cX4_total 27 = .ok (.iload_n 1, 1) := by decide +kernel
theorem dX4_total_28 : decode cX4_total 28 = .ok (.ireturn, 1) := by decide +kernel
set_option maxHeartbeats 4000000 in
set_option maxRecDepth 100000 in
theorem B_X4_total {G : zG} {X : zX} {kd : kD} {N0 : Nat} (C : zCt G X 0 0 0 RX4 cX4_total 3) (hr : (zXh X).sig.returnType = (some .int)) : ∀ f : Nat,
    (∀ (S : aS) (v0 : Nat) (res : Option Value × aS), zT0 kd N0 S → v0 < N0 → kd v0 = .inl 3 → F_X4_total f 0 [.ref v0] S = some res → zV G X (zQX G X (zPo G kd N0 res) 0 0) 3 [some (.ref (zB G + v0)), none, none] [] (cn G kd N0 S) 0 0 0) ∧
    (∀ (S : aS) (v0 : Nat) (v1 : Int32) (v2 : Int32) (res : Option Value × aS), zT0 kd N0 S → v0 < N0 → kd v0 = .inl 3 → F_X4_total f 1 [.ref v0, .int v1, .int v2] S = some res → zV G X (zQX G X (zPo G kd N0 res) 0 0) 3 [some (.ref (zB G + v0)), some (.int v1), some (.int v2)] [] (cn G kd N0 S) 4 0 0) := by
  intro f
  induction f with
  | zero => exact ⟨(fun _ _ _ _ _ _ h => by cases h), (fun _ _ _ _ _ _ _ _ h => by cases h)⟩
  | succ f ih =>
    obtain ⟨ih0, ih1⟩ := ih
    refine ⟨?_, ?_⟩
    · intro S v0 res hT hpv0 hkv0 hF
      replace hF : F_X4_total_0 f (F_X4_total f) v0 S = some res := hF
      unfold F_X4_total_0 at hF
      refine z_iconst (v := 0) C dX4_total_0 (by decide) ?_
      refine z_istore_n (lv2 := [some (.ref (zB G + v0)), some (.int 0), none]) C dX4_total_1 (by decide) rfl ?_
      refine z_iconst (v := 0) C dX4_total_2 (by decide) ?_
      refine z_istore_n (lv2 := [some (.ref (zB G + v0)), some (.int 0), some (.int 0)]) C dX4_total_3 (by decide) rfl ?_
      exact ih1 S v0 0 0 res hT hpv0 hkv0   hF
    · intro S v0 v1 v2 res hT hpv0 hkv0 hF
      replace hF : F_X4_total_1 f (F_X4_total f) v0 v1 v2 S = some res := hF
      unfold F_X4_total_1 at hF
      refine z_iload_n C dX4_total_4 rfl ?_
      refine z_aload_n C dX4_total_5 rfl ?_
      refine f_geti C dX4_total_6 zfRX4_27 hpv0 hkv0 rfl ?_
      refine z_icmp_ge C 27 dX4_total_9 (by decide) (fun c3 => ?_) (fun c3 => ?_)
      · replace hF := ip hF c3
        refine z_iload_n C dX4_total_27 rfl ?_
        cases hF
        exact z_iret C hr dX4_total_28 ⟨rfl, rfl, hT⟩
      · replace hF := im hF c3
        refine z_iload_n C dX4_total_12 rfl ?_
        refine z_aload_n C dX4_total_13 rfl ?_
        refine f_getr C dX4_total_14 zfRX4_9 hpv0 hkv0 rfl ?_
        obtain ⟨hp4, hk4⟩ := hT.1 v0 3 1 (.inr (0, 8)) hpv0 hkv0 rfl
        refine z_iload_n C dX4_total_17 rfl ?_
        obtain ⟨hi5, hF⟩ := bX_some hF
        obtain ⟨q5, eq5⟩ : ∃ q : Nat, q = Int32.toNatClampNeg v2 := ⟨_, rfl⟩
        rw [← eq5] at hF
        refine f_iald C dX4_total_18 hp4 hk4 hi5 ?_
        rw [← eq5]
        refine z_iadd C dX4_total_19 ?_
        refine z_istore_n (lv2 := [some (.ref (zB G + v0)), some (.int (v1 + (gI S (gR S v0 1) q5))), some (.int v2)]) C dX4_total_20 (by decide) rfl ?_
        refine z_iinc (v := v2 + 1) (lv2 := [some (.ref (zB G + v0)), some (.int (v1 + (gI S (gR S v0 1) q5))), some (.int (v2 + 1))]) C dX4_total_21 rfl (by rw [show Int32.ofInt 1 = (1 : Int32) from by decide]) rfl ?_
        refine z_goto C 4 dX4_total_24 (by decide) ?_
        exact ih1 S v0 (v1 + (gI S (gR S v0 1) q5)) (v2 + 1) res hT hpv0 hkv0   hF
theorem K_X4_total {G : zG} {l : Launch} {kd : kD} {N0 f : Nat} {S : aS} {v0 : Nat} {res : Option Value × aS} (hT : zT0 kd N0 S) (hpv0 : v0 < N0) (hkv0 : kd v0 = .inl 3) (hF : F_X4_total f 0 [.ref v0] S = some res) : zM G l 0 0 0 yX4_total cX4_total 3 (some .int) [.ref (zB G + v0)] (cn G kd N0 S) (zPo G kd N0 res) := zM.of (by decide) rfl (Nat.le_of_ble_eq_true rfl) (fun X _ C hr _ => (B_X4_total C hr f).1 S v0 res hT hpv0 hkv0 hF)
def F_X4_room_0 (f : Nat) (rc : Nat → List Value → aS → aR) (v0 : Nat) (S : aS) : aR :=
  rc 1 [.ref v0, .int 0, .int 0] S
def F_X4_room_1 (f : Nat) (rc : Nat → List Value → aS → aR) (v0 : Nat) (v1 : Int32) (v2 : Int32) (S : aS) : aR :=
  if (gI S v0 0) ≤ v2 then some (some (.int v1), S) else bX v2 8 fun q5 => bX v2 8 fun q7 => rc 1 [.ref v0, .int (v1 + ((gI S (gR S v0 2) q5) - (gI S (gR S v0 3) q7))), .int (v2 + 1)] S
def F_X4_room : Nat → Nat → List Value → aS → aR
  | 0, _, _, _ => none
  | f + 1, 0, vs, S => F_X4_room_0 f (F_X4_room f) (vR vs 0) S
  | f + 1, 1, vs, S => F_X4_room_1 f (F_X4_room f) (vR vs 0) (vI vs 1) (vI vs 2) S
  | _ + 1, _, _, _ => none
theorem dX4_room_0 : decode cX4_room 0 = .ok (.iconst 0, 1) := by decide +kernel
theorem dX4_room_1 : decode cX4_room 1 = .ok (.istore_n 1, 1) := by decide +kernel
theorem dX4_room_2 : decode cX4_room 2 = .ok (.iconst 0, 1) := by decide +kernel
theorem dX4_room_3 : decode cX4_room 3 = .ok (.istore_n 2, 1) := by decide +kernel
theorem dX4_room_4 : decode cX4_room 4 = .ok (.iload_n 2, 1) := by decide +kernel
theorem dX4_room_5 : decode cX4_room 5 = .ok (.aload_n 0, 1) := by decide +kernel
theorem dX4_room_6 : decode cX4_room 6 = .ok (.getfield 27, 3) := by decide +kernel
theorem dX4_room_9 : decode cX4_room 9 = .ok (.if_icmp .ge 25, 3) := by decide +kernel
theorem dX4_room_12 : decode cX4_room 12 = .ok (.iload_n 1, 1) := by decide +kernel
theorem dX4_room_13 : decode cX4_room 13 = .ok (.aload_n 0, 1) := by decide +kernel
theorem dX4_room_14 : decode cX4_room 14 = .ok (.getfield 15, 3) := by decide +kernel
theorem dX4_room_17 : decode cX4_room 17 = .ok (.iload_n 2, 1) := by decide +kernel
theorem dX4_room_18 : decode cX4_room 18 = .ok (.iaload, 1) := by decide +kernel
theorem dX4_room_19 : decode cX4_room 19 = .ok (.aload_n 0, 1) := by decide +kernel
theorem dX4_room_20 : decode cX4_room 20 = .ok (.getfield 18, 3) := by decide +kernel
theorem dX4_room_23 : decode cX4_room 23 = .ok (.iload_n 2, 1) := by decide +kernel
theorem dX4_room_24 : decode cX4_room 24 = .ok (.iaload, 1) := by decide +kernel
theorem dX4_room_25 : decode cX4_room 25 = .ok (.isub, 1) := by decide +kernel
theorem dX4_room_26 : decode cX4_room 26 = .ok (.iadd, 1) := by decide +kernel
theorem dX4_room_27 : decode cX4_room 27 = .ok (.istore_n 1, 1) := by decide +kernel
theorem dX4_room_28 : decode cX4_room 28 = .ok (.iinc 2 1, 3) := by decide +kernel
theorem dX4_room_31 : decode cX4_room 31 = .ok (.goto (-27), 3) := by decide +kernel
theorem dX4_room_34 : decode cX4_room 34 = .ok (.iload_n 1, 1) := by decide +kernel
theorem dX4_room_35 : decode cX4_room 35 = .ok (.ireturn, 1) := by decide +kernel
set_option maxHeartbeats 4000000 in
set_option maxRecDepth 100000 in
theorem B_X4_room {G : zG} {X : zX} {kd : kD} {N0 : Nat} (C : zCt G X 0 0 0 RX4 cX4_room 3) (hr : (zXh X).sig.returnType = (some .int)) : ∀ f : Nat,
    (∀ (S : aS) (v0 : Nat) (res : Option Value × aS), zT0 kd N0 S → v0 < N0 → kd v0 = .inl 3 → F_X4_room f 0 [.ref v0] S = some res → zV G X (zQX G X (zPo G kd N0 res) 0 0) 3 [some (.ref (zB G + v0)), none, none] [] (cn G kd N0 S) 0 0 0) ∧
    (∀ (S : aS) (v0 : Nat) (v1 : Int32) (v2 : Int32) (res : Option Value × aS), zT0 kd N0 S → v0 < N0 → kd v0 = .inl 3 → F_X4_room f 1 [.ref v0, .int v1, .int v2] S = some res → zV G X (zQX G X (zPo G kd N0 res) 0 0) 3 [some (.ref (zB G + v0)), some (.int v1), some (.int v2)] [] (cn G kd N0 S) 4 0 0) := by
  intro f
  induction f with
  | zero => exact ⟨(fun _ _ _ _ _ _ h => by cases h), (fun _ _ _ _ _ _ _ _ h => by cases h)⟩
  | succ f ih =>
    obtain ⟨ih0, ih1⟩ := ih
    refine ⟨?_, ?_⟩
    · intro S v0 res hT hpv0 hkv0 hF
      replace hF : F_X4_room_0 f (F_X4_room f) v0 S = some res := hF
      unfold F_X4_room_0 at hF
      refine z_iconst (v := 0) C dX4_room_0 (by decide) ?_
      refine z_istore_n (lv2 := [some (.ref (zB G + v0)), some (.int 0), none]) C dX4_room_1 (by decide) rfl ?_
      refine z_iconst (v := 0) C dX4_room_2 (by decide) ?_
      refine z_istore_n (lv2 := [some (.ref (zB G + v0)), some (.int 0), some (.int 0)]) C dX4_room_3 (by decide) rfl ?_
      exact ih1 S v0 0 0 res hT hpv0 hkv0   hF
    · intro S v0 v1 v2 res hT hpv0 hkv0 hF
      replace hF : F_X4_room_1 f (F_X4_room f) v0 v1 v2 S = some res := hF
      unfold F_X4_room_1 at hF
      refine z_iload_n C dX4_room_4 rfl ?_
      refine z_aload_n C dX4_room_5 rfl ?_
      refine f_geti C dX4_room_6 zfRX4_27 hpv0 hkv0 rfl ?_
      refine z_icmp_ge C 34 dX4_room_9 (by decide) (fun c3 => ?_) (fun c3 => ?_)
      · replace hF := ip hF c3
        refine z_iload_n C dX4_room_34 rfl ?_
        cases hF
        exact z_iret C hr dX4_room_35 ⟨rfl, rfl, hT⟩
      · replace hF := im hF c3
        refine z_iload_n C dX4_room_12 rfl ?_
        refine z_aload_n C dX4_room_13 rfl ?_
        refine f_getr C dX4_room_14 zfRX4_15 hpv0 hkv0 rfl ?_
        obtain ⟨hp4, hk4⟩ := hT.1 v0 3 2 (.inr (0, 8)) hpv0 hkv0 rfl
        refine z_iload_n C dX4_room_17 rfl ?_
        obtain ⟨hi5, hF⟩ := bX_some hF
        obtain ⟨q5, eq5⟩ : ∃ q : Nat, q = Int32.toNatClampNeg v2 := ⟨_, rfl⟩
        rw [← eq5] at hF
        refine f_iald C dX4_room_18 hp4 hk4 hi5 ?_
        rw [← eq5]
        refine z_aload_n C dX4_room_19 rfl ?_
        refine f_getr C dX4_room_20 zfRX4_18 hpv0 hkv0 rfl ?_
        obtain ⟨hp6, hk6⟩ := hT.1 v0 3 3 (.inr (0, 8)) hpv0 hkv0 rfl
        refine z_iload_n C dX4_room_23 rfl ?_
        obtain ⟨hi7, hF⟩ := bX_some hF
        obtain ⟨q7, eq7⟩ : ∃ q : Nat, q = Int32.toNatClampNeg v2 := ⟨_, rfl⟩
        rw [← eq7] at hF
        refine f_iald C dX4_room_24 hp6 hk6 hi7 ?_
        rw [← eq7]
        refine z_isub C dX4_room_25 ?_
        refine z_iadd C dX4_room_26 ?_
        refine z_istore_n (lv2 := [some (.ref (zB G + v0)), some (.int (v1 + ((gI S (gR S v0 2) q5) - (gI S (gR S v0 3) q7)))), some (.int v2)]) C dX4_room_27 (by decide) rfl ?_
        refine z_iinc (v := v2 + 1) (lv2 := [some (.ref (zB G + v0)), some (.int (v1 + ((gI S (gR S v0 2) q5) - (gI S (gR S v0 3) q7)))), some (.int (v2 + 1))]) C dX4_room_28 rfl (by rw [show Int32.ofInt 1 = (1 : Int32) from by decide]) rfl ?_
        refine z_goto C 4 dX4_room_31 (by decide) ?_
        exact ih1 S v0 (v1 + ((gI S (gR S v0 2) q5) - (gI S (gR S v0 3) q7))) (v2 + 1) res hT hpv0 hkv0   hF
theorem K_X4_room {G : zG} {l : Launch} {kd : kD} {N0 f : Nat} {S : aS} {v0 : Nat} {res : Option Value × aS} (hT : zT0 kd N0 S) (hpv0 : v0 < N0) (hkv0 : kd v0 = .inl 3) (hF : F_X4_room f 0 [.ref v0] S = some res) : zM G l 0 0 0 yX4_room cX4_room 3 (some .int) [.ref (zB G + v0)] (cn G kd N0 S) (zPo G kd N0 res) := zM.of (by decide) rfl (Nat.le_of_ble_eq_true rfl) (fun X _ C hr _ => (B_X4_room C hr f).1 S v0 res hT hpv0 hkv0 hF)
def F_X4_yardsAbove_0 (f : Nat) (rc : Nat → List Value → aS → aR) (v0 : Nat) (v1 : Int32) (S : aS) : aR :=
  rc 1 [.ref v0, .int v1, .int 0, .int 0] S
def F_X4_yardsAbove_1 (f : Nat) (rc : Nat → List Value → aS → aR) (v0 : Nat) (v1 : Int32) (v2 : Int32) (v3 : Int32) (S : aS) : aR :=
  if (gI S v0 0) ≤ v3 then some (some (.int v2), S) else bX v3 8 fun q5 => if (gI S (gR S v0 1) q5) ≤ v1 then rc 2 [.ref v0, .int v1, .int v3, .int 0, .int v2] S else rc 2 [.ref v0, .int v1, .int v3, .int (1 <<< (v3 &&& 31)), .int v2] S
def F_X4_yardsAbove_2 (f : Nat) (rc : Nat → List Value → aS → aR) (v0 : Nat) (v1 : Int32) (v2 : Int32) (w0 : Int32) (w1 : Int32) (S : aS) : aR :=
  rc 1 [.ref v0, .int v1, .int (w1 ||| w0), .int (v2 + 1)] S
def F_X4_yardsAbove : Nat → Nat → List Value → aS → aR
  | 0, _, _, _ => none
  | f + 1, 0, vs, S => F_X4_yardsAbove_0 f (F_X4_yardsAbove f) (vR vs 0) (vI vs 1) S
  | f + 1, 1, vs, S => F_X4_yardsAbove_1 f (F_X4_yardsAbove f) (vR vs 0) (vI vs 1) (vI vs 2) (vI vs 3) S
  | f + 1, 2, vs, S => F_X4_yardsAbove_2 f (F_X4_yardsAbove f) (vR vs 0) (vI vs 1) (vI vs 2) (vI vs 3) (vI vs 4) S
  | _ + 1, _, _, _ => none
theorem dX4_yardsAbove_0 : decode cX4_yardsAbove 0 = .ok (.iconst 0, 1) := by decide +kernel
theorem dX4_yardsAbove_1 : decode cX4_yardsAbove 1 = .ok (.istore_n 2, 1) := by decide +kernel
theorem dX4_yardsAbove_2 : decode cX4_yardsAbove 2 = .ok (.iconst 0, 1) := by decide +kernel
theorem dX4_yardsAbove_3 : decode cX4_yardsAbove 3 = .ok (.istore_n 3, 1) := by decide +kernel
theorem dX4_yardsAbove_4 : decode cX4_yardsAbove 4 = .ok (.iload_n 3, 1) := by decide +kernel
theorem dX4_yardsAbove_5 : decode cX4_yardsAbove 5 = .ok (.aload_n 0, 1) := by decide +kernel
theorem dX4_yardsAbove_6 : decode cX4_yardsAbove 6 = .ok (.getfield 27, 3) := by decide +kernel
theorem dX4_yardsAbove_9 : decode cX4_yardsAbove 9 = .ok (.if_icmp .ge 29, 3) := by decide +kernel
theorem dX4_yardsAbove_12 : decode cX4_yardsAbove 12 = .ok (.iload_n 2, 1) := by decide +kernel
theorem dX4_yardsAbove_13 : decode cX4_yardsAbove 13 = .ok (.aload_n 0, 1) := by decide +kernel
theorem dX4_yardsAbove_14 : decode cX4_yardsAbove 14 = .ok (.getfield 9, 3) := by decide +kernel
theorem dX4_yardsAbove_17 : decode cX4_yardsAbove 17 = .ok (.iload_n 3, 1) := by decide +kernel
theorem dX4_yardsAbove_18 : decode cX4_yardsAbove 18 = .ok (.iaload, 1) := by decide +kernel
theorem dX4_yardsAbove_19 : decode cX4_yardsAbove 19 = .ok (.iload_n 1, 1) := by decide +kernel
theorem dX4_yardsAbove_20 : decode cX4_yardsAbove 20 = .ok (.if_icmp .le 9, 3) := by decide +kernel
theorem dX4_yardsAbove_23 : decode cX4_yardsAbove 23 = .ok (.iconst 1, 1) := by decide +kernel
theorem dX4_yardsAbove_24 : decode cX4_yardsAbove 24 = .ok (.iload_n 3, 1) := by decide +kernel
theorem dX4_yardsAbove_25 : decode cX4_yardsAbove 25 = .ok (.ishl, 1) := by decide +kernel
theorem dX4_yardsAbove_26 : decode cX4_yardsAbove 26 = .ok (.goto 4, 3) := by decide +kernel
theorem dX4_yardsAbove_29 : decode cX4_yardsAbove 29 = .ok (.iconst 0, 1) := by decide +kernel
theorem dX4_yardsAbove_30 : decode cX4_yardsAbove 30 = .ok (.ior, 1) := by decide +kernel
theorem dX4_yardsAbove_31 : decode cX4_yardsAbove 31 = .ok (.istore_n 2, 1) := by decide +kernel
theorem dX4_yardsAbove_32 : decode cX4_yardsAbove 32 = .ok (.iinc 3 1, 3) := by decide +kernel
theorem dX4_yardsAbove_35 : decode cX4_yardsAbove 35 = .ok (.goto (-31), 3) := by decide +kernel
theorem dX4_yardsAbove_38 : decode cX4_yardsAbove 38 = .ok (.iload_n 2, 1) := by decide +kernel
theorem dX4_yardsAbove_39 : decode cX4_yardsAbove 39 = .ok (.ireturn, 1) := by decide +kernel
set_option maxHeartbeats 4000000 in
set_option maxRecDepth 100000 in
theorem B_X4_yardsAbove {G : zG} {X : zX} {kd : kD} {N0 : Nat} (C : zCt G X 0 0 0 RX4 cX4_yardsAbove 4) (hr : (zXh X).sig.returnType = (some .int)) : ∀ f : Nat,
    (∀ (S : aS) (v0 : Nat) (v1 : Int32) (res : Option Value × aS), zT0 kd N0 S → v0 < N0 → kd v0 = .inl 3 → F_X4_yardsAbove f 0 [.ref v0, .int v1] S = some res → zV G X (zQX G X (zPo G kd N0 res) 0 0) 4 [some (.ref (zB G + v0)), some (.int v1), none, none] [] (cn G kd N0 S) 0 0 0) ∧
    (∀ (S : aS) (v0 : Nat) (v1 : Int32) (v2 : Int32) (v3 : Int32) (res : Option Value × aS), zT0 kd N0 S → v0 < N0 → kd v0 = .inl 3 → F_X4_yardsAbove f 1 [.ref v0, .int v1, .int v2, .int v3] S = some res → zV G X (zQX G X (zPo G kd N0 res) 0 0) 4 [some (.ref (zB G + v0)), some (.int v1), some (.int v2), some (.int v3)] [] (cn G kd N0 S) 4 0 0) ∧
    (∀ (S : aS) (v0 : Nat) (v1 : Int32) (v2 : Int32) (w0 : Int32) (w1 : Int32) (res : Option Value × aS), zT0 kd N0 S → v0 < N0 → kd v0 = .inl 3 → F_X4_yardsAbove f 2 [.ref v0, .int v1, .int v2, .int w0, .int w1] S = some res → zV G X (zQX G X (zPo G kd N0 res) 0 0) 4 [some (.ref (zB G + v0)), some (.int v1), none, some (.int v2)] [.int w0, .int w1] (cn G kd N0 S) 30 0 0) := by
  intro f
  induction f with
  | zero => exact ⟨(fun _ _ _ _ _ _ _ h => by cases h), (fun _ _ _ _ _ _ _ _ _ h => by cases h), (fun _ _ _ _ _ _ _ _ _ _ h => by cases h)⟩
  | succ f ih =>
    obtain ⟨ih0, ih1, ih2⟩ := ih
    refine ⟨?_, ?_, ?_⟩
    · intro S v0 v1 res hT hpv0 hkv0 hF
      replace hF : F_X4_yardsAbove_0 f (F_X4_yardsAbove f) v0 v1 S = some res := hF
      unfold F_X4_yardsAbove_0 at hF
      refine z_iconst (v := 0) C dX4_yardsAbove_0 (by decide) ?_
      refine z_istore_n (lv2 := [some (.ref (zB G + v0)), some (.int v1), some (.int 0), none]) C dX4_yardsAbove_1 (by decide) rfl ?_
      refine z_iconst (v := 0) C dX4_yardsAbove_2 (by decide) ?_
      refine z_istore_n (lv2 := [some (.ref (zB G + v0)), some (.int v1), some (.int 0), some (.int 0)]) C dX4_yardsAbove_3 (by decide) rfl ?_
      exact ih1 S v0 v1 0 0 res hT hpv0 hkv0    hF
    · intro S v0 v1 v2 v3 res hT hpv0 hkv0 hF
      replace hF : F_X4_yardsAbove_1 f (F_X4_yardsAbove f) v0 v1 v2 v3 S = some res := hF
      unfold F_X4_yardsAbove_1 at hF
      refine z_iload_n C dX4_yardsAbove_4 rfl ?_
      refine z_aload_n C dX4_yardsAbove_5 rfl ?_
      refine f_geti C dX4_yardsAbove_6 zfRX4_27 hpv0 hkv0 rfl ?_
      refine z_icmp_ge C 38 dX4_yardsAbove_9 (by decide) (fun c3 => ?_) (fun c3 => ?_)
      · replace hF := ip hF c3
        refine z_iload_n C dX4_yardsAbove_38 rfl ?_
        cases hF
        exact z_iret C hr dX4_yardsAbove_39 ⟨rfl, rfl, hT⟩
      · replace hF := im hF c3
        refine z_iload_n C dX4_yardsAbove_12 rfl ?_
        refine z_aload_n C dX4_yardsAbove_13 rfl ?_
        refine f_getr C dX4_yardsAbove_14 zfRX4_9 hpv0 hkv0 rfl ?_
        obtain ⟨hp4, hk4⟩ := hT.1 v0 3 1 (.inr (0, 8)) hpv0 hkv0 rfl
        refine z_iload_n C dX4_yardsAbove_17 rfl ?_
        obtain ⟨hi5, hF⟩ := bX_some hF
        obtain ⟨q5, eq5⟩ : ∃ q : Nat, q = Int32.toNatClampNeg v3 := ⟨_, rfl⟩
        rw [← eq5] at hF
        refine f_iald C dX4_yardsAbove_18 hp4 hk4 hi5 ?_
        rw [← eq5]
        refine z_iload_n C dX4_yardsAbove_19 rfl ?_
        refine z_icmp_le C 29 dX4_yardsAbove_20 (by decide) (fun c8 => ?_) (fun c8 => ?_)
        · replace hF := ip hF c8
          refine z_iconst (v := 0) C dX4_yardsAbove_29 (by decide) ?_
          refine z_mask [true, true, false, true] ?_ rfl
          exact ih2 S v0 v1 v3 0 v2 res hT hpv0 hkv0     hF
        · replace hF := im hF c8
          refine z_iconst (v := 1) C dX4_yardsAbove_23 (by decide) ?_
          refine z_iload_n C dX4_yardsAbove_24 rfl ?_
          refine z_ishl C dX4_yardsAbove_25 ?_
          refine z_goto C 30 dX4_yardsAbove_26 (by decide) ?_
          refine z_mask [true, true, false, true] ?_ rfl
          exact ih2 S v0 v1 v3 (1 <<< (v3 &&& 31)) v2 res hT hpv0 hkv0     hF
    · intro S v0 v1 v2 w0 w1 res hT hpv0 hkv0 hF
      replace hF : F_X4_yardsAbove_2 f (F_X4_yardsAbove f) v0 v1 v2 w0 w1 S = some res := hF
      unfold F_X4_yardsAbove_2 at hF
      refine z_ior C dX4_yardsAbove_30 ?_
      refine z_istore_n (lv2 := [some (.ref (zB G + v0)), some (.int v1), some (.int (w1 ||| w0)), some (.int v2)]) C dX4_yardsAbove_31 (by decide) rfl ?_
      refine z_iinc (v := v2 + 1) (lv2 := [some (.ref (zB G + v0)), some (.int v1), some (.int (w1 ||| w0)), some (.int (v2 + 1))]) C dX4_yardsAbove_32 rfl (by rw [show Int32.ofInt 1 = (1 : Int32) from by decide]) rfl ?_
      refine z_goto C 4 dX4_yardsAbove_35 (by decide) ?_
      exact ih1 S v0 v1 (w1 ||| w0) (v2 + 1) res hT hpv0 hkv0    hF
theorem K_X4_yardsAbove {G : zG} {l : Launch} {kd : kD} {N0 f : Nat} {S : aS} {v0 : Nat} {v1 : Int32} {res : Option Value × aS} (hT : zT0 kd N0 S) (hpv0 : v0 < N0) (hkv0 : kd v0 = .inl 3) (hF : F_X4_yardsAbove f 0 [.ref v0, .int v1] S = some res) : zM G l 0 0 0 yX4_yardsAbove cX4_yardsAbove 4 (some .int) [.ref (zB G + v0), .int v1] (cn G kd N0 S) (zPo G kd N0 res) := zM.of (by decide) rfl (Nat.le_of_ble_eq_true rfl) (fun X _ C hr _ => (B_X4_yardsAbove C hr f).1 S v0 v1 res hT hpv0 hkv0 hF)
def F_X4_emptyBin_0 (f : Nat) (rc : Nat → List Value → aS → aR) (v0 : Nat) (v1 : Int32) (v2 : Int32) (S : aS) : aR :=
  bX v1 8 fun q2 => bX v1 8 fun q4 => fS (sI S (gR S v0 3) q4 0) fun S5 => fS (sI S5 v0 7 ((gI S5 v0 7) + v2)) fun S6 => some (some (.int (gI S (gR S v0 3) q2)), S6)
def F_X4_emptyBin : Nat → Nat → List Value → aS → aR
  | 0, _, _, _ => none
  | f + 1, 0, vs, S => F_X4_emptyBin_0 f (F_X4_emptyBin f) (vR vs 0) (vI vs 1) (vI vs 2) S
  | _ + 1, _, _, _ => none
theorem dX4_emptyBin_0 : decode cX4_emptyBin 0 = .ok (.aload_n 0, 1) := by decide +kernel
theorem dX4_emptyBin_1 : decode cX4_emptyBin 1 = .ok (.getfield 18, 3) := by decide +kernel
theorem dX4_emptyBin_4 : decode cX4_emptyBin 4 = .ok (.iload_n 1, 1) := by decide +kernel
theorem dX4_emptyBin_5 : decode cX4_emptyBin 5 = .ok (.iaload, 1) := by decide +kernel
theorem dX4_emptyBin_6 : decode cX4_emptyBin 6 = .ok (.istore_n 3, 1) := by decide +kernel
theorem dX4_emptyBin_7 : decode cX4_emptyBin 7 = .ok (.aload_n 0, 1) := by decide +kernel
theorem dX4_emptyBin_8 : decode cX4_emptyBin 8 = .ok (.getfield 18, 3) := by decide +kernel
theorem dX4_emptyBin_11 : decode cX4_emptyBin 11 = .ok (.iload_n 1, 1) := by decide +kernel
theorem dX4_emptyBin_12 : decode cX4_emptyBin 12 = .ok (.iconst 0, 1) := by decide +kernel
theorem dX4_emptyBin_13 : decode cX4_emptyBin 13 = .ok (.iastore, 1) := by decide +kernel
theorem dX4_emptyBin_14 : decode cX4_emptyBin 14 = .ok (.aload_n 0, 1) := by decide +kernel
theorem dX4_emptyBin_15 : decode cX4_emptyBin 15 = .ok (.dup, 1) := by decide +kernel
theorem dX4_emptyBin_16 : decode cX4_emptyBin 16 = .ok (.getfield 37, 3) := by decide +kernel
theorem dX4_emptyBin_19 : decode cX4_emptyBin 19 = .ok (.iload_n 2, 1) := by decide +kernel
theorem dX4_emptyBin_20 : decode cX4_emptyBin 20 = .ok (.iadd, 1) := by decide +kernel
theorem dX4_emptyBin_21 : decode cX4_emptyBin 21 = .ok (.putfield 37, 3) := by decide +kernel
theorem dX4_emptyBin_24 : decode cX4_emptyBin 24 = .ok (.iload_n 3, 1) := by decide +kernel
theorem dX4_emptyBin_25 : decode cX4_emptyBin 25 = .ok (.ireturn, 1) := by decide +kernel
set_option maxHeartbeats 4000000 in
set_option maxRecDepth 100000 in
theorem B_X4_emptyBin {G : zG} {X : zX} {kd : kD} {N0 : Nat} (C : zCt G X 0 0 0 RX4 cX4_emptyBin 4) (hr : (zXh X).sig.returnType = (some .int)) : ∀ f : Nat,
    (∀ (S : aS) (v0 : Nat) (v1 : Int32) (v2 : Int32) (res : Option Value × aS), zT0 kd N0 S → v0 < N0 → kd v0 = .inl 3 → F_X4_emptyBin f 0 [.ref v0, .int v1, .int v2] S = some res → zV G X (zQX G X (zPo G kd N0 res) 0 0) 4 [some (.ref (zB G + v0)), some (.int v1), some (.int v2), none] [] (cn G kd N0 S) 0 0 0) := by
  intro f
  induction f with
  | zero => exact (fun _ _ _ _ _ _ _ _ h => by cases h)
  | succ f ih =>
    have ih0 := ih
    intro S v0 v1 v2 res hT hpv0 hkv0 hF
    replace hF : F_X4_emptyBin_0 f (F_X4_emptyBin f) v0 v1 v2 S = some res := hF
    unfold F_X4_emptyBin_0 at hF
    refine z_aload_n C dX4_emptyBin_0 rfl ?_
    refine f_getr C dX4_emptyBin_1 zfRX4_18 hpv0 hkv0 rfl ?_
    obtain ⟨hp1, hk1⟩ := hT.1 v0 3 3 (.inr (0, 8)) hpv0 hkv0 rfl
    refine z_iload_n C dX4_emptyBin_4 rfl ?_
    obtain ⟨hi2, hF⟩ := bX_some hF
    obtain ⟨q2, eq2⟩ : ∃ q : Nat, q = Int32.toNatClampNeg v1 := ⟨_, rfl⟩
    rw [← eq2] at hF
    refine f_iald C dX4_emptyBin_5 hp1 hk1 hi2 ?_
    rw [← eq2]
    refine z_istore_n (lv2 := [some (.ref (zB G + v0)), some (.int v1), some (.int v2), some (.int (gI S (gR S v0 3) q2))]) C dX4_emptyBin_6 (by decide) rfl ?_
    refine z_aload_n C dX4_emptyBin_7 rfl ?_
    refine f_getr C dX4_emptyBin_8 zfRX4_18 hpv0 hkv0 rfl ?_
    obtain ⟨hp3, hk3⟩ := hT.1 v0 3 3 (.inr (0, 8)) hpv0 hkv0 rfl
    refine z_iload_n C dX4_emptyBin_11 rfl ?_
    refine z_iconst (v := 0) C dX4_emptyBin_12 (by decide) ?_
    obtain ⟨hi4, hF⟩ := bX_some hF
    obtain ⟨q4, eq4⟩ : ∃ q : Nat, q = Int32.toNatClampNeg v1 := ⟨_, rfl⟩
    rw [← eq4] at hF
    refine f_iast C dX4_emptyBin_13 hp3 hk3 hi4 ?_
    rw [← eq4]
    have hT5 : zT0 kd N0 (sI S (gR S v0 3) q4 0) := zT0_sI hT
    replace hF := fS_e hF
    generalize sI S (gR S v0 3) q4 0 = S5 at hF hT5 ⊢
    refine z_aload_n C dX4_emptyBin_14 rfl ?_
    refine z_dup C dX4_emptyBin_15 rfl ?_
    refine f_geti C dX4_emptyBin_16 zfRX4_37 hpv0 hkv0 rfl ?_
    refine z_iload_n C dX4_emptyBin_19 rfl ?_
    refine z_iadd C dX4_emptyBin_20 ?_
    refine f_puti C dX4_emptyBin_21 zfRX4_37 fw3_7 hpv0 hkv0 rfl rfl rfl ?_
    have hT6 : zT0 kd N0 (sI S5 v0 7 ((gI S5 v0 7) + v2)) := zT0_sI hT5
    replace hF := fS_e hF
    generalize sI S5 v0 7 ((gI S5 v0 7) + v2) = S6 at hF hT6 ⊢
    refine z_iload_n C dX4_emptyBin_24 rfl ?_
    cases hF
    exact z_iret C hr dX4_emptyBin_25 ⟨rfl, rfl, hT6⟩
theorem K_X4_emptyBin {G : zG} {l : Launch} {kd : kD} {N0 f : Nat} {S : aS} {v0 : Nat} {v1 : Int32} {v2 : Int32} {res : Option Value × aS} (hT : zT0 kd N0 S) (hpv0 : v0 < N0) (hkv0 : kd v0 = .inl 3) (hF : F_X4_emptyBin f 0 [.ref v0, .int v1, .int v2] S = some res) : zM G l 0 0 0 yX4_emptyBin cX4_emptyBin 4 (some .int) [.ref (zB G + v0), .int v1, .int v2] (cn G kd N0 S) (zPo G kd N0 res) := zM.of (by decide) rfl (Nat.le_of_ble_eq_true rfl) (fun X _ C hr _ => (B_X4_emptyBin C hr f) S v0 v1 v2 res hT hpv0 hkv0 hF)
def F_X4_emptyBins_0 (f : Nat) (rc : Nat → List Value → aS → aR) (v0 : Nat) (v1 : Int32) (S : aS) : aR :=
  rc 1 [.ref v0, .int v1, .int 0] S
def F_X4_emptyBins_1 (f : Nat) (rc : Nat → List Value → aS → aR) (v0 : Nat) (v1 : Int32) (v2 : Int32) (S : aS) : aR :=
  if (gI S v0 0) ≤ v2 then some (none, S) else bX v2 8 fun q5 => if (gI S (gR S v0 2) q5) ≤ 0 then rc 2 [.ref v0, .int v1, .int v2] S else bI (F_X4_emptyBin f 0 [.ref v0, .int v2, .int v1] S) fun x8 S8 => rc 2 [.ref v0, .int v1, .int v2] S8
def F_X4_emptyBins_2 (f : Nat) (rc : Nat → List Value → aS → aR) (v0 : Nat) (v1 : Int32) (v2 : Int32) (S : aS) : aR :=
  rc 1 [.ref v0, .int v1, .int (v2 + 1)] S
def F_X4_emptyBins : Nat → Nat → List Value → aS → aR
  | 0, _, _, _ => none
  | f + 1, 0, vs, S => F_X4_emptyBins_0 f (F_X4_emptyBins f) (vR vs 0) (vI vs 1) S
  | f + 1, 1, vs, S => F_X4_emptyBins_1 f (F_X4_emptyBins f) (vR vs 0) (vI vs 1) (vI vs 2) S
  | f + 1, 2, vs, S => F_X4_emptyBins_2 f (F_X4_emptyBins f) (vR vs 0) (vI vs 1) (vI vs 2) S
  | _ + 1, _, _, _ => none
theorem dX4_emptyBins_0 : decode cX4_emptyBins 0 = .ok (.iconst 0, 1) := by decide +kernel
theorem dX4_emptyBins_1 : decode cX4_emptyBins 1 = .ok (.istore_n 2, 1) := by decide +kernel
theorem dX4_emptyBins_2 : decode cX4_emptyBins 2 = .ok (.iload_n 2, 1) := by decide +kernel
theorem dX4_emptyBins_3 : decode cX4_emptyBins 3 = .ok (.aload_n 0, 1) := by decide +kernel
theorem dX4_emptyBins_4 : decode cX4_emptyBins 4 = .ok (.getfield 27, 3) := by decide +kernel
theorem dX4_emptyBins_7 : decode cX4_emptyBins 7 = .ok (.if_icmp .ge 25, 3) := by decide +kernel
theorem dX4_emptyBins_10 : decode cX4_emptyBins 10 = .ok (.aload_n 0, 1) := by decide +kernel
theorem dX4_emptyBins_11 : decode cX4_emptyBins 11 = .ok (.getfield 15, 3) := by decide +kernel
theorem dX4_emptyBins_14 : decode cX4_emptyBins 14 = .ok (.iload_n 2, 1) := by decide +kernel
theorem dX4_emptyBins_15 : decode cX4_emptyBins 15 = .ok (.iaload, 1) := by decide +kernel
theorem dX4_emptyBins_16 : decode cX4_emptyBins 16 = .ok (.ifCond .le 10, 3) := by decide +kernel
theorem dX4_emptyBins_19 : decode cX4_emptyBins 19 = .ok (.aload_n 0, 1) := by decide +kernel
theorem dX4_emptyBins_20 : decode cX4_emptyBins 20 = .ok (.iload_n 2, 1) := by decide +kernel
theorem dX4_emptyBins_21 : decode cX4_emptyBins 21 = .ok (.iload_n 1, 1) := by decide +kernel
theorem dX4_emptyBins_22 : decode cX4_emptyBins 22 = .ok (.invokevirtual 69, 3) := by decide +kernel
theorem dX4_emptyBins_25 : decode cX4_emptyBins 25 = .ok (.pop, 1) := by decide +kernel
theorem dX4_emptyBins_26 : decode cX4_emptyBins 26 = .ok (.iinc 2 1, 3) := by decide +kernel
theorem dX4_emptyBins_29 : decode cX4_emptyBins 29 = .ok (.goto (-27), 3) := by decide +kernel
theorem dX4_emptyBins_32 : decode cX4_emptyBins 32 = .ok (.return_, 1) := by decide +kernel
set_option maxHeartbeats 4000000 in
set_option maxRecDepth 100000 in
theorem B_X4_emptyBins {G : zG} {X : zX} {kd : kD} {N0 : Nat} (C : zCt G X 1 0 0 RX4 cX4_emptyBins 3) (hr : (zXh X).sig.returnType = none) : ∀ f : Nat,
    (∀ (S : aS) (v0 : Nat) (v1 : Int32) (res : Option Value × aS), zT0 kd N0 S → v0 < N0 → kd v0 = .inl 3 → F_X4_emptyBins f 0 [.ref v0, .int v1] S = some res → zV G X (zQX G X (zPo G kd N0 res) 0 0) 3 [some (.ref (zB G + v0)), some (.int v1), none] [] (cn G kd N0 S) 0 0 0) ∧
    (∀ (S : aS) (v0 : Nat) (v1 : Int32) (v2 : Int32) (res : Option Value × aS), zT0 kd N0 S → v0 < N0 → kd v0 = .inl 3 → F_X4_emptyBins f 1 [.ref v0, .int v1, .int v2] S = some res → zV G X (zQX G X (zPo G kd N0 res) 0 0) 3 [some (.ref (zB G + v0)), some (.int v1), some (.int v2)] [] (cn G kd N0 S) 2 0 0) ∧
    (∀ (S : aS) (v0 : Nat) (v1 : Int32) (v2 : Int32) (res : Option Value × aS), zT0 kd N0 S → v0 < N0 → kd v0 = .inl 3 → F_X4_emptyBins f 2 [.ref v0, .int v1, .int v2] S = some res → zV G X (zQX G X (zPo G kd N0 res) 0 0) 3 [some (.ref (zB G + v0)), some (.int v1), some (.int v2)] [] (cn G kd N0 S) 26 0 0) := by
  intro f
  induction f with
  | zero => exact ⟨(fun _ _ _ _ _ _ _ h => by cases h), (fun _ _ _ _ _ _ _ _ h => by cases h), (fun _ _ _ _ _ _ _ _ h => by cases h)⟩
  | succ f ih =>
    obtain ⟨ih0, ih1, ih2⟩ := ih
    refine ⟨?_, ?_, ?_⟩
    · intro S v0 v1 res hT hpv0 hkv0 hF
      replace hF : F_X4_emptyBins_0 f (F_X4_emptyBins f) v0 v1 S = some res := hF
      unfold F_X4_emptyBins_0 at hF
      refine z_iconst (v := 0) C dX4_emptyBins_0 (by decide) ?_
      refine z_istore_n (lv2 := [some (.ref (zB G + v0)), some (.int v1), some (.int 0)]) C dX4_emptyBins_1 (by decide) rfl ?_
      exact ih1 S v0 v1 0 res hT hpv0 hkv0   hF
    · intro S v0 v1 v2 res hT hpv0 hkv0 hF
      replace hF : F_X4_emptyBins_1 f (F_X4_emptyBins f) v0 v1 v2 S = some res := hF
      unfold F_X4_emptyBins_1 at hF
      refine z_iload_n C dX4_emptyBins_2 rfl ?_
      refine z_aload_n C dX4_emptyBins_3 rfl ?_
      refine f_geti C dX4_emptyBins_4 zfRX4_27 hpv0 hkv0 rfl ?_
      refine z_icmp_ge C 32 dX4_emptyBins_7 (by decide) (fun c3 => ?_) (fun c3 => ?_)
      · replace hF := ip hF c3
        cases hF
        exact z_vret C hr dX4_emptyBins_32 ⟨rfl, rfl, hT⟩
      · replace hF := im hF c3
        refine z_aload_n C dX4_emptyBins_10 rfl ?_
        refine f_getr C dX4_emptyBins_11 zfRX4_15 hpv0 hkv0 rfl ?_
        obtain ⟨hp4, hk4⟩ := hT.1 v0 3 2 (.inr (0, 8)) hpv0 hkv0 rfl
        refine z_iload_n C dX4_emptyBins_14 rfl ?_
        obtain ⟨hi5, hF⟩ := bX_some hF
        obtain ⟨q5, eq5⟩ : ∃ q : Nat, q = Int32.toNatClampNeg v2 := ⟨_, rfl⟩
        rw [← eq5] at hF
        refine f_iald C dX4_emptyBins_15 hp4 hk4 hi5 ?_
        rw [← eq5]
        refine z_if_le C 26 dX4_emptyBins_16 (by decide) (fun c7 => ?_) (fun c7 => ?_)
        · replace hF := ip hF c7
          exact ih2 S v0 v1 v2 res hT hpv0 hkv0   hF
        · replace hF := im hF c7
          refine z_aload_n C dX4_emptyBins_19 rfl ?_
          refine z_iload_n C dX4_emptyBins_20 rfl ?_
          refine z_iload_n C dX4_emptyBins_21 rfl ?_
          obtain ⟨x8, S8, h8, hF⟩ := bI_some hF
          refine f_cV (st2 := [.int x8]) C dX4_emptyBins_22 zyX4_emptyBin zvX4_emptyBin lkRX4_69 (K_X4_emptyBin (l := zXl X) hT hpv0 hkv0   h8) hpv0 hkv0 rfl (by decide) rfl rfl (Nat.le_of_ble_eq_true rfl) rfl (fun hT8 => ?_)
          refine z_pop C dX4_emptyBins_25 rfl ?_
          exact ih2 S8 v0 v1 v2 res hT8 hpv0 hkv0   hF
    · intro S v0 v1 v2 res hT hpv0 hkv0 hF
      replace hF : F_X4_emptyBins_2 f (F_X4_emptyBins f) v0 v1 v2 S = some res := hF
      unfold F_X4_emptyBins_2 at hF
      refine z_iinc (v := v2 + 1) (lv2 := [some (.ref (zB G + v0)), some (.int v1), some (.int (v2 + 1))]) C dX4_emptyBins_26 rfl (by rw [show Int32.ofInt 1 = (1 : Int32) from by decide]) rfl ?_
      refine z_goto C 2 dX4_emptyBins_29 (by decide) ?_
      exact ih1 S v0 v1 (v2 + 1) res hT hpv0 hkv0   hF
theorem K_X4_emptyBins {G : zG} {l : Launch} {kd : kD} {N0 f : Nat} {S : aS} {v0 : Nat} {v1 : Int32} {res : Option Value × aS} (hT : zT0 kd N0 S) (hpv0 : v0 < N0) (hkv0 : kd v0 = .inl 3) (hF : F_X4_emptyBins f 0 [.ref v0, .int v1] S = some res) : zM G l 1 0 0 yX4_emptyBins cX4_emptyBins 3 none [.ref (zB G + v0), .int v1] (cn G kd N0 S) (zPo G kd N0 res) := zM.of (by decide) rfl (Nat.le_of_ble_eq_true rfl) (fun X _ C hr _ => (B_X4_emptyBins C hr f).1 S v0 v1 res hT hpv0 hkv0 hF)
def F_X4_setBin_0 (f : Nat) (rc : Nat → List Value → aS → aR) (v0 : Nat) (v1 : Int32) (v2 : Int32) (S : aS) : aR :=
  bX v1 8 fun q2 => fS (sI S (gR S v0 2) q2 v2) fun S3 => bX v1 8 fun q5 => fS (sI S3 (gR S3 v0 3) q5 0) fun S6 => some (none, S6)
def F_X4_setBin : Nat → Nat → List Value → aS → aR
  | 0, _, _, _ => none
  | f + 1, 0, vs, S => F_X4_setBin_0 f (F_X4_setBin f) (vR vs 0) (vI vs 1) (vI vs 2) S
  | _ + 1, _, _, _ => none
theorem dX4_setBin_0 : decode cX4_setBin 0 = .ok (.aload_n 0, 1) := by decide +kernel
theorem dX4_setBin_1 : decode cX4_setBin 1 = .ok (.getfield 15, 3) := by decide +kernel
theorem dX4_setBin_4 : decode cX4_setBin 4 = .ok (.iload_n 1, 1) := by decide +kernel
theorem dX4_setBin_5 : decode cX4_setBin 5 = .ok (.iload_n 2, 1) := by decide +kernel
theorem dX4_setBin_6 : decode cX4_setBin 6 = .ok (.iastore, 1) := by decide +kernel
theorem dX4_setBin_7 : decode cX4_setBin 7 = .ok (.aload_n 0, 1) := by decide +kernel
theorem dX4_setBin_8 : decode cX4_setBin 8 = .ok (.getfield 18, 3) := by decide +kernel
theorem dX4_setBin_11 : decode cX4_setBin 11 = .ok (.iload_n 1, 1) := by decide +kernel
theorem dX4_setBin_12 : decode cX4_setBin 12 = .ok (.iconst 0, 1) := by decide +kernel
theorem dX4_setBin_13 : decode cX4_setBin 13 = .ok (.iastore, 1) := by decide +kernel
theorem dX4_setBin_14 : decode cX4_setBin 14 = .ok (.return_, 1) := by decide +kernel
set_option maxHeartbeats 4000000 in
set_option maxRecDepth 100000 in
theorem B_X4_setBin {G : zG} {X : zX} {kd : kD} {N0 : Nat} (C : zCt G X 0 0 0 RX4 cX4_setBin 3) (hr : (zXh X).sig.returnType = none) : ∀ f : Nat,
    (∀ (S : aS) (v0 : Nat) (v1 : Int32) (v2 : Int32) (res : Option Value × aS), zT0 kd N0 S → v0 < N0 → kd v0 = .inl 3 → F_X4_setBin f 0 [.ref v0, .int v1, .int v2] S = some res → zV G X (zQX G X (zPo G kd N0 res) 0 0) 3 [some (.ref (zB G + v0)), some (.int v1), some (.int v2)] [] (cn G kd N0 S) 0 0 0) := by
  intro f
  induction f with
  | zero => exact (fun _ _ _ _ _ _ _ _ h => by cases h)
  | succ f ih =>
    have ih0 := ih
    intro S v0 v1 v2 res hT hpv0 hkv0 hF
    replace hF : F_X4_setBin_0 f (F_X4_setBin f) v0 v1 v2 S = some res := hF
    unfold F_X4_setBin_0 at hF
    refine z_aload_n C dX4_setBin_0 rfl ?_
    refine f_getr C dX4_setBin_1 zfRX4_15 hpv0 hkv0 rfl ?_
    obtain ⟨hp1, hk1⟩ := hT.1 v0 3 2 (.inr (0, 8)) hpv0 hkv0 rfl
    refine z_iload_n C dX4_setBin_4 rfl ?_
    refine z_iload_n C dX4_setBin_5 rfl ?_
    obtain ⟨hi2, hF⟩ := bX_some hF
    obtain ⟨q2, eq2⟩ : ∃ q : Nat, q = Int32.toNatClampNeg v1 := ⟨_, rfl⟩
    rw [← eq2] at hF
    refine f_iast C dX4_setBin_6 hp1 hk1 hi2 ?_
    rw [← eq2]
    have hT3 : zT0 kd N0 (sI S (gR S v0 2) q2 v2) := zT0_sI hT
    replace hF := fS_e hF
    generalize sI S (gR S v0 2) q2 v2 = S3 at hF hT3 ⊢
    refine z_aload_n C dX4_setBin_7 rfl ?_
    refine f_getr C dX4_setBin_8 zfRX4_18 hpv0 hkv0 rfl ?_
    obtain ⟨hp4, hk4⟩ := hT3.1 v0 3 3 (.inr (0, 8)) hpv0 hkv0 rfl
    refine z_iload_n C dX4_setBin_11 rfl ?_
    refine z_iconst (v := 0) C dX4_setBin_12 (by decide) ?_
    obtain ⟨hi5, hF⟩ := bX_some hF
    obtain ⟨q5, eq5⟩ : ∃ q : Nat, q = Int32.toNatClampNeg v1 := ⟨_, rfl⟩
    rw [← eq5] at hF
    refine f_iast C dX4_setBin_13 hp4 hk4 hi5 ?_
    rw [← eq5]
    have hT6 : zT0 kd N0 (sI S3 (gR S3 v0 3) q5 0) := zT0_sI hT3
    replace hF := fS_e hF
    generalize sI S3 (gR S3 v0 3) q5 0 = S6 at hF hT6 ⊢
    cases hF
    exact z_vret C hr dX4_setBin_14 ⟨rfl, rfl, hT6⟩
theorem K_X4_setBin {G : zG} {l : Launch} {kd : kD} {N0 f : Nat} {S : aS} {v0 : Nat} {v1 : Int32} {v2 : Int32} {res : Option Value × aS} (hT : zT0 kd N0 S) (hpv0 : v0 < N0) (hkv0 : kd v0 = .inl 3) (hF : F_X4_setBin f 0 [.ref v0, .int v1, .int v2] S = some res) : zM G l 0 0 0 yX4_setBin cX4_setBin 3 none [.ref (zB G + v0), .int v1, .int v2] (cn G kd N0 S) (zPo G kd N0 res) := zM.of (by decide) rfl (Nat.le_of_ble_eq_true rfl) (fun X _ C hr _ => (B_X4_setBin C hr f) S v0 v1 v2 res hT hpv0 hkv0 hF)
def F_X4_takeBin_0 (f : Nat) (rc : Nat → List Value → aS → aR) (v0 : Nat) (v1 : Int32) (S : aS) : aR :=
  bX v1 8 fun q2 => bV (F_X4_setBin f 0 [.ref v0, .int v1, .int 0] S) fun S3 => some (some (.int (gI S (gR S v0 3) q2)), S3)
def F_X4_takeBin : Nat → Nat → List Value → aS → aR
  | 0, _, _, _ => none
  | f + 1, 0, vs, S => F_X4_takeBin_0 f (F_X4_takeBin f) (vR vs 0) (vI vs 1) S
  | _ + 1, _, _, _ => none
theorem dX4_takeBin_0 : decode cX4_takeBin 0 = .ok (.aload_n 0, 1) := by decide +kernel
theorem dX4_takeBin_1 : decode cX4_takeBin 1 = .ok (.getfield 18, 3) := by decide +kernel
theorem dX4_takeBin_4 : decode cX4_takeBin 4 = .ok (.iload_n 1, 1) := by decide +kernel
theorem dX4_takeBin_5 : decode cX4_takeBin 5 = .ok (.iaload, 1) := by decide +kernel
theorem dX4_takeBin_6 : decode cX4_takeBin 6 = .ok (.istore_n 2, 1) := by decide +kernel
theorem dX4_takeBin_7 : decode cX4_takeBin 7 = .ok (.aload_n 0, 1) := by decide +kernel
theorem dX4_takeBin_8 : decode cX4_takeBin 8 = .ok (.iload_n 1, 1) := by decide +kernel
theorem dX4_takeBin_9 : decode cX4_takeBin 9 = .ok (.iconst 0, 1) := by decide +kernel
theorem dX4_takeBin_10 : decode cX4_takeBin 10 = .ok (.invokevirtual 72, 3) := by decide +kernel
theorem dX4_takeBin_13 : decode cX4_takeBin 13 = .ok (.iload_n 2, 1) := by decide +kernel
theorem dX4_takeBin_14 : decode cX4_takeBin 14 = .ok (.ireturn, 1) := by decide +kernel
set_option maxHeartbeats 4000000 in
set_option maxRecDepth 100000 in
theorem B_X4_takeBin {G : zG} {X : zX} {kd : kD} {N0 : Nat} (C : zCt G X 1 0 0 RX4 cX4_takeBin 3) (hr : (zXh X).sig.returnType = (some .int)) : ∀ f : Nat,
    (∀ (S : aS) (v0 : Nat) (v1 : Int32) (res : Option Value × aS), zT0 kd N0 S → v0 < N0 → kd v0 = .inl 3 → F_X4_takeBin f 0 [.ref v0, .int v1] S = some res → zV G X (zQX G X (zPo G kd N0 res) 0 0) 3 [some (.ref (zB G + v0)), some (.int v1), none] [] (cn G kd N0 S) 0 0 0) := by
  intro f
  induction f with
  | zero => exact (fun _ _ _ _ _ _ _ h => by cases h)
  | succ f ih =>
    have ih0 := ih
    intro S v0 v1 res hT hpv0 hkv0 hF
    replace hF : F_X4_takeBin_0 f (F_X4_takeBin f) v0 v1 S = some res := hF
    unfold F_X4_takeBin_0 at hF
    refine z_aload_n C dX4_takeBin_0 rfl ?_
    refine f_getr C dX4_takeBin_1 zfRX4_18 hpv0 hkv0 rfl ?_
    obtain ⟨hp1, hk1⟩ := hT.1 v0 3 3 (.inr (0, 8)) hpv0 hkv0 rfl
    refine z_iload_n C dX4_takeBin_4 rfl ?_
    obtain ⟨hi2, hF⟩ := bX_some hF
    obtain ⟨q2, eq2⟩ : ∃ q : Nat, q = Int32.toNatClampNeg v1 := ⟨_, rfl⟩
    rw [← eq2] at hF
    refine f_iald C dX4_takeBin_5 hp1 hk1 hi2 ?_
    rw [← eq2]
    refine z_istore_n (lv2 := [some (.ref (zB G + v0)), some (.int v1), some (.int (gI S (gR S v0 3) q2))]) C dX4_takeBin_6 (by decide) rfl ?_
    refine z_aload_n C dX4_takeBin_7 rfl ?_
    refine z_iload_n C dX4_takeBin_8 rfl ?_
    refine z_iconst (v := 0) C dX4_takeBin_9 (by decide) ?_
    obtain ⟨S3, h3, hF⟩ := bV_some hF
    refine f_cV (st2 := []) C dX4_takeBin_10 zyX4_setBin zvX4_setBin lkRX4_72 (K_X4_setBin (l := zXl X) hT hpv0 hkv0   h3) hpv0 hkv0 rfl (by decide) rfl rfl (Nat.le_of_ble_eq_true rfl) rfl (fun hT3 => ?_)
    refine z_iload_n C dX4_takeBin_13 rfl ?_
    cases hF
    exact z_iret C hr dX4_takeBin_14 ⟨rfl, rfl, hT3⟩
theorem K_X4_takeBin {G : zG} {l : Launch} {kd : kD} {N0 f : Nat} {S : aS} {v0 : Nat} {v1 : Int32} {res : Option Value × aS} (hT : zT0 kd N0 S) (hpv0 : v0 < N0) (hkv0 : kd v0 = .inl 3) (hF : F_X4_takeBin f 0 [.ref v0, .int v1] S = some res) : zM G l 1 0 0 yX4_takeBin cX4_takeBin 3 (some .int) [.ref (zB G + v0), .int v1] (cn G kd N0 S) (zPo G kd N0 res) := zM.of (by decide) rfl (Nat.le_of_ble_eq_true rfl) (fun X _ C hr _ => (B_X4_takeBin C hr f) S v0 v1 res hT hpv0 hkv0 hF)
def F_X4_sweepYard_0 (f : Nat) (rc : Nat → List Value → aS → aR) (v0 : Nat) (v1 : Int32) (S : aS) : aR :=
  bX v1 8 fun q2 => bX v1 8 fun q4 => fS (sI S (gR S v0 1) q4 0) fun S5 => some (some (.int (gI S (gR S v0 1) q2)), S5)
def F_X4_sweepYard : Nat → Nat → List Value → aS → aR
  | 0, _, _, _ => none
  | f + 1, 0, vs, S => F_X4_sweepYard_0 f (F_X4_sweepYard f) (vR vs 0) (vI vs 1) S
  | _ + 1, _, _, _ => none
theorem dX4_sweepYard_0 : decode cX4_sweepYard 0 = .ok (.aload_n 0, 1) := by decide +kernel
theorem dX4_sweepYard_1 : decode cX4_sweepYard 1 = .ok (.getfield 9, 3) := by decide +kernel
theorem dX4_sweepYard_4 : decode cX4_sweepYard 4 = .ok (.iload_n 1, 1) := by decide +kernel
theorem dX4_sweepYard_5 : decode cX4_sweepYard 5 = .ok (.iaload, 1) := by decide +kernel
theorem dX4_sweepYard_6 : decode cX4_sweepYard 6 = .ok (.istore_n 2, 1) := by decide +kernel
theorem dX4_sweepYard_7 : decode cX4_sweepYard 7 = .ok (.aload_n 0, 1) := by decide +kernel
theorem dX4_sweepYard_8 : decode cX4_sweepYard 8 = .ok (.getfield 9, 3) := by decide +kernel
theorem dX4_sweepYard_11 : decode cX4_sweepYard 11 = .ok (.iload_n 1, 1) := by decide +kernel
theorem dX4_sweepYard_12 : decode cX4_sweepYard 12 = .ok (.iconst 0, 1) := by decide +kernel
theorem dX4_sweepYard_13 : decode cX4_sweepYard 13 = .ok (.iastore, 1) := by decide +kernel
theorem dX4_sweepYard_14 : decode cX4_sweepYard 14 = .ok (.iload_n 2, 1) := by decide +kernel
theorem dX4_sweepYard_15 : decode cX4_sweepYard 15 = .ok (.ireturn, 1) := by decide +kernel
set_option maxHeartbeats 4000000 in
set_option maxRecDepth 100000 in
theorem B_X4_sweepYard {G : zG} {X : zX} {kd : kD} {N0 : Nat} (C : zCt G X 0 0 0 RX4 cX4_sweepYard 3) (hr : (zXh X).sig.returnType = (some .int)) : ∀ f : Nat,
    (∀ (S : aS) (v0 : Nat) (v1 : Int32) (res : Option Value × aS), zT0 kd N0 S → v0 < N0 → kd v0 = .inl 3 → F_X4_sweepYard f 0 [.ref v0, .int v1] S = some res → zV G X (zQX G X (zPo G kd N0 res) 0 0) 3 [some (.ref (zB G + v0)), some (.int v1), none] [] (cn G kd N0 S) 0 0 0) := by
  intro f
  induction f with
  | zero => exact (fun _ _ _ _ _ _ _ h => by cases h)
  | succ f ih =>
    have ih0 := ih
    intro S v0 v1 res hT hpv0 hkv0 hF
    replace hF : F_X4_sweepYard_0 f (F_X4_sweepYard f) v0 v1 S = some res := hF
    unfold F_X4_sweepYard_0 at hF
    refine z_aload_n C dX4_sweepYard_0 rfl ?_
    refine f_getr C dX4_sweepYard_1 zfRX4_9 hpv0 hkv0 rfl ?_
    obtain ⟨hp1, hk1⟩ := hT.1 v0 3 1 (.inr (0, 8)) hpv0 hkv0 rfl
    refine z_iload_n C dX4_sweepYard_4 rfl ?_
    obtain ⟨hi2, hF⟩ := bX_some hF
    obtain ⟨q2, eq2⟩ : ∃ q : Nat, q = Int32.toNatClampNeg v1 := ⟨_, rfl⟩
    rw [← eq2] at hF
    refine f_iald C dX4_sweepYard_5 hp1 hk1 hi2 ?_
    rw [← eq2]
    refine z_istore_n (lv2 := [some (.ref (zB G + v0)), some (.int v1), some (.int (gI S (gR S v0 1) q2))]) C dX4_sweepYard_6 (by decide) rfl ?_
    refine z_aload_n C dX4_sweepYard_7 rfl ?_
    refine f_getr C dX4_sweepYard_8 zfRX4_9 hpv0 hkv0 rfl ?_
    obtain ⟨hp3, hk3⟩ := hT.1 v0 3 1 (.inr (0, 8)) hpv0 hkv0 rfl
    refine z_iload_n C dX4_sweepYard_11 rfl ?_
    refine z_iconst (v := 0) C dX4_sweepYard_12 (by decide) ?_
    obtain ⟨hi4, hF⟩ := bX_some hF
    obtain ⟨q4, eq4⟩ : ∃ q : Nat, q = Int32.toNatClampNeg v1 := ⟨_, rfl⟩
    rw [← eq4] at hF
    refine f_iast C dX4_sweepYard_13 hp3 hk3 hi4 ?_
    rw [← eq4]
    have hT5 : zT0 kd N0 (sI S (gR S v0 1) q4 0) := zT0_sI hT
    replace hF := fS_e hF
    generalize sI S (gR S v0 1) q4 0 = S5 at hF hT5 ⊢
    refine z_iload_n C dX4_sweepYard_14 rfl ?_
    cases hF
    exact z_iret C hr dX4_sweepYard_15 ⟨rfl, rfl, hT5⟩
theorem K_X4_sweepYard {G : zG} {l : Launch} {kd : kD} {N0 f : Nat} {S : aS} {v0 : Nat} {v1 : Int32} {res : Option Value × aS} (hT : zT0 kd N0 S) (hpv0 : v0 < N0) (hkv0 : kd v0 = .inl 3) (hF : F_X4_sweepYard f 0 [.ref v0, .int v1] S = some res) : zM G l 0 0 0 yX4_sweepYard cX4_sweepYard 3 (some .int) [.ref (zB G + v0), .int v1] (cn G kd N0 S) (zPo G kd N0 res) := zM.of (by decide) rfl (Nat.le_of_ble_eq_true rfl) (fun X _ C hr _ => (B_X4_sweepYard C hr f) S v0 v1 res hT hpv0 hkv0 hF)
def F_X12_isWithin_0 (f : Nat) (rc : Nat → List Value → aS → aR) (v0 : Int32) (v1 : Int32) (v2 : Int32) (S : aS) : aR :=
  bZ (if v0 < v1 then 0 else if v2 < v0 then 0 else 1) (some (some (.int (if v0 < v1 then 0 else if v2 < v0 then 0 else 1)), S))
def F_X12_isWithin : Nat → Nat → List Value → aS → aR
  | 0, _, _, _ => none
  | f + 1, 0, vs, S => F_X12_isWithin_0 f (F_X12_isWithin f) (vI vs 0) (vI vs 1) (vI vs 2) S
  | _ + 1, _, _, _ => none
theorem dX12_isWithin_0 : decode cX12_isWithin 0 = .ok (.iload_n 0, 1) := by decide +kernel
theorem dX12_isWithin_1 : decode cX12_isWithin 1 = .ok (.iload_n 1, 1) := by decide +kernel
theorem dX12_isWithin_2 : decode cX12_isWithin 2 = .ok (.if_icmp .lt 12, 3) := by decide +kernel
theorem dX12_isWithin_5 : decode cX12_isWithin 5 = .ok (.iload_n 0, 1) := by decide +kernel
theorem dX12_isWithin_6 : decode cX12_isWithin 6 = .ok (.iload_n 2, 1) := by decide +kernel
theorem dX12_isWithin_7 : decode cX12_isWithin 7 = .ok (.if_icmp .gt 7, 3) := by decide +kernel
theorem dX12_isWithin_10 : decode cX12_isWithin 10 = .ok (.iconst 1, 1) := by decide +kernel
theorem dX12_isWithin_11 : decode cX12_isWithin 11 = .ok (.goto 4, 3) := by decide +kernel
theorem dX12_isWithin_14 : decode cX12_isWithin 14 = .ok (.iconst 0, 1) := by decide +kernel
theorem dX12_isWithin_15 : decode cX12_isWithin 15 = .ok (.ireturn, 1) := by decide +kernel
set_option maxHeartbeats 4000000 in
set_option maxRecDepth 100000 in
theorem B_X12_isWithin {G : zG} {X : zX} {kd : kD} {N0 : Nat} (C : zCt G X 0 0 0 RX12 cX12_isWithin 3) (hr : (zXh X).sig.returnType = (some .boolean)) : ∀ f : Nat,
    (∀ (S : aS) (v0 : Int32) (v1 : Int32) (v2 : Int32) (res : Option Value × aS), zT0 kd N0 S → F_X12_isWithin f 0 [.int v0, .int v1, .int v2] S = some res → zV G X (zQX G X (zPo G kd N0 res) 0 0) 3 [some (.int v0), some (.int v1), some (.int v2)] [] (cn G kd N0 S) 0 0 0) := by
  intro f
  induction f with
  | zero => exact (fun _ _ _ _ _ _ h => by cases h)
  | succ f ih =>
    have ih0 := ih
    intro S v0 v1 v2 res hT  hF
    replace hF : F_X12_isWithin_0 f (F_X12_isWithin f) v0 v1 v2 S = some res := hF
    unfold F_X12_isWithin_0 at hF
    refine z_iload_n C dX12_isWithin_0 rfl ?_
    refine z_iload_n C dX12_isWithin_1 rfl ?_
    have hJ3 : zV G X (zQX G X (zPo G kd N0 res) 0 0) 3 [some (.int v0), some (.int v1), some (.int v2)] [.int (if v0 < v1 then 0 else if v2 < v0 then 0 else 1)] (cn G kd N0 S) 15 0 0 := by
      obtain ⟨hz, hF⟩ := bZ_some hF
      cases hF
      exact z_zret C hr hz.1 dX12_isWithin_15 ⟨rfl, rfl, hT⟩
    refine z_icmp_lt C 14 dX12_isWithin_2 (by decide) (fun c1 => ?_) (fun c1 => ?_)
    · refine z_iconst (v := 0) C dX12_isWithin_14 (by decide) ?_
      exact zV.at hJ3 (by first | rfl | simp only [if_pos c1]) (by first | rfl | simp only [if_pos c1]) rfl rfl
    · refine z_iload_n C dX12_isWithin_5 rfl ?_
      refine z_iload_n C dX12_isWithin_6 rfl ?_
      refine z_icmp_gt C 14 dX12_isWithin_7 (by decide) (fun c2 => ?_) (fun c2 => ?_)
      · refine z_iconst (v := 0) C dX12_isWithin_14 (by decide) ?_
        exact zV.at hJ3 (by first | rfl | simp only [if_neg c1, if_pos c2]) (by first | rfl | simp only [if_neg c1, if_pos c2]) rfl rfl
      · refine z_iconst (v := 1) C dX12_isWithin_10 (by decide) ?_
        refine z_goto C 15 dX12_isWithin_11 (by decide) ?_
        exact zV.at hJ3 (by first | rfl | simp only [if_neg c1, if_neg c2]) (by first | rfl | simp only [if_neg c1, if_neg c2]) rfl rfl
theorem K_X12_isWithin {G : zG} {l : Launch} {kd : kD} {N0 f : Nat} {S : aS} {v0 : Int32} {v1 : Int32} {v2 : Int32} {res : Option Value × aS} (hT : zT0 kd N0 S)  (hF : F_X12_isWithin f 0 [.int v0, .int v1, .int v2] S = some res) : zM G l 0 0 0 yX12_isWithin cX12_isWithin 3 (some .boolean) [.int v0, .int v1, .int v2] (cn G kd N0 S) (zPo G kd N0 res) := zM.of (by decide) rfl (Nat.le_of_ble_eq_true rfl) (fun X _ C hr _ => (B_X12_isWithin C hr f) S v0 v1 v2 res hT  hF)
def F_J9_max_7cf53_0 (f : Nat) (rc : Nat → List Value → aS → aR) (v0 : Int32) (v1 : Int32) (S : aS) : aR :=
  some (some (.int (if v0 < v1 then v1 else v0)), S)
def F_J9_max_7cf53 : Nat → Nat → List Value → aS → aR
  | 0, _, _, _ => none
  | f + 1, 0, vs, S => F_J9_max_7cf53_0 f (F_J9_max_7cf53 f) (vI vs 0) (vI vs 1) S
  | _ + 1, _, _, _ => none
theorem dJ9_max_7cf53_0 : decode cJ9_max_7cf53 0 = .ok (.iload_n 0, 1) := by decide +kernel
theorem dJ9_max_7cf53_1 : decode cJ9_max_7cf53 1 = .ok (.iload_n 1, 1) := by decide +kernel
theorem dJ9_max_7cf53_2 : decode cJ9_max_7cf53 2 = .ok (.if_icmp .lt 7, 3) := by decide +kernel
theorem dJ9_max_7cf53_5 : decode cJ9_max_7cf53 5 = .ok (.iload_n 0, 1) := by decide +kernel
theorem dJ9_max_7cf53_6 : decode cJ9_max_7cf53 6 = .ok (.goto 4, 3) := by decide +kernel
theorem dJ9_max_7cf53_9 : decode cJ9_max_7cf53 9 = .ok (.iload_n 1, 1) := by decide +kernel
theorem dJ9_max_7cf53_10 : decode cJ9_max_7cf53 10 = .ok (.ireturn, 1) := by decide +kernel
set_option maxHeartbeats 4000000 in
set_option maxRecDepth 100000 in
theorem B_J9_max_7cf53 {G : zG} {X : zX} {kd : kD} {N0 : Nat} (C : zCt G X 0 0 0 RJ9 cJ9_max_7cf53 2) (hr : (zXh X).sig.returnType = (some .int)) : ∀ f : Nat,
    (∀ (S : aS) (v0 : Int32) (v1 : Int32) (res : Option Value × aS), zT0 kd N0 S → F_J9_max_7cf53 f 0 [.int v0, .int v1] S = some res → zV G X (zQX G X (zPo G kd N0 res) 0 0) 2 [some (.int v0), some (.int v1)] [] (cn G kd N0 S) 0 0 0) := by
  intro f
  induction f with
  | zero => exact (fun _ _ _ _ _ h => by cases h)
  | succ f ih =>
    have ih0 := ih
    intro S v0 v1 res hT  hF
    replace hF : F_J9_max_7cf53_0 f (F_J9_max_7cf53 f) v0 v1 S = some res := hF
    unfold F_J9_max_7cf53_0 at hF
    refine z_iload_n C dJ9_max_7cf53_0 rfl ?_
    refine z_iload_n C dJ9_max_7cf53_1 rfl ?_
    have hJ2 : zV G X (zQX G X (zPo G kd N0 res) 0 0) 2 [some (.int v0), some (.int v1)] [.int (if v0 < v1 then v1 else v0)] (cn G kd N0 S) 10 0 0 := by
      cases hF
      exact z_iret C hr dJ9_max_7cf53_10 ⟨rfl, rfl, hT⟩
    refine z_icmp_lt C 9 dJ9_max_7cf53_2 (by decide) (fun c1 => ?_) (fun c1 => ?_)
    · refine z_iload_n C dJ9_max_7cf53_9 rfl ?_
      exact zV.at hJ2 (by first | rfl | simp only [if_pos c1]) (by first | rfl | simp only [if_pos c1]) rfl rfl
    · refine z_iload_n C dJ9_max_7cf53_5 rfl ?_
      refine z_goto C 10 dJ9_max_7cf53_6 (by decide) ?_
      exact zV.at hJ2 (by first | rfl | simp only [if_neg c1]) (by first | rfl | simp only [if_neg c1]) rfl rfl
theorem K_J9_max_7cf53 {G : zG} {l : Launch} {kd : kD} {N0 f : Nat} {S : aS} {v0 : Int32} {v1 : Int32} {res : Option Value × aS} (hT : zT0 kd N0 S)  (hF : F_J9_max_7cf53 f 0 [.int v0, .int v1] S = some res) : zM G l 0 0 0 yJ9_max_7cf53 cJ9_max_7cf53 2 (some .int) [.int v0, .int v1] (cn G kd N0 S) (zPo G kd N0 res) := zM.of (by decide) rfl (Nat.le_of_ble_eq_true rfl) (fun X _ C hr _ => (B_J9_max_7cf53 C hr f) S v0 v1 res hT  hF)
def F_J9_min_7cf53_0 (f : Nat) (rc : Nat → List Value → aS → aR) (v0 : Int32) (v1 : Int32) (S : aS) : aR :=
  some (some (.int (if v1 < v0 then v1 else v0)), S)
def F_J9_min_7cf53 : Nat → Nat → List Value → aS → aR
  | 0, _, _, _ => none
  | f + 1, 0, vs, S => F_J9_min_7cf53_0 f (F_J9_min_7cf53 f) (vI vs 0) (vI vs 1) S
  | _ + 1, _, _, _ => none
theorem dJ9_min_7cf53_0 : decode cJ9_min_7cf53 0 = .ok (.iload_n 0, 1) := by decide +kernel
theorem dJ9_min_7cf53_1 : decode cJ9_min_7cf53 1 = .ok (.iload_n 1, 1) := by decide +kernel
theorem dJ9_min_7cf53_2 : decode cJ9_min_7cf53 2 = .ok (.if_icmp .gt 7, 3) := by decide +kernel
theorem dJ9_min_7cf53_5 : decode cJ9_min_7cf53 5 = .ok (.iload_n 0, 1) := by decide +kernel
theorem dJ9_min_7cf53_6 : decode cJ9_min_7cf53 6 = .ok (.goto 4, 3) := by decide +kernel
theorem dJ9_min_7cf53_9 : decode cJ9_min_7cf53 9 = .ok (.iload_n 1, 1) := by decide +kernel
theorem dJ9_min_7cf53_10 : decode cJ9_min_7cf53 10 = .ok (.ireturn, 1) := by decide +kernel
set_option maxHeartbeats 4000000 in
set_option maxRecDepth 100000 in
theorem B_J9_min_7cf53 {G : zG} {X : zX} {kd : kD} {N0 : Nat} (C : zCt G X 0 0 0 RJ9 cJ9_min_7cf53 2) (hr : (zXh X).sig.returnType = (some .int)) : ∀ f : Nat,
    (∀ (S : aS) (v0 : Int32) (v1 : Int32) (res : Option Value × aS), zT0 kd N0 S → F_J9_min_7cf53 f 0 [.int v0, .int v1] S = some res → zV G X (zQX G X (zPo G kd N0 res) 0 0) 2 [some (.int v0), some (.int v1)] [] (cn G kd N0 S) 0 0 0) := by
  intro f
  induction f with
  | zero => exact (fun _ _ _ _ _ h => by cases h)
  | succ f ih =>
    have ih0 := ih
    intro S v0 v1 res hT  hF
    replace hF : F_J9_min_7cf53_0 f (F_J9_min_7cf53 f) v0 v1 S = some res := hF
    unfold F_J9_min_7cf53_0 at hF
    refine z_iload_n C dJ9_min_7cf53_0 rfl ?_
    refine z_iload_n C dJ9_min_7cf53_1 rfl ?_
    have hJ2 : zV G X (zQX G X (zPo G kd N0 res) 0 0) 2 [some (.int v0), some (.int v1)] [.int (if v1 < v0 then v1 else v0)] (cn G kd N0 S) 10 0 0 := by
      cases hF
      exact z_iret C hr dJ9_min_7cf53_10 ⟨rfl, rfl, hT⟩
    refine z_icmp_gt C 9 dJ9_min_7cf53_2 (by decide) (fun c1 => ?_) (fun c1 => ?_)
    · refine z_iload_n C dJ9_min_7cf53_9 rfl ?_
      exact zV.at hJ2 (by first | rfl | simp only [if_pos c1]) (by first | rfl | simp only [if_pos c1]) rfl rfl
    · refine z_iload_n C dJ9_min_7cf53_5 rfl ?_
      refine z_goto C 10 dJ9_min_7cf53_6 (by decide) ?_
      exact zV.at hJ2 (by first | rfl | simp only [if_neg c1]) (by first | rfl | simp only [if_neg c1]) rfl rfl
theorem K_J9_min_7cf53 {G : zG} {l : Launch} {kd : kD} {N0 f : Nat} {S : aS} {v0 : Int32} {v1 : Int32} {res : Option Value × aS} (hT : zT0 kd N0 S)  (hF : F_J9_min_7cf53 f 0 [.int v0, .int v1] S = some res) : zM G l 0 0 0 yJ9_min_7cf53 cJ9_min_7cf53 2 (some .int) [.int v0, .int v1] (cn G kd N0 S) (zPo G kd N0 res) := zM.of (by decide) rfl (Nat.le_of_ble_eq_true rfl) (fun X _ C hr _ => (B_J9_min_7cf53 C hr f) S v0 v1 res hT  hF)
def F_X4_yardsToOpen_0 (f : Nat) (rc : Nat → List Value → aS → aR) (v0 : Nat) (v1 : Int32) (S : aS) : aR :=
  bI (F_J9_max_7cf53 f 0 [.int 0, .int v1] S) fun x1 S1 => rc 1 [.ref v0, .int v1, .int x1] S1
def F_X4_yardsToOpen_1 (f : Nat) (rc : Nat → List Value → aS → aR) (v0 : Nat) (v1 : Int32) (v2 : Int32) (S : aS) : aR :=
  if (gI S v0 0) ≤ v2 then some (some (.int 9), S) else bX v2 8 fun q4 => bX v2 8 fun q6 => if (gI S (gR S v0 2) q6) ≤ (gI S (gR S v0 3) q4) then rc 1 [.ref v0, .int v1, .int (v2 + 1)] S else some (some (.int (v2 - v1)), S)
def F_X4_yardsToOpen : Nat → Nat → List Value → aS → aR
  | 0, _, _, _ => none
  | f + 1, 0, vs, S => F_X4_yardsToOpen_0 f (F_X4_yardsToOpen f) (vR vs 0) (vI vs 1) S
  | f + 1, 1, vs, S => F_X4_yardsToOpen_1 f (F_X4_yardsToOpen f) (vR vs 0) (vI vs 1) (vI vs 2) S
  | _ + 1, _, _, _ => none
theorem dX4_yardsToOpen_0 : decode cX4_yardsToOpen 0 = .ok (.iconst 0, 1) := by decide +kernel
theorem dX4_yardsToOpen_1 : decode cX4_yardsToOpen 1 = .ok (.iload_n 1, 1) := by decide +kernel
theorem dX4_yardsToOpen_2 : decode cX4_yardsToOpen 2 = .ok (.invokestatic 60, 3) := by decide +kernel
theorem dX4_yardsToOpen_5 : decode cX4_yardsToOpen 5 = .ok (.istore_n 2, 1) := by decide +kernel
theorem dX4_yardsToOpen_6 : decode cX4_yardsToOpen 6 = .ok (.iload_n 2, 1) := by decide +kernel
theorem dX4_yardsToOpen_7 : decode cX4_yardsToOpen 7 = .ok (.aload_n 0, 1) := by decide +kernel
theorem dX4_yardsToOpen_8 : decode cX4_yardsToOpen 8 = .ok (.getfield 27, 3) := by decide +kernel
theorem dX4_yardsToOpen_11 : decode cX4_yardsToOpen 11 = .ok (.if_icmp .ge 28, 3) := by decide +kernel
theorem dX4_yardsToOpen_14 : decode cX4_yardsToOpen 14 = .ok (.aload_n 0, 1) := by decide +kernel
theorem dX4_yardsToOpen_15 : decode cX4_yardsToOpen 15 = .ok (.getfield 18, 3) := by decide +kernel
theorem dX4_yardsToOpen_18 : decode cX4_yardsToOpen 18 = .ok (.iload_n 2, 1) := by decide +kernel
theorem dX4_yardsToOpen_19 : decode cX4_yardsToOpen 19 = .ok (.iaload, 1) := by decide +kernel
theorem dX4_yardsToOpen_20 : decode cX4_yardsToOpen 20 = .ok (.aload_n 0, 1) := by decide +kernel
theorem dX4_yardsToOpen_21 : decode cX4_yardsToOpen 21 = .ok (.getfield 15, 3) := by decide +kernel
theorem dX4_yardsToOpen_24 : decode cX4_yardsToOpen 24 = .ok (.iload_n 2, 1) := by decide +kernel
theorem dX4_yardsToOpen_25 : decode cX4_yardsToOpen 25 = .ok (.iaload, 1) := by decide +kernel
theorem dX4_yardsToOpen_26 : decode cX4_yardsToOpen 26 = .ok (.if_icmp .ge 7, 3) := by decide +kernel
theorem dX4_yardsToOpen_29 : decode cX4_yardsToOpen 29 = .ok (.iload_n 2, 1) := by decide +kernel
theorem dX4_yardsToOpen_30 : decode cX4_yardsToOpen 30 = .ok (.iload_n 1, 1) := by decide +kernel
theorem dX4_yardsToOpen_31 : decode cX4_yardsToOpen 31 = .ok (.isub, 1) := by decide +kernel
theorem dX4_yardsToOpen_32 : decode cX4_yardsToOpen 32 = .ok (.ireturn, 1) := by decide +kernel
theorem dX4_yardsToOpen_33 : decode cX4_yardsToOpen 33 = .ok (.iinc 2 1, 3) := by decide +kernel
theorem dX4_yardsToOpen_36 : decode cX4_yardsToOpen 36 = .ok (.goto (-30), 3) := by decide +kernel
theorem dX4_yardsToOpen_39 : decode cX4_yardsToOpen 39 = .ok (.bipush 9, 2) := by decide +kernel
theorem dX4_yardsToOpen_41 : decode cX4_yardsToOpen 41 = .ok (.ireturn, 1) := by decide +kernel
set_option maxHeartbeats 4000000 in
set_option maxRecDepth 100000 in
theorem B_X4_yardsToOpen {G : zG} {X : zX} {kd : kD} {N0 : Nat} (C : zCt G X 1 0 0 RX4 cX4_yardsToOpen 3) (hr : (zXh X).sig.returnType = (some .int)) : ∀ f : Nat,
    (∀ (S : aS) (v0 : Nat) (v1 : Int32) (res : Option Value × aS), zT0 kd N0 S → v0 < N0 → kd v0 = .inl 3 → F_X4_yardsToOpen f 0 [.ref v0, .int v1] S = some res → zV G X (zQX G X (zPo G kd N0 res) 0 0) 3 [some (.ref (zB G + v0)), some (.int v1), none] [] (cn G kd N0 S) 0 0 0) ∧
    (∀ (S : aS) (v0 : Nat) (v1 : Int32) (v2 : Int32) (res : Option Value × aS), zT0 kd N0 S → v0 < N0 → kd v0 = .inl 3 → F_X4_yardsToOpen f 1 [.ref v0, .int v1, .int v2] S = some res → zV G X (zQX G X (zPo G kd N0 res) 0 0) 3 [some (.ref (zB G + v0)), some (.int v1), some (.int v2)] [] (cn G kd N0 S) 6 0 0) := by
  intro f
  induction f with
  | zero => exact ⟨(fun _ _ _ _ _ _ _ h => by cases h), (fun _ _ _ _ _ _ _ _ h => by cases h)⟩
  | succ f ih =>
    obtain ⟨ih0, ih1⟩ := ih
    refine ⟨?_, ?_⟩
    · intro S v0 v1 res hT hpv0 hkv0 hF
      replace hF : F_X4_yardsToOpen_0 f (F_X4_yardsToOpen f) v0 v1 S = some res := hF
      unfold F_X4_yardsToOpen_0 at hF
      refine z_iconst (v := 0) C dX4_yardsToOpen_0 (by decide) ?_
      refine z_iload_n C dX4_yardsToOpen_1 rfl ?_
      obtain ⟨x1, S1, h1, hF⟩ := bI_some hF
      refine f_cS (st2 := [.int x1]) C dX4_yardsToOpen_2 zyJ9_max_7cf53 zsJ9_max_7cf53 lkRX4_60 (K_J9_max_7cf53 (l := zXl X) hT   h1) (by decide) rfl rfl (Nat.le_of_ble_eq_true rfl) rfl (fun hT1 => ?_)
      refine z_istore_n (lv2 := [some (.ref (zB G + v0)), some (.int v1), some (.int x1)]) C dX4_yardsToOpen_5 (by decide) rfl ?_
      exact ih1 S1 v0 v1 x1 res hT1 hpv0 hkv0   hF
    · intro S v0 v1 v2 res hT hpv0 hkv0 hF
      replace hF : F_X4_yardsToOpen_1 f (F_X4_yardsToOpen f) v0 v1 v2 S = some res := hF
      unfold F_X4_yardsToOpen_1 at hF
      refine z_iload_n C dX4_yardsToOpen_6 rfl ?_
      refine z_aload_n C dX4_yardsToOpen_7 rfl ?_
      refine f_geti C dX4_yardsToOpen_8 zfRX4_27 hpv0 hkv0 rfl ?_
      refine z_icmp_ge C 39 dX4_yardsToOpen_11 (by decide) (fun c2 => ?_) (fun c2 => ?_)
      · replace hF := ip hF c2
        refine z_bipush (v := 9) C dX4_yardsToOpen_39 (by decide) ?_
        cases hF
        exact z_iret C hr dX4_yardsToOpen_41 ⟨rfl, rfl, hT⟩
      · replace hF := im hF c2
        refine z_aload_n C dX4_yardsToOpen_14 rfl ?_
        refine f_getr C dX4_yardsToOpen_15 zfRX4_18 hpv0 hkv0 rfl ?_
        obtain ⟨hp3, hk3⟩ := hT.1 v0 3 3 (.inr (0, 8)) hpv0 hkv0 rfl
        refine z_iload_n C dX4_yardsToOpen_18 rfl ?_
        obtain ⟨hi4, hF⟩ := bX_some hF
        obtain ⟨q4, eq4⟩ : ∃ q : Nat, q = Int32.toNatClampNeg v2 := ⟨_, rfl⟩
        rw [← eq4] at hF
        refine f_iald C dX4_yardsToOpen_19 hp3 hk3 hi4 ?_
        rw [← eq4]
        refine z_aload_n C dX4_yardsToOpen_20 rfl ?_
        refine f_getr C dX4_yardsToOpen_21 zfRX4_15 hpv0 hkv0 rfl ?_
        obtain ⟨hp5, hk5⟩ := hT.1 v0 3 2 (.inr (0, 8)) hpv0 hkv0 rfl
        refine z_iload_n C dX4_yardsToOpen_24 rfl ?_
        obtain ⟨hi6, hF⟩ := bX_some hF
        obtain ⟨q6, eq6⟩ : ∃ q : Nat, q = Int32.toNatClampNeg v2 := ⟨_, rfl⟩
        rw [← eq6] at hF
        refine f_iald C dX4_yardsToOpen_25 hp5 hk5 hi6 ?_
        rw [← eq6]
        refine z_icmp_ge C 33 dX4_yardsToOpen_26 (by decide) (fun c7 => ?_) (fun c7 => ?_)
        · replace hF := ip hF c7
          refine z_iinc (v := v2 + 1) (lv2 := [some (.ref (zB G + v0)), some (.int v1), some (.int (v2 + 1))]) C dX4_yardsToOpen_33 rfl (by rw [show Int32.ofInt 1 = (1 : Int32) from by decide]) rfl ?_
          refine z_goto C 6 dX4_yardsToOpen_36 (by decide) ?_
          exact ih1 S v0 v1 (v2 + 1) res hT hpv0 hkv0   hF
        · replace hF := im hF c7
          refine z_iload_n C dX4_yardsToOpen_29 rfl ?_
          refine z_iload_n C dX4_yardsToOpen_30 rfl ?_
          refine z_isub C dX4_yardsToOpen_31 ?_
          cases hF
          exact z_iret C hr dX4_yardsToOpen_32 ⟨rfl, rfl, hT⟩
theorem K_X4_yardsToOpen {G : zG} {l : Launch} {kd : kD} {N0 f : Nat} {S : aS} {v0 : Nat} {v1 : Int32} {res : Option Value × aS} (hT : zT0 kd N0 S) (hpv0 : v0 < N0) (hkv0 : kd v0 = .inl 3) (hF : F_X4_yardsToOpen f 0 [.ref v0, .int v1] S = some res) : zM G l 1 0 0 yX4_yardsToOpen cX4_yardsToOpen 3 (some .int) [.ref (zB G + v0), .int v1] (cn G kd N0 S) (zPo G kd N0 res) := zM.of (by decide) rfl (Nat.le_of_ble_eq_true rfl) (fun X _ C hr _ => (B_X4_yardsToOpen C hr f).1 S v0 v1 res hT hpv0 hkv0 hF)
def F_X4_nearOf_0 (f : Nat) (rc : Nat → List Value → aS → aR) (v0 : Nat) (v1 : Int32) (S : aS) : aR :=
  bI (F_X4_yardsToOpen f 0 [.ref v0, .int (v1 + 1)] S) fun x1 S1 => some (some (.int (if x1 = 9 then 9 else x1 + 1)), S1)
def F_X4_nearOf : Nat → Nat → List Value → aS → aR
  | 0, _, _, _ => none
  | f + 1, 0, vs, S => F_X4_nearOf_0 f (F_X4_nearOf f) (vR vs 0) (vI vs 1) S
  | _ + 1, _, _, _ => none
theorem dX4_nearOf_0 : decode cX4_nearOf 0 = .ok (.aload_n 0, 1) := by decide +kernel
theorem dX4_nearOf_1 : decode cX4_nearOf 1 = .ok (.iload_n 1, 1) := by decide +kernel
theorem dX4_nearOf_2 : decode cX4_nearOf 2 = .ok (.iconst 1, 1) := by decide +kernel
theorem dX4_nearOf_3 : decode cX4_nearOf 3 = .ok (.iadd, 1) := by decide +kernel
theorem dX4_nearOf_4 : decode cX4_nearOf 4 = .ok (.invokevirtual 66, 3) := by decide +kernel
theorem dX4_nearOf_7 : decode cX4_nearOf 7 = .ok (.istore_n 2, 1) := by decide +kernel
theorem dX4_nearOf_8 : decode cX4_nearOf 8 = .ok (.iload_n 2, 1) := by decide +kernel
theorem dX4_nearOf_9 : decode cX4_nearOf 9 = .ok (.bipush 9, 2) := by decide +kernel
theorem dX4_nearOf_11 : decode cX4_nearOf 11 = .ok (.if_icmp .ne 8, 3) := by decide +kernel
theorem dX4_nearOf_14 : decode cX4_nearOf 14 = .ok (.bipush 9, 2) := by decide +kernel
theorem dX4_nearOf_16 : decode cX4_nearOf 16 = .ok (.goto 6, 3) := by decide +kernel
theorem dX4_nearOf_19 : decode cX4_nearOf 19 = .ok (.iload_n 2, 1) := by decide +kernel
theorem dX4_nearOf_20 : decode cX4_nearOf 20 = .ok (.iconst 1, 1) := by decide +kernel
theorem dX4_nearOf_21 : decode cX4_nearOf 21 = .ok (.iadd, 1) := by decide +kernel
theorem dX4_nearOf_22 : decode cX4_nearOf 22 = .ok (.ireturn, 1) := by decide +kernel
set_option maxHeartbeats 4000000 in
set_option maxRecDepth 100000 in
theorem B_X4_nearOf {G : zG} {X : zX} {kd : kD} {N0 : Nat} (C : zCt G X 2 0 0 RX4 cX4_nearOf 3) (hr : (zXh X).sig.returnType = (some .int)) : ∀ f : Nat,
    (∀ (S : aS) (v0 : Nat) (v1 : Int32) (res : Option Value × aS), zT0 kd N0 S → v0 < N0 → kd v0 = .inl 3 → F_X4_nearOf f 0 [.ref v0, .int v1] S = some res → zV G X (zQX G X (zPo G kd N0 res) 0 0) 3 [some (.ref (zB G + v0)), some (.int v1), none] [] (cn G kd N0 S) 0 0 0) := by
  intro f
  induction f with
  | zero => exact (fun _ _ _ _ _ _ _ h => by cases h)
  | succ f ih =>
    have ih0 := ih
    intro S v0 v1 res hT hpv0 hkv0 hF
    replace hF : F_X4_nearOf_0 f (F_X4_nearOf f) v0 v1 S = some res := hF
    unfold F_X4_nearOf_0 at hF
    refine z_aload_n C dX4_nearOf_0 rfl ?_
    refine z_iload_n C dX4_nearOf_1 rfl ?_
    refine z_iconst (v := 1) C dX4_nearOf_2 (by decide) ?_
    refine z_iadd C dX4_nearOf_3 ?_
    obtain ⟨x1, S1, h1, hF⟩ := bI_some hF
    refine f_cV (st2 := [.int x1]) C dX4_nearOf_4 zyX4_yardsToOpen zvX4_yardsToOpen lkRX4_66 (K_X4_yardsToOpen (l := zXl X) hT hpv0 hkv0  h1) hpv0 hkv0 rfl (by decide) rfl rfl (Nat.le_of_ble_eq_true rfl) rfl (fun hT1 => ?_)
    refine z_istore_n (lv2 := [some (.ref (zB G + v0)), some (.int v1), some (.int x1)]) C dX4_nearOf_7 (by decide) rfl ?_
    refine z_iload_n C dX4_nearOf_8 rfl ?_
    refine z_bipush (v := 9) C dX4_nearOf_9 (by decide) ?_
    have hJ3 : zV G X (zQX G X (zPo G kd N0 res) 0 0) 3 [some (.ref (zB G + v0)), some (.int v1), some (.int x1)] [.int (if x1 = 9 then 9 else x1 + 1)] (cn G kd N0 S1) 22 0 0 := by
      cases hF
      exact z_iret C hr dX4_nearOf_22 ⟨rfl, rfl, hT1⟩
    refine z_icmp_ne C 19 dX4_nearOf_11 (by decide) (fun c2 => ?_) (fun c2 => ?_)
    · refine z_iload_n C dX4_nearOf_19 rfl ?_
      refine z_iconst (v := 1) C dX4_nearOf_20 (by decide) ?_
      refine z_iadd C dX4_nearOf_21 ?_
      exact zV.at hJ3 (by first | rfl | simp only [if_neg c2]) (by first | rfl | simp only [if_neg c2]) rfl rfl
    · refine z_bipush (v := 9) C dX4_nearOf_14 (by decide) ?_
      refine z_goto C 22 dX4_nearOf_16 (by decide) ?_
      exact zV.at hJ3 (by first | rfl | simp only [if_pos c2]) (by first | rfl | simp only [if_pos c2]) rfl rfl
theorem K_X4_nearOf {G : zG} {l : Launch} {kd : kD} {N0 f : Nat} {S : aS} {v0 : Nat} {v1 : Int32} {res : Option Value × aS} (hT : zT0 kd N0 S) (hpv0 : v0 < N0) (hkv0 : kd v0 = .inl 3) (hF : F_X4_nearOf f 0 [.ref v0, .int v1] S = some res) : zM G l 2 0 0 yX4_nearOf cX4_nearOf 3 (some .int) [.ref (zB G + v0), .int v1] (cn G kd N0 S) (zPo G kd N0 res) := zM.of (by decide) rfl (Nat.le_of_ble_eq_true rfl) (fun X _ C hr _ => (B_X4_nearOf C hr f) S v0 v1 res hT hpv0 hkv0 hF)
def F_X4_drop_0 (f : Nat) (rc : Nat → List Value → aS → aR) (v0 : Nat) (v1 : Int32) (v2 : Int32) (S : aS) : aR :=
  bX v1 8 fun q3 => bI (F_J9_min_7cf53 f 0 [.int 999, .int ((gI S (gR S v0 1) q3) + v2)] S) fun x4 S4 => bX v1 8 fun q5 => fS (sI S4 (gR S v0 1) q5 x4) fun S6 => some (none, S6)
def F_X4_drop : Nat → Nat → List Value → aS → aR
  | 0, _, _, _ => none
  | f + 1, 0, vs, S => F_X4_drop_0 f (F_X4_drop f) (vR vs 0) (vI vs 1) (vI vs 2) S
  | _ + 1, _, _, _ => none
theorem dX4_drop_0 : decode cX4_drop 0 = .ok (.aload_n 0, 1) := by decide +kernel
theorem dX4_drop_1 : decode cX4_drop 1 = .ok (.getfield 9, 3) := by decide +kernel
theorem dX4_drop_4 : decode cX4_drop 4 = .ok (.iload_n 1, 1) := by decide +kernel
theorem dX4_drop_5 : decode cX4_drop 5 = .ok (.sipush 999, 3) := by decide +kernel
theorem dX4_drop_8 : decode cX4_drop 8 = .ok (.aload_n 0, 1) := by decide +kernel
theorem dX4_drop_9 : decode cX4_drop 9 = .ok (.getfield 9, 3) := by decide +kernel
theorem dX4_drop_12 : decode cX4_drop 12 = .ok (.iload_n 1, 1) := by decide +kernel
theorem dX4_drop_13 : decode cX4_drop 13 = .ok (.iaload, 1) := by decide +kernel
theorem dX4_drop_14 : decode cX4_drop 14 = .ok (.iload_n 2, 1) := by decide +kernel
theorem dX4_drop_15 : decode cX4_drop 15 = .ok (.iadd, 1) := by decide +kernel
theorem dX4_drop_16 : decode cX4_drop 16 = .ok (.invokestatic 76, 3) := by decide +kernel
theorem dX4_drop_19 : decode cX4_drop 19 = .ok (.iastore, 1) := by decide +kernel
theorem dX4_drop_20 : decode cX4_drop 20 = .ok (.return_, 1) := by decide +kernel
set_option maxHeartbeats 4000000 in
set_option maxRecDepth 100000 in
theorem B_X4_drop {G : zG} {X : zX} {kd : kD} {N0 : Nat} (C : zCt G X 1 0 0 RX4 cX4_drop 3) (hr : (zXh X).sig.returnType = none) : ∀ f : Nat,
    (∀ (S : aS) (v0 : Nat) (v1 : Int32) (v2 : Int32) (res : Option Value × aS), zT0 kd N0 S → v0 < N0 → kd v0 = .inl 3 → F_X4_drop f 0 [.ref v0, .int v1, .int v2] S = some res → zV G X (zQX G X (zPo G kd N0 res) 0 0) 3 [some (.ref (zB G + v0)), some (.int v1), some (.int v2)] [] (cn G kd N0 S) 0 0 0) := by
  intro f
  induction f with
  | zero => exact (fun _ _ _ _ _ _ _ _ h => by cases h)
  | succ f ih =>
    have ih0 := ih
    intro S v0 v1 v2 res hT hpv0 hkv0 hF
    replace hF : F_X4_drop_0 f (F_X4_drop f) v0 v1 v2 S = some res := hF
    unfold F_X4_drop_0 at hF
    refine z_aload_n C dX4_drop_0 rfl ?_
    refine f_getr C dX4_drop_1 zfRX4_9 hpv0 hkv0 rfl ?_
    obtain ⟨hp1, hk1⟩ := hT.1 v0 3 1 (.inr (0, 8)) hpv0 hkv0 rfl
    refine z_iload_n C dX4_drop_4 rfl ?_
    refine z_sipush (v := 999) C dX4_drop_5 (by decide) ?_
    refine z_aload_n C dX4_drop_8 rfl ?_
    refine f_getr C dX4_drop_9 zfRX4_9 hpv0 hkv0 rfl ?_
    obtain ⟨hp2, hk2⟩ := hT.1 v0 3 1 (.inr (0, 8)) hpv0 hkv0 rfl
    refine z_iload_n C dX4_drop_12 rfl ?_
    obtain ⟨hi3, hF⟩ := bX_some hF
    obtain ⟨q3, eq3⟩ : ∃ q : Nat, q = Int32.toNatClampNeg v1 := ⟨_, rfl⟩
    rw [← eq3] at hF
    refine f_iald C dX4_drop_13 hp2 hk2 hi3 ?_
    rw [← eq3]
    refine z_iload_n C dX4_drop_14 rfl ?_
    refine z_iadd C dX4_drop_15 ?_
    obtain ⟨x4, S4, h4, hF⟩ := bI_some hF
    refine f_cS (st2 := [.int x4, .int v1, .ref (zB G + (gR S v0 1))]) C dX4_drop_16 zyJ9_min_7cf53 zsJ9_min_7cf53 lkRX4_76 (K_J9_min_7cf53 (l := zXl X) hT   h4) (by decide) rfl rfl (Nat.le_of_ble_eq_true rfl) rfl (fun hT4 => ?_)
    obtain ⟨hi5, hF⟩ := bX_some hF
    obtain ⟨q5, eq5⟩ : ∃ q : Nat, q = Int32.toNatClampNeg v1 := ⟨_, rfl⟩
    rw [← eq5] at hF
    refine f_iast C dX4_drop_19 hp1 hk1 hi5 ?_
    rw [← eq5]
    have hT6 : zT0 kd N0 (sI S4 (gR S v0 1) q5 x4) := zT0_sI hT4
    replace hF := fS_e hF
    generalize sI S4 (gR S v0 1) q5 x4 = S6 at hF hT6 ⊢
    cases hF
    exact z_vret C hr dX4_drop_20 ⟨rfl, rfl, hT6⟩
theorem K_X4_drop {G : zG} {l : Launch} {kd : kD} {N0 f : Nat} {S : aS} {v0 : Nat} {v1 : Int32} {v2 : Int32} {res : Option Value × aS} (hT : zT0 kd N0 S) (hpv0 : v0 < N0) (hkv0 : kd v0 = .inl 3) (hF : F_X4_drop f 0 [.ref v0, .int v1, .int v2] S = some res) : zM G l 1 0 0 yX4_drop cX4_drop 3 none [.ref (zB G + v0), .int v1, .int v2] (cn G kd N0 S) (zPo G kd N0 res) := zM.of (by decide) rfl (Nat.le_of_ble_eq_true rfl) (fun X _ C hr _ => (B_X4_drop C hr f) S v0 v1 v2 res hT hpv0 hkv0 hF)
def F_X4_blowOn_0 (f : Nat) (rc : Nat → List Value → aS → aR) (v0 : Nat) (S : aS) : aR :=
  rc 1 [.ref v0, .int 0, .int 0] S
def F_X4_blowOn_1 (f : Nat) (rc : Nat → List Value → aS → aR) (v0 : Nat) (v1 : Int32) (v2 : Int32) (S : aS) : aR :=
  if (gI S v0 0) ≤ v2 then some (none, S) else if ((gI S v0 0) - 1) ≤ v2 then rc 2 [.ref v0, .int v1, .int v2, .int 0] S else bX v2 8 fun q9 => rc 2 [.ref v0, .int v1, .int v2, .int ((gI S (gR S v0 1) q9) / 2)] S
def F_X4_blowOn_2 (f : Nat) (rc : Nat → List Value → aS → aR) (v0 : Nat) (v1 : Int32) (v2 : Int32) (w0 : Int32) (S : aS) : aR :=
  bX v2 8 fun q11 => bX v2 8 fun q12 => fS (sI S (gR S v0 1) q12 ((gI S (gR S v0 1) q11) - w0)) fun S13 => bV (F_X4_drop f 0 [.ref v0, .int v2, .int v1] S13) fun S14 => rc 1 [.ref v0, .int w0, .int (v2 + 1)] S14
def F_X4_blowOn : Nat → Nat → List Value → aS → aR
  | 0, _, _, _ => none
  | f + 1, 0, vs, S => F_X4_blowOn_0 f (F_X4_blowOn f) (vR vs 0) S
  | f + 1, 1, vs, S => F_X4_blowOn_1 f (F_X4_blowOn f) (vR vs 0) (vI vs 1) (vI vs 2) S
  | f + 1, 2, vs, S => F_X4_blowOn_2 f (F_X4_blowOn f) (vR vs 0) (vI vs 1) (vI vs 2) (vI vs 3) S
  | _ + 1, _, _, _ => none
theorem dX4_blowOn_0 : decode cX4_blowOn 0 = .ok (.iconst 0, 1) := by decide +kernel
theorem dX4_blowOn_1 : decode cX4_blowOn 1 = .ok (.istore_n 1, 1) := by decide +kernel
theorem dX4_blowOn_2 : decode cX4_blowOn 2 = .ok (.iconst 0, 1) := by decide +kernel
theorem dX4_blowOn_3 : decode cX4_blowOn 3 = .ok (.istore_n 2, 1) := by decide +kernel
theorem dX4_blowOn_4 : decode cX4_blowOn 4 = .ok (.iload_n 2, 1) := by decide +kernel
theorem dX4_blowOn_5 : decode cX4_blowOn 5 = .ok (.aload_n 0, 1) := by decide +kernel
theorem dX4_blowOn_6 : decode cX4_blowOn 6 = .ok (.getfield 27, 3) := by decide +kernel
theorem dX4_blowOn_9 : decode cX4_blowOn 9 = .ok (.if_icmp .ge 50, 3) := by decide +kernel
theorem dX4_blowOn_12 : decode cX4_blowOn 12 = .ok (.iload_n 2, 1) := by decide +kernel
theorem dX4_blowOn_13 : decode cX4_blowOn 13 = .ok (.aload_n 0, 1) := by decide +kernel
theorem dX4_blowOn_14 : decode cX4_blowOn 14 = .ok (.getfield 27, 3) := by decide +kernel
theorem dX4_blowOn_17 : decode cX4_blowOn 17 = .ok (.iconst 1, 1) := by decide +kernel
theorem dX4_blowOn_18 : decode cX4_blowOn 18 = .ok (.isub, 1) := by decide +kernel
theorem dX4_blowOn_19 : decode cX4_blowOn 19 = .ok (.if_icmp .ge 14, 3) := by decide +kernel
theorem dX4_blowOn_22 : decode cX4_blowOn 22 = .ok (.aload_n 0, 1) := by decide +kernel
theorem dX4_blowOn_23 : decode cX4_blowOn 23 = .ok (.getfield 9, 3) := by decide +kernel
theorem dX4_blowOn_26 : decode cX4_blowOn 26 = .ok (.iload_n 2, 1) := by decide +kernel
theorem dX4_blowOn_27 : decode cX4_blowOn 27 = .ok (.iaload, 1) := by decide +kernel
theorem dX4_blowOn_28 : decode cX4_blowOn 28 = .ok (.iconst 2, 1) := by decide +kernel
theorem dX4_blowOn_29 : decode cX4_blowOn 29 = .ok (.idiv, 1) := by decide +kernel
theorem dX4_blowOn_30 : decode cX4_blowOn 30 = .ok (.goto 4, 3) := by decide +kernel
theorem dX4_blowOn_33 : decode cX4_blowOn 33 = .ok (.iconst 0, 1) := by decide +kernel
theorem dX4_blowOn_34 : decode cX4_blowOn 34 = .ok (.istore_n 3, 1) := by decide +kernel
theorem dX4_blowOn_35 : decode cX4_blowOn 35 = .ok (.aload_n 0, 1) := by decide +kernel
theorem dX4_blowOn_36 : decode cX4_blowOn 36 = .ok (.getfield 9, 3) := by decide +kernel
theorem dX4_blowOn_39 : decode cX4_blowOn 39 = .ok (.iload_n 2, 1) := by decide +kernel
theorem dX4_blowOn_40 : decode cX4_blowOn 40 = .ok (.dup2, 1) := by decide +kernel
theorem dX4_blowOn_41 : decode cX4_blowOn 41 = .ok (.iaload, 1) := by decide +kernel
theorem dX4_blowOn_42 : decode cX4_blowOn 42 = .ok (.iload_n 3, 1) := by decide +kernel
theorem dX4_blowOn_43 : decode cX4_blowOn 43 = .ok (.isub, 1) := by decide +kernel
theorem dX4_blowOn_44 : decode cX4_blowOn 44 = .ok (.iastore, 1) := by decide +kernel
theorem dX4_blowOn_45 : decode cX4_blowOn 45 = .ok (.aload_n 0, 1) := by decide +kernel
theorem dX4_blowOn_46 : decode cX4_blowOn 46 = .ok (.iload_n 2, 1) := by decide +kernel
theorem dX4_blowOn_47 : decode cX4_blowOn 47 = .ok (.iload_n 1, 1) := by decide +kernel
theorem dX4_blowOn_48 : decode cX4_blowOn 48 = .ok (.invokevirtual 88, 3) := by decide +kernel
theorem dX4_blowOn_51 : decode cX4_blowOn 51 = .ok (.iload_n 3, 1) := by decide +kernel
theorem dX4_blowOn_52 : decode cX4_blowOn 52 = .ok (.istore_n 1, 1) := by decide +kernel
theorem dX4_blowOn_53 : decode cX4_blowOn 53 = .ok (.iinc 2 1, 3) := by decide +kernel
theorem dX4_blowOn_56 : decode cX4_blowOn 56 = .ok (.goto (-52), 3) := by decide +kernel
theorem dX4_blowOn_59 : decode cX4_blowOn 59 = .ok (.return_, 1) := by decide +kernel
set_option maxHeartbeats 4000000 in
set_option maxRecDepth 100000 in
theorem B_X4_blowOn {G : zG} {X : zX} {kd : kD} {N0 : Nat} (C : zCt G X 2 0 0 RX4 cX4_blowOn 4) (hr : (zXh X).sig.returnType = none) : ∀ f : Nat,
    (∀ (S : aS) (v0 : Nat) (res : Option Value × aS), zT0 kd N0 S → v0 < N0 → kd v0 = .inl 3 → F_X4_blowOn f 0 [.ref v0] S = some res → zV G X (zQX G X (zPo G kd N0 res) 0 0) 4 [some (.ref (zB G + v0)), none, none, none] [] (cn G kd N0 S) 0 0 0) ∧
    (∀ (S : aS) (v0 : Nat) (v1 : Int32) (v2 : Int32) (res : Option Value × aS), zT0 kd N0 S → v0 < N0 → kd v0 = .inl 3 → F_X4_blowOn f 1 [.ref v0, .int v1, .int v2] S = some res → zV G X (zQX G X (zPo G kd N0 res) 0 0) 4 [some (.ref (zB G + v0)), some (.int v1), some (.int v2), none] [] (cn G kd N0 S) 4 0 0) ∧
    (∀ (S : aS) (v0 : Nat) (v1 : Int32) (v2 : Int32) (w0 : Int32) (res : Option Value × aS), zT0 kd N0 S → v0 < N0 → kd v0 = .inl 3 → F_X4_blowOn f 2 [.ref v0, .int v1, .int v2, .int w0] S = some res → zV G X (zQX G X (zPo G kd N0 res) 0 0) 4 [some (.ref (zB G + v0)), some (.int v1), some (.int v2), none] [.int w0] (cn G kd N0 S) 34 0 0) := by
  intro f
  induction f with
  | zero => exact ⟨(fun _ _ _ _ _ _ h => by cases h), (fun _ _ _ _ _ _ _ _ h => by cases h), (fun _ _ _ _ _ _ _ _ _ h => by cases h)⟩
  | succ f ih =>
    obtain ⟨ih0, ih1, ih2⟩ := ih
    refine ⟨?_, ?_, ?_⟩
    · intro S v0 res hT hpv0 hkv0 hF
      replace hF : F_X4_blowOn_0 f (F_X4_blowOn f) v0 S = some res := hF
      unfold F_X4_blowOn_0 at hF
      refine z_iconst (v := 0) C dX4_blowOn_0 (by decide) ?_
      refine z_istore_n (lv2 := [some (.ref (zB G + v0)), some (.int 0), none, none]) C dX4_blowOn_1 (by decide) rfl ?_
      refine z_iconst (v := 0) C dX4_blowOn_2 (by decide) ?_
      refine z_istore_n (lv2 := [some (.ref (zB G + v0)), some (.int 0), some (.int 0), none]) C dX4_blowOn_3 (by decide) rfl ?_
      exact ih1 S v0 0 0 res hT hpv0 hkv0   hF
    · intro S v0 v1 v2 res hT hpv0 hkv0 hF
      replace hF : F_X4_blowOn_1 f (F_X4_blowOn f) v0 v1 v2 S = some res := hF
      unfold F_X4_blowOn_1 at hF
      refine z_iload_n C dX4_blowOn_4 rfl ?_
      refine z_aload_n C dX4_blowOn_5 rfl ?_
      refine f_geti C dX4_blowOn_6 zfRX4_27 hpv0 hkv0 rfl ?_
      refine z_icmp_ge C 59 dX4_blowOn_9 (by decide) (fun c4 => ?_) (fun c4 => ?_)
      · replace hF := ip hF c4
        cases hF
        exact z_vret C hr dX4_blowOn_59 ⟨rfl, rfl, hT⟩
      · replace hF := im hF c4
        refine z_iload_n C dX4_blowOn_12 rfl ?_
        refine z_aload_n C dX4_blowOn_13 rfl ?_
        refine f_geti C dX4_blowOn_14 zfRX4_27 hpv0 hkv0 rfl ?_
        refine z_iconst (v := 1) C dX4_blowOn_17 (by decide) ?_
        refine z_isub C dX4_blowOn_18 ?_
        refine z_icmp_ge C 33 dX4_blowOn_19 (by decide) (fun c7 => ?_) (fun c7 => ?_)
        · replace hF := ip hF c7
          refine z_iconst (v := 0) C dX4_blowOn_33 (by decide) ?_
          exact ih2 S v0 v1 v2 0 res hT hpv0 hkv0    hF
        · replace hF := im hF c7
          refine z_aload_n C dX4_blowOn_22 rfl ?_
          refine f_getr C dX4_blowOn_23 zfRX4_9 hpv0 hkv0 rfl ?_
          obtain ⟨hp8, hk8⟩ := hT.1 v0 3 1 (.inr (0, 8)) hpv0 hkv0 rfl
          refine z_iload_n C dX4_blowOn_26 rfl ?_
          obtain ⟨hi9, hF⟩ := bX_some hF
          obtain ⟨q9, eq9⟩ : ∃ q : Nat, q = Int32.toNatClampNeg v2 := ⟨_, rfl⟩
          rw [← eq9] at hF
          refine f_iald C dX4_blowOn_27 hp8 hk8 hi9 ?_
          rw [← eq9]
          refine z_iconst (v := 2) C dX4_blowOn_28 (by decide) ?_
          refine z_idiv C dX4_blowOn_29 (by decide) ?_
          refine z_goto C 34 dX4_blowOn_30 (by decide) ?_
          exact ih2 S v0 v1 v2 ((gI S (gR S v0 1) q9) / 2) res hT hpv0 hkv0    hF
    · intro S v0 v1 v2 w0 res hT hpv0 hkv0 hF
      replace hF : F_X4_blowOn_2 f (F_X4_blowOn f) v0 v1 v2 w0 S = some res := hF
      unfold F_X4_blowOn_2 at hF
      refine z_istore_n (lv2 := [some (.ref (zB G + v0)), some (.int v1), some (.int v2), some (.int w0)]) C dX4_blowOn_34 (by decide) rfl ?_
      refine z_aload_n C dX4_blowOn_35 rfl ?_
      refine f_getr C dX4_blowOn_36 zfRX4_9 hpv0 hkv0 rfl ?_
      obtain ⟨hp10, hk10⟩ := hT.1 v0 3 1 (.inr (0, 8)) hpv0 hkv0 rfl
      refine z_iload_n C dX4_blowOn_39 rfl ?_
      refine z_dup2 C dX4_blowOn_40 rfl rfl ?_
      obtain ⟨hi11, hF⟩ := bX_some hF
      obtain ⟨q11, eq11⟩ : ∃ q : Nat, q = Int32.toNatClampNeg v2 := ⟨_, rfl⟩
      rw [← eq11] at hF
      refine f_iald C dX4_blowOn_41 hp10 hk10 hi11 ?_
      rw [← eq11]
      refine z_iload_n C dX4_blowOn_42 rfl ?_
      refine z_isub C dX4_blowOn_43 ?_
      obtain ⟨hi12, hF⟩ := bX_some hF
      obtain ⟨q12, eq12⟩ : ∃ q : Nat, q = Int32.toNatClampNeg v2 := ⟨_, rfl⟩
      rw [← eq12] at hF
      refine f_iast C dX4_blowOn_44 hp10 hk10 hi12 ?_
      rw [← eq12]
      have hT13 : zT0 kd N0 (sI S (gR S v0 1) q12 ((gI S (gR S v0 1) q11) - w0)) := zT0_sI hT
      replace hF := fS_e hF
      generalize sI S (gR S v0 1) q12 ((gI S (gR S v0 1) q11) - w0) = S13 at hF hT13 ⊢
      refine z_aload_n C dX4_blowOn_45 rfl ?_
      refine z_iload_n C dX4_blowOn_46 rfl ?_
      refine z_iload_n C dX4_blowOn_47 rfl ?_
      obtain ⟨S14, h14, hF⟩ := bV_some hF
      refine f_cV (st2 := []) C dX4_blowOn_48 zyX4_drop zvX4_drop lkRX4_88 (K_X4_drop (l := zXl X) hT13 hpv0 hkv0   h14) hpv0 hkv0 rfl (by decide) rfl rfl (Nat.le_of_ble_eq_true rfl) rfl (fun hT14 => ?_)
      refine z_iload_n C dX4_blowOn_51 rfl ?_
      refine z_istore_n (lv2 := [some (.ref (zB G + v0)), some (.int w0), some (.int v2), some (.int w0)]) C dX4_blowOn_52 (by decide) rfl ?_
      refine z_iinc (v := v2 + 1) (lv2 := [some (.ref (zB G + v0)), some (.int w0), some (.int (v2 + 1)), some (.int w0)]) C dX4_blowOn_53 rfl (by rw [show Int32.ofInt 1 = (1 : Int32) from by decide]) rfl ?_
      refine z_goto C 4 dX4_blowOn_56 (by decide) ?_
      refine z_mask [true, true, true, false] ?_ rfl
      exact ih1 S14 v0 w0 (v2 + 1) res hT14 hpv0 hkv0   hF
theorem K_X4_blowOn {G : zG} {l : Launch} {kd : kD} {N0 f : Nat} {S : aS} {v0 : Nat} {res : Option Value × aS} (hT : zT0 kd N0 S) (hpv0 : v0 < N0) (hkv0 : kd v0 = .inl 3) (hF : F_X4_blowOn f 0 [.ref v0] S = some res) : zM G l 2 0 0 yX4_blowOn cX4_blowOn 4 none [.ref (zB G + v0)] (cn G kd N0 S) (zPo G kd N0 res) := zM.of (by decide) rfl (Nat.le_of_ble_eq_true rfl) (fun X _ C hr _ => (B_X4_blowOn C hr f).1 S v0 res hT hpv0 hkv0 hF)
def F_X4_blowBack_0 (f : Nat) (rc : Nat → List Value → aS → aR) (v0 : Nat) (S : aS) : aR :=
  rc 1 [.ref v0, .int 0, .int ((gI S v0 0) - 1)] S
def F_X4_blowBack_1 (f : Nat) (rc : Nat → List Value → aS → aR) (v0 : Nat) (v1 : Int32) (v2 : Int32) (S : aS) : aR :=
  if v2 < 0 then some (none, S) else if v2 ≤ 0 then rc 2 [.ref v0, .int v1, .int v2, .int 0] S else bX v2 8 fun q9 => rc 2 [.ref v0, .int v1, .int v2, .int ((gI S (gR S v0 1) q9) / 2)] S
def F_X4_blowBack_2 (f : Nat) (rc : Nat → List Value → aS → aR) (v0 : Nat) (v1 : Int32) (v2 : Int32) (w0 : Int32) (S : aS) : aR :=
  bX v2 8 fun q11 => bX v2 8 fun q12 => fS (sI S (gR S v0 1) q12 ((gI S (gR S v0 1) q11) - w0)) fun S13 => bV (F_X4_drop f 0 [.ref v0, .int v2, .int v1] S13) fun S14 => rc 1 [.ref v0, .int w0, .int (v2 + (-1))] S14
def F_X4_blowBack : Nat → Nat → List Value → aS → aR
  | 0, _, _, _ => none
  | f + 1, 0, vs, S => F_X4_blowBack_0 f (F_X4_blowBack f) (vR vs 0) S
  | f + 1, 1, vs, S => F_X4_blowBack_1 f (F_X4_blowBack f) (vR vs 0) (vI vs 1) (vI vs 2) S
  | f + 1, 2, vs, S => F_X4_blowBack_2 f (F_X4_blowBack f) (vR vs 0) (vI vs 1) (vI vs 2) (vI vs 3) S
  | _ + 1, _, _, _ => none
theorem dX4_blowBack_0 : decode cX4_blowBack 0 = .ok (.iconst 0, 1) := by decide +kernel
theorem dX4_blowBack_1 : decode cX4_blowBack 1 = .ok (.istore_n 1, 1) := by decide +kernel
theorem dX4_blowBack_2 : decode cX4_blowBack 2 = .ok (.aload_n 0, 1) := by decide +kernel
theorem dX4_blowBack_3 : decode cX4_blowBack 3 = .ok (.getfield 27, 3) := by decide +kernel
theorem dX4_blowBack_6 : decode cX4_blowBack 6 = .ok (.iconst 1, 1) := by decide +kernel
theorem dX4_blowBack_7 : decode cX4_blowBack 7 = .ok (.isub, 1) := by decide +kernel
theorem dX4_blowBack_8 : decode cX4_blowBack 8 = .ok (.istore_n 2, 1) := by decide +kernel
theorem dX4_blowBack_9 : decode cX4_blowBack 9 = .ok (.iload_n 2, 1) := by decide +kernel
theorem dX4_blowBack_10 : decode cX4_blowBack 10 = .ok (.ifCond .lt 44, 3) := by decide +kernel
theorem dX4_blowBack_13 : decode cX4_blowBack 13 = .ok (.iload_n 2, 1) := by decide +kernel
theorem dX4_blowBack_14 : decode cX4_blowBack 14 = .ok (.ifCond .le 14, 3) := by decide +kernel
theorem dX4_blowBack_17 : decode cX4_blowBack 17 = .ok (.aload_n 0, 1) := by decide +kernel
theorem dX4_blowBack_18 : decode cX4_blowBack 18 = .ok (.getfield 9, 3) := by decide +kernel
theorem dX4_blowBack_21 : decode cX4_blowBack 21 = .ok (.iload_n 2, 1) := by decide +kernel
theorem dX4_blowBack_22 : decode cX4_blowBack 22 = .ok (.iaload, 1) := by decide +kernel
theorem dX4_blowBack_23 : decode cX4_blowBack 23 = .ok (.iconst 2, 1) := by decide +kernel
theorem dX4_blowBack_24 : decode cX4_blowBack 24 = .ok (.idiv, 1) := by decide +kernel
theorem dX4_blowBack_25 : decode cX4_blowBack 25 = .ok (.goto 4, 3) := by decide +kernel
theorem dX4_blowBack_28 : decode cX4_blowBack 28 = .ok (.iconst 0, 1) := by decide +kernel
theorem dX4_blowBack_29 : decode cX4_blowBack 29 = .ok (.istore_n 3, 1) := by decide +kernel
theorem dX4_blowBack_30 : decode cX4_blowBack 30 = .ok (.aload_n 0, 1) := by decide +kernel
theorem dX4_blowBack_31 : decode cX4_blowBack 31 = .ok (.getfield 9, 3) := by decide +kernel
theorem dX4_blowBack_34 : decode cX4_blowBack 34 = .ok (.iload_n 2, 1) := by decide +kernel
theorem dX4_blowBack_35 : decode cX4_blowBack 35 = .ok (.dup2, 1) := by decide +kernel
theorem dX4_blowBack_36 : decode cX4_blowBack 36 = .ok (.iaload, 1) := by decide +kernel
theorem dX4_blowBack_37 : decode cX4_blowBack 37 = .ok (.iload_n 3, 1) := by decide +kernel
theorem dX4_blowBack_38 : decode cX4_blowBack 38 = .ok (.isub, 1) := by decide +kernel
theorem dX4_blowBack_39 : decode cX4_blowBack 39 = .ok (.iastore, 1) := by decide +kernel
theorem dX4_blowBack_40 : decode cX4_blowBack 40 = .ok (.aload_n 0, 1) := by decide +kernel
theorem dX4_blowBack_41 : decode cX4_blowBack 41 = .ok (.iload_n 2, 1) := by decide +kernel
theorem dX4_blowBack_42 : decode cX4_blowBack 42 = .ok (.iload_n 1, 1) := by decide +kernel
theorem dX4_blowBack_43 : decode cX4_blowBack 43 = .ok (.invokevirtual 88, 3) := by decide +kernel
theorem dX4_blowBack_46 : decode cX4_blowBack 46 = .ok (.iload_n 3, 1) := by decide +kernel
theorem dX4_blowBack_47 : decode cX4_blowBack 47 = .ok (.istore_n 1, 1) := by decide +kernel
theorem dX4_blowBack_48 : decode cX4_blowBack 48 = .ok (.iinc 2 (-1), 3) := by decide +kernel
theorem dX4_blowBack_51 : decode cX4_blowBack 51 = .ok (.goto (-42), 3) := by decide +kernel
theorem dX4_blowBack_54 : decode cX4_blowBack 54 = .ok (.return_, 1) := by decide +kernel
set_option maxHeartbeats 4000000 in
set_option maxRecDepth 100000 in
theorem B_X4_blowBack {G : zG} {X : zX} {kd : kD} {N0 : Nat} (C : zCt G X 2 0 0 RX4 cX4_blowBack 4) (hr : (zXh X).sig.returnType = none) : ∀ f : Nat,
    (∀ (S : aS) (v0 : Nat) (res : Option Value × aS), zT0 kd N0 S → v0 < N0 → kd v0 = .inl 3 → F_X4_blowBack f 0 [.ref v0] S = some res → zV G X (zQX G X (zPo G kd N0 res) 0 0) 4 [some (.ref (zB G + v0)), none, none, none] [] (cn G kd N0 S) 0 0 0) ∧
    (∀ (S : aS) (v0 : Nat) (v1 : Int32) (v2 : Int32) (res : Option Value × aS), zT0 kd N0 S → v0 < N0 → kd v0 = .inl 3 → F_X4_blowBack f 1 [.ref v0, .int v1, .int v2] S = some res → zV G X (zQX G X (zPo G kd N0 res) 0 0) 4 [some (.ref (zB G + v0)), some (.int v1), some (.int v2), none] [] (cn G kd N0 S) 9 0 0) ∧
    (∀ (S : aS) (v0 : Nat) (v1 : Int32) (v2 : Int32) (w0 : Int32) (res : Option Value × aS), zT0 kd N0 S → v0 < N0 → kd v0 = .inl 3 → F_X4_blowBack f 2 [.ref v0, .int v1, .int v2, .int w0] S = some res → zV G X (zQX G X (zPo G kd N0 res) 0 0) 4 [some (.ref (zB G + v0)), some (.int v1), some (.int v2), none] [.int w0] (cn G kd N0 S) 29 0 0) := by
  intro f
  induction f with
  | zero => exact ⟨(fun _ _ _ _ _ _ h => by cases h), (fun _ _ _ _ _ _ _ _ h => by cases h), (fun _ _ _ _ _ _ _ _ _ h => by cases h)⟩
  | succ f ih =>
    obtain ⟨ih0, ih1, ih2⟩ := ih
    refine ⟨?_, ?_, ?_⟩
    · intro S v0 res hT hpv0 hkv0 hF
      replace hF : F_X4_blowBack_0 f (F_X4_blowBack f) v0 S = some res := hF
      unfold F_X4_blowBack_0 at hF
      refine z_iconst (v := 0) C dX4_blowBack_0 (by decide) ?_
      refine z_istore_n (lv2 := [some (.ref (zB G + v0)), some (.int 0), none, none]) C dX4_blowBack_1 (by decide) rfl ?_
      refine z_aload_n C dX4_blowBack_2 rfl ?_
      refine f_geti C dX4_blowBack_3 zfRX4_27 hpv0 hkv0 rfl ?_
      refine z_iconst (v := 1) C dX4_blowBack_6 (by decide) ?_
      refine z_isub C dX4_blowBack_7 ?_
      refine z_istore_n (lv2 := [some (.ref (zB G + v0)), some (.int 0), some (.int ((gI S v0 0) - 1)), none]) C dX4_blowBack_8 (by decide) rfl ?_
      exact ih1 S v0 0 ((gI S v0 0) - 1) res hT hpv0 hkv0   hF
    · intro S v0 v1 v2 res hT hpv0 hkv0 hF
      replace hF : F_X4_blowBack_1 f (F_X4_blowBack f) v0 v1 v2 S = some res := hF
      unfold F_X4_blowBack_1 at hF
      refine z_iload_n C dX4_blowBack_9 rfl ?_
      refine z_if_lt C 54 dX4_blowBack_10 (by decide) (fun c4 => ?_) (fun c4 => ?_)
      · replace hF := ip hF c4
        cases hF
        exact z_vret C hr dX4_blowBack_54 ⟨rfl, rfl, hT⟩
      · replace hF := im hF c4
        refine z_iload_n C dX4_blowBack_13 rfl ?_
        refine z_if_le C 28 dX4_blowBack_14 (by decide) (fun c7 => ?_) (fun c7 => ?_)
        · replace hF := ip hF c7
          refine z_iconst (v := 0) C dX4_blowBack_28 (by decide) ?_
          exact ih2 S v0 v1 v2 0 res hT hpv0 hkv0    hF
        · replace hF := im hF c7
          refine z_aload_n C dX4_blowBack_17 rfl ?_
          refine f_getr C dX4_blowBack_18 zfRX4_9 hpv0 hkv0 rfl ?_
          obtain ⟨hp8, hk8⟩ := hT.1 v0 3 1 (.inr (0, 8)) hpv0 hkv0 rfl
          refine z_iload_n C dX4_blowBack_21 rfl ?_
          obtain ⟨hi9, hF⟩ := bX_some hF
          obtain ⟨q9, eq9⟩ : ∃ q : Nat, q = Int32.toNatClampNeg v2 := ⟨_, rfl⟩
          rw [← eq9] at hF
          refine f_iald C dX4_blowBack_22 hp8 hk8 hi9 ?_
          rw [← eq9]
          refine z_iconst (v := 2) C dX4_blowBack_23 (by decide) ?_
          refine z_idiv C dX4_blowBack_24 (by decide) ?_
          refine z_goto C 29 dX4_blowBack_25 (by decide) ?_
          exact ih2 S v0 v1 v2 ((gI S (gR S v0 1) q9) / 2) res hT hpv0 hkv0    hF
    · intro S v0 v1 v2 w0 res hT hpv0 hkv0 hF
      replace hF : F_X4_blowBack_2 f (F_X4_blowBack f) v0 v1 v2 w0 S = some res := hF
      unfold F_X4_blowBack_2 at hF
      refine z_istore_n (lv2 := [some (.ref (zB G + v0)), some (.int v1), some (.int v2), some (.int w0)]) C dX4_blowBack_29 (by decide) rfl ?_
      refine z_aload_n C dX4_blowBack_30 rfl ?_
      refine f_getr C dX4_blowBack_31 zfRX4_9 hpv0 hkv0 rfl ?_
      obtain ⟨hp10, hk10⟩ := hT.1 v0 3 1 (.inr (0, 8)) hpv0 hkv0 rfl
      refine z_iload_n C dX4_blowBack_34 rfl ?_
      refine z_dup2 C dX4_blowBack_35 rfl rfl ?_
      obtain ⟨hi11, hF⟩ := bX_some hF
      obtain ⟨q11, eq11⟩ : ∃ q : Nat, q = Int32.toNatClampNeg v2 := ⟨_, rfl⟩
      rw [← eq11] at hF
      refine f_iald C dX4_blowBack_36 hp10 hk10 hi11 ?_
      rw [← eq11]
      refine z_iload_n C dX4_blowBack_37 rfl ?_
      refine z_isub C dX4_blowBack_38 ?_
      obtain ⟨hi12, hF⟩ := bX_some hF
      obtain ⟨q12, eq12⟩ : ∃ q : Nat, q = Int32.toNatClampNeg v2 := ⟨_, rfl⟩
      rw [← eq12] at hF
      refine f_iast C dX4_blowBack_39 hp10 hk10 hi12 ?_
      rw [← eq12]
      have hT13 : zT0 kd N0 (sI S (gR S v0 1) q12 ((gI S (gR S v0 1) q11) - w0)) := zT0_sI hT
      replace hF := fS_e hF
      generalize sI S (gR S v0 1) q12 ((gI S (gR S v0 1) q11) - w0) = S13 at hF hT13 ⊢
      refine z_aload_n C dX4_blowBack_40 rfl ?_
      refine z_iload_n C dX4_blowBack_41 rfl ?_
      refine z_iload_n C dX4_blowBack_42 rfl ?_
      obtain ⟨S14, h14, hF⟩ := bV_some hF
      refine f_cV (st2 := []) C dX4_blowBack_43 zyX4_drop zvX4_drop lkRX4_88 (K_X4_drop (l := zXl X) hT13 hpv0 hkv0   h14) hpv0 hkv0 rfl (by decide) rfl rfl (Nat.le_of_ble_eq_true rfl) rfl (fun hT14 => ?_)
      refine z_iload_n C dX4_blowBack_46 rfl ?_
      refine z_istore_n (lv2 := [some (.ref (zB G + v0)), some (.int w0), some (.int v2), some (.int w0)]) C dX4_blowBack_47 (by decide) rfl ?_
      refine z_iinc (v := v2 + (-1)) (lv2 := [some (.ref (zB G + v0)), some (.int w0), some (.int (v2 + (-1))), some (.int w0)]) C dX4_blowBack_48 rfl (by rw [show Int32.ofInt (-1) = ((-1) : Int32) from by decide]) rfl ?_
      refine z_goto C 9 dX4_blowBack_51 (by decide) ?_
      refine z_mask [true, true, true, false] ?_ rfl
      exact ih1 S14 v0 w0 (v2 + (-1)) res hT14 hpv0 hkv0   hF
theorem K_X4_blowBack {G : zG} {l : Launch} {kd : kD} {N0 f : Nat} {S : aS} {v0 : Nat} {res : Option Value × aS} (hT : zT0 kd N0 S) (hpv0 : v0 < N0) (hkv0 : kd v0 = .inl 3) (hF : F_X4_blowBack f 0 [.ref v0] S = some res) : zM G l 2 0 0 yX4_blowBack cX4_blowBack 4 none [.ref (zB G + v0)] (cn G kd N0 S) (zPo G kd N0 res) := zM.of (by decide) rfl (Nat.le_of_ble_eq_true rfl) (fun X _ C hr _ => (B_X4_blowBack C hr f).1 S v0 res hT hpv0 hkv0 hF)
def F_X4_passHour_0 (f : Nat) (rc : Nat → List Value → aS → aR) (v0 : Nat) (v1 : Nat) (S : aS) : aR :=
  bI (F_X6_windOf f 0 [.ref v1, .int (gI S v0 4)] S) fun x1 S1 => if x1 = 1 then bV (F_X4_blowOn f 0 [.ref v0] S1) fun S8 => rc 1 [.ref v0, .int x1] S8 else if x1 = 2 then bV (F_X4_blowBack f 0 [.ref v0] S1) fun S7 => rc 1 [.ref v0, .int x1] S7 else rc 1 [.ref v0, .int x1] S1
def F_X4_passHour_1 (f : Nat) (rc : Nat → List Value → aS → aR) (v0 : Nat) (v1 : Int32) (S : aS) : aR :=
  fS (sI S v0 4 ((gI S v0 4) + 1)) fun S9 => some (some (.int v1), S9)
def F_X4_passHour : Nat → Nat → List Value → aS → aR
  | 0, _, _, _ => none
  | f + 1, 0, vs, S => F_X4_passHour_0 f (F_X4_passHour f) (vR vs 0) (vR vs 1) S
  | f + 1, 1, vs, S => F_X4_passHour_1 f (F_X4_passHour f) (vR vs 0) (vI vs 1) S
  | _ + 1, _, _, _ => none
theorem dX4_passHour_0 : decode cX4_passHour 0 = .ok (.aload_n 1, 1) := by decide +kernel
theorem dX4_passHour_1 : decode cX4_passHour 1 = .ok (.aload_n 0, 1) := by decide +kernel
theorem dX4_passHour_2 : decode cX4_passHour 2 = .ok (.getfield 28, 3) := by decide +kernel
theorem dX4_passHour_5 : decode cX4_passHour 5 = .ok (.invokevirtual 79, 3) := by decide +kernel
theorem dX4_passHour_8 : decode cX4_passHour 8 = .ok (.istore_n 2, 1) := by decide +kernel
theorem dX4_passHour_9 : decode cX4_passHour 9 = .ok (.iload_n 2, 1) := by decide +kernel
theorem dX4_passHour_10 : decode cX4_passHour 10 = .ok (.iconst 1, 1) := by decide +kernel
theorem dX4_passHour_11 : decode cX4_passHour 11 = .ok (.if_icmp .ne 10, 3) := by decide +kernel
theorem dX4_passHour_14 : decode cX4_passHour 14 = .ok (.aload_n 0, 1) := by decide +kernel
theorem dX4_passHour_15 : decode cX4_passHour 15 = .ok (.invokevirtual 82, 3) := by decide +kernel
theorem dX4_passHour_18 : decode cX4_passHour 18 = .ok (.goto 12, 3) := by decide +kernel
theorem dX4_passHour_21 : decode cX4_passHour 21 = .ok (.iload_n 2, 1) := by decide +kernel
theorem dX4_passHour_22 : decode cX4_passHour 22 = .ok (.iconst 2, 1) := by decide +kernel
theorem dX4_passHour_23 : decode cX4_passHour 23 = .ok (.if_icmp .ne 7, 3) := by decide +kernel
theorem dX4_passHour_26 : decode cX4_passHour 26 = .ok (.aload_n 0, 1) := by decide +kernel
theorem dX4_passHour_27 : decode cX4_passHour 27 = .ok (.invokevirtual 85, 3) := by decide +kernel
theorem dX4_passHour_30 : decode cX4_passHour 30 = .ok (.aload_n 0, 1) := by decide +kernel
theorem dX4_passHour_31 : decode cX4_passHour 31 = .ok (.dup, 1) := by decide +kernel
theorem dX4_passHour_32 : decode cX4_passHour 32 = .ok (.getfield 28, 3) := by decide +kernel
theorem dX4_passHour_35 : decode cX4_passHour 35 = .ok (.iconst 1, 1) := by decide +kernel
theorem dX4_passHour_36 : decode cX4_passHour 36 = .ok (.iadd, 1) := by decide +kernel
theorem dX4_passHour_37 : decode cX4_passHour 37 = .ok (.putfield 28, 3) := by decide +kernel
theorem dX4_passHour_40 : decode cX4_passHour 40 = .ok (.iload_n 2, 1) := by decide +kernel
theorem dX4_passHour_41 : decode cX4_passHour 41 = .ok (.ireturn, 1) := by decide +kernel
set_option maxHeartbeats 4000000 in
set_option maxRecDepth 100000 in
theorem B_X4_passHour {G : zG} {X : zX} {kd : kD} {N0 : Nat} (C : zCt G X 3 0 0 RX4 cX4_passHour 3) (hr : (zXh X).sig.returnType = (some .int)) : ∀ f : Nat,
    (∀ (S : aS) (v0 : Nat) (v1 : Nat) (res : Option Value × aS), zT0 kd N0 S → v0 < N0 → kd v0 = .inl 3 → v1 < N0 → kd v1 = .inl 5 → F_X4_passHour f 0 [.ref v0, .ref v1] S = some res → zV G X (zQX G X (zPo G kd N0 res) 0 0) 3 [some (.ref (zB G + v0)), some (.ref (zB G + v1)), none] [] (cn G kd N0 S) 0 0 0) ∧
    (∀ (S : aS) (v0 : Nat) (v1 : Int32) (res : Option Value × aS), zT0 kd N0 S → v0 < N0 → kd v0 = .inl 3 → F_X4_passHour f 1 [.ref v0, .int v1] S = some res → zV G X (zQX G X (zPo G kd N0 res) 0 0) 3 [some (.ref (zB G + v0)), none, some (.int v1)] [] (cn G kd N0 S) 30 0 0) := by
  intro f
  induction f with
  | zero => exact ⟨(fun _ _ _ _ _ _ _ _ _ h => by cases h), (fun _ _ _ _ _ _ _ h => by cases h)⟩
  | succ f ih =>
    obtain ⟨ih0, ih1⟩ := ih
    refine ⟨?_, ?_⟩
    · intro S v0 v1 res hT hpv0 hkv0 hpv1 hkv1 hF
      replace hF : F_X4_passHour_0 f (F_X4_passHour f) v0 v1 S = some res := hF
      unfold F_X4_passHour_0 at hF
      refine z_aload_n C dX4_passHour_0 rfl ?_
      refine z_aload_n C dX4_passHour_1 rfl ?_
      refine f_geti C dX4_passHour_2 zfRX4_28 hpv0 hkv0 rfl ?_
      obtain ⟨x1, S1, h1, hF⟩ := bI_some hF
      refine f_cV (st2 := [.int x1]) C dX4_passHour_5 zyX6_windOf zvX6_windOf lkRX4_79 (K_X6_windOf (l := zXl X) hT hpv1 hkv1  h1) hpv1 hkv1 rfl (by decide) rfl rfl (Nat.le_of_ble_eq_true rfl) rfl (fun hT1 => ?_)
      refine z_istore_n (lv2 := [some (.ref (zB G + v0)), some (.ref (zB G + v1)), some (.int x1)]) C dX4_passHour_8 (by decide) rfl ?_
      refine z_iload_n C dX4_passHour_9 rfl ?_
      refine z_iconst (v := 1) C dX4_passHour_10 (by decide) ?_
      refine z_icmp_ne C 21 dX4_passHour_11 (by decide) (fun c4 => ?_) (fun c4 => ?_)
      · replace hF := im hF c4
        refine z_iload_n C dX4_passHour_21 rfl ?_
        refine z_iconst (v := 2) C dX4_passHour_22 (by decide) ?_
        refine z_icmp_ne C 30 dX4_passHour_23 (by decide) (fun c6 => ?_) (fun c6 => ?_)
        · replace hF := im hF c6
          refine z_mask [true, false, true] ?_ rfl
          exact ih1 S1 v0 x1 res hT1 hpv0 hkv0  hF
        · replace hF := ip hF c6
          refine z_aload_n C dX4_passHour_26 rfl ?_
          obtain ⟨S7, h7, hF⟩ := bV_some hF
          refine f_cV (st2 := []) C dX4_passHour_27 zyX4_blowBack zvX4_blowBack lkRX4_85 (K_X4_blowBack (l := zXl X) hT1 hpv0 hkv0 h7) hpv0 hkv0 rfl (by decide) rfl rfl (Nat.le_of_ble_eq_true rfl) rfl (fun hT7 => ?_)
          refine z_mask [true, false, true] ?_ rfl
          exact ih1 S7 v0 x1 res hT7 hpv0 hkv0  hF
      · replace hF := ip hF c4
        refine z_aload_n C dX4_passHour_14 rfl ?_
        obtain ⟨S8, h8, hF⟩ := bV_some hF
        refine f_cV (st2 := []) C dX4_passHour_15 zyX4_blowOn zvX4_blowOn lkRX4_82 (K_X4_blowOn (l := zXl X) hT1 hpv0 hkv0 h8) hpv0 hkv0 rfl (by decide) rfl rfl (Nat.le_of_ble_eq_true rfl) rfl (fun hT8 => ?_)
        refine z_goto C 30 dX4_passHour_18 (by decide) ?_
        refine z_mask [true, false, true] ?_ rfl
        exact ih1 S8 v0 x1 res hT8 hpv0 hkv0  hF
    · intro S v0 v1 res hT hpv0 hkv0 hF
      replace hF : F_X4_passHour_1 f (F_X4_passHour f) v0 v1 S = some res := hF
      unfold F_X4_passHour_1 at hF
      refine z_aload_n C dX4_passHour_30 rfl ?_
      refine z_dup C dX4_passHour_31 rfl ?_
      refine f_geti C dX4_passHour_32 zfRX4_28 hpv0 hkv0 rfl ?_
      refine z_iconst (v := 1) C dX4_passHour_35 (by decide) ?_
      refine z_iadd C dX4_passHour_36 ?_
      refine f_puti C dX4_passHour_37 zfRX4_28 fw3_4 hpv0 hkv0 rfl rfl rfl ?_
      have hT9 : zT0 kd N0 (sI S v0 4 ((gI S v0 4) + 1)) := zT0_sI hT
      replace hF := fS_e hF
      generalize sI S v0 4 ((gI S v0 4) + 1) = S9 at hF hT9 ⊢
      refine z_iload_n C dX4_passHour_40 rfl ?_
      cases hF
      exact z_iret C hr dX4_passHour_41 ⟨rfl, rfl, hT9⟩
theorem K_X4_passHour {G : zG} {l : Launch} {kd : kD} {N0 f : Nat} {S : aS} {v0 : Nat} {v1 : Nat} {res : Option Value × aS} (hT : zT0 kd N0 S) (hpv0 : v0 < N0) (hkv0 : kd v0 = .inl 3) (hpv1 : v1 < N0) (hkv1 : kd v1 = .inl 5) (hF : F_X4_passHour f 0 [.ref v0, .ref v1] S = some res) : zM G l 3 0 0 yX4_passHour cX4_passHour 3 (some .int) [.ref (zB G + v0), .ref (zB G + v1)] (cn G kd N0 S) (zPo G kd N0 res) := zM.of (by decide) rfl (Nat.le_of_ble_eq_true rfl) (fun X _ C hr _ => (B_X4_passHour C hr f).1 S v0 v1 res hT hpv0 hkv0 hpv1 hkv1 hF)

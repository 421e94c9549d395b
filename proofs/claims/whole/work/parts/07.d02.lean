def F_X8_clear_0 (f : Nat) (rc : Nat → List Value → aS → aR) (v0 : Nat) (S : aS) : aR :=
  fS (sI S v0 1 0) fun S1 => some (none, S1)
def F_X8_clear : Nat → Nat → List Value → aS → aR
  | 0, _, _, _ => none
  | f + 1, 0, vs, S => F_X8_clear_0 f (F_X8_clear f) (vR vs 0) S
  | _ + 1, _, _, _ => none
theorem dX8_clear_0 : decode cX8_clear 0 = .ok (.aload_n 0, 1) := by decide +kernel
theorem dX8_clear_1 : decode cX8_clear 1 = .ok (.iconst 0, 1) := by decide +kernel
theorem dX8_clear_2 : decode cX8_clear 2 = .ok (.putfield 24, 3) := by decide +kernel
theorem dX8_clear_5 : decode cX8_clear 5 = .ok (.return_, 1) := by decide +kernel
set_option maxHeartbeats 4000000 in
set_option maxRecDepth 100000 in
theorem B_X8_clear {G : zG} {X : zX} {kd : kD} {N0 : Nat} (C : zCt G X 0 0 0 RX8 cX8_clear 1) (hr : (zXh X).sig.returnType = none) : ∀ f : Nat,
    (∀ (S : aS) (v0 : Nat) (res : Option Value × aS), zT0 kd N0 S → v0 < N0 → kd v0 = .inl 7 → F_X8_clear f 0 [.ref v0] S = some res → zV G X (zQX G X (zPo G kd N0 res) 0 0) 1 [some (.ref (zB G + v0))] [] (cn G kd N0 S) 0 0 0) := by
  intro f
  induction f with
  | zero => exact (fun _ _ _ _ _ _ h => by cases h)
  | succ f ih =>
    have ih0 := ih
    intro S v0 res hT hpv0 hkv0 hF
    replace hF : F_X8_clear_0 f (F_X8_clear f) v0 S = some res := hF
    unfold F_X8_clear_0 at hF
    refine z_aload_n C dX8_clear_0 rfl ?_
    refine z_iconst (v := 0) C dX8_clear_1 (by decide) ?_
    refine f_puti C dX8_clear_2 zfRX8_24 fw7_1 hpv0 hkv0 rfl rfl rfl ?_
    have hT1 : zT0 kd N0 (sI S v0 1 0) := zT0_sI hT
    replace hF := fS_e hF
    generalize sI S v0 1 0 = S1 at hF hT1 ⊢
    cases hF
    exact z_vret C hr dX8_clear_5 ⟨rfl, rfl, hT1⟩
theorem K_X8_clear {G : zG} {l : Launch} {kd : kD} {N0 f : Nat} {S : aS} {v0 : Nat} {res : Option Value × aS} (hT : zT0 kd N0 S) (hpv0 : v0 < N0) (hkv0 : kd v0 = .inl 7) (hF : F_X8_clear f 0 [.ref v0] S = some res) : zM G l 0 0 0 yX8_clear cX8_clear 1 none [.ref (zB G + v0)] (cn G kd N0 S) (zPo G kd N0 res) := zM.of (by decide) rfl (Nat.le_of_ble_eq_true rfl) (fun X _ C hr _ => (B_X8_clear C hr f) S v0 res hT hpv0 hkv0 hF)
def F_X8_isLetter_0 (f : Nat) (rc : Nat → List Value → aS → aR) (v0 : Int32) (S : aS) : aR :=
  bZ (if v0 < (97 : Int32) then (0 : Int32) else if (122 : Int32) < v0 then (0 : Int32) else (1 : Int32)) (some (some (.int (if v0 < (97 : Int32) then (0 : Int32) else if (122 : Int32) < v0 then (0 : Int32) else (1 : Int32))), S))
def F_X8_isLetter : Nat → Nat → List Value → aS → aR
  | 0, _, _, _ => none
  | f + 1, 0, vs, S => F_X8_isLetter_0 f (F_X8_isLetter f) (vI vs 0) S
  | _ + 1, _, _, _ => none
theorem dX8_isLetter_0 : decode cX8_isLetter 0 = .ok (.iload_n 0, 1) := by decide +kernel
theorem dX8_isLetter_1 : decode cX8_isLetter 1 = .ok (.bipush 97, 2) := by decide +kernel
theorem dX8_isLetter_3 : decode cX8_isLetter 3 = .ok (.if_icmp .lt 13, 3) := by decide +kernel
theorem dX8_isLetter_6 : decode cX8_isLetter 6 = .ok (.iload_n 0, 1) := by decide +kernel
theorem dX8_isLetter_7 : decode cX8_isLetter 7 = .ok (.bipush 122, 2) := by decide +kernel
theorem dX8_isLetter_9 : decode cX8_isLetter 9 = .ok (.if_icmp .gt 7, 3) := by decide +kernel
theorem dX8_isLetter_12 : decode cX8_isLetter 12 = .ok (.iconst 1, 1) := by decide +kernel
theorem dX8_isLetter_13 : decode cX8_isLetter 13 = .ok (.goto 4, 3) := by decide +kernel
theorem dX8_isLetter_16 : decode cX8_isLetter 16 = .ok (.iconst 0, 1) := by decide +kernel
theorem dX8_isLetter_17 : decode cX8_isLetter 17 = .ok (.ireturn, 1) := by decide +kernel
set_option maxHeartbeats 4000000 in
set_option maxRecDepth 100000 in
theorem B_X8_isLetter {G : zG} {X : zX} {kd : kD} {N0 : Nat} (C : zCt G X 0 0 0 RX8 cX8_isLetter 1) (hr : (zXh X).sig.returnType = (some .boolean)) : ∀ f : Nat,
    (∀ (S : aS) (v0 : Int32) (res : Option Value × aS), zT0 kd N0 S → F_X8_isLetter f 0 [.int v0] S = some res → zV G X (zQX G X (zPo G kd N0 res) 0 0) 1 [some (.int v0)] [] (cn G kd N0 S) 0 0 0) := by
  intro f
  induction f with
  | zero => exact (fun _ _ _ _ h => by cases h)
  | succ f ih =>
    have ih0 := ih
    intro S v0 res hT  hF
    replace hF : F_X8_isLetter_0 f (F_X8_isLetter f) v0 S = some res := hF
    unfold F_X8_isLetter_0 at hF
    refine z_iload_n C dX8_isLetter_0 rfl ?_
    refine z_bipush (v := 97) C dX8_isLetter_1 (by decide) ?_
    have hJ3 : zV G X (zQX G X (zPo G kd N0 res) 0 0) 1 [some (.int v0)] [.int (if v0 < (97 : Int32) then (0 : Int32) else if (122 : Int32) < v0 then (0 : Int32) else (1 : Int32))] (cn G kd N0 S) 17 0 0 := by
      obtain ⟨hz, hF⟩ := bZ_some hF
      cases hF
      exact z_zret C hr hz.1 dX8_isLetter_17 ⟨rfl, rfl, hT⟩
    refine z_icmp_lt C 16 dX8_isLetter_3 (by decide) (fun c1 => ?_) (fun c1 => ?_)
    · refine z_iconst (v := 0) C dX8_isLetter_16 (by decide) ?_
      exact zV.at hJ3 (by first | rfl | contradiction | (simp only [if_pos c1]; done)) (by first | rfl | contradiction | (simp only [if_pos c1]; done)) rfl rfl
    · refine z_iload_n C dX8_isLetter_6 rfl ?_
      refine z_bipush (v := 122) C dX8_isLetter_7 (by decide) ?_
      refine z_icmp_gt C 16 dX8_isLetter_9 (by decide) (fun c2 => ?_) (fun c2 => ?_)
      · refine z_iconst (v := 0) C dX8_isLetter_16 (by decide) ?_
        exact zV.at hJ3 (by first | rfl | contradiction | (simp only [if_neg c1, if_pos c2]; done)) (by first | rfl | contradiction | (simp only [if_neg c1, if_pos c2]; done)) rfl rfl
      · refine z_iconst (v := 1) C dX8_isLetter_12 (by decide) ?_
        refine z_goto C 17 dX8_isLetter_13 (by decide) ?_
        exact zV.at hJ3 (by first | rfl | contradiction | (simp only [if_neg c1, if_neg c2]; done)) (by first | rfl | contradiction | (simp only [if_neg c1, if_neg c2]; done)) rfl rfl
theorem K_X8_isLetter {G : zG} {l : Launch} {kd : kD} {N0 f : Nat} {S : aS} {v0 : Int32} {res : Option Value × aS} (hT : zT0 kd N0 S)  (hF : F_X8_isLetter f 0 [.int v0] S = some res) : zM G l 0 0 0 yX8_isLetter cX8_isLetter 1 (some .boolean) [.int v0] (cn G kd N0 S) (zPo G kd N0 res) := zM.of (by decide) rfl (Nat.le_of_ble_eq_true rfl) (fun X _ C hr _ => (B_X8_isLetter C hr f) S v0 res hT  hF)
def F_X8_isDigit_0 (f : Nat) (rc : Nat → List Value → aS → aR) (v0 : Int32) (S : aS) : aR :=
  bZ (if v0 < (48 : Int32) then (0 : Int32) else if (57 : Int32) < v0 then (0 : Int32) else (1 : Int32)) (some (some (.int (if v0 < (48 : Int32) then (0 : Int32) else if (57 : Int32) < v0 then (0 : Int32) else (1 : Int32))), S))
def F_X8_isDigit : Nat → Nat → List Value → aS → aR
  | 0, _, _, _ => none
  | f + 1, 0, vs, S => F_X8_isDigit_0 f (F_X8_isDigit f) (vI vs 0) S
  | _ + 1, _, _, _ => none
theorem dX8_isDigit_0 : decode cX8_isDigit 0 = .ok (.iload_n 0, 1) := by decide +kernel
theorem dX8_isDigit_1 : decode cX8_isDigit 1 = .ok (.bipush 48, 2) := by decide +kernel
theorem dX8_isDigit_3 : decode cX8_isDigit 3 = .ok (.if_icmp .lt 13, 3) := by decide +kernel
theorem dX8_isDigit_6 : decode cX8_isDigit 6 = .ok (.iload_n 0, 1) := by decide +kernel
theorem dX8_isDigit_7 : decode cX8_isDigit 7 = .ok (.bipush 57, 2) := by decide +kernel
theorem dX8_isDigit_9 : decode cX8_isDigit 9 = .ok (.if_icmp .gt 7, 3) := by decide +kernel
theorem dX8_isDigit_12 : decode cX8_isDigit 12 = .ok (.iconst 1, 1) := by decide +kernel
theorem dX8_isDigit_13 : decode cX8_isDigit 13 = .ok (.goto 4, 3) := by decide +kernel
theorem dX8_isDigit_16 : decode cX8_isDigit 16 = .ok (.iconst 0, 1) := by decide +kernel
theorem dX8_isDigit_17 : decode cX8_isDigit 17 = .ok (.ireturn, 1) := by decide +kernel
set_option maxHeartbeats 4000000 in
set_option maxRecDepth 100000 in
theorem B_X8_isDigit {G : zG} {X : zX} {kd : kD} {N0 : Nat} (C : zCt G X 0 0 0 RX8 cX8_isDigit 1) (hr : (zXh X).sig.returnType = (some .boolean)) : ∀ f : Nat,
    (∀ (S : aS) (v0 : Int32) (res : Option Value × aS), zT0 kd N0 S → F_X8_isDigit f 0 [.int v0] S = some res → zV G X (zQX G X (zPo G kd N0 res) 0 0) 1 [some (.int v0)] [] (cn G kd N0 S) 0 0 0) := by
  intro f
  induction f with
  | zero => exact (fun _ _ _ _ h => by cases h)
  | succ f ih =>
    have ih0 := ih
    intro S v0 res hT  hF
    replace hF : F_X8_isDigit_0 f (F_X8_isDigit f) v0 S = some res := hF
    unfold F_X8_isDigit_0 at hF
    refine z_iload_n C dX8_isDigit_0 rfl ?_
    refine z_bipush (v := 48) C dX8_isDigit_1 (by decide) ?_
    have hJ3 : zV G X (zQX G X (zPo G kd N0 res) 0 0) 1 [some (.int v0)] [.int (if v0 < (48 : Int32) then (0 : Int32) else if (57 : Int32) < v0 then (0 : Int32) else (1 : Int32))] (cn G kd N0 S) 17 0 0 := by
      obtain ⟨hz, hF⟩ := bZ_some hF
      cases hF
      exact z_zret C hr hz.1 dX8_isDigit_17 ⟨rfl, rfl, hT⟩
    refine z_icmp_lt C 16 dX8_isDigit_3 (by decide) (fun c1 => ?_) (fun c1 => ?_)
    · refine z_iconst (v := 0) C dX8_isDigit_16 (by decide) ?_
      exact zV.at hJ3 (by first | rfl | contradiction | (simp only [if_pos c1]; done)) (by first | rfl | contradiction | (simp only [if_pos c1]; done)) rfl rfl
    · refine z_iload_n C dX8_isDigit_6 rfl ?_
      refine z_bipush (v := 57) C dX8_isDigit_7 (by decide) ?_
      refine z_icmp_gt C 16 dX8_isDigit_9 (by decide) (fun c2 => ?_) (fun c2 => ?_)
      · refine z_iconst (v := 0) C dX8_isDigit_16 (by decide) ?_
        exact zV.at hJ3 (by first | rfl | contradiction | (simp only [if_neg c1, if_pos c2]; done)) (by first | rfl | contradiction | (simp only [if_neg c1, if_pos c2]; done)) rfl rfl
      · refine z_iconst (v := 1) C dX8_isDigit_12 (by decide) ?_
        refine z_goto C 17 dX8_isDigit_13 (by decide) ?_
        exact zV.at hJ3 (by first | rfl | contradiction | (simp only [if_neg c1, if_neg c2]; done)) (by first | rfl | contradiction | (simp only [if_neg c1, if_neg c2]; done)) rfl rfl
theorem K_X8_isDigit {G : zG} {l : Launch} {kd : kD} {N0 f : Nat} {S : aS} {v0 : Int32} {res : Option Value × aS} (hT : zT0 kd N0 S)  (hF : F_X8_isDigit f 0 [.int v0] S = some res) : zM G l 0 0 0 yX8_isDigit cX8_isDigit 1 (some .boolean) [.int v0] (cn G kd N0 S) (zPo G kd N0 res) := zM.of (by decide) rfl (Nat.le_of_ble_eq_true rfl) (fun X _ C hr _ => (B_X8_isDigit C hr f) S v0 res hT  hF)
def F_X8_isAtEnd_0 (f : Nat) (rc : Nat → List Value → aS → aR) (v0 : Nat) (S : aS) : aR :=
  bZ (gI S v0 5) (some (some (.int (gI S v0 5)), S))
def F_X8_isAtEnd : Nat → Nat → List Value → aS → aR
  | 0, _, _, _ => none
  | f + 1, 0, vs, S => F_X8_isAtEnd_0 f (F_X8_isAtEnd f) (vR vs 0) S
  | _ + 1, _, _, _ => none
theorem dX8_isAtEnd_0 : decode cX8_isAtEnd 0 = .ok (.aload_n 0, 1) := by decide +kernel
theorem dX8_isAtEnd_1 : decode cX8_isAtEnd 1 = .ok (.getfield 50, 3) := by decide +kernel
theorem dX8_isAtEnd_4 : decode cX8_isAtEnd 4 = .ok (.ireturn, 1) := by decide +kernel
set_option maxHeartbeats 4000000 in
set_option maxRecDepth 100000 in
theorem B_X8_isAtEnd {G : zG} {X : zX} {kd : kD} {N0 : Nat} (C : zCt G X 0 0 0 RX8 cX8_isAtEnd 1) (hr : (zXh X).sig.returnType = (some .boolean)) : ∀ f : Nat,
    (∀ (S : aS) (v0 : Nat) (res : Option Value × aS), zT0 kd N0 S → v0 < N0 → kd v0 = .inl 7 → F_X8_isAtEnd f 0 [.ref v0] S = some res → zV G X (zQX G X (zPo G kd N0 res) 0 0) 1 [some (.ref (zB G + v0))] [] (cn G kd N0 S) 0 0 0) := by
  intro f
  induction f with
  | zero => exact (fun _ _ _ _ _ _ h => by cases h)
  | succ f ih =>
    have ih0 := ih
    intro S v0 res hT hpv0 hkv0 hF
    replace hF : F_X8_isAtEnd_0 f (F_X8_isAtEnd f) v0 S = some res := hF
    unfold F_X8_isAtEnd_0 at hF
    refine z_aload_n C dX8_isAtEnd_0 rfl ?_
    refine f_geti C dX8_isAtEnd_1 zfRX8_50 hpv0 hkv0 rfl ?_
    obtain ⟨hz, hF⟩ := bZ_some hF
    cases hF
    exact z_zret C hr hz.1 dX8_isAtEnd_4 ⟨rfl, rfl, hT⟩
theorem K_X8_isAtEnd {G : zG} {l : Launch} {kd : kD} {N0 f : Nat} {S : aS} {v0 : Nat} {res : Option Value × aS} (hT : zT0 kd N0 S) (hpv0 : v0 < N0) (hkv0 : kd v0 = .inl 7) (hF : F_X8_isAtEnd f 0 [.ref v0] S = some res) : zM G l 0 0 0 yX8_isAtEnd cX8_isAtEnd 1 (some .boolean) [.ref (zB G + v0)] (cn G kd N0 S) (zPo G kd N0 res) := zM.of (by decide) rfl (Nat.le_of_ble_eq_true rfl) (fun X _ C hr _ => (B_X8_isAtEnd C hr f) S v0 res hT hpv0 hkv0 hF)
def F_X8_fail_0 (f : Nat) (rc : Nat → List Value → aS → aR) (v0 : Nat) (v1 : Int32) (S : aS) : aR :=
  fS (sI S v0 2 (v1 + ((16 : Int32) * (gI S v0 4)))) fun S1 => bZ 0 (some (some (.int 0), S1))
def F_X8_fail : Nat → Nat → List Value → aS → aR
  | 0, _, _, _ => none
  | f + 1, 0, vs, S => F_X8_fail_0 f (F_X8_fail f) (vR vs 0) (vI vs 1) S
  | _ + 1, _, _, _ => none
theorem dX8_fail_0 : decode cX8_fail 0 = .ok (.aload_n 0, 1) := by decide +kernel
theorem dX8_fail_1 : decode cX8_fail 1 = .ok (.iload_n 1, 1) := by decide +kernel
theorem dX8_fail_2 : decode cX8_fail 2 = .ok (.bipush 16, 2) := by decide +kernel
theorem dX8_fail_4 : decode cX8_fail 4 = .ok (.aload_n 0, 1) := by decide +kernel
theorem dX8_fail_5 : decode cX8_fail 5 = .ok (.getfield 47, 3) := by decide +kernel
theorem dX8_fail_8 : decode cX8_fail 8 = .ok (.imul, 1) := by decide +kernel
theorem dX8_fail_9 : decode cX8_fail 9 = .ok (.iadd, 1) := by decide +kernel
theorem dX8_fail_10 : decode cX8_fail 10 = .ok (.putfield 35, 3) := by decide +kernel
theorem dX8_fail_13 : decode cX8_fail 13 = .ok (.iconst 0, 1) := by decide +kernel
theorem dX8_fail_14 : decode cX8_fail 14 = .ok (.ireturn, 1) := by decide +kernel
set_option maxHeartbeats 4000000 in
set_option maxRecDepth 100000 in
theorem B_X8_fail {G : zG} {X : zX} {kd : kD} {N0 : Nat} (C : zCt G X 0 0 0 RX8 cX8_fail 2) (hr : (zXh X).sig.returnType = (some .boolean)) : ∀ f : Nat,
    (∀ (S : aS) (v0 : Nat) (v1 : Int32) (res : Option Value × aS), zT0 kd N0 S → v0 < N0 → kd v0 = .inl 7 → F_X8_fail f 0 [.ref v0, .int v1] S = some res → zV G X (zQX G X (zPo G kd N0 res) 0 0) 2 [some (.ref (zB G + v0)), some (.int v1)] [] (cn G kd N0 S) 0 0 0) := by
  intro f
  induction f with
  | zero => exact (fun _ _ _ _ _ _ _ h => by cases h)
  | succ f ih =>
    have ih0 := ih
    intro S v0 v1 res hT hpv0 hkv0 hF
    replace hF : F_X8_fail_0 f (F_X8_fail f) v0 v1 S = some res := hF
    unfold F_X8_fail_0 at hF
    refine z_aload_n C dX8_fail_0 rfl ?_
    refine z_iload_n C dX8_fail_1 rfl ?_
    refine z_bipush (v := 16) C dX8_fail_2 (by decide) ?_
    refine z_aload_n C dX8_fail_4 rfl ?_
    refine f_geti C dX8_fail_5 zfRX8_47 hpv0 hkv0 rfl ?_
    refine z_imul C dX8_fail_8 ?_
    refine z_iadd C dX8_fail_9 ?_
    refine f_puti C dX8_fail_10 zfRX8_35 fw7_2 hpv0 hkv0 rfl rfl rfl ?_
    have hT1 : zT0 kd N0 (sI S v0 2 (v1 + ((16 : Int32) * (gI S v0 4)))) := zT0_sI hT
    replace hF := fS_e hF
    generalize sI S v0 2 (v1 + ((16 : Int32) * (gI S v0 4))) = S1 at hF hT1 ⊢
    refine z_iconst (v := 0) C dX8_fail_13 (by decide) ?_
    obtain ⟨hz, hF⟩ := bZ_some hF
    cases hF
    exact z_zret C hr hz.1 dX8_fail_14 ⟨rfl, rfl, hT1⟩
theorem K_X8_fail {G : zG} {l : Launch} {kd : kD} {N0 f : Nat} {S : aS} {v0 : Nat} {v1 : Int32} {res : Option Value × aS} (hT : zT0 kd N0 S) (hpv0 : v0 < N0) (hkv0 : kd v0 = .inl 7) (hF : F_X8_fail f 0 [.ref v0, .int v1] S = some res) : zM G l 0 0 0 yX8_fail cX8_fail 2 (some .boolean) [.ref (zB G + v0), .int v1] (cn G kd N0 S) (zPo G kd N0 res) := zM.of (by decide) rfl (Nat.le_of_ble_eq_true rfl) (fun X _ C hr _ => (B_X8_fail C hr f) S v0 v1 res hT hpv0 hkv0 hF)
def F_X8_isNameToken_0 (f : Nat) (rc : Nat → List Value → aS → aR) (v0 : Nat) (S : aS) : aR :=
  if (zmay (gR S v0 6)) = (0 : Int32) then bI (F_X8_fail f 0 [.ref v0, .int 1] S) fun x4 S4 => bZ (if x4 = (0 : Int32) then (0 : Int32) else (1 : Int32)) (some (some (.int (if x4 = (0 : Int32) then (0 : Int32) else (1 : Int32))), S4)) else rc 1 [] S
def F_X8_isNameToken_1 (f : Nat) (rc : Nat → List Value → aS → aR)  (S : aS) : aR :=
  rc 2 [.int 1] S
def F_X8_isNameToken_2 (f : Nat) (rc : Nat → List Value → aS → aR) (w0 : Int32) (S : aS) : aR :=
  bZ w0 (some (some (.int w0), S))
def F_X8_isNameToken : Nat → Nat → List Value → aS → aR
  | 0, _, _, _ => none
  | f + 1, 0, vs, S => F_X8_isNameToken_0 f (F_X8_isNameToken f) (vR vs 0) S
  | f + 1, 1, vs, S => F_X8_isNameToken_1 f (F_X8_isNameToken f)  S
  | f + 1, 2, vs, S => F_X8_isNameToken_2 f (F_X8_isNameToken f) (vI vs 0) S
  | _ + 1, _, _, _ => none
theorem dX8_isNameToken_0 : decode cX8_isNameToken 0 = .ok (.aload_n 0, 1) := by decide +kernel
theorem dX8_isNameToken_1 : decode cX8_isNameToken 1 = .ok (.getfield 21, 3) := by decide +kernel
theorem dX8_isNameToken_4 : decode cX8_isNameToken 4 = .ok (.getfield 83, 3) := by decide +kernel
theorem dX8_isNameToken_7 : decode cX8_isNameToken 7 = .ok (.ifCond .ne 11, 3) := by decide +kernel
theorem dX8_isNameToken_10 : decode cX8_isNameToken 10 = .ok (.aload_n 0, 1) := by decide +kernel
theorem dX8_isNameToken_11 : decode cX8_isNameToken 11 = .ok (.iconst 1, 1) := by decide +kernel
theorem dX8_isNameToken_12 : decode cX8_isNameToken 12 = .ok (.invokevirtual 79, 3) := by decide +kernel
theorem dX8_isNameToken_15 : decode cX8_isNameToken 15 = .ok (.ifCond .eq 7, 3) := by decide +kernel
theorem dX8_isNameToken_18 : decode cX8_isNameToken 18 = .ok (.iconst 1, 1) := by decide +kernel
theorem dX8_isNameToken_19 : decode cX8_isNameToken 19 = .ok (.goto 4, 3) := by decide +kernel
theorem dX8_isNameToken_22 : decode cX8_isNameToken 22 = .ok (.iconst 0, 1) := by decide +kernel
theorem dX8_isNameToken_23 : decode cX8_isNameToken 23 = .ok (.ireturn, 1) := by decide +kernel
set_option maxHeartbeats 4000000 in
set_option maxRecDepth 100000 in
theorem B_X8_isNameToken {G : zG} {X : zX} {kd : kD} {N0 : Nat} (C : zCt G X 1 0 0 RX8 cX8_isNameToken 1) (hr : (zXh X).sig.returnType = (some .boolean)) : ∀ f : Nat,
    (∀ (S : aS) (v0 : Nat) (res : Option Value × aS), zT0 kd N0 S → v0 < N0 → kd v0 = .inl 7 → F_X8_isNameToken f 0 [.ref v0] S = some res → zV G X (zQX G X (zPo G kd N0 res) 0 0) 1 [some (.ref (zB G + v0))] [] (cn G kd N0 S) 0 0 0) ∧
    (∀ (S : aS)  (res : Option Value × aS), zT0 kd N0 S → F_X8_isNameToken f 1 [] S = some res → zV G X (zQX G X (zPo G kd N0 res) 0 0) 1 [none] [] (cn G kd N0 S) 18 0 0) ∧
    (∀ (S : aS) (w0 : Int32) (res : Option Value × aS), zT0 kd N0 S → F_X8_isNameToken f 2 [.int w0] S = some res → zV G X (zQX G X (zPo G kd N0 res) 0 0) 1 [none] [.int w0] (cn G kd N0 S) 23 0 0) := by
  intro f
  induction f with
  | zero => exact ⟨(fun _ _ _ _ _ _ h => by cases h), (fun _ _ _ h => by cases h), (fun _ _ _ _ h => by cases h)⟩
  | succ f ih =>
    obtain ⟨ih0, ih1, ih2⟩ := ih
    refine ⟨?_, ?_, ?_⟩
    · intro S v0 res hT hpv0 hkv0 hF
      replace hF : F_X8_isNameToken_0 f (F_X8_isNameToken f) v0 S = some res := hF
      unfold F_X8_isNameToken_0 at hF
      refine z_aload_n C dX8_isNameToken_0 rfl ?_
      refine f_getw C dX8_isNameToken_1 zfRX8_21 hpv0 hkv0 rfl ?_
      have hw1 := hT.2.2 v0 hpv0 hkv0
      refine f_getK C dX8_isNameToken_4 fkRX8_83 (C.2.2.2.2.2.1.2.2.1 (gR S v0 6) hw1).2.2.2.2.1 ?_
      refine z_if_ne C 18 dX8_isNameToken_7 (by decide) (fun c3 => ?_) (fun c3 => ?_)
      · replace hF := im hF c3
        refine z_mask [false] ?_ rfl
        exact ih1 S  res hT  hF
      · replace hF := ip hF c3
        refine z_aload_n C dX8_isNameToken_10 rfl ?_
        refine z_iconst (v := 1) C dX8_isNameToken_11 (by decide) ?_
        obtain ⟨x4, S4, h4, hF⟩ := bI_some hF
        refine f_cV (st2 := [.int x4]) C dX8_isNameToken_12 zyX8_fail zvX8_fail lkRX8_79 (K_X8_fail (l := zXl X) hT hpv0 hkv0  h4) hpv0 hkv0 rfl (by decide) rfl rfl (Nat.le_of_ble_eq_true rfl) rfl (fun hT4 => ?_)
        have hJ6 : zV G X (zQX G X (zPo G kd N0 res) 0 0) 1 [some (.ref (zB G + v0))] [.int (if x4 = (0 : Int32) then (0 : Int32) else (1 : Int32))] (cn G kd N0 S4) 23 0 0 := by
          obtain ⟨hz, hF⟩ := bZ_some hF
          cases hF
          exact z_zret C hr hz.1 dX8_isNameToken_23 ⟨rfl, rfl, hT4⟩
        refine z_if_eq C 22 dX8_isNameToken_15 (by decide) (fun c5 => ?_) (fun c5 => ?_)
        · refine z_iconst (v := 0) C dX8_isNameToken_22 (by decide) ?_
          exact zV.at hJ6 (by first | rfl | contradiction | (simp only [if_pos c5]; done)) (by first | rfl | contradiction | (simp only [if_pos c5]; done)) rfl rfl
        · refine z_iconst (v := 1) C dX8_isNameToken_18 (by decide) ?_
          refine z_goto C 23 dX8_isNameToken_19 (by decide) ?_
          exact zV.at hJ6 (by first | rfl | contradiction | (simp only [if_neg c5]; done)) (by first | rfl | contradiction | (simp only [if_neg c5]; done)) rfl rfl
    · intro S  res hT  hF
      replace hF : F_X8_isNameToken_1 f (F_X8_isNameToken f)  S = some res := hF
      unfold F_X8_isNameToken_1 at hF
      refine z_iconst (v := 1) C dX8_isNameToken_18 (by decide) ?_
      refine z_goto C 23 dX8_isNameToken_19 (by decide) ?_
      exact ih2 S 1 res hT  hF
    · intro S w0 res hT  hF
      replace hF : F_X8_isNameToken_2 f (F_X8_isNameToken f) w0 S = some res := hF
      unfold F_X8_isNameToken_2 at hF
      obtain ⟨hz, hF⟩ := bZ_some hF
      cases hF
      exact z_zret C hr hz.1 dX8_isNameToken_23 ⟨rfl, rfl, hT⟩
theorem K_X8_isNameToken {G : zG} {l : Launch} {kd : kD} {N0 f : Nat} {S : aS} {v0 : Nat} {res : Option Value × aS} (hT : zT0 kd N0 S) (hpv0 : v0 < N0) (hkv0 : kd v0 = .inl 7) (hF : F_X8_isNameToken f 0 [.ref v0] S = some res) : zM G l 1 0 0 yX8_isNameToken cX8_isNameToken 1 (some .boolean) [.ref (zB G + v0)] (cn G kd N0 S) (zPo G kd N0 res) := zM.of (by decide) rfl (Nat.le_of_ble_eq_true rfl) (fun X _ C hr _ => (B_X8_isNameToken C hr f).1 S v0 res hT hpv0 hkv0 hF)
def F_X9_use_0 (f : Nat) (rc : Nat → List Value → aS → aR) (v0 : Nat) (v1 : Nat) (S : aS) : aR :=
  fS (sR S v0 3 v1) fun S1 => some (none, S1)
def F_X9_use : Nat → Nat → List Value → aS → aR
  | 0, _, _, _ => none
  | f + 1, 0, vs, S => F_X9_use_0 f (F_X9_use f) (vR vs 0) (vR vs 1) S
  | _ + 1, _, _, _ => none
theorem dX9_use_0 : decode cX9_use 0 = .ok (.aload_n 0, 1) := by decide +kernel
theorem dX9_use_1 : decode cX9_use 1 = .ok (.aload_n 1, 1) := by decide +kernel
theorem dX9_use_2 : decode cX9_use 2 = .ok (.putfield 28, 3) := by decide +kernel
theorem dX9_use_5 : decode cX9_use 5 = .ok (.return_, 1) := by decide +kernel
set_option maxHeartbeats 4000000 in
set_option maxRecDepth 100000 in
theorem B_X9_use {G : zG} {X : zX} {kd : kD} {N0 : Nat} (C : zCt G X 0 0 0 RX9 cX9_use 2) (hr : (zXh X).sig.returnType = none) : ∀ f : Nat,
    (∀ (S : aS) (v0 : Nat) (v1 : Nat) (res : Option Value × aS), zT0 kd N0 S → v0 < N0 → kd v0 = .inl 8 → v1 < N0 → kd v1 = .inl 5 → F_X9_use f 0 [.ref v0, .ref v1] S = some res → zV G X (zQX G X (zPo G kd N0 res) 0 0) 2 [some (.ref (zB G + v0)), some (.ref (zB G + v1))] [] (cn G kd N0 S) 0 0 0) := by
  intro f
  induction f with
  | zero => exact (fun _ _ _ _ _ _ _ _ _ h => by cases h)
  | succ f ih =>
    have ih0 := ih
    intro S v0 v1 res hT hpv0 hkv0 hpv1 hkv1 hF
    replace hF : F_X9_use_0 f (F_X9_use f) v0 v1 S = some res := hF
    unfold F_X9_use_0 at hF
    refine z_aload_n C dX9_use_0 rfl ?_
    refine z_aload_n C dX9_use_1 rfl ?_
    refine f_putr C dX9_use_2 zfRX9_28 fw8_3 hpv0 hkv0 rfl rfl rfl ?_
    have hT1 : zT0 kd N0 (sR S v0 3 v1) := zT0_sR hT hkv0 (fun q hq => by cases hq; exact ⟨hpv1, hkv1⟩) (fun h _ => by cases h)
    replace hF := fS_e hF
    generalize sR S v0 3 v1 = S1 at hF hT1 ⊢
    cases hF
    exact z_vret C hr dX9_use_5 ⟨rfl, rfl, hT1⟩
theorem K_X9_use {G : zG} {l : Launch} {kd : kD} {N0 f : Nat} {S : aS} {v0 : Nat} {v1 : Nat} {res : Option Value × aS} (hT : zT0 kd N0 S) (hpv0 : v0 < N0) (hkv0 : kd v0 = .inl 8) (hpv1 : v1 < N0) (hkv1 : kd v1 = .inl 5) (hF : F_X9_use f 0 [.ref v0, .ref v1] S = some res) : zM G l 0 0 0 yX9_use cX9_use 2 none [.ref (zB G + v0), .ref (zB G + v1)] (cn G kd N0 S) (zPo G kd N0 res) := zM.of (by decide) rfl (Nat.le_of_ble_eq_true rfl) (fun X _ C hr _ => (B_X9_use C hr f) S v0 v1 res hT hpv0 hkv0 hpv1 hkv1 hF)
def F_X9_canBe_0 (f : Nat) (rc : Nat → List Value → aS → aR) (v0 : Nat) (v1 : Nat) (v2 : Int32) (S : aS) : aR :=
  bX v2 40 fun q2 => bX v2 40 fun q4 => if (gI S (gR S v1 0) q4) = 1 then bI (F_X4_hasBin f 0 [.ref (gR S v0 1), .int (gI S (gR S v1 1) q2)] S) fun x7 S7 => bZ x7 (some (some (.int x7), S7)) else if (gI S (gR S v1 0) q4) = 2 then bI (F_X4_hasYard f 0 [.ref (gR S v0 1), .int (gI S (gR S v1 1) q2)] S) fun x10 S10 => if x10 = (0 : Int32) then rc 1 [] S10 else bI (F_X4_hasBin f 0 [.ref (gR S10 v0 1), .int (gI S (gR S v1 1) q2)] S10) fun x15 S15 => bZ (if x15 = (0 : Int32) then (1 : Int32) else (0 : Int32)) (some (some (.int (if x15 = (0 : Int32) then (1 : Int32) else (0 : Int32))), S15)) else if (gI S (gR S v1 0) q4) = 3 then bI (F_X4_hasBin f 0 [.ref (gR S v0 1), .int (gI S (gR S v1 1) q2)] S) fun x20 S20 => bZ x20 (some (some (.int x20), S20)) else if (gI S (gR S v1 0) q4) = 4 then bI (F_X4_hasYard f 0 [.ref (gR S v0 1), .int (gI S (gR S v1 1) q2)] S) fun x23 S23 => bZ x23 (some (some (.int x23), S23)) else bZ 1 (some (some (.int 1), S))
def F_X9_canBe_1 (f : Nat) (rc : Nat → List Value → aS → aR)  (S : aS) : aR :=
  rc 2 [.int 0] S
def F_X9_canBe_2 (f : Nat) (rc : Nat → List Value → aS → aR) (w0 : Int32) (S : aS) : aR :=
  bZ w0 (some (some (.int w0), S))
def F_X9_canBe : Nat → Nat → List Value → aS → aR
  | 0, _, _, _ => none
  | f + 1, 0, vs, S => F_X9_canBe_0 f (F_X9_canBe f) (vR vs 0) (vR vs 1) (vI vs 2) S
  | f + 1, 1, vs, S => F_X9_canBe_1 f (F_X9_canBe f)  S
  | f + 1, 2, vs, S => F_X9_canBe_2 f (F_X9_canBe f) (vI vs 0) S
  | _ + 1, _, _, _ => none
theorem dX9_canBe_0 : decode cX9_canBe 0 = .ok (.aload_n 1, 1) := by decide +kernel
theorem dX9_canBe_1 : decode cX9_canBe 1 = .ok (.getfield 131, 3) := by decide +kernel
theorem dX9_canBe_4 : decode cX9_canBe 4 = .ok (.iload_n 2, 1) := by decide +kernel
theorem dX9_canBe_5 : decode cX9_canBe 5 = .ok (.iaload, 1) := by decide +kernel
theorem dX9_canBe_6 : decode cX9_canBe 6 = .ok (.istore_n 3, 1) := by decide +kernel
theorem dX9_canBe_7 : decode cX9_canBe 7 = .ok (.aload_n 1, 1) := by decide +kernel
theorem dX9_canBe_8 : decode cX9_canBe 8 = .ok (.getfield 122, 3) := by decide +kernel
theorem dX9_canBe_11 : decode cX9_canBe 11 = .ok (.iload_n 2, 1) := by decide +kernel
theorem dX9_canBe_12 : decode cX9_canBe 12 = .ok (.iaload, 1) := by decide +kernel
theorem dX9_canBe_13 : decode cX9_canBe 13 = .ok (.tableswitch 77 1 4 #[31, 40, 31, 68], 31) := by decide +kernel
theorem dX9_canBe_44 : decode cX9_canBe 44 = .ok (.aload_n 0, 1) := by decide +kernel
theorem dX9_canBe_45 : decode cX9_canBe 45 = .ok (.getfield 12, 3) := by decide +kernel
theorem dX9_canBe_48 : decode cX9_canBe 48 = .ok (.iload_n 3, 1) := by decide +kernel
theorem dX9_canBe_49 : decode cX9_canBe 49 = .ok (.invokevirtual 134, 3) := by decide +kernel
theorem dX9_canBe_52 : decode cX9_canBe 52 = .ok (.ireturn, 1) := by decide +kernel
theorem dX9_canBe_53 : decode cX9_canBe 53 = .ok (.aload_n 0, 1) := by decide +kernel
theorem dX9_canBe_54 : decode cX9_canBe 54 = .ok (.getfield 12, 3) := by decide +kernel
theorem dX9_canBe_57 : decode cX9_canBe 57 = .ok (.iload_n 3, 1) := by decide +kernel
theorem dX9_canBe_58 : decode cX9_canBe 58 = .ok (.invokevirtual 67, 3) := by decide +kernel
theorem dX9_canBe_61 : decode cX9_canBe 61 = .ok (.ifCond .eq 18, 3) := by decide +kernel
theorem dX9_canBe_64 : decode cX9_canBe 64 = .ok (.aload_n 0, 1) := by decide +kernel
theorem dX9_canBe_65 : decode cX9_canBe 65 = .ok (.getfield 12, 3) := by decide +kernel
theorem dX9_canBe_68 : decode cX9_canBe 68 = .ok (.iload_n 3, 1) := by decide +kernel
theorem dX9_canBe_69 : decode cX9_canBe 69 = .ok (.invokevirtual 134, 3) := by decide +kernel
theorem dX9_canBe_72 : decode cX9_canBe 72 = .ok (.ifCond .ne 7, 3) := by decide +kernel
theorem dX9_canBe_75 : decode cX9_canBe 75 = .ok (.iconst 1, 1) := by decide +kernel
theorem dX9_canBe_76 : decode cX9_canBe 76 = .ok (.goto 4, 3) := by decide +kernel
theorem dX9_canBe_79 : decode cX9_canBe 79 = .ok (.iconst 0, 1) := by decide +kernel
theorem dX9_canBe_80 : decode cX9_canBe 80 = .ok (.ireturn, 1) := by decide +kernel
theorem dX9_canBe_81 : decode cX9_canBe 81 = .ok (.aload_n 0, 1) := by decide +kernel
theorem dX9_canBe_82 : decode cX9_canBe 82 = .ok (.getfield 12, 3) := by decide +kernel
theorem dX9_canBe_85 : decode cX9_canBe 85 = .ok (.iload_n 3, 1) := by decide +kernel
theorem dX9_canBe_86 : decode cX9_canBe 86 = .ok (.invokevirtual 67, 3) := by decide +kernel
theorem dX9_canBe_89 : decode cX9_canBe 89 = .ok (.ireturn, 1) := by decide +kernel
theorem dX9_canBe_90 : decode cX9_canBe 90 = .ok (.iconst 1, 1) := by decide +kernel
theorem dX9_canBe_91 : decode cX9_canBe 91 = .ok (.ireturn, 1) := by decide +kernel
set_option maxHeartbeats 4000000 in
set_option maxRecDepth 100000 in
theorem B_X9_canBe {G : zG} {X : zX} {kd : kD} {N0 : Nat} (C : zCt G X 2 0 0 RX9 cX9_canBe 4) (hr : (zXh X).sig.returnType = (some .boolean)) : ∀ f : Nat,
    (∀ (S : aS) (v0 : Nat) (v1 : Nat) (v2 : Int32) (res : Option Value × aS), zT0 kd N0 S → v0 < N0 → kd v0 = .inl 8 → v1 < N0 → kd v1 = .inl 0 → F_X9_canBe f 0 [.ref v0, .ref v1, .int v2] S = some res → zV G X (zQX G X (zPo G kd N0 res) 0 0) 4 [some (.ref (zB G + v0)), some (.ref (zB G + v1)), some (.int v2), none] [] (cn G kd N0 S) 0 0 0) ∧
    (∀ (S : aS)  (res : Option Value × aS), zT0 kd N0 S → F_X9_canBe f 1 [] S = some res → zV G X (zQX G X (zPo G kd N0 res) 0 0) 4 [none, none, none, none] [] (cn G kd N0 S) 79 0 0) ∧
    (∀ (S : aS) (w0 : Int32) (res : Option Value × aS), zT0 kd N0 S → F_X9_canBe f 2 [.int w0] S = some res → zV G X (zQX G X (zPo G kd N0 res) 0 0) 4 [none, none, none, none] [.int w0] (cn G kd N0 S) 80 0 0) := by
  intro f
  induction f with
  | zero => exact ⟨(fun _ _ _ _ _ _ _ _ _ _ h => by cases h), (fun _ _ _ h => by cases h), (fun _ _ _ _ h => by cases h)⟩
  | succ f ih =>
    obtain ⟨ih0, ih1, ih2⟩ := ih
    refine ⟨?_, ?_, ?_⟩
    · intro S v0 v1 v2 res hT hpv0 hkv0 hpv1 hkv1 hF
      replace hF : F_X9_canBe_0 f (F_X9_canBe f) v0 v1 v2 S = some res := hF
      unfold F_X9_canBe_0 at hF
      refine z_aload_n C dX9_canBe_0 rfl ?_
      refine f_getr C dX9_canBe_1 zfRX9_131 hpv1 hkv1 rfl ?_
      obtain ⟨hp1, hk1⟩ := hT.1 v1 0 1 (.inr (0, 40)) hpv1 hkv1 rfl
      refine z_iload_n C dX9_canBe_4 rfl ?_
      obtain ⟨hi2, hF⟩ := bX_some hF
      obtain ⟨q2, eq2⟩ : ∃ q : Nat, q = Int32.toNatClampNeg v2 := ⟨_, rfl⟩
      rw [← eq2] at hF
      refine f_iald C dX9_canBe_5 hp1 hk1 hi2 ?_
      rw [← eq2]
      refine z_istore_n (lv2 := [some (.ref (zB G + v0)), some (.ref (zB G + v1)), some (.int v2), some (.int (gI S (gR S v1 1) q2))]) C dX9_canBe_6 (by decide) rfl ?_
      refine z_aload_n C dX9_canBe_7 rfl ?_
      refine f_getr C dX9_canBe_8 zfRX9_122 hpv1 hkv1 rfl ?_
      obtain ⟨hp3, hk3⟩ := hT.1 v1 0 0 (.inr (0, 40)) hpv1 hkv1 rfl
      refine z_iload_n C dX9_canBe_11 rfl ?_
      obtain ⟨hi4, hF⟩ := bX_some hF
      obtain ⟨q4, eq4⟩ : ∃ q : Nat, q = Int32.toNatClampNeg v2 := ⟨_, rfl⟩
      rw [← eq4] at hF
      refine f_iald C dX9_canBe_12 hp3 hk3 hi4 ?_
      rw [← eq4]
      by_cases c8 : (gI S (gR S v1 0) q4) = 1
      · replace hF := ip hF c8
        refine z_tabIn C 44 dX9_canBe_13 (by rw [c8]; decide) (by rw [c8]; decide) (off := 31) (by rw [c8]; rfl) (by decide) ?_
        refine z_aload_n C dX9_canBe_44 rfl ?_
        refine f_getr C dX9_canBe_45 zfRX9_12 hpv0 hkv0 rfl ?_
        obtain ⟨hp6, hk6⟩ := hT.1 v0 8 1 (.inl 3) hpv0 hkv0 rfl
        refine z_iload_n C dX9_canBe_48 rfl ?_
        obtain ⟨x7, S7, h7, hF⟩ := bI_some hF
        refine f_cV (st2 := [.int x7]) C dX9_canBe_49 zyX4_hasBin zvX4_hasBin lkRX9_134 (K_X4_hasBin (l := zXl X) hT hp6 hk6  h7) hp6 hk6 rfl (by decide) rfl rfl (Nat.le_of_ble_eq_true rfl) rfl (fun hT7 => ?_)
        obtain ⟨hz, hF⟩ := bZ_some hF
        cases hF
        exact z_zret C hr hz.1 dX9_canBe_52 ⟨rfl, rfl, hT7⟩
      replace hF := im hF c8
      by_cases c18 : (gI S (gR S v1 0) q4) = 2
      · replace hF := ip hF c18
        refine z_tabIn C 53 dX9_canBe_13 (by rw [c18]; decide) (by rw [c18]; decide) (off := 40) (by rw [c18]; rfl) (by decide) ?_
        refine z_aload_n C dX9_canBe_53 rfl ?_
        refine f_getr C dX9_canBe_54 zfRX9_12 hpv0 hkv0 rfl ?_
        obtain ⟨hp9, hk9⟩ := hT.1 v0 8 1 (.inl 3) hpv0 hkv0 rfl
        refine z_iload_n C dX9_canBe_57 rfl ?_
        obtain ⟨x10, S10, h10, hF⟩ := bI_some hF
        refine f_cV (st2 := [.int x10]) C dX9_canBe_58 zyX4_hasYard zvX4_hasYard lkRX9_67 (K_X4_hasYard (l := zXl X) hT hp9 hk9  h10) hp9 hk9 rfl (by decide) rfl rfl (Nat.le_of_ble_eq_true rfl) rfl (fun hT10 => ?_)
        refine z_if_eq C 79 dX9_canBe_61 (by decide) (fun c13 => ?_) (fun c13 => ?_)
        · replace hF := ip hF c13
          refine z_mask [false, false, false, false] ?_ rfl
          exact ih1 S10  res hT10  hF
        · replace hF := im hF c13
          refine z_aload_n C dX9_canBe_64 rfl ?_
          refine f_getr C dX9_canBe_65 zfRX9_12 hpv0 hkv0 rfl ?_
          obtain ⟨hp14, hk14⟩ := hT10.1 v0 8 1 (.inl 3) hpv0 hkv0 rfl
          refine z_iload_n C dX9_canBe_68 rfl ?_
          obtain ⟨x15, S15, h15, hF⟩ := bI_some hF
          refine f_cV (st2 := [.int x15]) C dX9_canBe_69 zyX4_hasBin zvX4_hasBin lkRX9_134 (K_X4_hasBin (l := zXl X) hT10 hp14 hk14  h15) hp14 hk14 rfl (by decide) rfl rfl (Nat.le_of_ble_eq_true rfl) rfl (fun hT15 => ?_)
          have hJ17 : zV G X (zQX G X (zPo G kd N0 res) 0 0) 4 [some (.ref (zB G + v0)), some (.ref (zB G + v1)), some (.int v2), some (.int (gI S (gR S v1 1) q2))] [.int (if x15 = (0 : Int32) then (1 : Int32) else (0 : Int32))] (cn G kd N0 S15) 80 0 0 := by
            obtain ⟨hz, hF⟩ := bZ_some hF
            cases hF
            exact z_zret C hr hz.1 dX9_canBe_80 ⟨rfl, rfl, hT15⟩
          refine z_if_ne C 79 dX9_canBe_72 (by decide) (fun c16 => ?_) (fun c16 => ?_)
          · refine z_iconst (v := 0) C dX9_canBe_79 (by decide) ?_
            exact zV.at hJ17 (by first | rfl | contradiction | (simp only [if_neg c16]; done)) (by first | rfl | contradiction | (simp only [if_neg c16]; done)) rfl rfl
          · refine z_iconst (v := 1) C dX9_canBe_75 (by decide) ?_
            refine z_goto C 80 dX9_canBe_76 (by decide) ?_
            exact zV.at hJ17 (by first | rfl | contradiction | (simp only [if_pos c16]; done)) (by first | rfl | contradiction | (simp only [if_pos c16]; done)) rfl rfl
      replace hF := im hF c18
      by_cases c21 : (gI S (gR S v1 0) q4) = 3
      · replace hF := ip hF c21
        refine z_tabIn C 44 dX9_canBe_13 (by rw [c21]; decide) (by rw [c21]; decide) (off := 31) (by rw [c21]; rfl) (by decide) ?_
        refine z_aload_n C dX9_canBe_44 rfl ?_
        refine f_getr C dX9_canBe_45 zfRX9_12 hpv0 hkv0 rfl ?_
        obtain ⟨hp19, hk19⟩ := hT.1 v0 8 1 (.inl 3) hpv0 hkv0 rfl
        refine z_iload_n C dX9_canBe_48 rfl ?_
        obtain ⟨x20, S20, h20, hF⟩ := bI_some hF
        refine f_cV (st2 := [.int x20]) C dX9_canBe_49 zyX4_hasBin zvX4_hasBin lkRX9_134 (K_X4_hasBin (l := zXl X) hT hp19 hk19  h20) hp19 hk19 rfl (by decide) rfl rfl (Nat.le_of_ble_eq_true rfl) rfl (fun hT20 => ?_)
        obtain ⟨hz, hF⟩ := bZ_some hF
        cases hF
        exact z_zret C hr hz.1 dX9_canBe_52 ⟨rfl, rfl, hT20⟩
      replace hF := im hF c21
      by_cases c24 : (gI S (gR S v1 0) q4) = 4
      · replace hF := ip hF c24
        refine z_tabIn C 81 dX9_canBe_13 (by rw [c24]; decide) (by rw [c24]; decide) (off := 68) (by rw [c24]; rfl) (by decide) ?_
        refine z_aload_n C dX9_canBe_81 rfl ?_
        refine f_getr C dX9_canBe_82 zfRX9_12 hpv0 hkv0 rfl ?_
        obtain ⟨hp22, hk22⟩ := hT.1 v0 8 1 (.inl 3) hpv0 hkv0 rfl
        refine z_iload_n C dX9_canBe_85 rfl ?_
        obtain ⟨x23, S23, h23, hF⟩ := bI_some hF
        refine f_cV (st2 := [.int x23]) C dX9_canBe_86 zyX4_hasYard zvX4_hasYard lkRX9_67 (K_X4_hasYard (l := zXl X) hT hp22 hk22  h23) hp22 hk22 rfl (by decide) rfl rfl (Nat.le_of_ble_eq_true rfl) rfl (fun hT23 => ?_)
        obtain ⟨hz, hF⟩ := bZ_some hF
        cases hF
        exact z_zret C hr hz.1 dX9_canBe_89 ⟨rfl, rfl, hT23⟩
      replace hF := im hF c24
      refine z_tabOut C 90 dX9_canBe_13 (f_tabOut (fun v h1 h2 e => by
        rcases (show v = 1 ∨ v = 2 ∨ v = 3 ∨ v = 4 by omega) with rfl | rfl | rfl | rfl
        · exact c8 (Int32.toInt_inj.mp (e.trans (by decide)))
        · exact c18 (Int32.toInt_inj.mp (e.trans (by decide)))
        · exact c21 (Int32.toInt_inj.mp (e.trans (by decide)))
        · exact c24 (Int32.toInt_inj.mp (e.trans (by decide))))) (by decide) ?_
      refine z_iconst (v := 1) C dX9_canBe_90 (by decide) ?_
      obtain ⟨hz, hF⟩ := bZ_some hF
      cases hF
      exact z_zret C hr hz.1 dX9_canBe_91 ⟨rfl, rfl, hT⟩
    · intro S  res hT  hF
      replace hF : F_X9_canBe_1 f (F_X9_canBe f)  S = some res := hF
      unfold F_X9_canBe_1 at hF
      refine z_iconst (v := 0) C dX9_canBe_79 (by decide) ?_
      exact ih2 S 0 res hT  hF
    · intro S w0 res hT  hF
      replace hF : F_X9_canBe_2 f (F_X9_canBe f) w0 S = some res := hF
      unfold F_X9_canBe_2 at hF
      obtain ⟨hz, hF⟩ := bZ_some hF
      cases hF
      exact z_zret C hr hz.1 dX9_canBe_80 ⟨rfl, rfl, hT⟩
theorem K_X9_canBe {G : zG} {l : Launch} {kd : kD} {N0 f : Nat} {S : aS} {v0 : Nat} {v1 : Nat} {v2 : Int32} {res : Option Value × aS} (hT : zT0 kd N0 S) (hpv0 : v0 < N0) (hkv0 : kd v0 = .inl 8) (hpv1 : v1 < N0) (hkv1 : kd v1 = .inl 0) (hF : F_X9_canBe f 0 [.ref v0, .ref v1, .int v2] S = some res) : zM G l 2 0 0 yX9_canBe cX9_canBe 4 (some .boolean) [.ref (zB G + v0), .ref (zB G + v1), .int v2] (cn G kd N0 S) (zPo G kd N0 res) := zM.of (by decide) rfl (Nat.le_of_ble_eq_true rfl) (fun X _ C hr _ => (B_X9_canBe C hr f).1 S v0 v1 v2 res hT hpv0 hkv0 hpv1 hkv1 hF)
def F_X9_draw_0 (f : Nat) (rc : Nat → List Value → aS → aR) (v0 : Nat) (v1 : Int32) (S : aS) : aR :=
  fS (sJ S v0 4 ((((gJ S v0 4) * (1103515245 : Int64)) + (12345 : Int64)) - (((gJ S v0 4) * (1103515245 : Int64)) + (12345 : Int64)) / (2147483648 : Int64) * (2147483648 : Int64))) fun S1 => if v1 ≤ (0 : Int32) then rc 1 [.int 0] S1 else bNL (Int32.toInt64 v1) (rc 1 [.int (Int64.toInt32 (((gJ S1 v0 4) / (65536 : Int64)) - ((gJ S1 v0 4) / (65536 : Int64)) / (Int32.toInt64 v1) * (Int32.toInt64 v1)))] S1)
def F_X9_draw_1 (f : Nat) (rc : Nat → List Value → aS → aR) (w0 : Int32) (S : aS) : aR :=
  some (some (.int w0), S)
def F_X9_draw : Nat → Nat → List Value → aS → aR
  | 0, _, _, _ => none
  | f + 1, 0, vs, S => F_X9_draw_0 f (F_X9_draw f) (vR vs 0) (vI vs 1) S
  | f + 1, 1, vs, S => F_X9_draw_1 f (F_X9_draw f) (vI vs 0) S
  | _ + 1, _, _, _ => none
theorem dX9_draw_0 : decode cX9_draw 0 = .ok (.aload_n 0, 1) := by decide +kernel
theorem dX9_draw_1 : decode cX9_draw 1 = .ok (.aload_n 0, 1) := by decide +kernel
theorem dX9_draw_2 : decode cX9_draw 2 = .ok (.getfield 157, 3) := by decide +kernel
theorem dX9_draw_5 : decode cX9_draw 5 = .ok (.ldc2_w 168, 3) := by decide +kernel
theorem dX9_draw_8 : decode cX9_draw 8 = .ok (.lmul, 1) := by decide +kernel
theorem dX9_draw_9 : decode cX9_draw 9 = .ok (.ldc2_w 170, 3) := by decide +kernel
theorem dX9_draw_12 : decode cX9_draw 12 = .ok (.ladd, 1) := by decide +kernel
theorem dX9_draw_13 : decode cX9_draw 13 = .ok (.ldc2_w 172, 3) := by decide +kernel
theorem dX9_draw_16 : decode cX9_draw 16 = .ok (.lrem, 1) := by decide +kernel
theorem dX9_draw_17 : decode cX9_draw 17 = .ok (.putfield 157, 3) := by decide +kernel
theorem dX9_draw_20 : decode cX9_draw 20 = .ok (.iload_n 1, 1) := by decide +kernel
theorem dX9_draw_21 : decode cX9_draw 21 = .ok (.ifCond .le 18, 3) := by decide +kernel
theorem dX9_draw_24 : decode cX9_draw 24 = .ok (.aload_n 0, 1) := by decide +kernel
theorem dX9_draw_25 : decode cX9_draw 25 = .ok (.getfield 157, 3) := by decide +kernel
theorem dX9_draw_28 : decode cX9_draw 28 = .ok (.ldc2_w 174, 3) := by decide +kernel
theorem dX9_draw_31 : decode cX9_draw 31 = .ok (.ldiv, 1) := by decide +kernel
theorem dX9_draw_32 : decode cX9_draw 32 = .ok (.iload_n 1, 1) := by decide +kernel
theorem dX9_draw_33 : decode cX9_draw 33 = .ok (.i2l, 1) := by decide +kernel
theorem dX9_draw_34 : decode cX9_draw 34 = .ok (.lrem, 1) := by decide +kernel
theorem dX9_draw_35 : decode cX9_draw 35 = .ok (.l2i, 1) := by decide +kernel
theorem dX9_draw_36 : decode cX9_draw 36 = .ok (.goto 4, 3) := by decide +kernel
theorem dX9_draw_39 : decode cX9_draw 39 = .ok (.iconst 0, 1) := by decide +kernel
theorem dX9_draw_40 : decode cX9_draw 40 = .ok (.ireturn, 1) := by decide +kernel
set_option maxHeartbeats 4000000 in
set_option maxRecDepth 100000 in
theorem B_X9_draw {G : zG} {X : zX} {kd : kD} {N0 : Nat} (C : zCt G X 0 0 0 RX9 cX9_draw 2) (hr : (zXh X).sig.returnType = (some .int)) : ∀ f : Nat,
    (∀ (S : aS) (v0 : Nat) (v1 : Int32) (res : Option Value × aS), zT0 kd N0 S → v0 < N0 → kd v0 = .inl 8 → F_X9_draw f 0 [.ref v0, .int v1] S = some res → zV G X (zQX G X (zPo G kd N0 res) 0 0) 2 [some (.ref (zB G + v0)), some (.int v1)] [] (cn G kd N0 S) 0 0 0) ∧
    (∀ (S : aS) (w0 : Int32) (res : Option Value × aS), zT0 kd N0 S → F_X9_draw f 1 [.int w0] S = some res → zV G X (zQX G X (zPo G kd N0 res) 0 0) 2 [none, none] [.int w0] (cn G kd N0 S) 40 0 0) := by
  intro f
  induction f with
  | zero => exact ⟨(fun _ _ _ _ _ _ _ h => by cases h), (fun _ _ _ _ h => by cases h)⟩
  | succ f ih =>
    obtain ⟨ih0, ih1⟩ := ih
    refine ⟨?_, ?_⟩
    · intro S v0 v1 res hT hpv0 hkv0 hF
      replace hF : F_X9_draw_0 f (F_X9_draw f) v0 v1 S = some res := hF
      unfold F_X9_draw_0 at hF
      refine z_aload_n C dX9_draw_0 rfl ?_
      refine z_aload_n C dX9_draw_1 rfl ?_
      refine f_getj C dX9_draw_2 zfRX9_157 hpv0 hkv0 rfl ?_
      refine z_ldc2 C dX9_draw_5 klRX9_168 ?_
      refine z_lmul C dX9_draw_8 ?_
      refine z_ldc2 C dX9_draw_9 klRX9_170 ?_
      refine z_ladd C dX9_draw_12 ?_
      refine z_ldc2 C dX9_draw_13 klRX9_172 ?_
      refine z_lrem C dX9_draw_16 (by decide) ?_
      refine f_putj C dX9_draw_17 zfRX9_157 fw8_4 hpv0 hkv0 rfl rfl rfl ?_
      have hT1 : zT0 kd N0 (sJ S v0 4 ((((gJ S v0 4) * (1103515245 : Int64)) + (12345 : Int64)) - (((gJ S v0 4) * (1103515245 : Int64)) + (12345 : Int64)) / (2147483648 : Int64) * (2147483648 : Int64))) := zT0_sJ hT
      replace hF := fS_e hF
      generalize sJ S v0 4 ((((gJ S v0 4) * (1103515245 : Int64)) + (12345 : Int64)) - (((gJ S v0 4) * (1103515245 : Int64)) + (12345 : Int64)) / (2147483648 : Int64) * (2147483648 : Int64)) = S1 at hF hT1 ⊢
      refine z_iload_n C dX9_draw_20 rfl ?_
      refine z_if_le C 39 dX9_draw_21 (by decide) (fun c3 => ?_) (fun c3 => ?_)
      · replace hF := ip hF c3
        refine z_iconst (v := 0) C dX9_draw_39 (by decide) ?_
        refine z_mask [false, false] ?_ rfl
        exact ih1 S1 0 res hT1  hF
      · replace hF := im hF c3
        refine z_aload_n C dX9_draw_24 rfl ?_
        refine f_getj C dX9_draw_25 zfRX9_157 hpv0 hkv0 rfl ?_
        refine z_ldc2 C dX9_draw_28 klRX9_174 ?_
        refine z_ldiv C dX9_draw_31 (by decide) ?_
        refine z_iload_n C dX9_draw_32 rfl ?_
        refine z_i2l C dX9_draw_33 ?_
        obtain ⟨hz4, hF⟩ := bNL_some hF
        refine z_lrem C dX9_draw_34 hz4 ?_
        refine z_l2i C dX9_draw_35 ?_
        refine z_goto C 40 dX9_draw_36 (by decide) ?_
        refine z_mask [false, false] ?_ rfl
        exact ih1 S1 (Int64.toInt32 (((gJ S1 v0 4) / (65536 : Int64)) - ((gJ S1 v0 4) / (65536 : Int64)) / (Int32.toInt64 v1) * (Int32.toInt64 v1))) res hT1  hF
    · intro S w0 res hT  hF
      replace hF : F_X9_draw_1 f (F_X9_draw f) w0 S = some res := hF
      unfold F_X9_draw_1 at hF
      cases hF
      exact z_iret C hr dX9_draw_40 ⟨rfl, rfl, hT⟩
theorem K_X9_draw {G : zG} {l : Launch} {kd : kD} {N0 f : Nat} {S : aS} {v0 : Nat} {v1 : Int32} {res : Option Value × aS} (hT : zT0 kd N0 S) (hpv0 : v0 < N0) (hkv0 : kd v0 = .inl 8) (hF : F_X9_draw f 0 [.ref v0, .int v1] S = some res) : zM G l 0 0 0 yX9_draw cX9_draw 2 (some .int) [.ref (zB G + v0), .int v1] (cn G kd N0 S) (zPo G kd N0 res) := zM.of (by decide) rfl (Nat.le_of_ble_eq_true rfl) (fun X _ C hr _ => (B_X9_draw C hr f).1 S v0 v1 res hT hpv0 hkv0 hF)
def F_X10_pickUp_0 (f : Nat) (rc : Nat → List Value → aS → aR) (v0 : Nat) (v1 : Nat) (v2 : Int32) (S : aS) : aR :=
  bX v2 8 fun q2 => lI (if (gI S (gR S v1 1) q2) < (gI S v1 8) then (gI S (gR S v1 1) q2) else (gI S v1 8)) fun y3 => bX v2 8 fun q5 => bX v2 8 fun q6 => fS (sI S (gR S v1 1) q6 ((gI S (gR S v1 1) q5) - y3)) fun S7 => fS (sI S7 v0 2 ((gI S7 v0 2) + y3)) fun S8 => some (none, S8)
def F_X10_pickUp : Nat → Nat → List Value → aS → aR
  | 0, _, _, _ => none
  | f + 1, 0, vs, S => F_X10_pickUp_0 f (F_X10_pickUp f) (vR vs 0) (vR vs 1) (vI vs 2) S
  | _ + 1, _, _, _ => none
theorem dX10_pickUp_0 : decode cX10_pickUp 0 = .ok (.aload_n 1, 1) := by decide +kernel
theorem dX10_pickUp_1 : decode cX10_pickUp 1 = .ok (.getfield 65, 3) := by decide +kernel
theorem dX10_pickUp_4 : decode cX10_pickUp 4 = .ok (.aload_n 1, 1) := by decide +kernel
theorem dX10_pickUp_5 : decode cX10_pickUp 5 = .ok (.getfield 45, 3) := by decide +kernel
theorem dX10_pickUp_8 : decode cX10_pickUp 8 = .ok (.iload_n 2, 1) := by decide +kernel
theorem dX10_pickUp_9 : decode cX10_pickUp 9 = .ok (.iaload, 1) := by decide +kernel
theorem dX10_pickUp_10 : decode cX10_pickUp 10 = .ok (.invokestatic 68, 3) := by decide +kernel
theorem dX10_pickUp_13 : decode cX10_pickUp 13 = .ok (.istore_n 3, 1) := by decide +kernel
theorem dX10_pickUp_14 : decode cX10_pickUp 14 = .ok (.aload_n 1, 1) := by decide +kernel
theorem dX10_pickUp_15 : decode cX10_pickUp 15 = .ok (.getfield 45, 3) := by decide +kernel
theorem dX10_pickUp_18 : decode cX10_pickUp 18 = .ok (.iload_n 2, 1) := by decide +kernel
theorem dX10_pickUp_19 : decode cX10_pickUp 19 = .ok (.dup2, 1) := by decide +kernel
theorem dX10_pickUp_20 : decode cX10_pickUp 20 = .ok (.iaload, 1) := by decide +kernel
theorem dX10_pickUp_21 : decode cX10_pickUp 21 = .ok (.iload_n 3, 1) := by decide +kernel
theorem dX10_pickUp_22 : decode cX10_pickUp 22 = .ok (.isub, 1) := by decide +kernel
theorem dX10_pickUp_23 : decode cX10_pickUp 23 = .ok (.iastore, 1) := by decide +kernel
theorem dX10_pickUp_24 : decode cX10_pickUp 24 = .ok (.aload_n 0, 1) := by decide +kernel
theorem dX10_pickUp_25 : decode cX10_pickUp 25 = .ok (.dup, 1) := by decide +kernel
theorem dX10_pickUp_26 : decode cX10_pickUp 26 = .ok (.getfield 13, 3) := by decide +kernel
theorem dX10_pickUp_29 : decode cX10_pickUp 29 = .ok (.iload_n 3, 1) := by decide +kernel
theorem dX10_pickUp_30 : decode cX10_pickUp 30 = .ok (.iadd, 1) := by decide +kernel
theorem dX10_pickUp_31 : decode cX10_pickUp 31 = .ok (.putfield 13, 3) := by decide +kernel
theorem dX10_pickUp_34 : decode cX10_pickUp 34 = .ok (.return_, 1) := by decide +kernel
set_option maxHeartbeats 4000000 in
set_option maxRecDepth 100000 in
theorem B_X10_pickUp {G : zG} {X : zX} {kd : kD} {N0 : Nat} (C : zCt G X 1 0 0 RX10 cX10_pickUp 4) (hr : (zXh X).sig.returnType = none) : ∀ f : Nat,
    (∀ (S : aS) (v0 : Nat) (v1 : Nat) (v2 : Int32) (res : Option Value × aS), zT0 kd N0 S → v0 < N0 → kd v0 = .inl 9 → v1 < N0 → kd v1 = .inl 3 → F_X10_pickUp f 0 [.ref v0, .ref v1, .int v2] S = some res → zV G X (zQX G X (zPo G kd N0 res) 0 0) 4 [some (.ref (zB G + v0)), some (.ref (zB G + v1)), some (.int v2), none] [] (cn G kd N0 S) 0 0 0) := by
  intro f
  induction f with
  | zero => exact (fun _ _ _ _ _ _ _ _ _ _ h => by cases h)
  | succ f ih =>
    have ih0 := ih
    intro S v0 v1 v2 res hT hpv0 hkv0 hpv1 hkv1 hF
    replace hF : F_X10_pickUp_0 f (F_X10_pickUp f) v0 v1 v2 S = some res := hF
    unfold F_X10_pickUp_0 at hF
    refine z_aload_n C dX10_pickUp_0 rfl ?_
    refine f_geti C dX10_pickUp_1 zfRX10_65 hpv1 hkv1 rfl ?_
    refine z_aload_n C dX10_pickUp_4 rfl ?_
    refine f_getr C dX10_pickUp_5 zfRX10_45 hpv1 hkv1 rfl ?_
    obtain ⟨hp1, hk1⟩ := hT.1 v1 3 1 (.inr (0, 8)) hpv1 hkv1 rfl
    refine z_iload_n C dX10_pickUp_8 rfl ?_
    obtain ⟨hi2, hF⟩ := bX_some hF
    obtain ⟨q2, eq2⟩ : ∃ q : Nat, q = Int32.toNatClampNeg v2 := ⟨_, rfl⟩
    rw [← eq2] at hF
    refine f_iald C dX10_pickUp_9 hp1 hk1 hi2 ?_
    rw [← eq2]
    refine f_mmin C dX10_pickUp_10 lkRX10_68 (by decide) (Nat.le_of_ble_eq_true rfl) ?_
    replace hF := lI_e hF
    generalize (if (gI S (gR S v1 1) q2) < (gI S v1 8) then (gI S (gR S v1 1) q2) else (gI S v1 8)) = y3 at hF ⊢
    refine z_istore_n (lv2 := [some (.ref (zB G + v0)), some (.ref (zB G + v1)), some (.int v2), some (.int y3)]) C dX10_pickUp_13 (by decide) rfl ?_
    refine z_aload_n C dX10_pickUp_14 rfl ?_
    refine f_getr C dX10_pickUp_15 zfRX10_45 hpv1 hkv1 rfl ?_
    obtain ⟨hp4, hk4⟩ := hT.1 v1 3 1 (.inr (0, 8)) hpv1 hkv1 rfl
    refine z_iload_n C dX10_pickUp_18 rfl ?_
    refine z_dup2 C dX10_pickUp_19 rfl rfl ?_
    obtain ⟨hi5, hF⟩ := bX_some hF
    obtain ⟨q5, eq5⟩ : ∃ q : Nat, q = Int32.toNatClampNeg v2 := ⟨_, rfl⟩
    rw [← eq5] at hF
    refine f_iald C dX10_pickUp_20 hp4 hk4 hi5 ?_
    rw [← eq5]
    refine z_iload_n C dX10_pickUp_21 rfl ?_
    refine z_isub C dX10_pickUp_22 ?_
    obtain ⟨hi6, hF⟩ := bX_some hF
    obtain ⟨q6, eq6⟩ : ∃ q : Nat, q = Int32.toNatClampNeg v2 := ⟨_, rfl⟩
    rw [← eq6] at hF
    refine f_iast C dX10_pickUp_23 hp4 hk4 hi6 ?_
    rw [← eq6]
    have hT7 : zT0 kd N0 (sI S (gR S v1 1) q6 ((gI S (gR S v1 1) q5) - y3)) := zT0_sI hT
    replace hF := fS_e hF
    generalize sI S (gR S v1 1) q6 ((gI S (gR S v1 1) q5) - y3) = S7 at hF hT7 ⊢
    refine z_aload_n C dX10_pickUp_24 rfl ?_
    refine z_dup C dX10_pickUp_25 rfl ?_
    refine f_geti C dX10_pickUp_26 zfRX10_13 hpv0 hkv0 rfl ?_
    refine z_iload_n C dX10_pickUp_29 rfl ?_
    refine z_iadd C dX10_pickUp_30 ?_
    refine f_puti C dX10_pickUp_31 zfRX10_13 fw9_2 hpv0 hkv0 rfl rfl rfl ?_
    have hT8 : zT0 kd N0 (sI S7 v0 2 ((gI S7 v0 2) + y3)) := zT0_sI hT7
    replace hF := fS_e hF
    generalize sI S7 v0 2 ((gI S7 v0 2) + y3) = S8 at hF hT8 ⊢
    cases hF
    exact z_vret C hr dX10_pickUp_34 ⟨rfl, rfl, hT8⟩
theorem K_X10_pickUp {G : zG} {l : Launch} {kd : kD} {N0 f : Nat} {S : aS} {v0 : Nat} {v1 : Nat} {v2 : Int32} {res : Option Value × aS} (hT : zT0 kd N0 S) (hpv0 : v0 < N0) (hkv0 : kd v0 = .inl 9) (hpv1 : v1 < N0) (hkv1 : kd v1 = .inl 3) (hF : F_X10_pickUp f 0 [.ref v0, .ref v1, .int v2] S = some res) : zM G l 1 0 0 yX10_pickUp cX10_pickUp 4 none [.ref (zB G + v0), .ref (zB G + v1), .int v2] (cn G kd N0 S) (zPo G kd N0 res) := zM.of (by decide) rfl (Nat.le_of_ble_eq_true rfl) (fun X _ C hr _ => (B_X10_pickUp C hr f) S v0 v1 v2 res hT hpv0 hkv0 hpv1 hkv1 hF)
def F_X10_putIn_0 (f : Nat) (rc : Nat → List Value → aS → aR) (v0 : Nat) (v1 : Nat) (v2 : Int32) (v3 : Int32) (S : aS) : aR :=
  bX v2 8 fun q2 => bX v2 8 fun q4 => lI (if ((gI S (gR S v1 2) q2) - (gI S (gR S v1 3) q4)) < v3 then ((gI S (gR S v1 2) q2) - (gI S (gR S v1 3) q4)) else v3) fun y5 => bX v2 8 fun q7 => bX v2 8 fun q8 => fS (sI S (gR S v1 3) q8 ((gI S (gR S v1 3) q7) + y5)) fun S9 => fS (sI S9 v0 1 ((gI S9 v0 1) + y5)) fun S10 => some (some (.int y5), S10)
def F_X10_putIn : Nat → Nat → List Value → aS → aR
  | 0, _, _, _ => none
  | f + 1, 0, vs, S => F_X10_putIn_0 f (F_X10_putIn f) (vR vs 0) (vR vs 1) (vI vs 2) (vI vs 3) S
  | _ + 1, _, _, _ => none
theorem dX10_putIn_0 : decode cX10_putIn 0 = .ok (.iload_n 3, 1) := by decide +kernel
theorem dX10_putIn_1 : decode cX10_putIn 1 = .ok (.aload_n 1, 1) := by decide +kernel
theorem dX10_putIn_2 : decode cX10_putIn 2 = .ok (.getfield 74, 3) := by decide +kernel
theorem dX10_putIn_5 : decode cX10_putIn 5 = .ok (.iload_n 2, 1) := by decide +kernel
theorem dX10_putIn_6 : decode cX10_putIn 6 = .ok (.iaload, 1) := by decide +kernel
theorem dX10_putIn_7 : decode cX10_putIn 7 = .ok (.aload_n 1, 1) := by decide +kernel
theorem dX10_putIn_8 : decode cX10_putIn 8 = .ok (.getfield 77, 3) := by decide +kernel
theorem dX10_putIn_11 : decode cX10_putIn 11 = .ok (.iload_n 2, 1) := by decide +kernel
theorem dX10_putIn_12 : decode cX10_putIn 12 = .ok (.iaload, 1) := by decide +kernel
theorem dX10_putIn_13 : decode cX10_putIn 13 = .ok (.isub, 1) := by decide +kernel
theorem dX10_putIn_14 : decode cX10_putIn 14 = .ok (.invokestatic 68, 3) := by decide +kernel
theorem dX10_putIn_17 : decode cX10_putIn 17 = .ok (.istore 4, 2) := by decide +kernel
theorem dX10_putIn_19 : decode cX10_putIn 19 = .ok (.aload_n 1, 1) := by decide +kernel
theorem dX10_putIn_20 : decode cX10_putIn 20 = .ok (.getfield 77, 3) := by decide +kernel
theorem dX10_putIn_23 : decode cX10_putIn 23 = .ok (.iload_n 2, 1) := by decide +kernel
theorem dX10_putIn_24 : decode cX10_putIn 24 = .ok (.dup2, 1) := by decide +kernel
theorem dX10_putIn_25 : decode cX10_putIn 25 = .ok (.iaload, 1) := by decide +kernel
theorem dX10_putIn_26 : decode cX10_putIn 26 = .ok (.iload 4, 2) := by decide +kernel
theorem dX10_putIn_28 : decode cX10_putIn 28 = .ok (.iadd, 1) := by decide +kernel
theorem dX10_putIn_29 : decode cX10_putIn 29 = .ok (.iastore, 1) := by decide +kernel
theorem dX10_putIn_30 : decode cX10_putIn 30 = .ok (.aload_n 0, 1) := by decide +kernel
theorem dX10_putIn_31 : decode cX10_putIn 31 = .ok (.dup, 1) := by decide +kernel
theorem dX10_putIn_32 : decode cX10_putIn 32 = .ok (.getfield 7, 3) := by decide +kernel
theorem dX10_putIn_35 : decode cX10_putIn 35 = .ok (.iload 4, 2) := by decide +kernel
theorem dX10_putIn_37 : decode cX10_putIn 37 = .ok (.iadd, 1) := by decide +kernel
theorem dX10_putIn_38 : decode cX10_putIn 38 = .ok (.putfield 7, 3) := by decide +kernel
theorem dX10_putIn_41 : decode cX10_putIn 41 = .ok (.iload 4, 2) := by decide +kernel
theorem dX10_putIn_43 : decode cX10_putIn 43 = .ok (.ireturn, 1) := by decide +kernel
set_option maxHeartbeats 4000000 in
set_option maxRecDepth 100000 in
theorem B_X10_putIn {G : zG} {X : zX} {kd : kD} {N0 : Nat} (C : zCt G X 1 0 0 RX10 cX10_putIn 5) (hr : (zXh X).sig.returnType = (some .int)) : ∀ f : Nat,
    (∀ (S : aS) (v0 : Nat) (v1 : Nat) (v2 : Int32) (v3 : Int32) (res : Option Value × aS), zT0 kd N0 S → v0 < N0 → kd v0 = .inl 9 → v1 < N0 → kd v1 = .inl 3 → F_X10_putIn f 0 [.ref v0, .ref v1, .int v2, .int v3] S = some res → zV G X (zQX G X (zPo G kd N0 res) 0 0) 5 [some (.ref (zB G + v0)), some (.ref (zB G + v1)), some (.int v2), some (.int v3), none] [] (cn G kd N0 S) 0 0 0) := by
  intro f
  induction f with
  | zero => exact (fun _ _ _ _ _ _ _ _ _ _ _ h => by cases h)
  | succ f ih =>
    have ih0 := ih
    intro S v0 v1 v2 v3 res hT hpv0 hkv0 hpv1 hkv1 hF
    replace hF : F_X10_putIn_0 f (F_X10_putIn f) v0 v1 v2 v3 S = some res := hF
    unfold F_X10_putIn_0 at hF
    refine z_iload_n C dX10_putIn_0 rfl ?_
    refine z_aload_n C dX10_putIn_1 rfl ?_
    refine f_getr C dX10_putIn_2 zfRX10_74 hpv1 hkv1 rfl ?_
    obtain ⟨hp1, hk1⟩ := hT.1 v1 3 2 (.inr (0, 8)) hpv1 hkv1 rfl
    refine z_iload_n C dX10_putIn_5 rfl ?_
    obtain ⟨hi2, hF⟩ := bX_some hF
    obtain ⟨q2, eq2⟩ : ∃ q : Nat, q = Int32.toNatClampNeg v2 := ⟨_, rfl⟩
    rw [← eq2] at hF
    refine f_iald C dX10_putIn_6 hp1 hk1 hi2 ?_
    rw [← eq2]
    refine z_aload_n C dX10_putIn_7 rfl ?_
    refine f_getr C dX10_putIn_8 zfRX10_77 hpv1 hkv1 rfl ?_
    obtain ⟨hp3, hk3⟩ := hT.1 v1 3 3 (.inr (0, 8)) hpv1 hkv1 rfl
    refine z_iload_n C dX10_putIn_11 rfl ?_
    obtain ⟨hi4, hF⟩ := bX_some hF
    obtain ⟨q4, eq4⟩ : ∃ q : Nat, q = Int32.toNatClampNeg v2 := ⟨_, rfl⟩
    rw [← eq4] at hF
    refine f_iald C dX10_putIn_12 hp3 hk3 hi4 ?_
    rw [← eq4]
    refine z_isub C dX10_putIn_13 ?_
    refine f_mmin C dX10_putIn_14 lkRX10_68 (by decide) (Nat.le_of_ble_eq_true rfl) ?_
    replace hF := lI_e hF
    generalize (if ((gI S (gR S v1 2) q2) - (gI S (gR S v1 3) q4)) < v3 then ((gI S (gR S v1 2) q2) - (gI S (gR S v1 3) q4)) else v3) = y5 at hF ⊢
    refine z_istore (lv2 := [some (.ref (zB G + v0)), some (.ref (zB G + v1)), some (.int v2), some (.int v3), some (.int y5)]) C dX10_putIn_17 (by decide) rfl ?_
    refine z_aload_n C dX10_putIn_19 rfl ?_
    refine f_getr C dX10_putIn_20 zfRX10_77 hpv1 hkv1 rfl ?_
    obtain ⟨hp6, hk6⟩ := hT.1 v1 3 3 (.inr (0, 8)) hpv1 hkv1 rfl
    refine z_iload_n C dX10_putIn_23 rfl ?_
    refine z_dup2 C dX10_putIn_24 rfl rfl ?_
    obtain ⟨hi7, hF⟩ := bX_some hF
    obtain ⟨q7, eq7⟩ : ∃ q : Nat, q = Int32.toNatClampNeg v2 := ⟨_, rfl⟩
    rw [← eq7] at hF
    refine f_iald C dX10_putIn_25 hp6 hk6 hi7 ?_
    rw [← eq7]
    refine z_iload C dX10_putIn_26 rfl ?_
    refine z_iadd C dX10_putIn_28 ?_
    obtain ⟨hi8, hF⟩ := bX_some hF
    obtain ⟨q8, eq8⟩ : ∃ q : Nat, q = Int32.toNatClampNeg v2 := ⟨_, rfl⟩
    rw [← eq8] at hF
    refine f_iast C dX10_putIn_29 hp6 hk6 hi8 ?_
    rw [← eq8]
    have hT9 : zT0 kd N0 (sI S (gR S v1 3) q8 ((gI S (gR S v1 3) q7) + y5)) := zT0_sI hT
    replace hF := fS_e hF
    generalize sI S (gR S v1 3) q8 ((gI S (gR S v1 3) q7) + y5) = S9 at hF hT9 ⊢
    refine z_aload_n C dX10_putIn_30 rfl ?_
    refine z_dup C dX10_putIn_31 rfl ?_
    refine f_geti C dX10_putIn_32 zfRX10_7 hpv0 hkv0 rfl ?_
    refine z_iload C dX10_putIn_35 rfl ?_
    refine z_iadd C dX10_putIn_37 ?_
    refine f_puti C dX10_putIn_38 zfRX10_7 fw9_1 hpv0 hkv0 rfl rfl rfl ?_
    have hT10 : zT0 kd N0 (sI S9 v0 1 ((gI S9 v0 1) + y5)) := zT0_sI hT9
    replace hF := fS_e hF
    generalize sI S9 v0 1 ((gI S9 v0 1) + y5) = S10 at hF hT10 ⊢
    refine z_iload C dX10_putIn_41 rfl ?_
    cases hF
    exact z_iret C hr dX10_putIn_43 ⟨rfl, rfl, hT10⟩
theorem K_X10_putIn {G : zG} {l : Launch} {kd : kD} {N0 f : Nat} {S : aS} {v0 : Nat} {v1 : Nat} {v2 : Int32} {v3 : Int32} {res : Option Value × aS} (hT : zT0 kd N0 S) (hpv0 : v0 < N0) (hkv0 : kd v0 = .inl 9) (hpv1 : v1 < N0) (hkv1 : kd v1 = .inl 3) (hF : F_X10_putIn f 0 [.ref v0, .ref v1, .int v2, .int v3] S = some res) : zM G l 1 0 0 yX10_putIn cX10_putIn 5 (some .int) [.ref (zB G + v0), .ref (zB G + v1), .int v2, .int v3] (cn G kd N0 S) (zPo G kd N0 res) := zM.of (by decide) rfl (Nat.le_of_ble_eq_true rfl) (fun X _ C hr _ => (B_X10_putIn C hr f) S v0 v1 v2 v3 res hT hpv0 hkv0 hpv1 hkv1 hF)
def F_X11_keyWith_0 (f : Nat) (rc : Nat → List Value → aS → aR) (v0 : Int64) (v1 : Int32) (S : aS) : aR :=
  some (some (.long ((v0 * (32 : Int64)) + (Int32.toInt64 ((v1 - (97 : Int32)) + (1 : Int32))))), S)
def F_X11_keyWith : Nat → Nat → List Value → aS → aR
  | 0, _, _, _ => none
  | f + 1, 0, vs, S => F_X11_keyWith_0 f (F_X11_keyWith f) (vJ vs 0) (vI vs 1) S
  | _ + 1, _, _, _ => none
theorem dX11_keyWith_0 : decode cX11_keyWith 0 = .ok (.lload_n 0, 1) := by decide +kernel
theorem dX11_keyWith_1 : decode cX11_keyWith 1 = .ok (.ldc2_w 146, 3) := by decide +kernel
theorem dX11_keyWith_4 : decode cX11_keyWith 4 = .ok (.lmul, 1) := by decide +kernel
theorem dX11_keyWith_5 : decode cX11_keyWith 5 = .ok (.iload_n 2, 1) := by decide +kernel
theorem dX11_keyWith_6 : decode cX11_keyWith 6 = .ok (.bipush 97, 2) := by decide +kernel
theorem dX11_keyWith_8 : decode cX11_keyWith 8 = .ok (.isub, 1) := by decide +kernel
theorem dX11_keyWith_9 : decode cX11_keyWith 9 = .ok (.iconst 1, 1) := by decide +kernel
theorem dX11_keyWith_10 : decode cX11_keyWith 10 = .ok (.iadd, 1) := by decide +kernel
theorem dX11_keyWith_11 : decode cX11_keyWith 11 = .ok (.i2l, 1) := by decide +kernel
theorem dX11_keyWith_12 : decode cX11_keyWith 12 = .ok (.ladd, 1) := by decide +kernel
theorem dX11_keyWith_13 : decode cX11_keyWith 13 = .ok (.lreturn, 1) := by decide +kernel
set_option maxHeartbeats 4000000 in
set_option maxRecDepth 100000 in
theorem B_X11_keyWith {G : zG} {X : zX} {kd : kD} {N0 : Nat} (C : zCt G X 0 0 0 RX11 cX11_keyWith 3) (hr : (zXh X).sig.returnType = (some .long)) : ∀ f : Nat,
    (∀ (S : aS) (v0 : Int64) (v1 : Int32) (res : Option Value × aS), zT0 kd N0 S → F_X11_keyWith f 0 [.long v0, .int v1] S = some res → zV G X (zQX G X (zPo G kd N0 res) 0 0) 3 [some (.long v0), none, some (.int v1)] [] (cn G kd N0 S) 0 0 0) := by
  intro f
  induction f with
  | zero => exact (fun _ _ _ _ _ h => by cases h)
  | succ f ih =>
    have ih0 := ih
    intro S v0 v1 res hT  hF
    replace hF : F_X11_keyWith_0 f (F_X11_keyWith f) v0 v1 S = some res := hF
    unfold F_X11_keyWith_0 at hF
    refine z_lload_n C dX11_keyWith_0 rfl ?_
    refine z_ldc2 C dX11_keyWith_1 klRX11_146 ?_
    refine z_lmul C dX11_keyWith_4 ?_
    refine z_iload_n C dX11_keyWith_5 rfl ?_
    refine z_bipush (v := 97) C dX11_keyWith_6 (by decide) ?_
    refine z_isub C dX11_keyWith_8 ?_
    refine z_iconst (v := 1) C dX11_keyWith_9 (by decide) ?_
    refine z_iadd C dX11_keyWith_10 ?_
    refine z_i2l C dX11_keyWith_11 ?_
    refine z_ladd C dX11_keyWith_12 ?_
    cases hF
    exact z_lret C hr dX11_keyWith_13 ⟨rfl, rfl, hT⟩
theorem K_X11_keyWith {G : zG} {l : Launch} {kd : kD} {N0 f : Nat} {S : aS} {v0 : Int64} {v1 : Int32} {res : Option Value × aS} (hT : zT0 kd N0 S)  (hF : F_X11_keyWith f 0 [.long v0, .int v1] S = some res) : zM G l 0 0 0 yX11_keyWith cX11_keyWith 3 (some .long) [.long v0, .int v1] (cn G kd N0 S) (zPo G kd N0 res) := zM.of (by decide) rfl (Nat.le_of_ble_eq_true rfl) (fun X _ C hr _ => (B_X11_keyWith C hr f) S v0 v1 res hT  hF)
def F_X11_of_0 (f : Nat) (rc : Nat → List Value → aS → aR) (v0 : Int64) (S : aS) : aR :=
  rc 1 [.long v0, .int (Int32.ofNat 31), .int 0] S
def F_X11_of_1 (f : Nat) (rc : Nat → List Value → aS → aR) (v0 : Int64) (v2 : Int32) (v3 : Int32) (S : aS) : aR :=
  if v2 ≤ v3 then some (some (.ref 1), S) else bX v3 31 fun q2 => if (lg_cmp (zkey q2) v0) = (0 : Int32) then some (some (.ref q2), S) else rc 1 [.long v0, .int v2, .int (v3 + 1)] S
def F_X11_of : Nat → Nat → List Value → aS → aR
  | 0, _, _, _ => none
  | f + 1, 0, vs, S => F_X11_of_0 f (F_X11_of f) (vJ vs 0) S
  | f + 1, 1, vs, S => F_X11_of_1 f (F_X11_of f) (vJ vs 0) (vI vs 1) (vI vs 2) S
  | _ + 1, _, _, _ => none
theorem dX11_of_0 : decode cX11_of 0 = .ok (.getstatic 148, 3) := by decide +kernel
theorem dX11_of_3 : decode cX11_of 3 = .ok (.astore_n 2, 1) := by decide +kernel
theorem dX11_of_4 : decode cX11_of 4 = .ok (.aload_n 2, 1) := by decide +kernel
theorem dX11_of_5 : decode cX11_of 5 = .ok (.arraylength, 1) := by decide +kernel
theorem dX11_of_6 : decode cX11_of 6 = .ok (.istore_n 3, 1) := by decide +kernel
theorem dX11_of_7 : decode cX11_of 7 = .ok (.iconst 0, 1) := by decide +kernel
theorem dX11_of_8 : decode cX11_of 8 = .ok (.istore 4, 2) := by decide +kernel
theorem dX11_of_10 : decode cX11_of 10 = .ok (.iload 4, 2) := by decide +kernel
theorem dX11_of_12 : decode cX11_of 12 = .ok (.iload_n 3, 1) := by decide +kernel
theorem dX11_of_13 : decode cX11_of 13 = .ok (.if_icmp .ge 28, 3) := by decide +kernel
theorem dX11_of_16 : decode cX11_of 16 = .ok (.aload_n 2, 1) := by decide +kernel
theorem dX11_of_17 : decode cX11_of 17 = .ok (.iload 4, 2) := by decide +kernel
theorem dX11_of_19 : decode cX11_of 19 = .ok (.aaload, 1) := by decide +kernel
theorem dX11_of_20 : decode cX11_of 20 = .ok (.astore 5, 2) := by decide +kernel
theorem dX11_of_22 : decode cX11_of 22 = .ok (.aload 5, 2) := by decide +kernel
theorem dX11_of_24 : decode cX11_of 24 = .ok (.getfield 120, 3) := by decide +kernel
theorem dX11_of_27 : decode cX11_of 27 = .ok (.lload_n 0, 1) := by decide +kernel
theorem dX11_of_28 : decode cX11_of 28 = .ok (.lcmp, 1) := by decide +kernel
theorem dX11_of_29 : decode cX11_of 29 = .ok (.ifCond .ne 6, 3) := by decide +kernel
theorem dX11_of_32 : decode cX11_of 32 = .ok (.aload 5, 2) := by decide +kernel
theorem dX11_of_34 : decode cX11_of 34 = .ok (.areturn, 1) := by decide +kernel
theorem dX11_of_35 : decode cX11_of 35 = .ok (.iinc 4 1, 3) := by decide +kernel
theorem dX11_of_38 : decode cX11_of 38 = .ok (.goto (-28), 3) := by decide +kernel
theorem dX11_of_41 : decode cX11_of 41 = .ok (.getstatic 7, 3) := by decide +kernel
theorem dX11_of_44 : decode cX11_of 44 = .ok (.areturn, 1) := by decide +kernel
set_option maxHeartbeats 4000000 in
set_option maxRecDepth 100000 in
theorem B_X11_of {G : zG} {X : zX} {kd : kD} {N0 : Nat} (C : zCt G X 0 0 0 RX11 cX11_of 6) (hr : (zXh X).sig.returnType = (some (.object "LakeBins$Word"))) : ∀ f : Nat,
    (∀ (S : aS) (v0 : Int64) (res : Option Value × aS), zT0 kd N0 S → F_X11_of f 0 [.long v0] S = some res → zV G X (zQX G X (zPw G kd N0 res) 0 0) 6 [some (.long v0), none, none, none, none, none] [] (cn G kd N0 S) 0 0 0) ∧
    (∀ (S : aS) (v0 : Int64) (v2 : Int32) (v3 : Int32) (res : Option Value × aS), zT0 kd N0 S → F_X11_of f 1 [.long v0, .int v2, .int v3] S = some res → zV G X (zQX G X (zPw G kd N0 res) 0 0) 6 [some (.long v0), none, some (.ref (zC G 31)), some (.int v2), some (.int v3), none] [] (cn G kd N0 S) 10 0 0) := by
  intro f
  induction f with
  | zero => exact ⟨(fun _ _ _ _ h => by cases h), (fun _ _ _ _ _ _ h => by cases h)⟩
  | succ f ih =>
    obtain ⟨ih0, ih1⟩ := ih
    refine ⟨?_, ?_⟩
    · intro S v0 res hT  hF
      replace hF : F_X11_of_0 f (F_X11_of f) v0 S = some res := hF
      unfold F_X11_of_0 at hF
      refine f_gets C dX11_of_0 fkRX11_148 C.2.2.2.2.2.1.2.2.2.2.1 ?_
      refine z_astore_n (lv2 := [some (.long v0), none, some (.ref (zC G 31)), none, none, none]) C dX11_of_3 (by decide) rfl ?_
      refine z_aload_n C dX11_of_4 rfl ?_
      refine f_alenK C dX11_of_5 C.2.2.2.2.2.1.2.2.2.2.2.1 ?_
      refine z_istore_n (lv2 := [some (.long v0), none, some (.ref (zC G 31)), some (.int (Int32.ofNat 31)), none, none]) C dX11_of_6 (by decide) rfl ?_
      refine z_iconst (v := 0) C dX11_of_7 (by decide) ?_
      refine z_istore (lv2 := [some (.long v0), none, some (.ref (zC G 31)), some (.int (Int32.ofNat 31)), some (.int 0), none]) C dX11_of_8 (by decide) rfl ?_
      exact ih1 S v0 (Int32.ofNat 31) 0 res hT    hF
    · intro S v0 v2 v3 res hT  hF
      replace hF : F_X11_of_1 f (F_X11_of f) v0 v2 v3 S = some res := hF
      unfold F_X11_of_1 at hF
      refine z_iload C dX11_of_10 rfl ?_
      refine z_iload_n C dX11_of_12 rfl ?_
      refine z_icmp_ge C 41 dX11_of_13 (by decide) (fun c1 => ?_) (fun c1 => ?_)
      · replace hF := ip hF c1
        refine f_gets C dX11_of_41 fkRX11_7 (C.2.2.2.2.2.1.2.2.1 1 (by decide)).1 ?_
        cases hF
        exact z_aret C hr (Or.inl ⟨_, rfl⟩) dX11_of_44 ⟨1, rfl, (by decide), rfl, rfl, hT⟩
      · replace hF := im hF c1
        refine z_aload_n C dX11_of_16 rfl ?_
        refine z_iload C dX11_of_17 rfl ?_
        obtain ⟨hi2, hF⟩ := bX_some hF
        obtain ⟨q2, eq2⟩ : ∃ q : Nat, q = Int32.toNatClampNeg v3 := ⟨_, rfl⟩
        rw [← eq2] at hF
        refine f_aaldK C dX11_of_19 C.2.2.2.2.2.1.2.2.2.2.2.1 rfl hi2 ?_
        have hw2 : q2 < 31 := by rw [eq2]; exact Nat.not_le.mp fun z => hi2 (Or.inr z)
        rw [← eq2]
        refine z_astore (lv2 := [some (.long v0), none, some (.ref (zC G 31)), some (.int v2), some (.int v3), some (.ref (zC G q2))]) C dX11_of_20 (by decide) rfl ?_
        refine z_aload C dX11_of_22 rfl ?_
        refine f_getK C dX11_of_24 fkRX11_120 (C.2.2.2.2.2.1.2.2.1 q2 hw2).2.2.1 ?_
        refine z_lload_n C dX11_of_27 rfl ?_
        refine z_lcmp C dX11_of_28 ?_
        refine z_if_ne C 35 dX11_of_29 (by decide) (fun c3 => ?_) (fun c3 => ?_)
        · replace hF := im hF c3
          refine z_iinc (v := v3 + 1) (lv2 := [some (.long v0), none, some (.ref (zC G 31)), some (.int v2), some (.int (v3 + 1)), some (.ref (zC G q2))]) C dX11_of_35 rfl (by rw [show Int32.ofInt 1 = (1 : Int32) from by decide]) rfl ?_
          refine z_goto C 10 dX11_of_38 (by decide) ?_
          refine z_mask [true, true, true, true, true, false] ?_ rfl
          exact ih1 S v0 v2 (v3 + 1) res hT    hF
        · replace hF := ip hF c3
          refine z_aload C dX11_of_32 rfl ?_
          cases hF
          exact z_aret C hr (Or.inl ⟨_, rfl⟩) dX11_of_34 ⟨q2, rfl, hw2, rfl, rfl, hT⟩
theorem K_X11_of {G : zG} {l : Launch} {kd : kD} {N0 f : Nat} {S : aS} {v0 : Int64} {res : Option Value × aS} (hT : zT0 kd N0 S)  (hF : F_X11_of f 0 [.long v0] S = some res) : zM G l 0 0 0 yX11_of cX11_of 6 (some (.object "LakeBins$Word")) [.long v0] (cn G kd N0 S) (zPw G kd N0 res) := zM.of (by decide) rfl (Nat.le_of_ble_eq_true rfl) (fun X _ C hr _ => (B_X11_of C hr f).1 S v0 res hT  hF)
def F_X12_begin_0 (f : Nat) (rc : Nat → List Value → aS → aR) (v0 : Nat) (S : aS) : aR :=
  bV (F_X4_begin f 0 [.ref (gR S v0 5), .ref (gR S v0 1)] S) fun S3 => bV (F_X1_clear f 0 [.ref (gR S3 v0 3)] S3) fun S5 => bV (F_X2_clear f 0 [.ref (gR S5 v0 6)] S5) fun S7 => bV (F_X3_clear f 0 [.ref (gR S7 v0 7)] S7) fun S9 => fS (sI S9 v0 10 0) fun S10 => bV (F_X9_use f 0 [.ref (gR S10 v0 11), .ref (gR S10 v0 1)] S10) fun S13 => bV (F_X7_use f 0 [.ref (gR S13 v0 12), .ref (gR S13 v0 1)] S13) fun S16 => some (none, S16)
def F_X12_begin : Nat → Nat → List Value → aS → aR
  | 0, _, _, _ => none
  | f + 1, 0, vs, S => F_X12_begin_0 f (F_X12_begin f) (vR vs 0) S
  | _ + 1, _, _, _ => none
theorem dX12_begin_0 : decode cX12_begin 0 = .ok (.aload_n 0, 1) := by decide +kernel
theorem dX12_begin_1 : decode cX12_begin 1 = .ok (.getfield 39, 3) := by decide +kernel
theorem dX12_begin_4 : decode cX12_begin 4 = .ok (.aload_n 0, 1) := by decide +kernel
theorem dX12_begin_5 : decode cX12_begin 5 = .ok (.getfield 19, 3) := by decide +kernel
theorem dX12_begin_8 : decode cX12_begin 8 = .ok (.invokevirtual 86, 3) := by decide +kernel
theorem dX12_begin_11 : decode cX12_begin 11 = .ok (.aload_n 0, 1) := by decide +kernel
theorem dX12_begin_12 : decode cX12_begin 12 = .ok (.getfield 29, 3) := by decide +kernel
theorem dX12_begin_15 : decode cX12_begin 15 = .ok (.invokevirtual 89, 3) := by decide +kernel
theorem dX12_begin_18 : decode cX12_begin 18 = .ok (.aload_n 0, 1) := by decide +kernel
theorem dX12_begin_19 : decode cX12_begin 19 = .ok (.getfield 46, 3) := by decide +kernel
theorem dX12_begin_22 : decode cX12_begin 22 = .ok (.invokevirtual 92, 3) := by decide +kernel
theorem dX12_begin_25 : decode cX12_begin 25 = .ok (.aload_n 0, 1) := by decide +kernel
theorem dX12_begin_26 : decode cX12_begin 26 = .ok (.getfield 53, 3) := by decide +kernel
theorem dX12_begin_29 : decode cX12_begin 29 = .ok (.invokevirtual 93, 3) := by decide +kernel
theorem dX12_begin_32 : decode cX12_begin 32 = .ok (.aload_n 0, 1) := by decide +kernel
theorem dX12_begin_33 : decode cX12_begin 33 = .ok (.iconst 0, 1) := by decide +kernel
theorem dX12_begin_34 : decode cX12_begin 34 = .ok (.putfield 94, 3) := by decide +kernel
theorem dX12_begin_37 : decode cX12_begin 37 = .ok (.aload_n 0, 1) := by decide +kernel
theorem dX12_begin_38 : decode cX12_begin 38 = .ok (.getfield 70, 3) := by decide +kernel
theorem dX12_begin_41 : decode cX12_begin 41 = .ok (.aload_n 0, 1) := by decide +kernel
theorem dX12_begin_42 : decode cX12_begin 42 = .ok (.getfield 19, 3) := by decide +kernel
theorem dX12_begin_45 : decode cX12_begin 45 = .ok (.invokevirtual 98, 3) := by decide +kernel
theorem dX12_begin_48 : decode cX12_begin 48 = .ok (.aload_n 0, 1) := by decide +kernel
theorem dX12_begin_49 : decode cX12_begin 49 = .ok (.getfield 79, 3) := by decide +kernel
theorem dX12_begin_52 : decode cX12_begin 52 = .ok (.aload_n 0, 1) := by decide +kernel
theorem dX12_begin_53 : decode cX12_begin 53 = .ok (.getfield 19, 3) := by decide +kernel
theorem dX12_begin_56 : decode cX12_begin 56 = .ok (.invokevirtual 101, 3) := by decide +kernel
theorem dX12_begin_59 : decode cX12_begin 59 = .ok (.return_, 1) := by decide +kernel
set_option maxHeartbeats 4000000 in
set_option maxRecDepth 100000 in
theorem B_X12_begin {G : zG} {X : zX} {kd : kD} {N0 : Nat} (C : zCt G X 1 0 0 RX12 cX12_begin 1) (hr : (zXh X).sig.returnType = none) : ∀ f : Nat,
    (∀ (S : aS) (v0 : Nat) (res : Option Value × aS), zT0 kd N0 S → v0 < N0 → kd v0 = .inl 10 → F_X12_begin f 0 [.ref v0] S = some res → zV G X (zQX G X (zPo G kd N0 res) 0 0) 1 [some (.ref (zB G + v0))] [] (cn G kd N0 S) 0 0 0) := by
  intro f
  induction f with
  | zero => exact (fun _ _ _ _ _ _ h => by cases h)
  | succ f ih =>
    have ih0 := ih
    intro S v0 res hT hpv0 hkv0 hF
    replace hF : F_X12_begin_0 f (F_X12_begin f) v0 S = some res := hF
    unfold F_X12_begin_0 at hF
    refine z_aload_n C dX12_begin_0 rfl ?_
    refine f_getr C dX12_begin_1 zfRX12_39 hpv0 hkv0 rfl ?_
    obtain ⟨hp1, hk1⟩ := hT.1 v0 10 5 (.inl 3) hpv0 hkv0 rfl
    refine z_aload_n C dX12_begin_4 rfl ?_
    refine f_getr C dX12_begin_5 zfRX12_19 hpv0 hkv0 rfl ?_
    obtain ⟨hp2, hk2⟩ := hT.1 v0 10 1 (.inl 5) hpv0 hkv0 rfl
    obtain ⟨S3, h3, hF⟩ := bV_some hF
    refine f_cV (st2 := []) C dX12_begin_8 zyX4_begin zvX4_begin lkRX12_86 (K_X4_begin (l := zXl X) hT hp1 hk1 hp2 hk2 h3) hp1 hk1 rfl (by decide) rfl rfl (Nat.le_of_ble_eq_true rfl) rfl (fun hT3 => ?_)
    refine z_aload_n C dX12_begin_11 rfl ?_
    refine f_getr C dX12_begin_12 zfRX12_29 hpv0 hkv0 rfl ?_
    obtain ⟨hp4, hk4⟩ := hT3.1 v0 10 3 (.inl 0) hpv0 hkv0 rfl
    obtain ⟨S5, h5, hF⟩ := bV_some hF
    refine f_cV (st2 := []) C dX12_begin_15 zyX1_clear zvX1_clear lkRX12_89 (K_X1_clear (l := zXl X) hT3 hp4 hk4 h5) hp4 hk4 rfl (by decide) rfl rfl (Nat.le_of_ble_eq_true rfl) rfl (fun hT5 => ?_)
    refine z_aload_n C dX12_begin_18 rfl ?_
    refine f_getr C dX12_begin_19 zfRX12_46 hpv0 hkv0 rfl ?_
    obtain ⟨hp6, hk6⟩ := hT5.1 v0 10 6 (.inl 1) hpv0 hkv0 rfl
    obtain ⟨S7, h7, hF⟩ := bV_some hF
    refine f_cV (st2 := []) C dX12_begin_22 zyX2_clear zvX2_clear lkRX12_92 (K_X2_clear (l := zXl X) hT5 hp6 hk6 h7) hp6 hk6 rfl (by decide) rfl rfl (Nat.le_of_ble_eq_true rfl) rfl (fun hT7 => ?_)
    refine z_aload_n C dX12_begin_25 rfl ?_
    refine f_getr C dX12_begin_26 zfRX12_53 hpv0 hkv0 rfl ?_
    obtain ⟨hp8, hk8⟩ := hT7.1 v0 10 7 (.inl 2) hpv0 hkv0 rfl
    obtain ⟨S9, h9, hF⟩ := bV_some hF
    refine f_cV (st2 := []) C dX12_begin_29 zyX3_clear zvX3_clear lkRX12_93 (K_X3_clear (l := zXl X) hT7 hp8 hk8 h9) hp8 hk8 rfl (by decide) rfl rfl (Nat.le_of_ble_eq_true rfl) rfl (fun hT9 => ?_)
    refine z_aload_n C dX12_begin_32 rfl ?_
    refine z_iconst (v := 0) C dX12_begin_33 (by decide) ?_
    refine f_puti C dX12_begin_34 zfRX12_94 fw10_10 hpv0 hkv0 rfl rfl rfl ?_
    have hT10 : zT0 kd N0 (sI S9 v0 10 0) := zT0_sI hT9
    replace hF := fS_e hF
    generalize sI S9 v0 10 0 = S10 at hF hT10 ⊢
    refine z_aload_n C dX12_begin_37 rfl ?_
    refine f_getr C dX12_begin_38 zfRX12_70 hpv0 hkv0 rfl ?_
    obtain ⟨hp11, hk11⟩ := hT10.1 v0 10 11 (.inl 8) hpv0 hkv0 rfl
    refine z_aload_n C dX12_begin_41 rfl ?_
    refine f_getr C dX12_begin_42 zfRX12_19 hpv0 hkv0 rfl ?_
    obtain ⟨hp12, hk12⟩ := hT10.1 v0 10 1 (.inl 5) hpv0 hkv0 rfl
    obtain ⟨S13, h13, hF⟩ := bV_some hF
    refine f_cV (st2 := []) C dX12_begin_45 zyX9_use zvX9_use lkRX12_98 (K_X9_use (l := zXl X) hT10 hp11 hk11 hp12 hk12 h13) hp11 hk11 rfl (by decide) rfl rfl (Nat.le_of_ble_eq_true rfl) rfl (fun hT13 => ?_)
    refine z_aload_n C dX12_begin_48 rfl ?_
    refine f_getr C dX12_begin_49 zfRX12_79 hpv0 hkv0 rfl ?_
    obtain ⟨hp14, hk14⟩ := hT13.1 v0 10 12 (.inl 6) hpv0 hkv0 rfl
    refine z_aload_n C dX12_begin_52 rfl ?_
    refine f_getr C dX12_begin_53 zfRX12_19 hpv0 hkv0 rfl ?_
    obtain ⟨hp15, hk15⟩ := hT13.1 v0 10 1 (.inl 5) hpv0 hkv0 rfl
    obtain ⟨S16, h16, hF⟩ := bV_some hF
    refine f_cV (st2 := []) C dX12_begin_56 zyX7_use zvX7_use lkRX12_101 (K_X7_use (l := zXl X) hT13 hp14 hk14 hp15 hk15 h16) hp14 hk14 rfl (by decide) rfl rfl (Nat.le_of_ble_eq_true rfl) rfl (fun hT16 => ?_)
    cases hF
    exact z_vret C hr dX12_begin_59 ⟨rfl, rfl, hT16⟩
theorem K_X12_begin {G : zG} {l : Launch} {kd : kD} {N0 f : Nat} {S : aS} {v0 : Nat} {res : Option Value × aS} (hT : zT0 kd N0 S) (hpv0 : v0 < N0) (hkv0 : kd v0 = .inl 10) (hF : F_X12_begin f 0 [.ref v0] S = some res) : zM G l 1 0 0 yX12_begin cX12_begin 1 none [.ref (zB G + v0)] (cn G kd N0 S) (zPo G kd N0 res) := zM.of (by decide) rfl (Nat.le_of_ble_eq_true rfl) (fun X _ C hr _ => (B_X12_begin C hr f) S v0 res hT hpv0 hkv0 hF)
def F_X12_yard_0 (f : Nat) (rc : Nat → List Value → aS → aR) (v0 : Nat) (v1 : Int32) (v2 : Int32) (S : aS) : aR :=
  bI (F_X4_hasYard f 0 [.ref (gR S v0 5), .int v1] S) fun x2 S2 => if x2 = (0 : Int32) then some (some (.int ((-1))), S2) else if v2 = 0 then bX v1 8 fun q7 => some (some (.int (gI S2 (gR S2 (gR S2 v0 5) 1) q7)), S2) else if v2 = 1 then bX v1 8 fun q11 => some (some (.int (gI S2 (gR S2 (gR S2 v0 5) 2) q11)), S2) else if v2 = 2 then bX v1 8 fun q15 => some (some (.int (gI S2 (gR S2 (gR S2 v0 5) 3) q15)), S2) else if v2 = 3 then bI (F_X4_nearOf f 0 [.ref (gR S2 v0 5), .int v1] S2) fun x18 S18 => some (some (.int x18), S18) else some (some (.int ((-1))), S2)
def F_X12_yard : Nat → Nat → List Value → aS → aR
  | 0, _, _, _ => none
  | f + 1, 0, vs, S => F_X12_yard_0 f (F_X12_yard f) (vR vs 0) (vI vs 1) (vI vs 2) S
  | _ + 1, _, _, _ => none
theorem dX12_yard_0 : decode cX12_yard 0 = .ok (.aload_n 0, 1) := by decide +kernel
theorem dX12_yard_1 : decode cX12_yard 1 = .ok (.getfield 39, 3) := by decide +kernel
theorem dX12_yard_4 : decode cX12_yard 4 = .ok (.iload_n 1, 1) := by decide +kernel
theorem dX12_yard_5 : decode cX12_yard 5 = .ok (.invokevirtual 117, 3) := by decide +kernel
theorem dX12_yard_8 : decode cX12_yard 8 = .ok (.ifCond .ne 5, 3) := by decide +kernel
theorem dX12_yard_11 : decode cX12_yard 11 = .ok (.iconst (-1), 1) := by decide +kernel
theorem dX12_yard_12 : decode cX12_yard 12 = .ok (.ireturn, 1) := by decide +kernel
theorem dX12_yard_13 : decode cX12_yard 13 = .ok (.iload_n 2, 1) := by decide +kernel
theorem dX12_yard_14 : decode cX12_yard 14 = .ok (.tableswitch 69 0 3 #[30, 40, 50, 60], 30) := by decide +kernel
theorem dX12_yard_44 : decode cX12_yard 44 = .ok (.aload_n 0, 1) := by decide +kernel
theorem dX12_yard_45 : decode cX12_yard 45 = .ok (.getfield 39, 3) := by decide +kernel
theorem dX12_yard_48 : decode cX12_yard 48 = .ok (.getfield 121, 3) := by decide +kernel
theorem dX12_yard_51 : decode cX12_yard 51 = .ok (.iload_n 1, 1) := by decide +kernel
theorem dX12_yard_52 : decode cX12_yard 52 = .ok (.iaload, 1) := by decide +kernel
theorem dX12_yard_53 : decode cX12_yard 53 = .ok (.ireturn, 1) := by decide +kernel
theorem dX12_yard_54 : decode cX12_yard 54 = .ok (.aload_n 0, 1) := by decide +kernel
theorem dX12_yard_55 : decode cX12_yard 55 = .ok (.getfield 39, 3) := by decide +kernel
theorem dX12_yard_58 : decode cX12_yard 58 = .ok (.getfield 125, 3) := by decide +kernel
theorem dX12_yard_61 : decode cX12_yard 61 = .ok (.iload_n 1, 1) := by decide +kernel
theorem dX12_yard_62 : decode cX12_yard 62 = .ok (.iaload, 1) := by decide +kernel
theorem dX12_yard_63 : decode cX12_yard 63 = .ok (.ireturn, 1) := by decide +kernel
theorem dX12_yard_64 : decode cX12_yard 64 = .ok (.aload_n 0, 1) := by decide +kernel
theorem dX12_yard_65 : decode cX12_yard 65 = .ok (.getfield 39, 3) := by decide +kernel
theorem dX12_yard_68 : decode cX12_yard 68 = .ok (.getfield 128, 3) := by decide +kernel
theorem dX12_yard_71 : decode cX12_yard 71 = .ok (.iload_n 1, 1) := by decide +kernel
theorem dX12_yard_72 : decode cX12_yard 72 = .ok (.iaload, 1) := by decide +kernel
theorem dX12_yard_73 : decode cX12_yard 73 = .ok (.ireturn, 1) := by decide +kernel
theorem dX12_yard_74 : decode cX12_yard 74 = .ok (.aload_n 0, 1) := by decide +kernel
theorem dX12_yard_75 : decode cX12_yard 75 = .ok (.getfield 39, 3) := by decide +kernel
theorem dX12_yard_78 : decode cX12_yard 78 = .ok (.iload_n 1, 1) := by decide +kernel
theorem dX12_yard_79 : decode cX12_yard 79 = .ok (.invokevirtual 131, 3) := by decide +kernel
theorem dX12_yard_82 : decode cX12_yard 82 = .ok (.ireturn, 1) := by decide +kernel
theorem dX12_yard_83 : decode cX12_yard 83 = .ok (.iconst (-1), 1) := by decide +kernel
theorem dX12_yard_84 : decode cX12_yard 84 = .ok (.ireturn, 1) := by decide +kernel
set_option maxHeartbeats 4000000 in
set_option maxRecDepth 100000 in
theorem B_X12_yard {G : zG} {X : zX} {kd : kD} {N0 : Nat} (C : zCt G X 3 0 0 RX12 cX12_yard 3) (hr : (zXh X).sig.returnType = (some .int)) : ∀ f : Nat,
    (∀ (S : aS) (v0 : Nat) (v1 : Int32) (v2 : Int32) (res : Option Value × aS), zT0 kd N0 S → v0 < N0 → kd v0 = .inl 10 → F_X12_yard f 0 [.ref v0, .int v1, .int v2] S = some res → zV G X (zQX G X (zPo G kd N0 res) 0 0) 3 [some (.ref (zB G + v0)), some (.int v1), some (.int v2)] [] (cn G kd N0 S) 0 0 0) := by
  intro f
  induction f with
  | zero => exact (fun _ _ _ _ _ _ _ _ h => by cases h)
  | succ f ih =>
    have ih0 := ih
    intro S v0 v1 v2 res hT hpv0 hkv0 hF
    replace hF : F_X12_yard_0 f (F_X12_yard f) v0 v1 v2 S = some res := hF
    unfold F_X12_yard_0 at hF
    refine z_aload_n C dX12_yard_0 rfl ?_
    refine f_getr C dX12_yard_1 zfRX12_39 hpv0 hkv0 rfl ?_
    obtain ⟨hp1, hk1⟩ := hT.1 v0 10 5 (.inl 3) hpv0 hkv0 rfl
    refine z_iload_n C dX12_yard_4 rfl ?_
    obtain ⟨x2, S2, h2, hF⟩ := bI_some hF
    refine f_cV (st2 := [.int x2]) C dX12_yard_5 zyX4_hasYard zvX4_hasYard lkRX12_117 (K_X4_hasYard (l := zXl X) hT hp1 hk1  h2) hp1 hk1 rfl (by decide) rfl rfl (Nat.le_of_ble_eq_true rfl) rfl (fun hT2 => ?_)
    refine z_if_ne C 13 dX12_yard_8 (by decide) (fun c3 => ?_) (fun c3 => ?_)
    · replace hF := im hF c3
      refine z_iload_n C dX12_yard_13 rfl ?_
      by_cases c8 : v2 = 0
      · replace hF := ip hF c8
        refine z_tabIn C 44 dX12_yard_14 (by rw [c8]; decide) (by rw [c8]; decide) (off := 30) (by rw [c8]; rfl) (by decide) ?_
        refine z_aload_n C dX12_yard_44 rfl ?_
        refine f_getr C dX12_yard_45 zfRX12_39 hpv0 hkv0 rfl ?_
        obtain ⟨hp5, hk5⟩ := hT2.1 v0 10 5 (.inl 3) hpv0 hkv0 rfl
        refine f_getr C dX12_yard_48 zfRX12_121 hp5 hk5 rfl ?_
        obtain ⟨hp6, hk6⟩ := hT2.1 (gR S2 v0 5) 3 1 (.inr (0, 8)) hp5 hk5 rfl
        refine z_iload_n C dX12_yard_51 rfl ?_
        obtain ⟨hi7, hF⟩ := bX_some hF
        obtain ⟨q7, eq7⟩ : ∃ q : Nat, q = Int32.toNatClampNeg v1 := ⟨_, rfl⟩
        rw [← eq7] at hF
        refine f_iald C dX12_yard_52 hp6 hk6 hi7 ?_
        rw [← eq7]
        cases hF
        exact z_iret C hr dX12_yard_53 ⟨rfl, rfl, hT2⟩
      replace hF := im hF c8
      by_cases c12 : v2 = 1
      · replace hF := ip hF c12
        refine z_tabIn C 54 dX12_yard_14 (by rw [c12]; decide) (by rw [c12]; decide) (off := 40) (by rw [c12]; rfl) (by decide) ?_
        refine z_aload_n C dX12_yard_54 rfl ?_
        refine f_getr C dX12_yard_55 zfRX12_39 hpv0 hkv0 rfl ?_
        obtain ⟨hp9, hk9⟩ := hT2.1 v0 10 5 (.inl 3) hpv0 hkv0 rfl
        refine f_getr C dX12_yard_58 zfRX12_125 hp9 hk9 rfl ?_
        obtain ⟨hp10, hk10⟩ := hT2.1 (gR S2 v0 5) 3 2 (.inr (0, 8)) hp9 hk9 rfl
        refine z_iload_n C dX12_yard_61 rfl ?_
        obtain ⟨hi11, hF⟩ := bX_some hF
        obtain ⟨q11, eq11⟩ : ∃ q : Nat, q = Int32.toNatClampNeg v1 := ⟨_, rfl⟩
        rw [← eq11] at hF
        refine f_iald C dX12_yard_62 hp10 hk10 hi11 ?_
        rw [← eq11]
        cases hF
        exact z_iret C hr dX12_yard_63 ⟨rfl, rfl, hT2⟩
      replace hF := im hF c12
      by_cases c16 : v2 = 2
      · replace hF := ip hF c16
        refine z_tabIn C 64 dX12_yard_14 (by rw [c16]; decide) (by rw [c16]; decide) (off := 50) (by rw [c16]; rfl) (by decide) ?_
        refine z_aload_n C dX12_yard_64 rfl ?_
        refine f_getr C dX12_yard_65 zfRX12_39 hpv0 hkv0 rfl ?_
        obtain ⟨hp13, hk13⟩ := hT2.1 v0 10 5 (.inl 3) hpv0 hkv0 rfl
        refine f_getr C dX12_yard_68 zfRX12_128 hp13 hk13 rfl ?_
        obtain ⟨hp14, hk14⟩ := hT2.1 (gR S2 v0 5) 3 3 (.inr (0, 8)) hp13 hk13 rfl
        refine z_iload_n C dX12_yard_71 rfl ?_
        obtain ⟨hi15, hF⟩ := bX_some hF
        obtain ⟨q15, eq15⟩ : ∃ q : Nat, q = Int32.toNatClampNeg v1 := ⟨_, rfl⟩
        rw [← eq15] at hF
        refine f_iald C dX12_yard_72 hp14 hk14 hi15 ?_
        rw [← eq15]
        cases hF
        exact z_iret C hr dX12_yard_73 ⟨rfl, rfl, hT2⟩
      replace hF := im hF c16
      by_cases c19 : v2 = 3
      · replace hF := ip hF c19
        refine z_tabIn C 74 dX12_yard_14 (by rw [c19]; decide) (by rw [c19]; decide) (off := 60) (by rw [c19]; rfl) (by decide) ?_
        refine z_aload_n C dX12_yard_74 rfl ?_
        refine f_getr C dX12_yard_75 zfRX12_39 hpv0 hkv0 rfl ?_
        obtain ⟨hp17, hk17⟩ := hT2.1 v0 10 5 (.inl 3) hpv0 hkv0 rfl
        refine z_iload_n C dX12_yard_78 rfl ?_
        obtain ⟨x18, S18, h18, hF⟩ := bI_some hF
        refine f_cV (st2 := [.int x18]) C dX12_yard_79 zyX4_nearOf zvX4_nearOf lkRX12_131 (K_X4_nearOf (l := zXl X) hT2 hp17 hk17  h18) hp17 hk17 rfl (by decide) rfl rfl (Nat.le_of_ble_eq_true rfl) rfl (fun hT18 => ?_)
        cases hF
        exact z_iret C hr dX12_yard_82 ⟨rfl, rfl, hT18⟩
      replace hF := im hF c19
      refine z_tabOut C 83 dX12_yard_14 (f_tabOut (fun v h1 h2 e => by
        rcases (show v = 0 ∨ v = 1 ∨ v = 2 ∨ v = 3 by omega) with rfl | rfl | rfl | rfl
        · exact c8 (Int32.toInt_inj.mp (e.trans (by decide)))
        · exact c12 (Int32.toInt_inj.mp (e.trans (by decide)))
        · exact c16 (Int32.toInt_inj.mp (e.trans (by decide)))
        · exact c19 (Int32.toInt_inj.mp (e.trans (by decide))))) (by decide) ?_
      refine z_iconst (v := (-1)) C dX12_yard_83 (by decide) ?_
      cases hF
      exact z_iret C hr dX12_yard_84 ⟨rfl, rfl, hT2⟩
    · replace hF := ip hF c3
      refine z_iconst (v := (-1)) C dX12_yard_11 (by decide) ?_
      cases hF
      exact z_iret C hr dX12_yard_12 ⟨rfl, rfl, hT2⟩
theorem K_X12_yard {G : zG} {l : Launch} {kd : kD} {N0 f : Nat} {S : aS} {v0 : Nat} {v1 : Int32} {v2 : Int32} {res : Option Value × aS} (hT : zT0 kd N0 S) (hpv0 : v0 < N0) (hkv0 : kd v0 = .inl 10) (hF : F_X12_yard f 0 [.ref v0, .int v1, .int v2] S = some res) : zM G l 3 0 0 yX12_yard cX12_yard 3 (some .int) [.ref (zB G + v0), .int v1, .int v2] (cn G kd N0 S) (zPo G kd N0 res) := zM.of (by decide) rfl (Nat.le_of_ble_eq_true rfl) (fun X _ C hr _ => (B_X12_yard C hr f) S v0 v1 v2 res hT hpv0 hkv0 hF)
def F_X12_space_0 (f : Nat) (rc : Nat → List Value → aS → aR) (v0 : Nat) (S : aS) : aR :=
  bI (F_X4_room f 0 [.ref (gR S v0 5)] S) fun x2 S2 => some (some (.int x2), S2)
def F_X12_space : Nat → Nat → List Value → aS → aR
  | 0, _, _, _ => none
  | f + 1, 0, vs, S => F_X12_space_0 f (F_X12_space f) (vR vs 0) S
  | _ + 1, _, _, _ => none
theorem dX12_space_0 : decode cX12_space 0 = .ok (.aload_n 0, 1) := by decide +kernel
theorem dX12_space_1 : decode cX12_space 1 = .ok (.getfield 39, 3) := by decide +kernel
theorem dX12_space_4 : decode cX12_space 4 = .ok (.invokevirtual 151, 3) := by decide +kernel
theorem dX12_space_7 : decode cX12_space 7 = .ok (.ireturn, 1) := by decide +kernel
set_option maxHeartbeats 4000000 in
set_option maxRecDepth 100000 in
theorem B_X12_space {G : zG} {X : zX} {kd : kD} {N0 : Nat} (C : zCt G X 1 0 0 RX12 cX12_space 1) (hr : (zXh X).sig.returnType = (some .int)) : ∀ f : Nat,
    (∀ (S : aS) (v0 : Nat) (res : Option Value × aS), zT0 kd N0 S → v0 < N0 → kd v0 = .inl 10 → F_X12_space f 0 [.ref v0] S = some res → zV G X (zQX G X (zPo G kd N0 res) 0 0) 1 [some (.ref (zB G + v0))] [] (cn G kd N0 S) 0 0 0) := by
  intro f
  induction f with
  | zero => exact (fun _ _ _ _ _ _ h => by cases h)
  | succ f ih =>
    have ih0 := ih
    intro S v0 res hT hpv0 hkv0 hF
    replace hF : F_X12_space_0 f (F_X12_space f) v0 S = some res := hF
    unfold F_X12_space_0 at hF
    refine z_aload_n C dX12_space_0 rfl ?_
    refine f_getr C dX12_space_1 zfRX12_39 hpv0 hkv0 rfl ?_
    obtain ⟨hp1, hk1⟩ := hT.1 v0 10 5 (.inl 3) hpv0 hkv0 rfl
    obtain ⟨x2, S2, h2, hF⟩ := bI_some hF
    refine f_cV (st2 := [.int x2]) C dX12_space_4 zyX4_room zvX4_room lkRX12_151 (K_X4_room (l := zXl X) hT hp1 hk1 h2) hp1 hk1 rfl (by decide) rfl rfl (Nat.le_of_ble_eq_true rfl) rfl (fun hT2 => ?_)
    cases hF
    exact z_iret C hr dX12_space_7 ⟨rfl, rfl, hT2⟩
theorem K_X12_space {G : zG} {l : Launch} {kd : kD} {N0 f : Nat} {S : aS} {v0 : Nat} {res : Option Value × aS} (hT : zT0 kd N0 S) (hpv0 : v0 < N0) (hkv0 : kd v0 = .inl 10) (hF : F_X12_space f 0 [.ref v0] S = some res) : zM G l 1 0 0 yX12_space cX12_space 1 (some .int) [.ref (zB G + v0)] (cn G kd N0 S) (zPo G kd N0 res) := zM.of (by decide) rfl (Nat.le_of_ble_eq_true rfl) (fun X _ C hr _ => (B_X12_space C hr f) S v0 res hT hpv0 hkv0 hF)
def F_X12_heaps_0 (f : Nat) (rc : Nat → List Value → aS → aR) (v0 : Nat) (v1 : Int32) (S : aS) : aR :=
  bI (F_X4_yardsAbove f 0 [.ref (gR S v0 5), .int v1] S) fun x2 S2 => some (some (.int x2), S2)
def F_X12_heaps : Nat → Nat → List Value → aS → aR
  | 0, _, _, _ => none
  | f + 1, 0, vs, S => F_X12_heaps_0 f (F_X12_heaps f) (vR vs 0) (vI vs 1) S
  | _ + 1, _, _, _ => none
theorem dX12_heaps_0 : decode cX12_heaps 0 = .ok (.aload_n 0, 1) := by decide +kernel
theorem dX12_heaps_1 : decode cX12_heaps 1 = .ok (.getfield 39, 3) := by decide +kernel
theorem dX12_heaps_4 : decode cX12_heaps 4 = .ok (.iload_n 1, 1) := by decide +kernel
theorem dX12_heaps_5 : decode cX12_heaps 5 = .ok (.invokevirtual 155, 3) := by decide +kernel
theorem dX12_heaps_8 : decode cX12_heaps 8 = .ok (.ireturn, 1) := by decide +kernel
set_option maxHeartbeats 4000000 in
set_option maxRecDepth 100000 in
theorem B_X12_heaps {G : zG} {X : zX} {kd : kD} {N0 : Nat} (C : zCt G X 1 0 0 RX12 cX12_heaps 2) (hr : (zXh X).sig.returnType = (some .int)) : ∀ f : Nat,
    (∀ (S : aS) (v0 : Nat) (v1 : Int32) (res : Option Value × aS), zT0 kd N0 S → v0 < N0 → kd v0 = .inl 10 → F_X12_heaps f 0 [.ref v0, .int v1] S = some res → zV G X (zQX G X (zPo G kd N0 res) 0 0) 2 [some (.ref (zB G + v0)), some (.int v1)] [] (cn G kd N0 S) 0 0 0) := by
  intro f
  induction f with
  | zero => exact (fun _ _ _ _ _ _ _ h => by cases h)
  | succ f ih =>
    have ih0 := ih
    intro S v0 v1 res hT hpv0 hkv0 hF
    replace hF : F_X12_heaps_0 f (F_X12_heaps f) v0 v1 S = some res := hF
    unfold F_X12_heaps_0 at hF
    refine z_aload_n C dX12_heaps_0 rfl ?_
    refine f_getr C dX12_heaps_1 zfRX12_39 hpv0 hkv0 rfl ?_
    obtain ⟨hp1, hk1⟩ := hT.1 v0 10 5 (.inl 3) hpv0 hkv0 rfl
    refine z_iload_n C dX12_heaps_4 rfl ?_
    obtain ⟨x2, S2, h2, hF⟩ := bI_some hF
    refine f_cV (st2 := [.int x2]) C dX12_heaps_5 zyX4_yardsAbove zvX4_yardsAbove lkRX12_155 (K_X4_yardsAbove (l := zXl X) hT hp1 hk1  h2) hp1 hk1 rfl (by decide) rfl rfl (Nat.le_of_ble_eq_true rfl) rfl (fun hT2 => ?_)
    cases hF
    exact z_iret C hr dX12_heaps_8 ⟨rfl, rfl, hT2⟩
theorem K_X12_heaps {G : zG} {l : Launch} {kd : kD} {N0 f : Nat} {S : aS} {v0 : Nat} {v1 : Int32} {res : Option Value × aS} (hT : zT0 kd N0 S) (hpv0 : v0 < N0) (hkv0 : kd v0 = .inl 10) (hF : F_X12_heaps f 0 [.ref v0, .int v1] S = some res) : zM G l 1 0 0 yX12_heaps cX12_heaps 2 (some .int) [.ref (zB G + v0), .int v1] (cn G kd N0 S) (zPo G kd N0 res) := zM.of (by decide) rfl (Nat.le_of_ble_eq_true rfl) (fun X _ C hr _ => (B_X12_heaps C hr f) S v0 v1 res hT hpv0 hkv0 hF)
def F_X12_lies_0 (f : Nat) (rc : Nat → List Value → aS → aR) (v0 : Nat) (S : aS) : aR :=
  bI (F_X4_total f 0 [.ref (gR S v0 5)] S) fun x2 S2 => some (some (.int x2), S2)
def F_X12_lies : Nat → Nat → List Value → aS → aR
  | 0, _, _, _ => none
  | f + 1, 0, vs, S => F_X12_lies_0 f (F_X12_lies f) (vR vs 0) S
  | _ + 1, _, _, _ => none
theorem dX12_lies_0 : decode cX12_lies 0 = .ok (.aload_n 0, 1) := by decide +kernel
theorem dX12_lies_1 : decode cX12_lies 1 = .ok (.getfield 39, 3) := by decide +kernel
theorem dX12_lies_4 : decode cX12_lies 4 = .ok (.invokevirtual 158, 3) := by decide +kernel
theorem dX12_lies_7 : decode cX12_lies 7 = .ok (.ireturn, 1) := by decide +kernel
set_option maxHeartbeats 4000000 in
set_option maxRecDepth 100000 in
theorem B_X12_lies {G : zG} {X : zX} {kd : kD} {N0 : Nat} (C : zCt G X 1 0 0 RX12 cX12_lies 1) (hr : (zXh X).sig.returnType = (some .int)) : ∀ f : Nat,
    (∀ (S : aS) (v0 : Nat) (res : Option Value × aS), zT0 kd N0 S → v0 < N0 → kd v0 = .inl 10 → F_X12_lies f 0 [.ref v0] S = some res → zV G X (zQX G X (zPo G kd N0 res) 0 0) 1 [some (.ref (zB G + v0))] [] (cn G kd N0 S) 0 0 0) := by
  intro f
  induction f with
  | zero => exact (fun _ _ _ _ _ _ h => by cases h)
  | succ f ih =>
    have ih0 := ih
    intro S v0 res hT hpv0 hkv0 hF
    replace hF : F_X12_lies_0 f (F_X12_lies f) v0 S = some res := hF
    unfold F_X12_lies_0 at hF
    refine z_aload_n C dX12_lies_0 rfl ?_
    refine f_getr C dX12_lies_1 zfRX12_39 hpv0 hkv0 rfl ?_
    obtain ⟨hp1, hk1⟩ := hT.1 v0 10 5 (.inl 3) hpv0 hkv0 rfl
    obtain ⟨x2, S2, h2, hF⟩ := bI_some hF
    refine f_cV (st2 := [.int x2]) C dX12_lies_4 zyX4_total zvX4_total lkRX12_158 (K_X4_total (l := zXl X) hT hp1 hk1 h2) hp1 hk1 rfl (by decide) rfl rfl (Nat.le_of_ble_eq_true rfl) rfl (fun hT2 => ?_)
    cases hF
    exact z_iret C hr dX12_lies_7 ⟨rfl, rfl, hT2⟩
theorem K_X12_lies {G : zG} {l : Launch} {kd : kD} {N0 f : Nat} {S : aS} {v0 : Nat} {res : Option Value × aS} (hT : zT0 kd N0 S) (hpv0 : v0 < N0) (hkv0 : kd v0 = .inl 10) (hF : F_X12_lies f 0 [.ref v0] S = some res) : zM G l 1 0 0 yX12_lies cX12_lies 1 (some .int) [.ref (zB G + v0)] (cn G kd N0 S) (zPo G kd N0 res) := zM.of (by decide) rfl (Nat.le_of_ble_eq_true rfl) (fun X _ C hr _ => (B_X12_lies C hr f) S v0 res hT hpv0 hkv0 hF)
def F_X12_gain_0 (f : Nat) (rc : Nat → List Value → aS → aR) (v0 : Int32) (v1 : Int32) (v2 : Int32) (v3 : Int32) (S : aS) : aR :=
  if v2 = (0 : Int32) then some (some (.int (if v3 = (0 : Int32) then (0 : Int32) else v0)), S) else some (some (.int (v0 - (if v3 = (0 : Int32) then v1 else (v1 / (2 : Int32))))), S)
def F_X12_gain : Nat → Nat → List Value → aS → aR
  | 0, _, _, _ => none
  | f + 1, 0, vs, S => F_X12_gain_0 f (F_X12_gain f) (vI vs 0) (vI vs 1) (vI vs 2) (vI vs 3) S
  | _ + 1, _, _, _ => none
theorem dX12_gain_0 : decode cX12_gain 0 = .ok (.iload_n 2, 1) := by decide +kernel
theorem dX12_gain_1 : decode cX12_gain 1 = .ok (.ifCond .ne 13, 3) := by decide +kernel
theorem dX12_gain_4 : decode cX12_gain 4 = .ok (.iload_n 3, 1) := by decide +kernel
theorem dX12_gain_5 : decode cX12_gain 5 = .ok (.ifCond .ne 7, 3) := by decide +kernel
theorem dX12_gain_8 : decode cX12_gain 8 = .ok (.iconst 0, 1) := by decide +kernel
theorem dX12_gain_9 : decode cX12_gain 9 = .ok (.goto 4, 3) := by decide +kernel
theorem dX12_gain_12 : decode cX12_gain 12 = .ok (.iload_n 0, 1) := by decide +kernel
theorem dX12_gain_13 : decode cX12_gain 13 = .ok (.ireturn, 1) := by decide +kernel
theorem dX12_gain_14 : decode cX12_gain 14 = .ok (.iload_n 0, 1) := by decide +kernel
theorem dX12_gain_15 : decode cX12_gain 15 = .ok (.iload_n 3, 1) := by decide +kernel
theorem dX12_gain_16 : decode cX12_gain 16 = .ok (.ifCond .ne 7, 3) := by decide +kernel
theorem dX12_gain_19 : decode cX12_gain 19 = .ok (.iload_n 1, 1) := by decide +kernel
theorem dX12_gain_20 : decode cX12_gain 20 = .ok (.goto 6, 3) := by decide +kernel
theorem dX12_gain_23 : decode cX12_gain 23 = .ok (.iload_n 1, 1) := by decide +kernel
theorem dX12_gain_24 : decode cX12_gain 24 = .ok (.iconst 2, 1) := by decide +kernel
theorem dX12_gain_25 : decode cX12_gain 25 = .ok (.idiv, 1) := by decide +kernel
theorem dX12_gain_26 : decode cX12_gain 26 = .ok (.isub, 1) := by decide +kernel
theorem dX12_gain_27 : decode cX12_gain 27 = .ok (.ireturn, 1) := by decide +kernel
set_option maxHeartbeats 4000000 in
set_option maxRecDepth 100000 in
theorem B_X12_gain {G : zG} {X : zX} {kd : kD} {N0 : Nat} (C : zCt G X 0 0 0 RX12 cX12_gain 4) (hr : (zXh X).sig.returnType = (some .int)) : ∀ f : Nat,
    (∀ (S : aS) (v0 : Int32) (v1 : Int32) (v2 : Int32) (v3 : Int32) (res : Option Value × aS), zT0 kd N0 S → F_X12_gain f 0 [.int v0, .int v1, .int v2, .int v3] S = some res → zV G X (zQX G X (zPo G kd N0 res) 0 0) 4 [some (.int v0), some (.int v1), some (.int v2), some (.int v3)] [] (cn G kd N0 S) 0 0 0) := by
  intro f
  induction f with
  | zero => exact (fun _ _ _ _ _ _ _ h => by cases h)
  | succ f ih =>
    have ih0 := ih
    intro S v0 v1 v2 v3 res hT  hF
    replace hF : F_X12_gain_0 f (F_X12_gain f) v0 v1 v2 v3 S = some res := hF
    unfold F_X12_gain_0 at hF
    refine z_iload_n C dX12_gain_0 rfl ?_
    refine z_if_ne C 14 dX12_gain_1 (by decide) (fun c1 => ?_) (fun c1 => ?_)
    · replace hF := im hF c1
      refine z_iload_n C dX12_gain_14 rfl ?_
      refine z_iload_n C dX12_gain_15 rfl ?_
      have hJ3 : zV G X (zQX G X (zPo G kd N0 res) 0 0) 4 [some (.int v0), some (.int v1), some (.int v2), some (.int v3)] [.int (if v3 = (0 : Int32) then v1 else (v1 / (2 : Int32))), .int v0] (cn G kd N0 S) 26 0 0 := by
        refine z_isub C dX12_gain_26 ?_
        cases hF
        exact z_iret C hr dX12_gain_27 ⟨rfl, rfl, hT⟩
      refine z_if_ne C 23 dX12_gain_16 (by decide) (fun c2 => ?_) (fun c2 => ?_)
      · refine z_iload_n C dX12_gain_23 rfl ?_
        refine z_iconst (v := 2) C dX12_gain_24 (by decide) ?_
        refine z_idiv C dX12_gain_25 (by decide) ?_
        exact zV.at hJ3 (by first | rfl | contradiction | (simp only [if_neg c2]; done)) (by first | rfl | contradiction | (simp only [if_neg c2]; done)) rfl rfl
      · refine z_iload_n C dX12_gain_19 rfl ?_
        refine z_goto C 26 dX12_gain_20 (by decide) ?_
        exact zV.at hJ3 (by first | rfl | contradiction | (simp only [if_pos c2]; done)) (by first | rfl | contradiction | (simp only [if_pos c2]; done)) rfl rfl
    · replace hF := ip hF c1
      refine z_iload_n C dX12_gain_4 rfl ?_
      have hJ5 : zV G X (zQX G X (zPo G kd N0 res) 0 0) 4 [some (.int v0), some (.int v1), some (.int v2), some (.int v3)] [.int (if v3 = (0 : Int32) then (0 : Int32) else v0)] (cn G kd N0 S) 13 0 0 := by
        cases hF
        exact z_iret C hr dX12_gain_13 ⟨rfl, rfl, hT⟩
      refine z_if_ne C 12 dX12_gain_5 (by decide) (fun c4 => ?_) (fun c4 => ?_)
      · refine z_iload_n C dX12_gain_12 rfl ?_
        exact zV.at hJ5 (by first | rfl | contradiction | (simp only [if_neg c4]; done)) (by first | rfl | contradiction | (simp only [if_neg c4]; done)) rfl rfl
      · refine z_iconst (v := 0) C dX12_gain_8 (by decide) ?_
        refine z_goto C 13 dX12_gain_9 (by decide) ?_
        exact zV.at hJ5 (by first | rfl | contradiction | (simp only [if_pos c4]; done)) (by first | rfl | contradiction | (simp only [if_pos c4]; done)) rfl rfl
theorem K_X12_gain {G : zG} {l : Launch} {kd : kD} {N0 f : Nat} {S : aS} {v0 : Int32} {v1 : Int32} {v2 : Int32} {v3 : Int32} {res : Option Value × aS} (hT : zT0 kd N0 S)  (hF : F_X12_gain f 0 [.int v0, .int v1, .int v2, .int v3] S = some res) : zM G l 0 0 0 yX12_gain cX12_gain 4 (some .int) [.int v0, .int v1, .int v2, .int v3] (cn G kd N0 S) (zPo G kd N0 res) := zM.of (by decide) rfl (Nat.le_of_ble_eq_true rfl) (fun X _ C hr _ => (B_X12_gain C hr f) S v0 v1 v2 v3 res hT  hF)
def F_X12_isWithin_0 (f : Nat) (rc : Nat → List Value → aS → aR) (v0 : Int32) (v1 : Int32) (v2 : Int32) (S : aS) : aR :=
  bZ (if v0 < v1 then (0 : Int32) else if v2 < v0 then (0 : Int32) else (1 : Int32)) (some (some (.int (if v0 < v1 then (0 : Int32) else if v2 < v0 then (0 : Int32) else (1 : Int32))), S))
def F_X12_isWithin : Nat → Nat → List Value → aS → aR
  | 0, _, _, _ => none
  | f + 1, 0, vs, S => F_X12_isWithin_0 f (F_X12_isWithin f) (vI vs 0) (vI vs 1) (vI vs 2) S
  | _ + 1, _, _, _ => none
theorem dX12_isWithin_0 : decode cX12_isWithin 0 = .ok (.iload_n 0, 1) := by decide +kernel
theorem dX12_isWithin_1 : decode cX12_isWithin 1 = .ok (.iload_n 1, 1) := by decide +kernel
theorem dX12_isWithin_2 : decode cX12_isWithin 2 = .ok (.if_icmp .lt 12, 3) := by decide +kernel
theorem dX12_isWithin_5 : decode cX12_isWithin 5 = .ok (.iload_n 0, 1) := by decide +kernel
theorem dX12_isWithin_6 : decode cX12_isWithin 6 = .ok (.iload_n 2, 1) := by decide +kernel
theorem dX12_isWithin_7 : decode cX12_isWithin 7 = .ok (.if_icmp .gt 7, 3) := by decide +kernel
theorem dX12_isWithin_10 : decode cX12_isWithin 10 = .ok (.iconst 1, 1) := by decide +kernel
theorem dX12_isWithin_11 : decode cX12_isWithin 11 = .ok (.goto 4, 3) := by decide +kernel
theorem dX12_isWithin_14 : decode cX12_isWithin 14 = .ok (.iconst 0, 1) := by decide +kernel
theorem dX12_isWithin_15 : decode cX12_isWithin 15 = .ok (.ireturn, 1) := by decide +kernel
set_option maxHeartbeats 4000000 in
set_option maxRecDepth 100000 in
theorem B_X12_isWithin {G : zG} {X : zX} {kd : kD} {N0 : Nat} (C : zCt G X 0 0 0 RX12 cX12_isWithin 3) (hr : (zXh X).sig.returnType = (some .boolean)) : ∀ f : Nat,
    (∀ (S : aS) (v0 : Int32) (v1 : Int32) (v2 : Int32) (res : Option Value × aS), zT0 kd N0 S → F_X12_isWithin f 0 [.int v0, .int v1, .int v2] S = some res → zV G X (zQX G X (zPo G kd N0 res) 0 0) 3 [some (.int v0), some (.int v1), some (.int v2)] [] (cn G kd N0 S) 0 0 0) := by
  intro f
  induction f with
  | zero => exact (fun _ _ _ _ _ _ h => by cases h)
  | succ f ih =>
    have ih0 := ih
    intro S v0 v1 v2 res hT  hF
    replace hF : F_X12_isWithin_0 f (F_X12_isWithin f) v0 v1 v2 S = some res := hF
    unfold F_X12_isWithin_0 at hF
    refine z_iload_n C dX12_isWithin_0 rfl ?_
    refine z_iload_n C dX12_isWithin_1 rfl ?_
    have hJ3 : zV G X (zQX G X (zPo G kd N0 res) 0 0) 3 [some (.int v0), some (.int v1), some (.int v2)] [.int (if v0 < v1 then (0 : Int32) else if v2 < v0 then (0 : Int32) else (1 : Int32))] (cn G kd N0 S) 15 0 0 := by
      obtain ⟨hz, hF⟩ := bZ_some hF
      cases hF
      exact z_zret C hr hz.1 dX12_isWithin_15 ⟨rfl, rfl, hT⟩
    refine z_icmp_lt C 14 dX12_isWithin_2 (by decide) (fun c1 => ?_) (fun c1 => ?_)
    · refine z_iconst (v := 0) C dX12_isWithin_14 (by decide) ?_
      exact zV.at hJ3 (by first | rfl | contradiction | (simp only [if_pos c1]; done)) (by first | rfl | contradiction | (simp only [if_pos c1]; done)) rfl rfl
    · refine z_iload_n C dX12_isWithin_5 rfl ?_
      refine z_iload_n C dX12_isWithin_6 rfl ?_
      refine z_icmp_gt C 14 dX12_isWithin_7 (by decide) (fun c2 => ?_) (fun c2 => ?_)
      · refine z_iconst (v := 0) C dX12_isWithin_14 (by decide) ?_
        exact zV.at hJ3 (by first | rfl | contradiction | (simp only [if_neg c1, if_pos c2]; done)) (by first | rfl | contradiction | (simp only [if_neg c1, if_pos c2]; done)) rfl rfl
      · refine z_iconst (v := 1) C dX12_isWithin_10 (by decide) ?_
        refine z_goto C 15 dX12_isWithin_11 (by decide) ?_
        exact zV.at hJ3 (by first | rfl | contradiction | (simp only [if_neg c1, if_neg c2]; done)) (by first | rfl | contradiction | (simp only [if_neg c1, if_neg c2]; done)) rfl rfl
theorem K_X12_isWithin {G : zG} {l : Launch} {kd : kD} {N0 f : Nat} {S : aS} {v0 : Int32} {v1 : Int32} {v2 : Int32} {res : Option Value × aS} (hT : zT0 kd N0 S)  (hF : F_X12_isWithin f 0 [.int v0, .int v1, .int v2] S = some res) : zM G l 0 0 0 yX12_isWithin cX12_isWithin 3 (some .boolean) [.int v0, .int v1, .int v2] (cn G kd N0 S) (zPo G kd N0 res) := zM.of (by decide) rfl (Nat.le_of_ble_eq_true rfl) (fun X _ C hr _ => (B_X12_isWithin C hr f) S v0 v1 v2 res hT  hF)
def F_X13_thrown_0 (f : Nat) (rc : Nat → List Value → aS → aR) (v0 : Nat) (S : aS) : aR :=
  some (some (.int (gI S v0 0)), S)
def F_X13_thrown : Nat → Nat → List Value → aS → aR
  | 0, _, _, _ => none
  | f + 1, 0, vs, S => F_X13_thrown_0 f (F_X13_thrown f) (vR vs 0) S
  | _ + 1, _, _, _ => none
theorem dX13_thrown_0 : decode cX13_thrown 0 = .ok (.aload_n 0, 1) := by decide +kernel
theorem dX13_thrown_1 : decode cX13_thrown 1 = .ok (.getfield 1, 3) := by decide +kernel
theorem dX13_thrown_4 : decode cX13_thrown 4 = .ok (.ireturn, 1) := by decide +kernel
set_option maxHeartbeats 4000000 in
set_option maxRecDepth 100000 in
theorem B_X13_thrown {G : zG} {X : zX} {kd : kD} {N0 : Nat} (C : zCt G X 0 0 0 RX13 cX13_thrown 1) (hr : (zXh X).sig.returnType = (some .int)) : ∀ f : Nat,
    (∀ (S : aS) (v0 : Nat) (res : Option Value × aS), zT0 kd N0 S → v0 < N0 → kd v0 = .inl 11 → F_X13_thrown f 0 [.ref v0] S = some res → zV G X (zQX G X (zPo G kd N0 res) 0 0) 1 [some (.ref (zB G + v0))] [] (cn G kd N0 S) 0 0 0) := by
  intro f
  induction f with
  | zero => exact (fun _ _ _ _ _ _ h => by cases h)
  | succ f ih =>
    have ih0 := ih
    intro S v0 res hT hpv0 hkv0 hF
    replace hF : F_X13_thrown_0 f (F_X13_thrown f) v0 S = some res := hF
    unfold F_X13_thrown_0 at hF
    refine z_aload_n C dX13_thrown_0 rfl ?_
    refine f_geti C dX13_thrown_1 zfRX13_1 hpv0 hkv0 rfl ?_
    cases hF
    exact z_iret C hr dX13_thrown_4 ⟨rfl, rfl, hT⟩
theorem K_X13_thrown {G : zG} {l : Launch} {kd : kD} {N0 f : Nat} {S : aS} {v0 : Nat} {res : Option Value × aS} (hT : zT0 kd N0 S) (hpv0 : v0 < N0) (hkv0 : kd v0 = .inl 11) (hF : F_X13_thrown f 0 [.ref v0] S = some res) : zM G l 0 0 0 yX13_thrown cX13_thrown 1 (some .int) [.ref (zB G + v0)] (cn G kd N0 S) (zPo G kd N0 res) := zM.of (by decide) rfl (Nat.le_of_ble_eq_true rfl) (fun X _ C hr _ => (B_X13_thrown C hr f) S v0 res hT hpv0 hkv0 hF)
def F_X13_lay_0 (f : Nat) (rc : Nat → List Value → aS → aR) (v0 : Nat) (v1 : Int64) (S : aS) : aR :=
  rc 1 [.ref v0, .long v1, .int 56] S
def F_X13_lay_1 (f : Nat) (rc : Nat → List Value → aS → aR) (v0 : Nat) (v1 : Int64) (v2 : Int32) (S : aS) : aR :=
  if v2 < (0 : Int32) then some (none, S) else lI ((Int64.toInt32 (v1 >>> ((Int32.toInt64 v2) &&& 63))) &&& (255 : Int32)) fun y5 => if y5 = (10 : Int32) then rc 2 [.ref v0, .long v1, .int v2, .int y5] S else if y5 < (32 : Int32) then rc 3 [.ref v0, .long v1, .int v2] S else if (126 : Int32) < y5 then rc 3 [.ref v0, .long v1, .int v2] S else rc 2 [.ref v0, .long v1, .int v2, .int y5] S
def F_X13_lay_2 (f : Nat) (rc : Nat → List Value → aS → aR) (v0 : Nat) (v1 : Int64) (v2 : Int32) (v3 : Int32) (S : aS) : aR :=
  if (1000 : Int32) ≤ (gI S v0 2) then rc 3 [.ref v0, .long v1, .int v2] S else bX (gI S v0 2) 1000 fun q23 => fS (sI S (gR S v0 1) q23 v3) fun S24 => fS (sI S24 v0 2 ((gI S24 v0 2) + (1 : Int32))) fun S25 => rc 3 [.ref v0, .long v1, .int v2] S25
def F_X13_lay_3 (f : Nat) (rc : Nat → List Value → aS → aR) (v0 : Nat) (v1 : Int64) (v2 : Int32) (S : aS) : aR :=
  rc 1 [.ref v0, .long v1, .int (v2 + (-8))] S
def F_X13_lay : Nat → Nat → List Value → aS → aR
  | 0, _, _, _ => none
  | f + 1, 0, vs, S => F_X13_lay_0 f (F_X13_lay f) (vR vs 0) (vJ vs 1) S
  | f + 1, 1, vs, S => F_X13_lay_1 f (F_X13_lay f) (vR vs 0) (vJ vs 1) (vI vs 2) S
  | f + 1, 2, vs, S => F_X13_lay_2 f (F_X13_lay f) (vR vs 0) (vJ vs 1) (vI vs 2) (vI vs 3) S
  | f + 1, 3, vs, S => F_X13_lay_3 f (F_X13_lay f) (vR vs 0) (vJ vs 1) (vI vs 2) S
  | _ + 1, _, _, _ => none
theorem dX13_lay_0 : decode cX13_lay 0 = .ok (.bipush 56, 2) := by decide +kernel
theorem dX13_lay_2 : decode cX13_lay 2 = .ok (.istore_n 3, 1) := by decide +kernel
theorem dX13_lay_3 : decode cX13_lay 3 = .ok (.iload_n 3, 1) := by decide +kernel
theorem dX13_lay_4 : decode cX13_lay 4 = .ok (.ifCond .lt 71, 3) := by decide +kernel
theorem dX13_lay_7 : decode cX13_lay 7 = .ok (.lload_n 1, 1) := by decide +kernel
theorem dX13_lay_8 : decode cX13_lay 8 = .ok (.iload_n 3, 1) := by decide +kernel
theorem dX13_lay_9 : decode cX13_lay 9 = .ok (.lshr, 1) := by decide +kernel
theorem dX13_lay_10 : decode cX13_lay 10 = .ok (.l2i, 1) := by decide +kernel
theorem dX13_lay_11 : decode cX13_lay 11 = .ok (.sipush 255, 3) := by decide +kernel
theorem dX13_lay_14 : decode cX13_lay 14 = .ok (.iand, 1) := by decide +kernel
theorem dX13_lay_15 : decode cX13_lay 15 = .ok (.istore 4, 2) := by decide +kernel
theorem dX13_lay_17 : decode cX13_lay 17 = .ok (.iload 4, 2) := by decide +kernel
theorem dX13_lay_19 : decode cX13_lay 19 = .ok (.bipush 10, 2) := by decide +kernel
theorem dX13_lay_21 : decode cX13_lay 21 = .ok (.if_icmp .eq 17, 3) := by decide +kernel
theorem dX13_lay_24 : decode cX13_lay 24 = .ok (.iload 4, 2) := by decide +kernel
theorem dX13_lay_26 : decode cX13_lay 26 = .ok (.bipush 32, 2) := by decide +kernel
theorem dX13_lay_28 : decode cX13_lay 28 = .ok (.if_icmp .lt 41, 3) := by decide +kernel
theorem dX13_lay_31 : decode cX13_lay 31 = .ok (.iload 4, 2) := by decide +kernel
theorem dX13_lay_33 : decode cX13_lay 33 = .ok (.bipush 126, 2) := by decide +kernel
theorem dX13_lay_35 : decode cX13_lay 35 = .ok (.if_icmp .gt 34, 3) := by decide +kernel
theorem dX13_lay_38 : decode cX13_lay 38 = .ok (.aload_n 0, 1) := by decide +kernel
theorem dX13_lay_39 : decode cX13_lay 39 = .ok (.getfield 11, 3) := by decide +kernel
theorem dX13_lay_42 : decode cX13_lay 42 = .ok (.sipush 1000, 3) := by decide +kernel
theorem dX13_lay_45 : decode cX13_lay 45 = .ok (.if_icmp .ge 24, 3) := by decide +kernel
theorem dX13_lay_48 : decode cX13_lay 48 = .ok (.aload_n 0, 1) := by decide +kernel
theorem dX13_lay_49 : decode cX13_lay 49 = .ok (.getfield 14, 3) := by decide +kernel
theorem dX13_lay_52 : decode cX13_lay 52 = .ok (.aload_n 0, 1) := by decide +kernel
theorem dX13_lay_53 : decode cX13_lay 53 = .ok (.getfield 11, 3) := by decide +kernel
theorem dX13_lay_56 : decode cX13_lay 56 = .ok (.iload 4, 2) := by decide +kernel
theorem dX13_lay_58 : decode cX13_lay 58 = .ok (.iastore, 1) := by decide +kernel
theorem dX13_lay_59 : decode cX13_lay 59 = .ok (.aload_n 0, 1) := by decide +kernel
theorem dX13_lay_60 : decode cX13_lay 60 = .ok (.dup, 1) := by decide +kernel
theorem dX13_lay_61 : decode cX13_lay 61 = .ok (.getfield 11, 3) := by decide +kernel
theorem dX13_lay_64 : decode cX13_lay 64 = .ok (.iconst 1, 1) := by decide +kernel
theorem dX13_lay_65 : decode cX13_lay 65 = .ok (.iadd, 1) := by decide +kernel
theorem dX13_lay_66 : decode cX13_lay 66 = .ok (.putfield 11, 3) := by decide +kernel
theorem dX13_lay_69 : decode cX13_lay 69 = .ok (.iinc 3 (-8), 3) := by decide +kernel
theorem dX13_lay_72 : decode cX13_lay 72 = .ok (.goto (-69), 3) := by decide +kernel
theorem dX13_lay_75 : decode cX13_lay 75 = .ok (.return_, 1) := by decide +kernel
set_option maxHeartbeats 4000000 in
set_option maxRecDepth 100000 in
theorem B_X13_lay {G : zG} {X : zX} {kd : kD} {N0 : Nat} (C : zCt G X 0 0 0 RX13 cX13_lay 5) (hr : (zXh X).sig.returnType = none) : ∀ f : Nat,
    (∀ (S : aS) (v0 : Nat) (v1 : Int64) (res : Option Value × aS), zT0 kd N0 S → v0 < N0 → kd v0 = .inl 11 → F_X13_lay f 0 [.ref v0, .long v1] S = some res → zV G X (zQX G X (zPo G kd N0 res) 0 0) 5 [some (.ref (zB G + v0)), some (.long v1), none, none, none] [] (cn G kd N0 S) 0 0 0) ∧
    (∀ (S : aS) (v0 : Nat) (v1 : Int64) (v2 : Int32) (res : Option Value × aS), zT0 kd N0 S → v0 < N0 → kd v0 = .inl 11 → F_X13_lay f 1 [.ref v0, .long v1, .int v2] S = some res → zV G X (zQX G X (zPo G kd N0 res) 0 0) 5 [some (.ref (zB G + v0)), some (.long v1), none, some (.int v2), none] [] (cn G kd N0 S) 3 0 0) ∧
    (∀ (S : aS) (v0 : Nat) (v1 : Int64) (v2 : Int32) (v3 : Int32) (res : Option Value × aS), zT0 kd N0 S → v0 < N0 → kd v0 = .inl 11 → F_X13_lay f 2 [.ref v0, .long v1, .int v2, .int v3] S = some res → zV G X (zQX G X (zPo G kd N0 res) 0 0) 5 [some (.ref (zB G + v0)), some (.long v1), none, some (.int v2), some (.int v3)] [] (cn G kd N0 S) 38 0 0) ∧
    (∀ (S : aS) (v0 : Nat) (v1 : Int64) (v2 : Int32) (res : Option Value × aS), zT0 kd N0 S → v0 < N0 → kd v0 = .inl 11 → F_X13_lay f 3 [.ref v0, .long v1, .int v2] S = some res → zV G X (zQX G X (zPo G kd N0 res) 0 0) 5 [some (.ref (zB G + v0)), some (.long v1), none, some (.int v2), none] [] (cn G kd N0 S) 69 0 0) := by
  intro f
  induction f with
  | zero => exact ⟨(fun _ _ _ _ _ _ _ h => by cases h), (fun _ _ _ _ _ _ _ _ h => by cases h), (fun _ _ _ _ _ _ _ _ _ h => by cases h), (fun _ _ _ _ _ _ _ _ h => by cases h)⟩
  | succ f ih =>
    obtain ⟨ih0, ih1, ih2, ih3⟩ := ih
    refine ⟨?_, ?_, ?_, ?_⟩
    · intro S v0 v1 res hT hpv0 hkv0 hF
      replace hF : F_X13_lay_0 f (F_X13_lay f) v0 v1 S = some res := hF
      unfold F_X13_lay_0 at hF
      refine z_bipush (v := 56) C dX13_lay_0 (by decide) ?_
      refine z_istore_n (lv2 := [some (.ref (zB G + v0)), some (.long v1), none, some (.int 56), none]) C dX13_lay_2 (by decide) rfl ?_
      exact ih1 S v0 v1 56 res hT hpv0 hkv0   hF
    · intro S v0 v1 v2 res hT hpv0 hkv0 hF
      replace hF : F_X13_lay_1 f (F_X13_lay f) v0 v1 v2 S = some res := hF
      unfold F_X13_lay_1 at hF
      refine z_iload_n C dX13_lay_3 rfl ?_
      refine z_if_lt C 75 dX13_lay_4 (by decide) (fun c4 => ?_) (fun c4 => ?_)
      · replace hF := ip hF c4
        cases hF
        exact z_vret C hr dX13_lay_75 ⟨rfl, rfl, hT⟩
      · replace hF := im hF c4
        refine z_lload_n C dX13_lay_7 rfl ?_
        refine z_iload_n C dX13_lay_8 rfl ?_
        refine z_lshr C dX13_lay_9 ?_
        refine z_l2i C dX13_lay_10 ?_
        refine z_sipush (v := 255) C dX13_lay_11 (by decide) ?_
        refine z_iand C dX13_lay_14 ?_
        replace hF := lI_e hF
        generalize ((Int64.toInt32 (v1 >>> ((Int32.toInt64 v2) &&& 63))) &&& (255 : Int32)) = y5 at hF ⊢
        refine z_istore (lv2 := [some (.ref (zB G + v0)), some (.long v1), none, some (.int v2), some (.int y5)]) C dX13_lay_15 (by decide) rfl ?_
        refine z_iload C dX13_lay_17 rfl ?_
        refine z_bipush (v := 10) C dX13_lay_19 (by decide) ?_
        refine z_icmp_eq C 38 dX13_lay_21 (by decide) (fun c9 => ?_) (fun c9 => ?_)
        · replace hF := ip hF c9
          exact ih2 S v0 v1 v2 y5 res hT hpv0 hkv0    hF
        · replace hF := im hF c9
          refine z_iload C dX13_lay_24 rfl ?_
          refine z_bipush (v := 32) C dX13_lay_26 (by decide) ?_
          refine z_icmp_lt C 69 dX13_lay_28 (by decide) (fun c14 => ?_) (fun c14 => ?_)
          · replace hF := ip hF c14
            refine z_mask [true, true, true, true, false] ?_ rfl
            exact ih3 S v0 v1 v2 res hT hpv0 hkv0   hF
          · replace hF := im hF c14
            refine z_iload C dX13_lay_31 rfl ?_
            refine z_bipush (v := 126) C dX13_lay_33 (by decide) ?_
            refine z_icmp_gt C 69 dX13_lay_35 (by decide) (fun c18 => ?_) (fun c18 => ?_)
            · replace hF := ip hF c18
              refine z_mask [true, true, true, true, false] ?_ rfl
              exact ih3 S v0 v1 v2 res hT hpv0 hkv0   hF
            · replace hF := im hF c18
              exact ih2 S v0 v1 v2 y5 res hT hpv0 hkv0    hF
    · intro S v0 v1 v2 v3 res hT hpv0 hkv0 hF
      replace hF : F_X13_lay_2 f (F_X13_lay f) v0 v1 v2 v3 S = some res := hF
      unfold F_X13_lay_2 at hF
      refine z_aload_n C dX13_lay_38 rfl ?_
      refine f_geti C dX13_lay_39 zfRX13_11 hpv0 hkv0 rfl ?_
      refine z_sipush (v := 1000) C dX13_lay_42 (by decide) ?_
      refine z_icmp_ge C 69 dX13_lay_45 (by decide) (fun c21 => ?_) (fun c21 => ?_)
      · replace hF := ip hF c21
        refine z_mask [true, true, true, true, false] ?_ rfl
        exact ih3 S v0 v1 v2 res hT hpv0 hkv0   hF
      · replace hF := im hF c21
        refine z_aload_n C dX13_lay_48 rfl ?_
        refine f_getr C dX13_lay_49 zfRX13_14 hpv0 hkv0 rfl ?_
        obtain ⟨hp22, hk22⟩ := hT.1 v0 11 1 (.inr (0, 1000)) hpv0 hkv0 rfl
        refine z_aload_n C dX13_lay_52 rfl ?_
        refine f_geti C dX13_lay_53 zfRX13_11 hpv0 hkv0 rfl ?_
        refine z_iload C dX13_lay_56 rfl ?_
        obtain ⟨hi23, hF⟩ := bX_some hF
        obtain ⟨q23, eq23⟩ : ∃ q : Nat, q = Int32.toNatClampNeg (gI S v0 2) := ⟨_, rfl⟩
        rw [← eq23] at hF
        refine f_iast C dX13_lay_58 hp22 hk22 hi23 ?_
        rw [← eq23]
        have hT24 : zT0 kd N0 (sI S (gR S v0 1) q23 v3) := zT0_sI hT
        replace hF := fS_e hF
        generalize sI S (gR S v0 1) q23 v3 = S24 at hF hT24 ⊢
        refine z_aload_n C dX13_lay_59 rfl ?_
        refine z_dup C dX13_lay_60 rfl ?_
        refine f_geti C dX13_lay_61 zfRX13_11 hpv0 hkv0 rfl ?_
        refine z_iconst (v := 1) C dX13_lay_64 (by decide) ?_
        refine z_iadd C dX13_lay_65 ?_
        refine f_puti C dX13_lay_66 zfRX13_11 fw11_2 hpv0 hkv0 rfl rfl rfl ?_
        have hT25 : zT0 kd N0 (sI S24 v0 2 ((gI S24 v0 2) + (1 : Int32))) := zT0_sI hT24
        replace hF := fS_e hF
        generalize sI S24 v0 2 ((gI S24 v0 2) + (1 : Int32)) = S25 at hF hT25 ⊢
        refine z_mask [true, true, true, true, false] ?_ rfl
        exact ih3 S25 v0 v1 v2 res hT25 hpv0 hkv0   hF
    · intro S v0 v1 v2 res hT hpv0 hkv0 hF
      replace hF : F_X13_lay_3 f (F_X13_lay f) v0 v1 v2 S = some res := hF
      unfold F_X13_lay_3 at hF
      refine z_iinc (v := v2 + (-8)) (lv2 := [some (.ref (zB G + v0)), some (.long v1), none, some (.int (v2 + (-8))), none]) C dX13_lay_69 rfl (by rw [show Int32.ofInt (-8) = ((-8) : Int32) from by decide]) rfl ?_
      refine z_goto C 3 dX13_lay_72 (by decide) ?_
      exact ih1 S v0 v1 (v2 + (-8)) res hT hpv0 hkv0   hF
theorem K_X13_lay {G : zG} {l : Launch} {kd : kD} {N0 f : Nat} {S : aS} {v0 : Nat} {v1 : Int64} {res : Option Value × aS} (hT : zT0 kd N0 S) (hpv0 : v0 < N0) (hkv0 : kd v0 = .inl 11) (hF : F_X13_lay f 0 [.ref v0, .long v1] S = some res) : zM G l 0 0 0 yX13_lay cX13_lay 5 none [.ref (zB G + v0), .long v1] (cn G kd N0 S) (zPo G kd N0 res) := zM.of (by decide) rfl (Nat.le_of_ble_eq_true rfl) (fun X _ C hr _ => (B_X13_lay C hr f).1 S v0 v1 res hT hpv0 hkv0 hF)
def F_X13_isLetter_0 (f : Nat) (rc : Nat → List Value → aS → aR) (v0 : Int32) (S : aS) : aR :=
  bZ (if v0 < (97 : Int32) then (0 : Int32) else if (122 : Int32) < v0 then (0 : Int32) else (1 : Int32)) (some (some (.int (if v0 < (97 : Int32) then (0 : Int32) else if (122 : Int32) < v0 then (0 : Int32) else (1 : Int32))), S))
def F_X13_isLetter : Nat → Nat → List Value → aS → aR
  | 0, _, _, _ => none
  | f + 1, 0, vs, S => F_X13_isLetter_0 f (F_X13_isLetter f) (vI vs 0) S
  | _ + 1, _, _, _ => none
theorem dX13_isLetter_0 : decode cX13_isLetter 0 = .ok (.iload_n 0, 1) := by decide +kernel
theorem dX13_isLetter_1 : decode cX13_isLetter 1 = .ok (.bipush 97, 2) := by decide +kernel
theorem dX13_isLetter_3 : decode cX13_isLetter 3 = .ok (.if_icmp .lt 13, 3) := by decide +kernel
theorem dX13_isLetter_6 : decode cX13_isLetter 6 = .ok (.iload_n 0, 1) := by decide +kernel
theorem dX13_isLetter_7 : decode cX13_isLetter 7 = .ok (.bipush 122, 2) := by decide +kernel
theorem dX13_isLetter_9 : decode cX13_isLetter 9 = .ok (.if_icmp .gt 7, 3) := by decide +kernel
theorem dX13_isLetter_12 : decode cX13_isLetter 12 = .ok (.iconst 1, 1) := by decide +kernel
theorem dX13_isLetter_13 : decode cX13_isLetter 13 = .ok (.goto 4, 3) := by decide +kernel
theorem dX13_isLetter_16 : decode cX13_isLetter 16 = .ok (.iconst 0, 1) := by decide +kernel
theorem dX13_isLetter_17 : decode cX13_isLetter 17 = .ok (.ireturn, 1) := by decide +kernel
set_option maxHeartbeats 4000000 in
set_option maxRecDepth 100000 in
theorem B_X13_isLetter {G : zG} {X : zX} {kd : kD} {N0 : Nat} (C : zCt G X 0 0 0 RX13 cX13_isLetter 1) (hr : (zXh X).sig.returnType = (some .boolean)) : ∀ f : Nat,
    (∀ (S : aS) (v0 : Int32) (res : Option Value × aS), zT0 kd N0 S → F_X13_isLetter f 0 [.int v0] S = some res → zV G X (zQX G X (zPo G kd N0 res) 0 0) 1 [some (.int v0)] [] (cn G kd N0 S) 0 0 0) := by
  intro f
  induction f with
  | zero => exact (fun _ _ _ _ h => by cases h)
  | succ f ih =>
    have ih0 := ih
    intro S v0 res hT  hF
    replace hF : F_X13_isLetter_0 f (F_X13_isLetter f) v0 S = some res := hF
    unfold F_X13_isLetter_0 at hF
    refine z_iload_n C dX13_isLetter_0 rfl ?_
    refine z_bipush (v := 97) C dX13_isLetter_1 (by decide) ?_
    have hJ3 : zV G X (zQX G X (zPo G kd N0 res) 0 0) 1 [some (.int v0)] [.int (if v0 < (97 : Int32) then (0 : Int32) else if (122 : Int32) < v0 then (0 : Int32) else (1 : Int32))] (cn G kd N0 S) 17 0 0 := by
      obtain ⟨hz, hF⟩ := bZ_some hF
      cases hF
      exact z_zret C hr hz.1 dX13_isLetter_17 ⟨rfl, rfl, hT⟩
    refine z_icmp_lt C 16 dX13_isLetter_3 (by decide) (fun c1 => ?_) (fun c1 => ?_)
    · refine z_iconst (v := 0) C dX13_isLetter_16 (by decide) ?_
      exact zV.at hJ3 (by first | rfl | contradiction | (simp only [if_pos c1]; done)) (by first | rfl | contradiction | (simp only [if_pos c1]; done)) rfl rfl
    · refine z_iload_n C dX13_isLetter_6 rfl ?_
      refine z_bipush (v := 122) C dX13_isLetter_7 (by decide) ?_
      refine z_icmp_gt C 16 dX13_isLetter_9 (by decide) (fun c2 => ?_) (fun c2 => ?_)
      · refine z_iconst (v := 0) C dX13_isLetter_16 (by decide) ?_
        exact zV.at hJ3 (by first | rfl | contradiction | (simp only [if_neg c1, if_pos c2]; done)) (by first | rfl | contradiction | (simp only [if_neg c1, if_pos c2]; done)) rfl rfl
      · refine z_iconst (v := 1) C dX13_isLetter_12 (by decide) ?_
        refine z_goto C 17 dX13_isLetter_13 (by decide) ?_
        exact zV.at hJ3 (by first | rfl | contradiction | (simp only [if_neg c1, if_neg c2]; done)) (by first | rfl | contradiction | (simp only [if_neg c1, if_neg c2]; done)) rfl rfl
theorem K_X13_isLetter {G : zG} {l : Launch} {kd : kD} {N0 f : Nat} {S : aS} {v0 : Int32} {res : Option Value × aS} (hT : zT0 kd N0 S)  (hF : F_X13_isLetter f 0 [.int v0] S = some res) : zM G l 0 0 0 yX13_isLetter cX13_isLetter 1 (some .boolean) [.int v0] (cn G kd N0 S) (zPo G kd N0 res) := zM.of (by decide) rfl (Nat.le_of_ble_eq_true rfl) (fun X _ C hr _ => (B_X13_isLetter C hr f) S v0 res hT  hF)
def F_X13_isDigit_0 (f : Nat) (rc : Nat → List Value → aS → aR) (v0 : Int32) (S : aS) : aR :=
  bZ (if v0 < (48 : Int32) then (0 : Int32) else if (57 : Int32) < v0 then (0 : Int32) else (1 : Int32)) (some (some (.int (if v0 < (48 : Int32) then (0 : Int32) else if (57 : Int32) < v0 then (0 : Int32) else (1 : Int32))), S))
def F_X13_isDigit : Nat → Nat → List Value → aS → aR
  | 0, _, _, _ => none
  | f + 1, 0, vs, S => F_X13_isDigit_0 f (F_X13_isDigit f) (vI vs 0) S
  | _ + 1, _, _, _ => none
theorem dX13_isDigit_0 : decode cX13_isDigit 0 = .ok (.iload_n 0, 1) := by decide +kernel
theorem dX13_isDigit_1 : decode cX13_isDigit 1 = .ok (.bipush 48, 2) := by decide +kernel
theorem dX13_isDigit_3 : decode cX13_isDigit 3 = .ok (.if_icmp .lt 13, 3) := by decide +kernel
theorem dX13_isDigit_6 : decode cX13_isDigit 6 = .ok (.iload_n 0, 1) := by decide +kernel
theorem dX13_isDigit_7 : decode cX13_isDigit 7 = .ok (.bipush 57, 2) := by decide +kernel
theorem dX13_isDigit_9 : decode cX13_isDigit 9 = .ok (.if_icmp .gt 7, 3) := by decide +kernel
theorem dX13_isDigit_12 : decode cX13_isDigit 12 = .ok (.iconst 1, 1) := by decide +kernel
theorem dX13_isDigit_13 : decode cX13_isDigit 13 = .ok (.goto 4, 3) := by decide +kernel
theorem dX13_isDigit_16 : decode cX13_isDigit 16 = .ok (.iconst 0, 1) := by decide +kernel
theorem dX13_isDigit_17 : decode cX13_isDigit 17 = .ok (.ireturn, 1) := by decide +kernel
set_option maxHeartbeats 4000000 in
set_option maxRecDepth 100000 in
theorem B_X13_isDigit {G : zG} {X : zX} {kd : kD} {N0 : Nat} (C : zCt G X 0 0 0 RX13 cX13_isDigit 1) (hr : (zXh X).sig.returnType = (some .boolean)) : ∀ f : Nat,
    (∀ (S : aS) (v0 : Int32) (res : Option Value × aS), zT0 kd N0 S → F_X13_isDigit f 0 [.int v0] S = some res → zV G X (zQX G X (zPo G kd N0 res) 0 0) 1 [some (.int v0)] [] (cn G kd N0 S) 0 0 0) := by
  intro f
  induction f with
  | zero => exact (fun _ _ _ _ h => by cases h)
  | succ f ih =>
    have ih0 := ih
    intro S v0 res hT  hF
    replace hF : F_X13_isDigit_0 f (F_X13_isDigit f) v0 S = some res := hF
    unfold F_X13_isDigit_0 at hF
    refine z_iload_n C dX13_isDigit_0 rfl ?_
    refine z_bipush (v := 48) C dX13_isDigit_1 (by decide) ?_
    have hJ3 : zV G X (zQX G X (zPo G kd N0 res) 0 0) 1 [some (.int v0)] [.int (if v0 < (48 : Int32) then (0 : Int32) else if (57 : Int32) < v0 then (0 : Int32) else (1 : Int32))] (cn G kd N0 S) 17 0 0 := by
      obtain ⟨hz, hF⟩ := bZ_some hF
      cases hF
      exact z_zret C hr hz.1 dX13_isDigit_17 ⟨rfl, rfl, hT⟩
    refine z_icmp_lt C 16 dX13_isDigit_3 (by decide) (fun c1 => ?_) (fun c1 => ?_)
    · refine z_iconst (v := 0) C dX13_isDigit_16 (by decide) ?_
      exact zV.at hJ3 (by first | rfl | contradiction | (simp only [if_pos c1]; done)) (by first | rfl | contradiction | (simp only [if_pos c1]; done)) rfl rfl
    · refine z_iload_n C dX13_isDigit_6 rfl ?_
      refine z_bipush (v := 57) C dX13_isDigit_7 (by decide) ?_
      refine z_icmp_gt C 16 dX13_isDigit_9 (by decide) (fun c2 => ?_) (fun c2 => ?_)
      · refine z_iconst (v := 0) C dX13_isDigit_16 (by decide) ?_
        exact zV.at hJ3 (by first | rfl | contradiction | (simp only [if_neg c1, if_pos c2]; done)) (by first | rfl | contradiction | (simp only [if_neg c1, if_pos c2]; done)) rfl rfl
      · refine z_iconst (v := 1) C dX13_isDigit_12 (by decide) ?_
        refine z_goto C 17 dX13_isDigit_13 (by decide) ?_
        exact zV.at hJ3 (by first | rfl | contradiction | (simp only [if_neg c1, if_neg c2]; done)) (by first | rfl | contradiction | (simp only [if_neg c1, if_neg c2]; done)) rfl rfl
theorem K_X13_isDigit {G : zG} {l : Launch} {kd : kD} {N0 f : Nat} {S : aS} {v0 : Int32} {res : Option Value × aS} (hT : zT0 kd N0 S)  (hF : F_X13_isDigit f 0 [.int v0] S = some res) : zM G l 0 0 0 yX13_isDigit cX13_isDigit 1 (some .boolean) [.int v0] (cn G kd N0 S) (zPo G kd N0 res) := zM.of (by decide) rfl (Nat.le_of_ble_eq_true rfl) (fun X _ C hr _ => (B_X13_isDigit C hr f) S v0 res hT  hF)
def F_X13_rank_0 (f : Nat) (rc : Nat → List Value → aS → aR) (v0 : Int32) (S : aS) : aR :=
  bI (F_X13_isLetter f 0 [.int v0] S) fun x1 S1 => some (some (.int (if x1 = (0 : Int32) then (v0 - (21 : Int32)) else (v0 - (96 : Int32)))), S1)
def F_X13_rank : Nat → Nat → List Value → aS → aR
  | 0, _, _, _ => none
  | f + 1, 0, vs, S => F_X13_rank_0 f (F_X13_rank f) (vI vs 0) S
  | _ + 1, _, _, _ => none
theorem dX13_rank_0 : decode cX13_rank 0 = .ok (.iload_n 0, 1) := by decide +kernel
theorem dX13_rank_1 : decode cX13_rank 1 = .ok (.invokestatic 151, 3) := by decide +kernel
theorem dX13_rank_4 : decode cX13_rank 4 = .ok (.ifCond .eq 10, 3) := by decide +kernel
theorem dX13_rank_7 : decode cX13_rank 7 = .ok (.iload_n 0, 1) := by decide +kernel
theorem dX13_rank_8 : decode cX13_rank 8 = .ok (.bipush 96, 2) := by decide +kernel
theorem dX13_rank_10 : decode cX13_rank 10 = .ok (.isub, 1) := by decide +kernel
theorem dX13_rank_11 : decode cX13_rank 11 = .ok (.goto 7, 3) := by decide +kernel
theorem dX13_rank_14 : decode cX13_rank 14 = .ok (.iload_n 0, 1) := by decide +kernel
theorem dX13_rank_15 : decode cX13_rank 15 = .ok (.bipush 21, 2) := by decide +kernel
theorem dX13_rank_17 : decode cX13_rank 17 = .ok (.isub, 1) := by decide +kernel
theorem dX13_rank_18 : decode cX13_rank 18 = .ok (.ireturn, 1) := by decide +kernel
set_option maxHeartbeats 4000000 in
set_option maxRecDepth 100000 in
theorem B_X13_rank {G : zG} {X : zX} {kd : kD} {N0 : Nat} (C : zCt G X 1 0 0 RX13 cX13_rank 1) (hr : (zXh X).sig.returnType = (some .int)) : ∀ f : Nat,
    (∀ (S : aS) (v0 : Int32) (res : Option Value × aS), zT0 kd N0 S → F_X13_rank f 0 [.int v0] S = some res → zV G X (zQX G X (zPo G kd N0 res) 0 0) 1 [some (.int v0)] [] (cn G kd N0 S) 0 0 0) := by
  intro f
  induction f with
  | zero => exact (fun _ _ _ _ h => by cases h)
  | succ f ih =>
    have ih0 := ih
    intro S v0 res hT  hF
    replace hF : F_X13_rank_0 f (F_X13_rank f) v0 S = some res := hF
    unfold F_X13_rank_0 at hF
    refine z_iload_n C dX13_rank_0 rfl ?_
    obtain ⟨x1, S1, h1, hF⟩ := bI_some hF
    refine f_cS (st2 := [.int x1]) C dX13_rank_1 zyX13_isLetter zsX13_isLetter lkRX13_151 (K_X13_isLetter (l := zXl X) hT  h1) (by decide) rfl rfl (Nat.le_of_ble_eq_true rfl) rfl (fun hT1 => ?_)
    have hJ3 : zV G X (zQX G X (zPo G kd N0 res) 0 0) 1 [some (.int v0)] [.int (if x1 = (0 : Int32) then (v0 - (21 : Int32)) else (v0 - (96 : Int32)))] (cn G kd N0 S1) 18 0 0 := by
      cases hF
      exact z_iret C hr dX13_rank_18 ⟨rfl, rfl, hT1⟩
    refine z_if_eq C 14 dX13_rank_4 (by decide) (fun c2 => ?_) (fun c2 => ?_)
    · refine z_iload_n C dX13_rank_14 rfl ?_
      refine z_bipush (v := 21) C dX13_rank_15 (by decide) ?_
      refine z_isub C dX13_rank_17 ?_
      exact zV.at hJ3 (by first | rfl | contradiction | (simp only [if_pos c2]; done)) (by first | rfl | contradiction | (simp only [if_pos c2]; done)) rfl rfl
    · refine z_iload_n C dX13_rank_7 rfl ?_
      refine z_bipush (v := 96) C dX13_rank_8 (by decide) ?_
      refine z_isub C dX13_rank_10 ?_
      refine z_goto C 18 dX13_rank_11 (by decide) ?_
      exact zV.at hJ3 (by first | rfl | contradiction | (simp only [if_neg c2]; done)) (by first | rfl | contradiction | (simp only [if_neg c2]; done)) rfl rfl
theorem K_X13_rank {G : zG} {l : Launch} {kd : kD} {N0 f : Nat} {S : aS} {v0 : Int32} {res : Option Value × aS} (hT : zT0 kd N0 S)  (hF : F_X13_rank f 0 [.int v0] S = some res) : zM G l 1 0 0 yX13_rank cX13_rank 1 (some .int) [.int v0] (cn G kd N0 S) (zPo G kd N0 res) := zM.of (by decide) rfl (Nat.le_of_ble_eq_true rfl) (fun X _ C hr _ => (B_X13_rank C hr f) S v0 res hT  hF)
def F_X13_isSignOf_0 (f : Nat) (rc : Nat → List Value → aS → aR) (v0 : Int32) (S : aS) : aR :=
  if v0 = (40 : Int32) then rc 1 [] S else if v0 = (41 : Int32) then rc 1 [] S else bZ (if v0 = (59 : Int32) then (1 : Int32) else if v0 = (61 : Int32) then (1 : Int32) else if v0 = (60 : Int32) then (1 : Int32) else if v0 = (43 : Int32) then (1 : Int32) else if v0 = (45 : Int32) then (1 : Int32) else if v0 = (42 : Int32) then (1 : Int32) else (0 : Int32)) (some (some (.int (if v0 = (59 : Int32) then (1 : Int32) else if v0 = (61 : Int32) then (1 : Int32) else if v0 = (60 : Int32) then (1 : Int32) else if v0 = (43 : Int32) then (1 : Int32) else if v0 = (45 : Int32) then (1 : Int32) else if v0 = (42 : Int32) then (1 : Int32) else (0 : Int32))), S))
def F_X13_isSignOf_1 (f : Nat) (rc : Nat → List Value → aS → aR)  (S : aS) : aR :=
  rc 2 [.int 1] S
def F_X13_isSignOf_2 (f : Nat) (rc : Nat → List Value → aS → aR) (w0 : Int32) (S : aS) : aR :=
  bZ w0 (some (some (.int w0), S))
def F_X13_isSignOf : Nat → Nat → List Value → aS → aR
  | 0, _, _, _ => none
  | f + 1, 0, vs, S => F_X13_isSignOf_0 f (F_X13_isSignOf f) (vI vs 0) S
  | f + 1, 1, vs, S => F_X13_isSignOf_1 f (F_X13_isSignOf f)  S
  | f + 1, 2, vs, S => F_X13_isSignOf_2 f (F_X13_isSignOf f) (vI vs 0) S
  | _ + 1, _, _, _ => none
theorem dX13_isSignOf_0 : decode cX13_isSignOf 0 = .ok (.iload_n 0, 1) := by decide +kernel
theorem dX13_isSignOf_1 : decode cX13_isSignOf 1 = .ok (.bipush 40, 2) := by decide +kernel
theorem dX13_isSignOf_3 : decode cX13_isSignOf 3 = .ok (.if_icmp .eq 45, 3) := by decide +kernel
theorem dX13_isSignOf_6 : decode cX13_isSignOf 6 = .ok (.iload_n 0, 1) := by decide +kernel
theorem dX13_isSignOf_7 : decode cX13_isSignOf 7 = .ok (.bipush 41, 2) := by decide +kernel
theorem dX13_isSignOf_9 : decode cX13_isSignOf 9 = .ok (.if_icmp .eq 39, 3) := by decide +kernel
theorem dX13_isSignOf_12 : decode cX13_isSignOf 12 = .ok (.iload_n 0, 1) := by decide +kernel
theorem dX13_isSignOf_13 : decode cX13_isSignOf 13 = .ok (.bipush 59, 2) := by decide +kernel
theorem dX13_isSignOf_15 : decode cX13_isSignOf 15 = .ok (.if_icmp .eq 33, 3) := by decide +kernel
theorem dX13_isSignOf_18 : decode cX13_isSignOf 18 = .ok (.iload_n 0, 1) := by decide +kernel
theorem dX13_isSignOf_19 : decode cX13_isSignOf 19 = .ok (.bipush 61, 2) := by decide +kernel
theorem dX13_isSignOf_21 : decode cX13_isSignOf 21 = .ok (.if_icmp .eq 27, 3) := by decide +kernel
theorem dX13_isSignOf_24 : decode cX13_isSignOf 24 = .ok (.iload_n 0, 1) := by decide +kernel
theorem dX13_isSignOf_25 : decode cX13_isSignOf 25 = .ok (.bipush 60, 2) := by decide +kernel
theorem dX13_isSignOf_27 : decode cX13_isSignOf 27 = .ok (.if_icmp .eq 21, 3) := by decide +kernel
theorem dX13_isSignOf_30 : decode cX13_isSignOf 30 = .ok (.iload_n 0, 1) := by decide +kernel
theorem dX13_isSignOf_31 : decode cX13_isSignOf 31 = .ok (.bipush 43, 2) := by decide +kernel
theorem dX13_isSignOf_33 : decode cX13_isSignOf 33 = .ok (.if_icmp .eq 15, 3) := by decide +kernel
theorem dX13_isSignOf_36 : decode cX13_isSignOf 36 = .ok (.iload_n 0, 1) := by decide +kernel
theorem dX13_isSignOf_37 : decode cX13_isSignOf 37 = .ok (.bipush 45, 2) := by decide +kernel
theorem dX13_isSignOf_39 : decode cX13_isSignOf 39 = .ok (.if_icmp .eq 9, 3) := by decide +kernel
theorem dX13_isSignOf_42 : decode cX13_isSignOf 42 = .ok (.iload_n 0, 1) := by decide +kernel
theorem dX13_isSignOf_43 : decode cX13_isSignOf 43 = .ok (.bipush 42, 2) := by decide +kernel
theorem dX13_isSignOf_45 : decode cX13_isSignOf 45 = .ok (.if_icmp .ne 7, 3) := by decide +kernel
theorem dX13_isSignOf_48 : decode cX13_isSignOf 48 = .ok (.iconst 1, 1) := by decide +kernel
theorem dX13_isSignOf_49 : decode cX13_isSignOf 49 = .ok (.goto 4, 3) := by decide +kernel
theorem dX13_isSignOf_52 : decode cX13_isSignOf 52 = .ok (.iconst 0, 1) := by decide +kernel
theorem dX13_isSignOf_53 : decode cX13_isSignOf 53 = .ok (.ireturn, 1) := by decide +kernel
set_option maxHeartbeats 4000000 in
set_option maxRecDepth 100000 in
theorem B_X13_isSignOf {G : zG} {X : zX} {kd : kD} {N0 : Nat} (C : zCt G X 0 0 0 RX13 cX13_isSignOf 1) (hr : (zXh X).sig.returnType = (some .boolean)) : ∀ f : Nat,
    (∀ (S : aS) (v0 : Int32) (res : Option Value × aS), zT0 kd N0 S → F_X13_isSignOf f 0 [.int v0] S = some res → zV G X (zQX G X (zPo G kd N0 res) 0 0) 1 [some (.int v0)] [] (cn G kd N0 S) 0 0 0) ∧
    (∀ (S : aS)  (res : Option Value × aS), zT0 kd N0 S → F_X13_isSignOf f 1 [] S = some res → zV G X (zQX G X (zPo G kd N0 res) 0 0) 1 [none] [] (cn G kd N0 S) 48 0 0) ∧
    (∀ (S : aS) (w0 : Int32) (res : Option Value × aS), zT0 kd N0 S → F_X13_isSignOf f 2 [.int w0] S = some res → zV G X (zQX G X (zPo G kd N0 res) 0 0) 1 [none] [.int w0] (cn G kd N0 S) 53 0 0) := by
  intro f
  induction f with
  | zero => exact ⟨(fun _ _ _ _ h => by cases h), (fun _ _ _ h => by cases h), (fun _ _ _ _ h => by cases h)⟩
  | succ f ih =>
    obtain ⟨ih0, ih1, ih2⟩ := ih
    refine ⟨?_, ?_, ?_⟩
    · intro S v0 res hT  hF
      replace hF : F_X13_isSignOf_0 f (F_X13_isSignOf f) v0 S = some res := hF
      unfold F_X13_isSignOf_0 at hF
      refine z_iload_n C dX13_isSignOf_0 rfl ?_
      refine z_bipush (v := 40) C dX13_isSignOf_1 (by decide) ?_
      refine z_icmp_eq C 48 dX13_isSignOf_3 (by decide) (fun c8 => ?_) (fun c8 => ?_)
      · replace hF := ip hF c8
        refine z_mask [false] ?_ rfl
        exact ih1 S  res hT  hF
      · replace hF := im hF c8
        refine z_iload_n C dX13_isSignOf_6 rfl ?_
        refine z_bipush (v := 41) C dX13_isSignOf_7 (by decide) ?_
        refine z_icmp_eq C 48 dX13_isSignOf_9 (by decide) (fun c16 => ?_) (fun c16 => ?_)
        · replace hF := ip hF c16
          refine z_mask [false] ?_ rfl
          exact ih1 S  res hT  hF
        · replace hF := im hF c16
          refine z_iload_n C dX13_isSignOf_12 rfl ?_
          refine z_bipush (v := 59) C dX13_isSignOf_13 (by decide) ?_
          have hJ23 : zV G X (zQX G X (zPo G kd N0 res) 0 0) 1 [some (.int v0)] [.int (if v0 = (59 : Int32) then (1 : Int32) else if v0 = (61 : Int32) then (1 : Int32) else if v0 = (60 : Int32) then (1 : Int32) else if v0 = (43 : Int32) then (1 : Int32) else if v0 = (45 : Int32) then (1 : Int32) else if v0 = (42 : Int32) then (1 : Int32) else (0 : Int32))] (cn G kd N0 S) 53 0 0 := by
            obtain ⟨hz, hF⟩ := bZ_some hF
            cases hF
            exact z_zret C hr hz.1 dX13_isSignOf_53 ⟨rfl, rfl, hT⟩
          refine z_icmp_eq C 48 dX13_isSignOf_15 (by decide) (fun c17 => ?_) (fun c17 => ?_)
          · refine z_iconst (v := 1) C dX13_isSignOf_48 (by decide) ?_
            refine z_goto C 53 dX13_isSignOf_49 (by decide) ?_
            exact zV.at hJ23 (by first | rfl | contradiction | (simp only [if_pos c17]; done)) (by first | rfl | contradiction | (simp only [if_pos c17]; done)) rfl rfl
          · refine z_iload_n C dX13_isSignOf_18 rfl ?_
            refine z_bipush (v := 61) C dX13_isSignOf_19 (by decide) ?_
            refine z_icmp_eq C 48 dX13_isSignOf_21 (by decide) (fun c18 => ?_) (fun c18 => ?_)
            · refine z_iconst (v := 1) C dX13_isSignOf_48 (by decide) ?_
              refine z_goto C 53 dX13_isSignOf_49 (by decide) ?_
              exact zV.at hJ23 (by first | rfl | contradiction | (simp only [if_neg c17, if_pos c18]; done)) (by first | rfl | contradiction | (simp only [if_neg c17, if_pos c18]; done)) rfl rfl
            · refine z_iload_n C dX13_isSignOf_24 rfl ?_
              refine z_bipush (v := 60) C dX13_isSignOf_25 (by decide) ?_
              refine z_icmp_eq C 48 dX13_isSignOf_27 (by decide) (fun c19 => ?_) (fun c19 => ?_)
              · refine z_iconst (v := 1) C dX13_isSignOf_48 (by decide) ?_
                refine z_goto C 53 dX13_isSignOf_49 (by decide) ?_
                exact zV.at hJ23 (by first | rfl | contradiction | (simp only [if_neg c17, if_neg c18, if_pos c19]; done)) (by first | rfl | contradiction | (simp only [if_neg c17, if_neg c18, if_pos c19]; done)) rfl rfl
              · refine z_iload_n C dX13_isSignOf_30 rfl ?_
                refine z_bipush (v := 43) C dX13_isSignOf_31 (by decide) ?_
                refine z_icmp_eq C 48 dX13_isSignOf_33 (by decide) (fun c20 => ?_) (fun c20 => ?_)
                · refine z_iconst (v := 1) C dX13_isSignOf_48 (by decide) ?_
                  refine z_goto C 53 dX13_isSignOf_49 (by decide) ?_
                  exact zV.at hJ23 (by first | rfl | contradiction | (simp only [if_neg c17, if_neg c18, if_neg c19, if_pos c20]; done)) (by first | rfl | contradiction | (simp only [if_neg c17, if_neg c18, if_neg c19, if_pos c20]; done)) rfl rfl
                · refine z_iload_n C dX13_isSignOf_36 rfl ?_
                  refine z_bipush (v := 45) C dX13_isSignOf_37 (by decide) ?_
                  refine z_icmp_eq C 48 dX13_isSignOf_39 (by decide) (fun c21 => ?_) (fun c21 => ?_)
                  · refine z_iconst (v := 1) C dX13_isSignOf_48 (by decide) ?_
                    refine z_goto C 53 dX13_isSignOf_49 (by decide) ?_
                    exact zV.at hJ23 (by first | rfl | contradiction | (simp only [if_neg c17, if_neg c18, if_neg c19, if_neg c20, if_pos c21]; done)) (by first | rfl | contradiction | (simp only [if_neg c17, if_neg c18, if_neg c19, if_neg c20, if_pos c21]; done)) rfl rfl
                  · refine z_iload_n C dX13_isSignOf_42 rfl ?_
                    refine z_bipush (v := 42) C dX13_isSignOf_43 (by decide) ?_
                    refine z_icmp_ne C 52 dX13_isSignOf_45 (by decide) (fun c22 => ?_) (fun c22 => ?_)
                    · refine z_iconst (v := 0) C dX13_isSignOf_52 (by decide) ?_
                      exact zV.at hJ23 (by first | rfl | contradiction | (simp only [if_neg c17, if_neg c18, if_neg c19, if_neg c20, if_neg c21, if_neg c22]; done)) (by first | rfl | contradiction | (simp only [if_neg c17, if_neg c18, if_neg c19, if_neg c20, if_neg c21, if_neg c22]; done)) rfl rfl
                    · refine z_iconst (v := 1) C dX13_isSignOf_48 (by decide) ?_
                      refine z_goto C 53 dX13_isSignOf_49 (by decide) ?_
                      exact zV.at hJ23 (by first | rfl | contradiction | (simp only [if_neg c17, if_neg c18, if_neg c19, if_neg c20, if_neg c21, if_pos c22]; done)) (by first | rfl | contradiction | (simp only [if_neg c17, if_neg c18, if_neg c19, if_neg c20, if_neg c21, if_pos c22]; done)) rfl rfl
    · intro S  res hT  hF
      replace hF : F_X13_isSignOf_1 f (F_X13_isSignOf f)  S = some res := hF
      unfold F_X13_isSignOf_1 at hF
      refine z_iconst (v := 1) C dX13_isSignOf_48 (by decide) ?_
      refine z_goto C 53 dX13_isSignOf_49 (by decide) ?_
      exact ih2 S 1 res hT  hF
    · intro S w0 res hT  hF
      replace hF : F_X13_isSignOf_2 f (F_X13_isSignOf f) w0 S = some res := hF
      unfold F_X13_isSignOf_2 at hF
      obtain ⟨hz, hF⟩ := bZ_some hF
      cases hF
      exact z_zret C hr hz.1 dX13_isSignOf_53 ⟨rfl, rfl, hT⟩
theorem K_X13_isSignOf {G : zG} {l : Launch} {kd : kD} {N0 f : Nat} {S : aS} {v0 : Int32} {res : Option Value × aS} (hT : zT0 kd N0 S)  (hF : F_X13_isSignOf f 0 [.int v0] S = some res) : zM G l 0 0 0 yX13_isSignOf cX13_isSignOf 1 (some .boolean) [.int v0] (cn G kd N0 S) (zPo G kd N0 res) := zM.of (by decide) rfl (Nat.le_of_ble_eq_true rfl) (fun X _ C hr _ => (B_X13_isSignOf C hr f).1 S v0 res hT  hF)
def F_X13_cutAll_0 (f : Nat) (rc : Nat → List Value → aS → aR) (v0 : Nat) (S : aS) : aR :=
  fS (sI S v0 3 (gI S v0 2)) fun S1 => fS (sI S1 v0 2 0) fun S2 => rc 1 [.ref v0, .int 0, .int 0] S2
def F_X13_cutAll_1 (f : Nat) (rc : Nat → List Value → aS → aR) (v0 : Nat) (v1 : Int32) (v2 : Int32) (S : aS) : aR :=
  if (gI S v0 3) ≤ v2 then bX v1 1002 fun q7 => fS (sI S (gR S v0 4) q7 0) fun S8 => bX v1 1002 fun q10 => fS (sI S8 (gR S8 v0 5) q10 (gI S8 v0 3)) fun S11 => fS (sI S11 v0 7 0) fun S12 => fS (sI S12 v0 8 0) fun S13 => some (none, S13) else bX v2 1000 fun q15 => if (gI S (gR S v0 1) q15) = (10 : Int32) then rc 2 [.ref v0, .int v1, .int v2] S else if (gI S (gR S v0 1) q15) = (32 : Int32) then rc 2 [.ref v0, .int v1, .int v2] S else bX v1 1002 fun q19 => fS (sI S (gR S v0 5) q19 v2) fun S20 => bI (F_X13_isLetter f 0 [.int (gI S (gR S v0 1) q15)] S20) fun x21 S21 => if x21 = (0 : Int32) then bI (F_X13_isDigit f 0 [.int (gI S (gR S v0 1) q15)] S21) fun x24 S24 => if x24 = (0 : Int32) then bI (F_X13_isSignOf f 0 [.int (gI S (gR S v0 1) q15)] S24) fun x29 S29 => bX v1 1002 fun q32 => fS (sI S29 (gR S24 v0 4) q32 (if x29 = (0 : Int32) then (4 : Int32) else (3 : Int32))) fun S33 => rc 3 [.ref v0, .int v1, .int (v2 + 1), .long (Int32.toInt64 (gI S (gR S v0 1) q15))] S33 else rc 4 [.ref v0, .int v1, .int v2, .int v2, .long 0] S24 else rc 5 [.ref v0, .int v1, .int v2, .int v2, .long 0] S21
def F_X13_cutAll_2 (f : Nat) (rc : Nat → List Value → aS → aR) (v0 : Nat) (v1 : Int32) (v2 : Int32) (S : aS) : aR :=
  rc 1 [.ref v0, .int v1, .int (v2 + 1)] S
def F_X13_cutAll_3 (f : Nat) (rc : Nat → List Value → aS → aR) (v0 : Nat) (v1 : Int32) (v2 : Int32) (v3 : Int64) (S : aS) : aR :=
  bX v1 1002 fun q35 => fS (sJ S (gR S v0 6) q35 v3) fun S36 => rc 1 [.ref v0, .int (v1 + 1), .int v2] S36
def F_X13_cutAll_4 (f : Nat) (rc : Nat → List Value → aS → aR) (v0 : Nat) (v1 : Int32) (v2 : Int32) (v3 : Int32) (v4 : Int64) (S : aS) : aR :=
  if (gI S v0 3) ≤ v2 then rc 6 [.ref v0, .int v1, .int v2, .int v3, .long v4] S else bX v2 1000 fun q41 => bI (F_X13_isDigit f 0 [.int (gI S (gR S v0 1) q41)] S) fun x42 S42 => if x42 = (0 : Int32) then rc 6 [.ref v0, .int v1, .int v2, .int v3, .long v4] S42 else if (4 : Int32) ≤ (v2 - v3) then rc 7 [.ref v0, .int v1, .int v2, .int v3, .long v4] S42 else bX v2 1000 fun q50 => rc 7 [.ref v0, .int v1, .int v2, .int v3, .long ((((10 : Int64) * v4) + (Int32.toInt64 (gI S42 (gR S42 v0 1) q50))) - (48 : Int64))] S42
def F_X13_cutAll_5 (f : Nat) (rc : Nat → List Value → aS → aR) (v0 : Nat) (v1 : Int32) (v2 : Int32) (v3 : Int32) (v4 : Int64) (S : aS) : aR :=
  if (gI S v0 3) ≤ v2 then rc 8 [.ref v0, .int v1, .int v2, .int v3, .long v4] S else bX v2 1000 fun q55 => bI (F_X13_isLetter f 0 [.int (gI S (gR S v0 1) q55)] S) fun x56 S56 => if x56 = (0 : Int32) then rc 8 [.ref v0, .int v1, .int v2, .int v3, .long v4] S56 else if (8 : Int32) ≤ (v2 - v3) then rc 9 [.ref v0, .int v1, .int v2, .int v3, .long v4] S56 else bX v2 1000 fun q64 => bI (F_X13_rank f 0 [.int (gI S56 (gR S56 v0 1) q64)] S56) fun x65 S65 => rc 9 [.ref v0, .int v1, .int v2, .int v3, .long (((37 : Int64) * v4) + (Int32.toInt64 x65))] S65
def F_X13_cutAll_6 (f : Nat) (rc : Nat → List Value → aS → aR) (v0 : Nat) (v1 : Int32) (v2 : Int32) (v3 : Int32) (v4 : Int64) (S : aS) : aR :=
  bX v1 1002 fun q69 => fS (sI S (gR S v0 4) q69 (if (v2 - v3) ≤ (4 : Int32) then (2 : Int32) else (4 : Int32))) fun S70 => rc 3 [.ref v0, .int v1, .int v2, .long v4] S70
def F_X13_cutAll_7 (f : Nat) (rc : Nat → List Value → aS → aR) (v0 : Nat) (v1 : Int32) (v2 : Int32) (v3 : Int32) (w0 : Int64) (S : aS) : aR :=
  rc 4 [.ref v0, .int v1, .int (v2 + 1), .int v3, .long w0] S
def F_X13_cutAll_8 (f : Nat) (rc : Nat → List Value → aS → aR) (v0 : Nat) (v1 : Int32) (v2 : Int32) (v3 : Int32) (v4 : Int64) (S : aS) : aR :=
  bX v1 1002 fun q74 => fS (sI S (gR S v0 4) q74 (if (v2 - v3) ≤ (8 : Int32) then (1 : Int32) else (4 : Int32))) fun S75 => rc 3 [.ref v0, .int v1, .int v2, .long v4] S75
def F_X13_cutAll_9 (f : Nat) (rc : Nat → List Value → aS → aR) (v0 : Nat) (v1 : Int32) (v2 : Int32) (v3 : Int32) (w0 : Int64) (S : aS) : aR :=
  rc 5 [.ref v0, .int v1, .int (v2 + 1), .int v3, .long w0] S
def F_X13_cutAll : Nat → Nat → List Value → aS → aR
  | 0, _, _, _ => none
  | f + 1, 0, vs, S => F_X13_cutAll_0 f (F_X13_cutAll f) (vR vs 0) S
  | f + 1, 1, vs, S => F_X13_cutAll_1 f (F_X13_cutAll f) (vR vs 0) (vI vs 1) (vI vs 2) S
  | f + 1, 2, vs, S => F_X13_cutAll_2 f (F_X13_cutAll f) (vR vs 0) (vI vs 1) (vI vs 2) S
  | f + 1, 3, vs, S => F_X13_cutAll_3 f (F_X13_cutAll f) (vR vs 0) (vI vs 1) (vI vs 2) (vJ vs 3) S
  | f + 1, 4, vs, S => F_X13_cutAll_4 f (F_X13_cutAll f) (vR vs 0) (vI vs 1) (vI vs 2) (vI vs 3) (vJ vs 4) S
  | f + 1, 5, vs, S => F_X13_cutAll_5 f (F_X13_cutAll f) (vR vs 0) (vI vs 1) (vI vs 2) (vI vs 3) (vJ vs 4) S
  | f + 1, 6, vs, S => F_X13_cutAll_6 f (F_X13_cutAll f) (vR vs 0) (vI vs 1) (vI vs 2) (vI vs 3) (vJ vs 4) S
  | f + 1, 7, vs, S => F_X13_cutAll_7 f (F_X13_cutAll f) (vR vs 0) (vI vs 1) (vI vs 2) (vI vs 3) (vJ vs 4) S
  | f + 1, 8, vs, S => F_X13_cutAll_8 f (F_X13_cutAll f) (vR vs 0) (vI vs 1) (vI vs 2) (vI vs 3) (vJ vs 4) S
  | f + 1, 9, vs, S => F_X13_cutAll_9 f (F_X13_cutAll f) (vR vs 0) (vI vs 1) (vI vs 2) (vI vs 3) (vJ vs 4) S
  | _ + 1, _, _, _ => none
theorem dX13_cutAll_0 : decode cX13_cutAll 0 = .ok (.aload_n 0, 1) := by decide +kernel
theorem dX13_cutAll_1 : decode cX13_cutAll 1 = .ok (.aload_n 0, 1) := by decide +kernel
theorem dX13_cutAll_2 : decode cX13_cutAll 2 = .ok (.getfield 11, 3) := by decide +kernel
theorem dX13_cutAll_5 : decode cX13_cutAll 5 = .ok (.putfield 155, 3) := by decide +kernel
theorem dX13_cutAll_8 : decode cX13_cutAll 8 = .ok (.aload_n 0, 1) := by decide +kernel
theorem dX13_cutAll_9 : decode cX13_cutAll 9 = .ok (.iconst 0, 1) := by decide +kernel
theorem dX13_cutAll_10 : decode cX13_cutAll 10 = .ok (.putfield 11, 3) := by decide +kernel
theorem dX13_cutAll_13 : decode cX13_cutAll 13 = .ok (.iconst 0, 1) := by decide +kernel
theorem dX13_cutAll_14 : decode cX13_cutAll 14 = .ok (.istore_n 1, 1) := by decide +kernel
theorem dX13_cutAll_15 : decode cX13_cutAll 15 = .ok (.iconst 0, 1) := by decide +kernel
theorem dX13_cutAll_16 : decode cX13_cutAll 16 = .ok (.istore_n 2, 1) := by decide +kernel
theorem dX13_cutAll_17 : decode cX13_cutAll 17 = .ok (.iload_n 2, 1) := by decide +kernel
theorem dX13_cutAll_18 : decode cX13_cutAll 18 = .ok (.aload_n 0, 1) := by decide +kernel
theorem dX13_cutAll_19 : decode cX13_cutAll 19 = .ok (.getfield 155, 3) := by decide +kernel
theorem dX13_cutAll_22 : decode cX13_cutAll 22 = .ok (.if_icmp .ge 257, 3) := by decide +kernel
theorem dX13_cutAll_25 : decode cX13_cutAll 25 = .ok (.aload_n 0, 1) := by decide +kernel
theorem dX13_cutAll_26 : decode cX13_cutAll 26 = .ok (.getfield 14, 3) := by decide +kernel
theorem dX13_cutAll_29 : decode cX13_cutAll 29 = .ok (.iload_n 2, 1) := by decide +kernel
theorem dX13_cutAll_30 : decode cX13_cutAll 30 = .ok (.iaload, 1) := by decide +kernel
theorem dX13_cutAll_31 : decode cX13_cutAll 31 = .ok (.istore_n 3, 1) := by decide +kernel
theorem dX13_cutAll_32 : decode cX13_cutAll 32 = .ok (.iload_n 3, 1) := by decide +kernel
theorem dX13_cutAll_33 : decode cX13_cutAll 33 = .ok (.bipush 10, 2) := by decide +kernel
theorem dX13_cutAll_35 : decode cX13_cutAll 35 = .ok (.if_icmp .eq 9, 3) := by decide +kernel
theorem dX13_cutAll_38 : decode cX13_cutAll 38 = .ok (.iload_n 3, 1) := by decide +kernel
theorem dX13_cutAll_39 : decode cX13_cutAll 39 = .ok (.bipush 32, 2) := by decide +kernel
theorem dX13_cutAll_41 : decode cX13_cutAll 41 = .ok (.if_icmp .ne 9, 3) := by decide +kernel
theorem dX13_cutAll_44 : decode cX13_cutAll 44 = .ok (.iinc 2 1, 3) := by decide +kernel
theorem dX13_cutAll_47 : decode cX13_cutAll 47 = .ok (.goto (-30), 3) := by decide +kernel
theorem dX13_cutAll_50 : decode cX13_cutAll 50 = .ok (.iload_n 2, 1) := by decide +kernel
theorem dX13_cutAll_51 : decode cX13_cutAll 51 = .ok (.istore 4, 2) := by decide +kernel
theorem dX13_cutAll_53 : decode cX13_cutAll 53 = .ok (.lconst 0, 1) := by decide +kernel
theorem dX13_cutAll_54 : decode cX13_cutAll 54 = .ok (.lstore 5, 2) := by decide +kernel
theorem dX13_cutAll_56 : decode cX13_cutAll 56 = .ok (.aload_n 0, 1) := by decide +kernel
theorem dX13_cutAll_57 : decode cX13_cutAll 57 = .ok (.getfield 27, 3) := by decide +kernel
theorem dX13_cutAll_60 : decode cX13_cutAll 60 = .ok (.iload_n 1, 1) := by decide +kernel
theorem dX13_cutAll_61 : decode cX13_cutAll 61 = .ok (.iload_n 2, 1) := by decide +kernel
theorem dX13_cutAll_62 : decode cX13_cutAll 62 = .ok (.iastore, 1) := by decide +kernel
theorem dX13_cutAll_63 : decode cX13_cutAll 63 = .ok (.iload_n 3, 1) := by decide +kernel
theorem dX13_cutAll_64 : decode cX13_cutAll 64 = .ok (.invokestatic 151, 3) := by decide +kernel
theorem dX13_cutAll_67 : decode cX13_cutAll 67 = .ok (.ifCond .eq 85, 3) := by decide +kernel
theorem dX13_cutAll_70 : decode cX13_cutAll 70 = .ok (.iload_n 2, 1) := by decide +kernel
theorem dX13_cutAll_71 : decode cX13_cutAll 71 = .ok (.aload_n 0, 1) := by decide +kernel
theorem dX13_cutAll_72 : decode cX13_cutAll 72 = .ok (.getfield 155, 3) := by decide +kernel
theorem dX13_cutAll_75 : decode cX13_cutAll 75 = .ok (.if_icmp .ge 54, 3) := by decide +kernel
theorem dX13_cutAll_78 : decode cX13_cutAll 78 = .ok (.aload_n 0, 1) := by decide +kernel
theorem dX13_cutAll_79 : decode cX13_cutAll 79 = .ok (.getfield 14, 3) := by decide +kernel
theorem dX13_cutAll_82 : decode cX13_cutAll 82 = .ok (.iload_n 2, 1) := by decide +kernel
theorem dX13_cutAll_83 : decode cX13_cutAll 83 = .ok (.iaload, 1) := by decide +kernel
theorem dX13_cutAll_84 : decode cX13_cutAll 84 = .ok (.invokestatic 151, 3) := by decide +kernel
theorem dX13_cutAll_87 : decode cX13_cutAll 87 = .ok (.ifCond .eq 42, 3) := by decide +kernel
theorem dX13_cutAll_90 : decode cX13_cutAll 90 = .ok (.iload_n 2, 1) := by decide +kernel
theorem dX13_cutAll_91 : decode cX13_cutAll 91 = .ok (.iload 4, 2) := by decide +kernel
theorem dX13_cutAll_93 : decode cX13_cutAll 93 = .ok (.isub, 1) := by decide +kernel
theorem dX13_cutAll_94 : decode cX13_cutAll 94 = .ok (.bipush 8, 2) := by decide +kernel
theorem dX13_cutAll_96 : decode cX13_cutAll 96 = .ok (.if_icmp .ge 23, 3) := by decide +kernel
theorem dX13_cutAll_99 : decode cX13_cutAll 99 = .ok (.ldc2_w 158, 3) := by decide +kernel
theorem dX13_cutAll_102 : decode cX13_cutAll 102 = .ok (.lload 5, 2) := by decide +kernel
theorem dX13_cutAll_104 : decode cX13_cutAll 104 = .ok (.lmul, 1) := by decide +kernel
theorem dX13_cutAll_105 : decode cX13_cutAll 105 = .ok (.aload_n 0, 1) := by decide +kernel
theorem dX13_cutAll_106 : decode cX13_cutAll 106 = .ok (.getfield 14, 3) := by decide +kernel
theorem dX13_cutAll_109 : decode cX13_cutAll 109 = .ok (.iload_n 2, 1) := by decide +kernel
theorem dX13_cutAll_110 : decode cX13_cutAll 110 = .ok (.iaload, 1) := by decide +kernel
theorem dX13_cutAll_111 : decode cX13_cutAll 111 = .ok (.invokestatic 160, 3) := by decide +kernel
theorem dX13_cutAll_114 : decode cX13_cutAll 114 = .ok (.i2l, 1) := by decide +kernel
theorem dX13_cutAll_115 : decode cX13_cutAll 115 = .ok (.ladd, 1) := by decide +kernel
theorem dX13_cutAll_116 : decode cX13_cutAll 116 = .ok (.goto 5, 3) := by decide +kernel
theorem dX13_cutAll_119 : decode cX13_cutAll 119 = .ok (.lload 5, 2) := by decide +kernel
theorem dX13_cutAll_121 : decode cX13_cutAll 121 = .ok (.lstore 5, 2) := by decide +kernel
theorem dX13_cutAll_123 : decode cX13_cutAll 123 = .ok (.iinc 2 1, 3) := by decide +kernel
theorem dX13_cutAll_126 : decode cX13_cutAll 126 = .ok (.goto (-56), 3) := by decide +kernel
theorem dX13_cutAll_129 : decode cX13_cutAll 129 = .ok (.aload_n 0, 1) := by decide +kernel
theorem dX13_cutAll_130 : decode cX13_cutAll 130 = .ok (.getfield 24, 3) := by decide +kernel
theorem dX13_cutAll_133 : decode cX13_cutAll 133 = .ok (.iload_n 1, 1) := by decide +kernel
theorem dX13_cutAll_134 : decode cX13_cutAll 134 = .ok (.iload_n 2, 1) := by decide +kernel
theorem dX13_cutAll_135 : decode cX13_cutAll 135 = .ok (.iload 4, 2) := by decide +kernel
theorem dX13_cutAll_137 : decode cX13_cutAll 137 = .ok (.isub, 1) := by decide +kernel
theorem dX13_cutAll_138 : decode cX13_cutAll 138 = .ok (.bipush 8, 2) := by decide +kernel
theorem dX13_cutAll_140 : decode cX13_cutAll 140 = .ok (.if_icmp .le 7, 3) := by decide +kernel
theorem dX13_cutAll_143 : decode cX13_cutAll 143 = .ok (.iconst 4, 1) := by decide +kernel
theorem dX13_cutAll_144 : decode cX13_cutAll 144 = .ok (.goto 4, 3) := by decide +kernel
theorem dX13_cutAll_147 : decode cX13_cutAll 147 = .ok (.iconst 1, 1) := by decide +kernel
theorem dX13_cutAll_148 : decode cX13_cutAll 148 = .ok (.iastore, 1) := by decide +kernel
theorem dX13_cutAll_149 : decode cX13_cutAll 149 = .ok (.goto 116, 3) := by decide +kernel
theorem dX13_cutAll_152 : decode cX13_cutAll 152 = .ok (.iload_n 3, 1) := by decide +kernel
theorem dX13_cutAll_153 : decode cX13_cutAll 153 = .ok (.invokestatic 164, 3) := by decide +kernel
theorem dX13_cutAll_156 : decode cX13_cutAll 156 = .ok (.ifCond .eq 84, 3) := by decide +kernel
theorem dX13_cutAll_159 : decode cX13_cutAll 159 = .ok (.iload_n 2, 1) := by decide +kernel
theorem dX13_cutAll_160 : decode cX13_cutAll 160 = .ok (.aload_n 0, 1) := by decide +kernel
theorem dX13_cutAll_161 : decode cX13_cutAll 161 = .ok (.getfield 155, 3) := by decide +kernel
theorem dX13_cutAll_164 : decode cX13_cutAll 164 = .ok (.if_icmp .ge 54, 3) := by decide +kernel
theorem dX13_cutAll_167 : decode cX13_cutAll 167 = .ok (.aload_n 0, 1) := by decide +kernel
theorem dX13_cutAll_168 : decode cX13_cutAll 168 = .ok (.getfield 14, 3) := by decide +kernel
theorem dX13_cutAll_171 : decode cX13_cutAll 171 = .ok (.iload_n 2, 1) := by decide +kernel
theorem dX13_cutAll_172 : decode cX13_cutAll 172 = .ok (.iaload, 1) := by decide +kernel
theorem dX13_cutAll_173 : decode cX13_cutAll 173 = .ok (.invokestatic 164, 3) := by decide +kernel
theorem dX13_cutAll_176 : decode cX13_cutAll 176 = .ok (.ifCond .eq 42, 3) := by decide +kernel
theorem dX13_cutAll_179 : decode cX13_cutAll 179 = .ok (.iload_n 2, 1) := by decide +kernel
theorem dX13_cutAll_180 : decode cX13_cutAll 180 = .ok (.iload 4, 2) := by decide +kernel
theorem dX13_cutAll_182 : decode cX13_cutAll 182 = .ok (.isub, 1) := by decide +kernel
theorem dX13_cutAll_183 : decode cX13_cutAll 183 = .ok (.iconst 4, 1) := by decide +kernel
theorem dX13_cutAll_184 : decode cX13_cutAll 184 = .ok (.if_icmp .ge 24, 3) := by decide +kernel
theorem dX13_cutAll_187 : decode cX13_cutAll 187 = .ok (.ldc2_w 167, 3) := by decide +kernel
theorem dX13_cutAll_190 : decode cX13_cutAll 190 = .ok (.lload 5, 2) := by decide +kernel
theorem dX13_cutAll_192 : decode cX13_cutAll 192 = .ok (.lmul, 1) := by decide +kernel
theorem dX13_cutAll_193 : decode cX13_cutAll 193 = .ok (.aload_n 0, 1) := by decide +kernel
theorem dX13_cutAll_194 : decode cX13_cutAll 194 = .ok (.getfield 14, 3) := by decide +kernel
theorem dX13_cutAll_197 : decode cX13_cutAll 197 = .ok (.iload_n 2, 1) := by decide +kernel
theorem dX13_cutAll_198 : decode cX13_cutAll 198 = .ok (.iaload, 1) := by decide +kernel
theorem dX13_cutAll_199 : decode cX13_cutAll 199 = .ok (.i2l, 1) := by decide +kernel
theorem dX13_cutAll_200 : decode cX13_cutAll 200 = .ok (.ladd, 1) := by decide +kernel
theorem dX13_cutAll_201 : decode cX13_cutAll 201 = .ok (.ldc2_w 169, 3) := by decide +kernel
theorem dX13_cutAll_204 : decode cX13_cutAll 204 = .ok (.lsub, 1) := by decide +kernel
theorem dX13_cutAll_205 : decode cX13_cutAll 205 = .ok (.goto 5, 3) := by decide +kernel
theorem dX13_cutAll_208 : decode cX13_cutAll 208 = .ok (.lload 5, 2) := by decide +kernel
theorem dX13_cutAll_210 : decode cX13_cutAll 210 = .ok (.lstore 5, 2) := by decide +kernel
theorem dX13_cutAll_212 : decode cX13_cutAll 212 = .ok (.iinc 2 1, 3) := by decide +kernel
theorem dX13_cutAll_215 : decode cX13_cutAll 215 = .ok (.goto (-56), 3) := by decide +kernel
theorem dX13_cutAll_218 : decode cX13_cutAll 218 = .ok (.aload_n 0, 1) := by decide +kernel
theorem dX13_cutAll_219 : decode cX13_cutAll 219 = .ok (.getfield 24, 3) := by decide +kernel
theorem dX13_cutAll_222 : decode cX13_cutAll 222 = .ok (.iload_n 1, 1) := by decide +kernel
theorem dX13_cutAll_223 : decode cX13_cutAll 223 = .ok (.iload_n 2, 1) := by decide +kernel
theorem dX13_cutAll_224 : decode cX13_cutAll 224 = .ok (.iload 4, 2) := by decide +kernel
theorem dX13_cutAll_226 : decode cX13_cutAll 226 = .ok (.isub, 1) := by decide +kernel
theorem dX13_cutAll_227 : decode cX13_cutAll 227 = .ok (.iconst 4, 1) := by decide +kernel
theorem dX13_cutAll_228 : decode cX13_cutAll 228 = .ok (.if_icmp .le 7, 3) := by decide +kernel
theorem dX13_cutAll_231 : decode cX13_cutAll 231 = .ok (.iconst 4, 1) := by decide +kernel
theorem dX13_cutAll_232 : decode cX13_cutAll 232 = .ok (.goto 4, 3) := by decide +kernel
theorem dX13_cutAll_235 : decode cX13_cutAll 235 = .ok (.iconst 2, 1) := by decide +kernel
theorem dX13_cutAll_236 : decode cX13_cutAll 236 = .ok (.iastore, 1) := by decide +kernel
theorem dX13_cutAll_237 : decode cX13_cutAll 237 = .ok (.goto 28, 3) := by decide +kernel
theorem dX13_cutAll_240 : decode cX13_cutAll 240 = .ok (.iload_n 3, 1) := by decide +kernel
theorem dX13_cutAll_241 : decode cX13_cutAll 241 = .ok (.i2l, 1) := by decide +kernel
theorem dX13_cutAll_242 : decode cX13_cutAll 242 = .ok (.lstore 5, 2) := by decide +kernel
theorem dX13_cutAll_244 : decode cX13_cutAll 244 = .ok (.aload_n 0, 1) := by decide +kernel
theorem dX13_cutAll_245 : decode cX13_cutAll 245 = .ok (.getfield 24, 3) := by decide +kernel
theorem dX13_cutAll_248 : decode cX13_cutAll 248 = .ok (.iload_n 1, 1) := by decide +kernel
theorem dX13_cutAll_249 : decode cX13_cutAll 249 = .ok (.iload_n 3, 1) := by decide +kernel
theorem dX13_cutAll_250 : decode cX13_cutAll 250 = .ok (.invokestatic 171, 3) := by decide +kernel
theorem dX13_cutAll_253 : decode cX13_cutAll 253 = .ok (.ifCond .eq 7, 3) := by decide +kernel
theorem dX13_cutAll_256 : decode cX13_cutAll 256 = .ok (.iconst 3, 1) := by decide +kernel
theorem dX13_cutAll_257 : decode cX13_cutAll 257 = .ok (.goto 4, 3) := by decide +kernel
theorem dX13_cutAll_260 : decode cX13_cutAll 260 = .ok (.iconst 4, 1) := by decide +kernel
theorem dX13_cutAll_261 : decode cX13_cutAll 261 = .ok (.iastore, 1) := by decide +kernel
theorem dX13_cutAll_262 : decode cX13_cutAll 262 = .ok (.iinc 2 1, 3) := by decide +kernel
theorem dX13_cutAll_265 : decode cX13_cutAll 265 = .ok (.aload_n 0, 1) := by decide +kernel
theorem dX13_cutAll_266 : decode cX13_cutAll 266 = .ok (.getfield 30, 3) := by decide +kernel
theorem dX13_cutAll_269 : decode cX13_cutAll 269 = .ok (.iload_n 1, 1) := by decide +kernel
theorem dX13_cutAll_270 : decode cX13_cutAll 270 = .ok (.lload 5, 2) := by decide +kernel
theorem dX13_cutAll_272 : decode cX13_cutAll 272 = .ok (.lastore, 1) := by decide +kernel
theorem dX13_cutAll_273 : decode cX13_cutAll 273 = .ok (.iinc 1 1, 3) := by decide +kernel
theorem dX13_cutAll_276 : decode cX13_cutAll 276 = .ok (.goto (-259), 3) := by decide +kernel
theorem dX13_cutAll_279 : decode cX13_cutAll 279 = .ok (.aload_n 0, 1) := by decide +kernel
theorem dX13_cutAll_280 : decode cX13_cutAll 280 = .ok (.getfield 24, 3) := by decide +kernel
theorem dX13_cutAll_283 : decode cX13_cutAll 283 = .ok (.iload_n 1, 1) := by decide +kernel
theorem dX13_cutAll_284 : decode cX13_cutAll 284 = .ok (.iconst 0, 1) := by decide +kernel
theorem dX13_cutAll_285 : decode cX13_cutAll 285 = .ok (.iastore, 1) := by decide +kernel
theorem dX13_cutAll_286 : decode cX13_cutAll 286 = .ok (.aload_n 0, 1) := by decide +kernel
theorem dX13_cutAll_287 : decode cX13_cutAll 287 = .ok (.getfield 27, 3) := by decide +kernel
theorem dX13_cutAll_290 : decode cX13_cutAll 290 = .ok (.iload_n 1, 1) := by decide +kernel
theorem dX13_cutAll_291 : decode cX13_cutAll 291 = .ok (.aload_n 0, 1) := by decide +kernel
theorem dX13_cutAll_292 : decode cX13_cutAll 292 = .ok (.getfield 155, 3) := by decide +kernel
theorem dX13_cutAll_295 : decode cX13_cutAll 295 = .ok (.iastore, 1) := by decide +kernel
theorem dX13_cutAll_296 : decode cX13_cutAll 296 = .ok (.aload_n 0, 1) := by decide +kernel
theorem dX13_cutAll_297 : decode cX13_cutAll 297 = .ok (.iconst 0, 1) := by decide +kernel
theorem dX13_cutAll_298 : decode cX13_cutAll 298 = .ok (.putfield 174, 3) := by decide +kernel
theorem dX13_cutAll_301 : decode cX13_cutAll 301 = .ok (.aload_n 0, 1) := by decide +kernel
theorem dX13_cutAll_302 : decode cX13_cutAll 302 = .ok (.iconst 0, 1) := by decide +kernel
theorem dX13_cutAll_303 : decode cX13_cutAll 303 = .ok (.putfield 177, 3) := by decide +kernel
theorem dX13_cutAll_306 : decode cX13_cutAll 306 = .ok (.return_, 1) := by decide +kernel
set_option maxHeartbeats 4000000 in
set_option maxRecDepth 100000 in
theorem B_X13_cutAll {G : zG} {X : zX} {kd : kD} {N0 : Nat} (C : zCt G X 2 0 0 RX13 cX13_cutAll 7) (hr : (zXh X).sig.returnType = none) : ∀ f : Nat,
    (∀ (S : aS) (v0 : Nat) (res : Option Value × aS), zT0 kd N0 S → v0 < N0 → kd v0 = .inl 11 → F_X13_cutAll f 0 [.ref v0] S = some res → zV G X (zQX G X (zPo G kd N0 res) 0 0) 7 [some (.ref (zB G + v0)), none, none, none, none, none, none] [] (cn G kd N0 S) 0 0 0) ∧
    (∀ (S : aS) (v0 : Nat) (v1 : Int32) (v2 : Int32) (res : Option Value × aS), zT0 kd N0 S → v0 < N0 → kd v0 = .inl 11 → F_X13_cutAll f 1 [.ref v0, .int v1, .int v2] S = some res → zV G X (zQX G X (zPo G kd N0 res) 0 0) 7 [some (.ref (zB G + v0)), some (.int v1), some (.int v2), none, none, none, none] [] (cn G kd N0 S) 17 0 0) ∧
    (∀ (S : aS) (v0 : Nat) (v1 : Int32) (v2 : Int32) (res : Option Value × aS), zT0 kd N0 S → v0 < N0 → kd v0 = .inl 11 → F_X13_cutAll f 2 [.ref v0, .int v1, .int v2] S = some res → zV G X (zQX G X (zPo G kd N0 res) 0 0) 7 [some (.ref (zB G + v0)), some (.int v1), some (.int v2), none, none, none, none] [] (cn G kd N0 S) 44 0 0) ∧
    (∀ (S : aS) (v0 : Nat) (v1 : Int32) (v2 : Int32) (v3 : Int64) (res : Option Value × aS), zT0 kd N0 S → v0 < N0 → kd v0 = .inl 11 → F_X13_cutAll f 3 [.ref v0, .int v1, .int v2, .long v3] S = some res → zV G X (zQX G X (zPo G kd N0 res) 0 0) 7 [some (.ref (zB G + v0)), some (.int v1), some (.int v2), none, none, some (.long v3), none] [] (cn G kd N0 S) 265 0 0) ∧
    (∀ (S : aS) (v0 : Nat) (v1 : Int32) (v2 : Int32) (v3 : Int32) (v4 : Int64) (res : Option Value × aS), zT0 kd N0 S → v0 < N0 → kd v0 = .inl 11 → F_X13_cutAll f 4 [.ref v0, .int v1, .int v2, .int v3, .long v4] S = some res → zV G X (zQX G X (zPo G kd N0 res) 0 0) 7 [some (.ref (zB G + v0)), some (.int v1), some (.int v2), none, some (.int v3), some (.long v4), none] [] (cn G kd N0 S) 159 0 0) ∧
    (∀ (S : aS) (v0 : Nat) (v1 : Int32) (v2 : Int32) (v3 : Int32) (v4 : Int64) (res : Option Value × aS), zT0 kd N0 S → v0 < N0 → kd v0 = .inl 11 → F_X13_cutAll f 5 [.ref v0, .int v1, .int v2, .int v3, .long v4] S = some res → zV G X (zQX G X (zPo G kd N0 res) 0 0) 7 [some (.ref (zB G + v0)), some (.int v1), some (.int v2), none, some (.int v3), some (.long v4), none] [] (cn G kd N0 S) 70 0 0) ∧
    (∀ (S : aS) (v0 : Nat) (v1 : Int32) (v2 : Int32) (v3 : Int32) (v4 : Int64) (res : Option Value × aS), zT0 kd N0 S → v0 < N0 → kd v0 = .inl 11 → F_X13_cutAll f 6 [.ref v0, .int v1, .int v2, .int v3, .long v4] S = some res → zV G X (zQX G X (zPo G kd N0 res) 0 0) 7 [some (.ref (zB G + v0)), some (.int v1), some (.int v2), none, some (.int v3), some (.long v4), none] [] (cn G kd N0 S) 218 0 0) ∧
    (∀ (S : aS) (v0 : Nat) (v1 : Int32) (v2 : Int32) (v3 : Int32) (w0 : Int64) (res : Option Value × aS), zT0 kd N0 S → v0 < N0 → kd v0 = .inl 11 → F_X13_cutAll f 7 [.ref v0, .int v1, .int v2, .int v3, .long w0] S = some res → zV G X (zQX G X (zPo G kd N0 res) 0 0) 7 [some (.ref (zB G + v0)), some (.int v1), some (.int v2), none, some (.int v3), none, none] [.long w0] (cn G kd N0 S) 210 0 0) ∧
    (∀ (S : aS) (v0 : Nat) (v1 : Int32) (v2 : Int32) (v3 : Int32) (v4 : Int64) (res : Option Value × aS), zT0 kd N0 S → v0 < N0 → kd v0 = .inl 11 → F_X13_cutAll f 8 [.ref v0, .int v1, .int v2, .int v3, .long v4] S = some res → zV G X (zQX G X (zPo G kd N0 res) 0 0) 7 [some (.ref (zB G + v0)), some (.int v1), some (.int v2), none, some (.int v3), some (.long v4), none] [] (cn G kd N0 S) 129 0 0) ∧
    (∀ (S : aS) (v0 : Nat) (v1 : Int32) (v2 : Int32) (v3 : Int32) (w0 : Int64) (res : Option Value × aS), zT0 kd N0 S → v0 < N0 → kd v0 = .inl 11 → F_X13_cutAll f 9 [.ref v0, .int v1, .int v2, .int v3, .long w0] S = some res → zV G X (zQX G X (zPo G kd N0 res) 0 0) 7 [some (.ref (zB G + v0)), some (.int v1), some (.int v2), none, some (.int v3), none, none] [.long w0] (cn G kd N0 S) 121 0 0) := by
  intro f
  induction f with
  | zero => exact ⟨(fun _ _ _ _ _ _ h => by cases h), (fun _ _ _ _ _ _ _ _ h => by cases h), (fun _ _ _ _ _ _ _ _ h => by cases h), (fun _ _ _ _ _ _ _ _ _ h => by cases h), (fun _ _ _ _ _ _ _ _ _ _ h => by cases h), (fun _ _ _ _ _ _ _ _ _ _ h => by cases h), (fun _ _ _ _ _ _ _ _ _ _ h => by cases h), (fun _ _ _ _ _ _ _ _ _ _ h => by cases h), (fun _ _ _ _ _ _ _ _ _ _ h => by cases h), (fun _ _ _ _ _ _ _ _ _ _ h => by cases h)⟩
  | succ f ih =>
    obtain ⟨ih0, ih1, ih2, ih3, ih4, ih5, ih6, ih7, ih8, ih9⟩ := ih
    refine ⟨?_, ?_, ?_, ?_, ?_, ?_, ?_, ?_, ?_, ?_⟩
    · intro S v0 res hT hpv0 hkv0 hF
      replace hF : F_X13_cutAll_0 f (F_X13_cutAll f) v0 S = some res := hF
      unfold F_X13_cutAll_0 at hF
      refine z_aload_n C dX13_cutAll_0 rfl ?_
      refine z_aload_n C dX13_cutAll_1 rfl ?_
      refine f_geti C dX13_cutAll_2 zfRX13_11 hpv0 hkv0 rfl ?_
      refine f_puti C dX13_cutAll_5 zfRX13_155 fw11_3 hpv0 hkv0 rfl rfl rfl ?_
      have hT1 : zT0 kd N0 (sI S v0 3 (gI S v0 2)) := zT0_sI hT
      replace hF := fS_e hF
      generalize sI S v0 3 (gI S v0 2) = S1 at hF hT1 ⊢
      refine z_aload_n C dX13_cutAll_8 rfl ?_
      refine z_iconst (v := 0) C dX13_cutAll_9 (by decide) ?_
      refine f_puti C dX13_cutAll_10 zfRX13_11 fw11_2 hpv0 hkv0 rfl rfl rfl ?_
      have hT2 : zT0 kd N0 (sI S1 v0 2 0) := zT0_sI hT1
      replace hF := fS_e hF
      generalize sI S1 v0 2 0 = S2 at hF hT2 ⊢
      refine z_iconst (v := 0) C dX13_cutAll_13 (by decide) ?_
      refine z_istore_n (lv2 := [some (.ref (zB G + v0)), some (.int 0), none, none, none, none, none]) C dX13_cutAll_14 (by decide) rfl ?_
      refine z_iconst (v := 0) C dX13_cutAll_15 (by decide) ?_
      refine z_istore_n (lv2 := [some (.ref (zB G + v0)), some (.int 0), some (.int 0), none, none, none, none]) C dX13_cutAll_16 (by decide) rfl ?_
      exact ih1 S2 v0 0 0 res hT2 hpv0 hkv0   hF
    · intro S v0 v1 v2 res hT hpv0 hkv0 hF
      replace hF : F_X13_cutAll_1 f (F_X13_cutAll f) v0 v1 v2 S = some res := hF
      unfold F_X13_cutAll_1 at hF
      refine z_iload_n C dX13_cutAll_17 rfl ?_
      refine z_aload_n C dX13_cutAll_18 rfl ?_
      refine f_geti C dX13_cutAll_19 zfRX13_155 hpv0 hkv0 rfl ?_
      refine z_icmp_ge C 279 dX13_cutAll_22 (by decide) (fun c5 => ?_) (fun c5 => ?_)
      · replace hF := ip hF c5
        refine z_aload_n C dX13_cutAll_279 rfl ?_
        refine f_getr C dX13_cutAll_280 zfRX13_24 hpv0 hkv0 rfl ?_
        obtain ⟨hp6, hk6⟩ := hT.1 v0 11 4 (.inr (0, 1002)) hpv0 hkv0 rfl
        refine z_iload_n C dX13_cutAll_283 rfl ?_
        refine z_iconst (v := 0) C dX13_cutAll_284 (by decide) ?_
        obtain ⟨hi7, hF⟩ := bX_some hF
        obtain ⟨q7, eq7⟩ : ∃ q : Nat, q = Int32.toNatClampNeg v1 := ⟨_, rfl⟩
        rw [← eq7] at hF
        refine f_iast C dX13_cutAll_285 hp6 hk6 hi7 ?_
        rw [← eq7]
        have hT8 : zT0 kd N0 (sI S (gR S v0 4) q7 0) := zT0_sI hT
        replace hF := fS_e hF
        generalize sI S (gR S v0 4) q7 0 = S8 at hF hT8 ⊢
        refine z_aload_n C dX13_cutAll_286 rfl ?_
        refine f_getr C dX13_cutAll_287 zfRX13_27 hpv0 hkv0 rfl ?_
        obtain ⟨hp9, hk9⟩ := hT8.1 v0 11 5 (.inr (0, 1002)) hpv0 hkv0 rfl
        refine z_iload_n C dX13_cutAll_290 rfl ?_
        refine z_aload_n C dX13_cutAll_291 rfl ?_
        refine f_geti C dX13_cutAll_292 zfRX13_155 hpv0 hkv0 rfl ?_
        obtain ⟨hi10, hF⟩ := bX_some hF
        obtain ⟨q10, eq10⟩ : ∃ q : Nat, q = Int32.toNatClampNeg v1 := ⟨_, rfl⟩
        rw [← eq10] at hF
        refine f_iast C dX13_cutAll_295 hp9 hk9 hi10 ?_
        rw [← eq10]
        have hT11 : zT0 kd N0 (sI S8 (gR S8 v0 5) q10 (gI S8 v0 3)) := zT0_sI hT8
        replace hF := fS_e hF
        generalize sI S8 (gR S8 v0 5) q10 (gI S8 v0 3) = S11 at hF hT11 ⊢
        refine z_aload_n C dX13_cutAll_296 rfl ?_
        refine z_iconst (v := 0) C dX13_cutAll_297 (by decide) ?_
        refine f_puti C dX13_cutAll_298 zfRX13_174 fw11_7 hpv0 hkv0 rfl rfl rfl ?_
        have hT12 : zT0 kd N0 (sI S11 v0 7 0) := zT0_sI hT11
        replace hF := fS_e hF
        generalize sI S11 v0 7 0 = S12 at hF hT12 ⊢
        refine z_aload_n C dX13_cutAll_301 rfl ?_
        refine z_iconst (v := 0) C dX13_cutAll_302 (by decide) ?_
        refine f_puti C dX13_cutAll_303 zfRX13_177 fw11_8 hpv0 hkv0 rfl rfl rfl ?_
        have hT13 : zT0 kd N0 (sI S12 v0 8 0) := zT0_sI hT12
        replace hF := fS_e hF
        generalize sI S12 v0 8 0 = S13 at hF hT13 ⊢
        cases hF
        exact z_vret C hr dX13_cutAll_306 ⟨rfl, rfl, hT13⟩
      · replace hF := im hF c5
        refine z_aload_n C dX13_cutAll_25 rfl ?_
        refine f_getr C dX13_cutAll_26 zfRX13_14 hpv0 hkv0 rfl ?_
        obtain ⟨hp14, hk14⟩ := hT.1 v0 11 1 (.inr (0, 1000)) hpv0 hkv0 rfl
        refine z_iload_n C dX13_cutAll_29 rfl ?_
        obtain ⟨hi15, hF⟩ := bX_some hF
        obtain ⟨q15, eq15⟩ : ∃ q : Nat, q = Int32.toNatClampNeg v2 := ⟨_, rfl⟩
        rw [← eq15] at hF
        refine f_iald C dX13_cutAll_30 hp14 hk14 hi15 ?_
        rw [← eq15]
        refine z_istore_n (lv2 := [some (.ref (zB G + v0)), some (.int v1), some (.int v2), some (.int (gI S (gR S v0 1) q15)), none, none, none]) C dX13_cutAll_31 (by decide) rfl ?_
        refine z_iload_n C dX13_cutAll_32 rfl ?_
        refine z_bipush (v := 10) C dX13_cutAll_33 (by decide) ?_
        refine z_icmp_eq C 44 dX13_cutAll_35 (by decide) (fun c16 => ?_) (fun c16 => ?_)
        · replace hF := ip hF c16
          refine z_mask [true, true, true, false, true, true, true] ?_ rfl
          exact ih2 S v0 v1 v2 res hT hpv0 hkv0   hF
        · replace hF := im hF c16
          refine z_iload_n C dX13_cutAll_38 rfl ?_
          refine z_bipush (v := 32) C dX13_cutAll_39 (by decide) ?_
          refine z_icmp_ne C 50 dX13_cutAll_41 (by decide) (fun c17 => ?_) (fun c17 => ?_)
          · replace hF := im hF c17
            refine z_iload_n C dX13_cutAll_50 rfl ?_
            refine z_istore (lv2 := [some (.ref (zB G + v0)), some (.int v1), some (.int v2), some (.int (gI S (gR S v0 1) q15)), some (.int v2), none, none]) C dX13_cutAll_51 (by decide) rfl ?_
            refine z_lconst (v := 0) C dX13_cutAll_53 (by decide) ?_
            refine z_lstore (lv2 := [some (.ref (zB G + v0)), some (.int v1), some (.int v2), some (.int (gI S (gR S v0 1) q15)), some (.int v2), some (.long 0), none]) C dX13_cutAll_54 (by decide) rfl ?_
            refine z_aload_n C dX13_cutAll_56 rfl ?_
            refine f_getr C dX13_cutAll_57 zfRX13_27 hpv0 hkv0 rfl ?_
            obtain ⟨hp18, hk18⟩ := hT.1 v0 11 5 (.inr (0, 1002)) hpv0 hkv0 rfl
            refine z_iload_n C dX13_cutAll_60 rfl ?_
            refine z_iload_n C dX13_cutAll_61 rfl ?_
            obtain ⟨hi19, hF⟩ := bX_some hF
            obtain ⟨q19, eq19⟩ : ∃ q : Nat, q = Int32.toNatClampNeg v1 := ⟨_, rfl⟩
            rw [← eq19] at hF
            refine f_iast C dX13_cutAll_62 hp18 hk18 hi19 ?_
            rw [← eq19]
            have hT20 : zT0 kd N0 (sI S (gR S v0 5) q19 v2) := zT0_sI hT
            replace hF := fS_e hF
            generalize sI S (gR S v0 5) q19 v2 = S20 at hF hT20 ⊢
            refine z_iload_n C dX13_cutAll_63 rfl ?_
            obtain ⟨x21, S21, h21, hF⟩ := bI_some hF
            refine f_cS (st2 := [.int x21]) C dX13_cutAll_64 zyX13_isLetter zsX13_isLetter lkRX13_151 (K_X13_isLetter (l := zXl X) hT20  h21) (by decide) rfl rfl (Nat.le_of_ble_eq_true rfl) rfl (fun hT21 => ?_)
            refine z_if_eq C 152 dX13_cutAll_67 (by decide) (fun c23 => ?_) (fun c23 => ?_)
            · replace hF := ip hF c23
              refine z_iload_n C dX13_cutAll_152 rfl ?_
              obtain ⟨x24, S24, h24, hF⟩ := bI_some hF
              refine f_cS (st2 := [.int x24]) C dX13_cutAll_153 zyX13_isDigit zsX13_isDigit lkRX13_164 (K_X13_isDigit (l := zXl X) hT21  h24) (by decide) rfl rfl (Nat.le_of_ble_eq_true rfl) rfl (fun hT24 => ?_)
              refine z_if_eq C 240 dX13_cutAll_156 (by decide) (fun c27 => ?_) (fun c27 => ?_)
              · replace hF := ip hF c27
                refine z_iload_n C dX13_cutAll_240 rfl ?_
                refine z_i2l C dX13_cutAll_241 ?_
                refine z_lstore (lv2 := [some (.ref (zB G + v0)), some (.int v1), some (.int v2), some (.int (gI S (gR S v0 1) q15)), some (.int v2), some (.long (Int32.toInt64 (gI S (gR S v0 1) q15))), none]) C dX13_cutAll_242 (by decide) rfl ?_
                refine z_aload_n C dX13_cutAll_244 rfl ?_
                refine f_getr C dX13_cutAll_245 zfRX13_24 hpv0 hkv0 rfl ?_
                obtain ⟨hp28, hk28⟩ := hT24.1 v0 11 4 (.inr (0, 1002)) hpv0 hkv0 rfl
                refine z_iload_n C dX13_cutAll_248 rfl ?_
                refine z_iload_n C dX13_cutAll_249 rfl ?_
                obtain ⟨x29, S29, h29, hF⟩ := bI_some hF
                refine f_cS (st2 := [.int x29, .int v1, .ref (zB G + (gR S24 v0 4))]) C dX13_cutAll_250 zyX13_isSignOf zsX13_isSignOf lkRX13_171 (K_X13_isSignOf (l := zXl X) hT24  h29) (by decide) rfl rfl (Nat.le_of_ble_eq_true rfl) rfl (fun hT29 => ?_)
                have hJ31 : zV G X (zQX G X (zPo G kd N0 res) 0 0) 7 [some (.ref (zB G + v0)), some (.int v1), some (.int v2), some (.int (gI S (gR S v0 1) q15)), some (.int v2), some (.long (Int32.toInt64 (gI S (gR S v0 1) q15))), none] [.int (if x29 = (0 : Int32) then (4 : Int32) else (3 : Int32)), .int v1, .ref (zB G + (gR S24 v0 4))] (cn G kd N0 S29) 261 0 0 := by
                  obtain ⟨hi32, hF⟩ := bX_some hF
                  obtain ⟨q32, eq32⟩ : ∃ q : Nat, q = Int32.toNatClampNeg v1 := ⟨_, rfl⟩
                  rw [← eq32] at hF
                  refine f_iast C dX13_cutAll_261 hp28 hk28 hi32 ?_
                  rw [← eq32]
                  have hT33 : zT0 kd N0 (sI S29 (gR S24 v0 4) q32 (if x29 = (0 : Int32) then (4 : Int32) else (3 : Int32))) := zT0_sI hT29
                  replace hF := fS_e hF
                  generalize sI S29 (gR S24 v0 4) q32 (if x29 = (0 : Int32) then (4 : Int32) else (3 : Int32)) = S33 at hF hT33 ⊢
                  refine z_iinc (v := v2 + 1) (lv2 := [some (.ref (zB G + v0)), some (.int v1), some (.int (v2 + 1)), some (.int (gI S (gR S v0 1) q15)), some (.int v2), some (.long (Int32.toInt64 (gI S (gR S v0 1) q15))), none]) C dX13_cutAll_262 rfl (by rw [show Int32.ofInt 1 = (1 : Int32) from by decide]) rfl ?_
                  refine z_mask [true, true, true, false, false, true, true] ?_ rfl
                  exact ih3 S33 v0 v1 (v2 + 1) (Int32.toInt64 (gI S (gR S v0 1) q15)) res hT33 hpv0 hkv0    hF
                refine z_if_eq C 260 dX13_cutAll_253 (by decide) (fun c30 => ?_) (fun c30 => ?_)
                · refine z_iconst (v := 4) C dX13_cutAll_260 (by decide) ?_
                  exact zV.at hJ31 (by first | rfl | contradiction | (simp only [if_pos c30]; done)) (by first | rfl | contradiction | (simp only [if_pos c30]; done)) rfl rfl
                · refine z_iconst (v := 3) C dX13_cutAll_256 (by decide) ?_
                  refine z_goto C 261 dX13_cutAll_257 (by decide) ?_
                  exact zV.at hJ31 (by first | rfl | contradiction | (simp only [if_neg c30]; done)) (by first | rfl | contradiction | (simp only [if_neg c30]; done)) rfl rfl
              · replace hF := im hF c27
                refine z_mask [true, true, true, false, true, true, true] ?_ rfl
                exact ih4 S24 v0 v1 v2 v2 0 res hT24 hpv0 hkv0     hF
            · replace hF := im hF c23
              refine z_mask [true, true, true, false, true, true, true] ?_ rfl
              exact ih5 S21 v0 v1 v2 v2 0 res hT21 hpv0 hkv0     hF
          · replace hF := ip hF c17
            refine z_mask [true, true, true, false, true, true, true] ?_ rfl
            exact ih2 S v0 v1 v2 res hT hpv0 hkv0   hF
    · intro S v0 v1 v2 res hT hpv0 hkv0 hF
      replace hF : F_X13_cutAll_2 f (F_X13_cutAll f) v0 v1 v2 S = some res := hF
      unfold F_X13_cutAll_2 at hF
      refine z_iinc (v := v2 + 1) (lv2 := [some (.ref (zB G + v0)), some (.int v1), some (.int (v2 + 1)), none, none, none, none]) C dX13_cutAll_44 rfl (by rw [show Int32.ofInt 1 = (1 : Int32) from by decide]) rfl ?_
      refine z_goto C 17 dX13_cutAll_47 (by decide) ?_
      exact ih1 S v0 v1 (v2 + 1) res hT hpv0 hkv0   hF
    · intro S v0 v1 v2 v3 res hT hpv0 hkv0 hF
      replace hF : F_X13_cutAll_3 f (F_X13_cutAll f) v0 v1 v2 v3 S = some res := hF
      unfold F_X13_cutAll_3 at hF
      refine z_aload_n C dX13_cutAll_265 rfl ?_
      refine f_getr C dX13_cutAll_266 zfRX13_30 hpv0 hkv0 rfl ?_
      obtain ⟨hp34, hk34⟩ := hT.1 v0 11 6 (.inr (1, 1002)) hpv0 hkv0 rfl
      refine z_iload_n C dX13_cutAll_269 rfl ?_
      refine z_lload C dX13_cutAll_270 rfl ?_
      obtain ⟨hi35, hF⟩ := bX_some hF
      obtain ⟨q35, eq35⟩ : ∃ q : Nat, q = Int32.toNatClampNeg v1 := ⟨_, rfl⟩
      rw [← eq35] at hF
      refine f_last C dX13_cutAll_272 hp34 hk34 hi35 ?_
      rw [← eq35]
      have hT36 : zT0 kd N0 (sJ S (gR S v0 6) q35 v3) := zT0_sJ hT
      replace hF := fS_e hF
      generalize sJ S (gR S v0 6) q35 v3 = S36 at hF hT36 ⊢
      refine z_iinc (v := v1 + 1) (lv2 := [some (.ref (zB G + v0)), some (.int (v1 + 1)), some (.int v2), none, none, some (.long v3), none]) C dX13_cutAll_273 rfl (by rw [show Int32.ofInt 1 = (1 : Int32) from by decide]) rfl ?_
      refine z_goto C 17 dX13_cutAll_276 (by decide) ?_
      refine z_mask [true, true, true, true, true, false, true] ?_ rfl
      exact ih1 S36 v0 (v1 + 1) v2 res hT36 hpv0 hkv0   hF
    · intro S v0 v1 v2 v3 v4 res hT hpv0 hkv0 hF
      replace hF : F_X13_cutAll_4 f (F_X13_cutAll f) v0 v1 v2 v3 v4 S = some res := hF
      unfold F_X13_cutAll_4 at hF
      refine z_iload_n C dX13_cutAll_159 rfl ?_
      refine z_aload_n C dX13_cutAll_160 rfl ?_
      refine f_geti C dX13_cutAll_161 zfRX13_155 hpv0 hkv0 rfl ?_
      refine z_icmp_ge C 218 dX13_cutAll_164 (by decide) (fun c39 => ?_) (fun c39 => ?_)
      · replace hF := ip hF c39
        exact ih6 S v0 v1 v2 v3 v4 res hT hpv0 hkv0     hF
      · replace hF := im hF c39
        refine z_aload_n C dX13_cutAll_167 rfl ?_
        refine f_getr C dX13_cutAll_168 zfRX13_14 hpv0 hkv0 rfl ?_
        obtain ⟨hp40, hk40⟩ := hT.1 v0 11 1 (.inr (0, 1000)) hpv0 hkv0 rfl
        refine z_iload_n C dX13_cutAll_171 rfl ?_
        obtain ⟨hi41, hF⟩ := bX_some hF
        obtain ⟨q41, eq41⟩ : ∃ q : Nat, q = Int32.toNatClampNeg v2 := ⟨_, rfl⟩
        rw [← eq41] at hF
        refine f_iald C dX13_cutAll_172 hp40 hk40 hi41 ?_
        rw [← eq41]
        obtain ⟨x42, S42, h42, hF⟩ := bI_some hF
        refine f_cS (st2 := [.int x42]) C dX13_cutAll_173 zyX13_isDigit zsX13_isDigit lkRX13_164 (K_X13_isDigit (l := zXl X) hT  h42) (by decide) rfl rfl (Nat.le_of_ble_eq_true rfl) rfl (fun hT42 => ?_)
        refine z_if_eq C 218 dX13_cutAll_176 (by decide) (fun c45 => ?_) (fun c45 => ?_)
        · replace hF := ip hF c45
          exact ih6 S42 v0 v1 v2 v3 v4 res hT42 hpv0 hkv0     hF
        · replace hF := im hF c45
          refine z_iload_n C dX13_cutAll_179 rfl ?_
          refine z_iload C dX13_cutAll_180 rfl ?_
          refine z_isub C dX13_cutAll_182 ?_
          refine z_iconst (v := 4) C dX13_cutAll_183 (by decide) ?_
          refine z_icmp_ge C 208 dX13_cutAll_184 (by decide) (fun c48 => ?_) (fun c48 => ?_)
          · replace hF := ip hF c48
            refine z_lload C dX13_cutAll_208 rfl ?_
            refine z_mask [true, true, true, true, true, false, true] ?_ rfl
            exact ih7 S42 v0 v1 v2 v3 v4 res hT42 hpv0 hkv0     hF
          · replace hF := im hF c48
            refine z_ldc2 C dX13_cutAll_187 klRX13_167 ?_
            refine z_lload C dX13_cutAll_190 rfl ?_
            refine z_lmul C dX13_cutAll_192 ?_
            refine z_aload_n C dX13_cutAll_193 rfl ?_
            refine f_getr C dX13_cutAll_194 zfRX13_14 hpv0 hkv0 rfl ?_
            obtain ⟨hp49, hk49⟩ := hT42.1 v0 11 1 (.inr (0, 1000)) hpv0 hkv0 rfl
            refine z_iload_n C dX13_cutAll_197 rfl ?_
            obtain ⟨hi50, hF⟩ := bX_some hF
            obtain ⟨q50, eq50⟩ : ∃ q : Nat, q = Int32.toNatClampNeg v2 := ⟨_, rfl⟩
            rw [← eq50] at hF
            refine f_iald C dX13_cutAll_198 hp49 hk49 hi50 ?_
            rw [← eq50]
            refine z_i2l C dX13_cutAll_199 ?_
            refine z_ladd C dX13_cutAll_200 ?_
            refine z_ldc2 C dX13_cutAll_201 klRX13_169 ?_
            refine z_lsub C dX13_cutAll_204 ?_
            refine z_goto C 210 dX13_cutAll_205 (by decide) ?_
            refine z_mask [true, true, true, true, true, false, true] ?_ rfl
            exact ih7 S42 v0 v1 v2 v3 ((((10 : Int64) * v4) + (Int32.toInt64 (gI S42 (gR S42 v0 1) q50))) - (48 : Int64)) res hT42 hpv0 hkv0     hF
    · intro S v0 v1 v2 v3 v4 res hT hpv0 hkv0 hF
      replace hF : F_X13_cutAll_5 f (F_X13_cutAll f) v0 v1 v2 v3 v4 S = some res := hF
      unfold F_X13_cutAll_5 at hF
      refine z_iload_n C dX13_cutAll_70 rfl ?_
      refine z_aload_n C dX13_cutAll_71 rfl ?_
      refine f_geti C dX13_cutAll_72 zfRX13_155 hpv0 hkv0 rfl ?_
      refine z_icmp_ge C 129 dX13_cutAll_75 (by decide) (fun c53 => ?_) (fun c53 => ?_)
      · replace hF := ip hF c53
        exact ih8 S v0 v1 v2 v3 v4 res hT hpv0 hkv0     hF
      · replace hF := im hF c53
        refine z_aload_n C dX13_cutAll_78 rfl ?_
        refine f_getr C dX13_cutAll_79 zfRX13_14 hpv0 hkv0 rfl ?_
        obtain ⟨hp54, hk54⟩ := hT.1 v0 11 1 (.inr (0, 1000)) hpv0 hkv0 rfl
        refine z_iload_n C dX13_cutAll_82 rfl ?_
        obtain ⟨hi55, hF⟩ := bX_some hF
        obtain ⟨q55, eq55⟩ : ∃ q : Nat, q = Int32.toNatClampNeg v2 := ⟨_, rfl⟩
        rw [← eq55] at hF
        refine f_iald C dX13_cutAll_83 hp54 hk54 hi55 ?_
        rw [← eq55]
        obtain ⟨x56, S56, h56, hF⟩ := bI_some hF
        refine f_cS (st2 := [.int x56]) C dX13_cutAll_84 zyX13_isLetter zsX13_isLetter lkRX13_151 (K_X13_isLetter (l := zXl X) hT  h56) (by decide) rfl rfl (Nat.le_of_ble_eq_true rfl) rfl (fun hT56 => ?_)
        refine z_if_eq C 129 dX13_cutAll_87 (by decide) (fun c59 => ?_) (fun c59 => ?_)
        · replace hF := ip hF c59
          exact ih8 S56 v0 v1 v2 v3 v4 res hT56 hpv0 hkv0     hF
        · replace hF := im hF c59
          refine z_iload_n C dX13_cutAll_90 rfl ?_
          refine z_iload C dX13_cutAll_91 rfl ?_
          refine z_isub C dX13_cutAll_93 ?_
          refine z_bipush (v := 8) C dX13_cutAll_94 (by decide) ?_
          refine z_icmp_ge C 119 dX13_cutAll_96 (by decide) (fun c62 => ?_) (fun c62 => ?_)
          · replace hF := ip hF c62
            refine z_lload C dX13_cutAll_119 rfl ?_
            refine z_mask [true, true, true, true, true, false, true] ?_ rfl
            exact ih9 S56 v0 v1 v2 v3 v4 res hT56 hpv0 hkv0     hF
          · replace hF := im hF c62
            refine z_ldc2 C dX13_cutAll_99 klRX13_158 ?_
            refine z_lload C dX13_cutAll_102 rfl ?_
            refine z_lmul C dX13_cutAll_104 ?_
            refine z_aload_n C dX13_cutAll_105 rfl ?_
            refine f_getr C dX13_cutAll_106 zfRX13_14 hpv0 hkv0 rfl ?_
            obtain ⟨hp63, hk63⟩ := hT56.1 v0 11 1 (.inr (0, 1000)) hpv0 hkv0 rfl
            refine z_iload_n C dX13_cutAll_109 rfl ?_
            obtain ⟨hi64, hF⟩ := bX_some hF
            obtain ⟨q64, eq64⟩ : ∃ q : Nat, q = Int32.toNatClampNeg v2 := ⟨_, rfl⟩
            rw [← eq64] at hF
            refine f_iald C dX13_cutAll_110 hp63 hk63 hi64 ?_
            rw [← eq64]
            obtain ⟨x65, S65, h65, hF⟩ := bI_some hF
            refine f_cS (st2 := [.int x65, .long ((37 : Int64) * v4)]) C dX13_cutAll_111 zyX13_rank zsX13_rank lkRX13_160 (K_X13_rank (l := zXl X) hT56  h65) (by decide) rfl rfl (Nat.le_of_ble_eq_true rfl) rfl (fun hT65 => ?_)
            refine z_i2l C dX13_cutAll_114 ?_
            refine z_ladd C dX13_cutAll_115 ?_
            refine z_goto C 121 dX13_cutAll_116 (by decide) ?_
            refine z_mask [true, true, true, true, true, false, true] ?_ rfl
            exact ih9 S65 v0 v1 v2 v3 (((37 : Int64) * v4) + (Int32.toInt64 x65)) res hT65 hpv0 hkv0     hF
    · intro S v0 v1 v2 v3 v4 res hT hpv0 hkv0 hF
      replace hF : F_X13_cutAll_6 f (F_X13_cutAll f) v0 v1 v2 v3 v4 S = some res := hF
      unfold F_X13_cutAll_6 at hF
      refine z_aload_n C dX13_cutAll_218 rfl ?_
      refine f_getr C dX13_cutAll_219 zfRX13_24 hpv0 hkv0 rfl ?_
      obtain ⟨hp66, hk66⟩ := hT.1 v0 11 4 (.inr (0, 1002)) hpv0 hkv0 rfl
      refine z_iload_n C dX13_cutAll_222 rfl ?_
      refine z_iload_n C dX13_cutAll_223 rfl ?_
      refine z_iload C dX13_cutAll_224 rfl ?_
      refine z_isub C dX13_cutAll_226 ?_
      refine z_iconst (v := 4) C dX13_cutAll_227 (by decide) ?_
      have hJ68 : zV G X (zQX G X (zPo G kd N0 res) 0 0) 7 [some (.ref (zB G + v0)), some (.int v1), some (.int v2), none, some (.int v3), some (.long v4), none] [.int (if (v2 - v3) ≤ (4 : Int32) then (2 : Int32) else (4 : Int32)), .int v1, .ref (zB G + (gR S v0 4))] (cn G kd N0 S) 236 0 0 := by
        obtain ⟨hi69, hF⟩ := bX_some hF
        obtain ⟨q69, eq69⟩ : ∃ q : Nat, q = Int32.toNatClampNeg v1 := ⟨_, rfl⟩
        rw [← eq69] at hF
        refine f_iast C dX13_cutAll_236 hp66 hk66 hi69 ?_
        rw [← eq69]
        have hT70 : zT0 kd N0 (sI S (gR S v0 4) q69 (if (v2 - v3) ≤ (4 : Int32) then (2 : Int32) else (4 : Int32))) := zT0_sI hT
        replace hF := fS_e hF
        generalize sI S (gR S v0 4) q69 (if (v2 - v3) ≤ (4 : Int32) then (2 : Int32) else (4 : Int32)) = S70 at hF hT70 ⊢
        refine z_goto C 265 dX13_cutAll_237 (by decide) ?_
        refine z_mask [true, true, true, true, false, true, true] ?_ rfl
        exact ih3 S70 v0 v1 v2 v4 res hT70 hpv0 hkv0    hF
      refine z_icmp_le C 235 dX13_cutAll_228 (by decide) (fun c67 => ?_) (fun c67 => ?_)
      · refine z_iconst (v := 2) C dX13_cutAll_235 (by decide) ?_
        exact zV.at hJ68 (by first | rfl | contradiction | (simp only [if_pos c67]; done)) (by first | rfl | contradiction | (simp only [if_pos c67]; done)) rfl rfl
      · refine z_iconst (v := 4) C dX13_cutAll_231 (by decide) ?_
        refine z_goto C 236 dX13_cutAll_232 (by decide) ?_
        exact zV.at hJ68 (by first | rfl | contradiction | (simp only [if_neg c67]; done)) (by first | rfl | contradiction | (simp only [if_neg c67]; done)) rfl rfl
    · intro S v0 v1 v2 v3 w0 res hT hpv0 hkv0 hF
      replace hF : F_X13_cutAll_7 f (F_X13_cutAll f) v0 v1 v2 v3 w0 S = some res := hF
      unfold F_X13_cutAll_7 at hF
      refine z_lstore (lv2 := [some (.ref (zB G + v0)), some (.int v1), some (.int v2), none, some (.int v3), some (.long w0), none]) C dX13_cutAll_210 (by decide) rfl ?_
      refine z_iinc (v := v2 + 1) (lv2 := [some (.ref (zB G + v0)), some (.int v1), some (.int (v2 + 1)), none, some (.int v3), some (.long w0), none]) C dX13_cutAll_212 rfl (by rw [show Int32.ofInt 1 = (1 : Int32) from by decide]) rfl ?_
      refine z_goto C 159 dX13_cutAll_215 (by decide) ?_
      exact ih4 S v0 v1 (v2 + 1) v3 w0 res hT hpv0 hkv0     hF
    · intro S v0 v1 v2 v3 v4 res hT hpv0 hkv0 hF
      replace hF : F_X13_cutAll_8 f (F_X13_cutAll f) v0 v1 v2 v3 v4 S = some res := hF
      unfold F_X13_cutAll_8 at hF
      refine z_aload_n C dX13_cutAll_129 rfl ?_
      refine f_getr C dX13_cutAll_130 zfRX13_24 hpv0 hkv0 rfl ?_
      obtain ⟨hp71, hk71⟩ := hT.1 v0 11 4 (.inr (0, 1002)) hpv0 hkv0 rfl
      refine z_iload_n C dX13_cutAll_133 rfl ?_
      refine z_iload_n C dX13_cutAll_134 rfl ?_
      refine z_iload C dX13_cutAll_135 rfl ?_
      refine z_isub C dX13_cutAll_137 ?_
      refine z_bipush (v := 8) C dX13_cutAll_138 (by decide) ?_
      have hJ73 : zV G X (zQX G X (zPo G kd N0 res) 0 0) 7 [some (.ref (zB G + v0)), some (.int v1), some (.int v2), none, some (.int v3), some (.long v4), none] [.int (if (v2 - v3) ≤ (8 : Int32) then (1 : Int32) else (4 : Int32)), .int v1, .ref (zB G + (gR S v0 4))] (cn G kd N0 S) 148 0 0 := by
        obtain ⟨hi74, hF⟩ := bX_some hF
        obtain ⟨q74, eq74⟩ : ∃ q : Nat, q = Int32.toNatClampNeg v1 := ⟨_, rfl⟩
        rw [← eq74] at hF
        refine f_iast C dX13_cutAll_148 hp71 hk71 hi74 ?_
        rw [← eq74]
        have hT75 : zT0 kd N0 (sI S (gR S v0 4) q74 (if (v2 - v3) ≤ (8 : Int32) then (1 : Int32) else (4 : Int32))) := zT0_sI hT
        replace hF := fS_e hF
        generalize sI S (gR S v0 4) q74 (if (v2 - v3) ≤ (8 : Int32) then (1 : Int32) else (4 : Int32)) = S75 at hF hT75 ⊢
        refine z_goto C 265 dX13_cutAll_149 (by decide) ?_
        refine z_mask [true, true, true, true, false, true, true] ?_ rfl
        exact ih3 S75 v0 v1 v2 v4 res hT75 hpv0 hkv0    hF
      refine z_icmp_le C 147 dX13_cutAll_140 (by decide) (fun c72 => ?_) (fun c72 => ?_)
      · refine z_iconst (v := 1) C dX13_cutAll_147 (by decide) ?_
        exact zV.at hJ73 (by first | rfl | contradiction | (simp only [if_pos c72]; done)) (by first | rfl | contradiction | (simp only [if_pos c72]; done)) rfl rfl
      · refine z_iconst (v := 4) C dX13_cutAll_143 (by decide) ?_
        refine z_goto C 148 dX13_cutAll_144 (by decide) ?_
        exact zV.at hJ73 (by first | rfl | contradiction | (simp only [if_neg c72]; done)) (by first | rfl | contradiction | (simp only [if_neg c72]; done)) rfl rfl
    · intro S v0 v1 v2 v3 w0 res hT hpv0 hkv0 hF
      replace hF : F_X13_cutAll_9 f (F_X13_cutAll f) v0 v1 v2 v3 w0 S = some res := hF
      unfold F_X13_cutAll_9 at hF
      refine z_lstore (lv2 := [some (.ref (zB G + v0)), some (.int v1), some (.int v2), none, some (.int v3), some (.long w0), none]) C dX13_cutAll_121 (by decide) rfl ?_
      refine z_iinc (v := v2 + 1) (lv2 := [some (.ref (zB G + v0)), some (.int v1), some (.int (v2 + 1)), none, some (.int v3), some (.long w0), none]) C dX13_cutAll_123 rfl (by rw [show Int32.ofInt 1 = (1 : Int32) from by decide]) rfl ?_
      refine z_goto C 70 dX13_cutAll_126 (by decide) ?_
      exact ih5 S v0 v1 (v2 + 1) v3 w0 res hT hpv0 hkv0     hF
theorem K_X13_cutAll {G : zG} {l : Launch} {kd : kD} {N0 f : Nat} {S : aS} {v0 : Nat} {res : Option Value × aS} (hT : zT0 kd N0 S) (hpv0 : v0 < N0) (hkv0 : kd v0 = .inl 11) (hF : F_X13_cutAll f 0 [.ref v0] S = some res) : zM G l 2 0 0 yX13_cutAll cX13_cutAll 7 none [.ref (zB G + v0)] (cn G kd N0 S) (zPo G kd N0 res) := zM.of (by decide) rfl (Nat.le_of_ble_eq_true rfl) (fun X _ C hr _ => (B_X13_cutAll C hr f).1 S v0 res hT hpv0 hkv0 hF)
def F_X13_wrong_0 (f : Nat) (rc : Nat → List Value → aS → aR) (v0 : Nat) (v1 : Int32) (S : aS) : aR :=
  if (gI S v0 8) = (0 : Int32) then bX (gI S v0 7) 1002 fun q5 => fS (sI S v0 8 (v1 + ((16 : Int32) * (gI S (gR S v0 5) q5)))) fun S6 => rc 1 [] S6 else rc 1 [] S
def F_X13_wrong_1 (f : Nat) (rc : Nat → List Value → aS → aR)  (S : aS) : aR :=
  some (none, S)
def F_X13_wrong : Nat → Nat → List Value → aS → aR
  | 0, _, _, _ => none
  | f + 1, 0, vs, S => F_X13_wrong_0 f (F_X13_wrong f) (vR vs 0) (vI vs 1) S
  | f + 1, 1, vs, S => F_X13_wrong_1 f (F_X13_wrong f)  S
  | _ + 1, _, _, _ => none
theorem dX13_wrong_0 : decode cX13_wrong 0 = .ok (.aload_n 0, 1) := by decide +kernel
theorem dX13_wrong_1 : decode cX13_wrong 1 = .ok (.getfield 177, 3) := by decide +kernel
theorem dX13_wrong_4 : decode cX13_wrong 4 = .ok (.ifCond .ne 21, 3) := by decide +kernel
theorem dX13_wrong_7 : decode cX13_wrong 7 = .ok (.aload_n 0, 1) := by decide +kernel
theorem dX13_wrong_8 : decode cX13_wrong 8 = .ok (.iload_n 1, 1) := by decide +kernel
theorem dX13_wrong_9 : decode cX13_wrong 9 = .ok (.bipush 16, 2) := by decide +kernel
theorem dX13_wrong_11 : decode cX13_wrong 11 = .ok (.aload_n 0, 1) := by decide +kernel
theorem dX13_wrong_12 : decode cX13_wrong 12 = .ok (.getfield 27, 3) := by decide +kernel
theorem dX13_wrong_15 : decode cX13_wrong 15 = .ok (.aload_n 0, 1) := by decide +kernel
theorem dX13_wrong_16 : decode cX13_wrong 16 = .ok (.getfield 174, 3) := by decide +kernel
theorem dX13_wrong_19 : decode cX13_wrong 19 = .ok (.iaload, 1) := by decide +kernel
theorem dX13_wrong_20 : decode cX13_wrong 20 = .ok (.imul, 1) := by decide +kernel
theorem dX13_wrong_21 : decode cX13_wrong 21 = .ok (.iadd, 1) := by decide +kernel
theorem dX13_wrong_22 : decode cX13_wrong 22 = .ok (.putfield 177, 3) := by decide +kernel
theorem dX13_wrong_25 : decode cX13_wrong 25 = .ok (.return_, 1) := by decide +kernel
set_option maxHeartbeats 4000000 in
set_option maxRecDepth 100000 in
theorem B_X13_wrong {G : zG} {X : zX} {kd : kD} {N0 : Nat} (C : zCt G X 0 0 0 RX13 cX13_wrong 2) (hr : (zXh X).sig.returnType = none) : ∀ f : Nat,
    (∀ (S : aS) (v0 : Nat) (v1 : Int32) (res : Option Value × aS), zT0 kd N0 S → v0 < N0 → kd v0 = .inl 11 → F_X13_wrong f 0 [.ref v0, .int v1] S = some res → zV G X (zQX G X (zPo G kd N0 res) 0 0) 2 [some (.ref (zB G + v0)), some (.int v1)] [] (cn G kd N0 S) 0 0 0) ∧
    (∀ (S : aS)  (res : Option Value × aS), zT0 kd N0 S → F_X13_wrong f 1 [] S = some res → zV G X (zQX G X (zPo G kd N0 res) 0 0) 2 [none, none] [] (cn G kd N0 S) 25 0 0) := by
  intro f
  induction f with
  | zero => exact ⟨(fun _ _ _ _ _ _ _ h => by cases h), (fun _ _ _ h => by cases h)⟩
  | succ f ih =>
    obtain ⟨ih0, ih1⟩ := ih
    refine ⟨?_, ?_⟩
    · intro S v0 v1 res hT hpv0 hkv0 hF
      replace hF : F_X13_wrong_0 f (F_X13_wrong f) v0 v1 S = some res := hF
      unfold F_X13_wrong_0 at hF
      refine z_aload_n C dX13_wrong_0 rfl ?_
      refine f_geti C dX13_wrong_1 zfRX13_177 hpv0 hkv0 rfl ?_
      refine z_if_ne C 25 dX13_wrong_4 (by decide) (fun c3 => ?_) (fun c3 => ?_)
      · replace hF := im hF c3
        refine z_mask [false, false] ?_ rfl
        exact ih1 S  res hT  hF
      · replace hF := ip hF c3
        refine z_aload_n C dX13_wrong_7 rfl ?_
        refine z_iload_n C dX13_wrong_8 rfl ?_
        refine z_bipush (v := 16) C dX13_wrong_9 (by decide) ?_
        refine z_aload_n C dX13_wrong_11 rfl ?_
        refine f_getr C dX13_wrong_12 zfRX13_27 hpv0 hkv0 rfl ?_
        obtain ⟨hp4, hk4⟩ := hT.1 v0 11 5 (.inr (0, 1002)) hpv0 hkv0 rfl
        refine z_aload_n C dX13_wrong_15 rfl ?_
        refine f_geti C dX13_wrong_16 zfRX13_174 hpv0 hkv0 rfl ?_
        obtain ⟨hi5, hF⟩ := bX_some hF
        obtain ⟨q5, eq5⟩ : ∃ q : Nat, q = Int32.toNatClampNeg (gI S v0 7) := ⟨_, rfl⟩
        rw [← eq5] at hF
        refine f_iald C dX13_wrong_19 hp4 hk4 hi5 ?_
        rw [← eq5]
        refine z_imul C dX13_wrong_20 ?_
        refine z_iadd C dX13_wrong_21 ?_
        refine f_puti C dX13_wrong_22 zfRX13_177 fw11_8 hpv0 hkv0 rfl rfl rfl ?_
        have hT6 : zT0 kd N0 (sI S v0 8 (v1 + ((16 : Int32) * (gI S (gR S v0 5) q5)))) := zT0_sI hT
        replace hF := fS_e hF
        generalize sI S v0 8 (v1 + ((16 : Int32) * (gI S (gR S v0 5) q5))) = S6 at hF hT6 ⊢
        refine z_mask [false, false] ?_ rfl
        exact ih1 S6  res hT6  hF
    · intro S  res hT  hF
      replace hF : F_X13_wrong_1 f (F_X13_wrong f)  S = some res := hF
      unfold F_X13_wrong_1 at hF
      cases hF
      exact z_vret C hr dX13_wrong_25 ⟨rfl, rfl, hT⟩
theorem K_X13_wrong {G : zG} {l : Launch} {kd : kD} {N0 f : Nat} {S : aS} {v0 : Nat} {v1 : Int32} {res : Option Value × aS} (hT : zT0 kd N0 S) (hpv0 : v0 < N0) (hkv0 : kd v0 = .inl 11) (hF : F_X13_wrong f 0 [.ref v0, .int v1] S = some res) : zM G l 0 0 0 yX13_wrong cX13_wrong 2 none [.ref (zB G + v0), .int v1] (cn G kd N0 S) (zPo G kd N0 res) := zM.of (by decide) rfl (Nat.le_of_ble_eq_true rfl) (fun X _ C hr _ => (B_X13_wrong C hr f).1 S v0 v1 res hT hpv0 hkv0 hF)
def F_X13_isSign_0 (f : Nat) (rc : Nat → List Value → aS → aR) (v0 : Nat) (v1 : Int32) (S : aS) : aR :=
  if (gI S v0 8) = (0 : Int32) then bX (gI S v0 7) 1002 fun q5 => if (gI S (gR S v0 4) q5) = (3 : Int32) then bX (gI S v0 7) 1002 fun q10 => bZ (if (lg_cmp (gJ S (gR S v0 6) q10) (Int32.toInt64 v1)) = (0 : Int32) then (1 : Int32) else (0 : Int32)) (some (some (.int (if (lg_cmp (gJ S (gR S v0 6) q10) (Int32.toInt64 v1)) = (0 : Int32) then (1 : Int32) else (0 : Int32))), S)) else rc 1 [] S else rc 1 [] S
def F_X13_isSign_1 (f : Nat) (rc : Nat → List Value → aS → aR)  (S : aS) : aR :=
  rc 2 [.int 0] S
def F_X13_isSign_2 (f : Nat) (rc : Nat → List Value → aS → aR) (w0 : Int32) (S : aS) : aR :=
  bZ w0 (some (some (.int w0), S))
def F_X13_isSign : Nat → Nat → List Value → aS → aR
  | 0, _, _, _ => none
  | f + 1, 0, vs, S => F_X13_isSign_0 f (F_X13_isSign f) (vR vs 0) (vI vs 1) S
  | f + 1, 1, vs, S => F_X13_isSign_1 f (F_X13_isSign f)  S
  | f + 1, 2, vs, S => F_X13_isSign_2 f (F_X13_isSign f) (vI vs 0) S
  | _ + 1, _, _, _ => none
theorem dX13_isSign_0 : decode cX13_isSign 0 = .ok (.aload_n 0, 1) := by decide +kernel
theorem dX13_isSign_1 : decode cX13_isSign 1 = .ok (.getfield 177, 3) := by decide +kernel
theorem dX13_isSign_4 : decode cX13_isSign 4 = .ok (.ifCond .ne 35, 3) := by decide +kernel
theorem dX13_isSign_7 : decode cX13_isSign 7 = .ok (.aload_n 0, 1) := by decide +kernel
theorem dX13_isSign_8 : decode cX13_isSign 8 = .ok (.getfield 24, 3) := by decide +kernel
theorem dX13_isSign_11 : decode cX13_isSign 11 = .ok (.aload_n 0, 1) := by decide +kernel
theorem dX13_isSign_12 : decode cX13_isSign 12 = .ok (.getfield 174, 3) := by decide +kernel
theorem dX13_isSign_15 : decode cX13_isSign 15 = .ok (.iaload, 1) := by decide +kernel
theorem dX13_isSign_16 : decode cX13_isSign 16 = .ok (.iconst 3, 1) := by decide +kernel
theorem dX13_isSign_17 : decode cX13_isSign 17 = .ok (.if_icmp .ne 22, 3) := by decide +kernel
theorem dX13_isSign_20 : decode cX13_isSign 20 = .ok (.aload_n 0, 1) := by decide +kernel
theorem dX13_isSign_21 : decode cX13_isSign 21 = .ok (.getfield 30, 3) := by decide +kernel
theorem dX13_isSign_24 : decode cX13_isSign 24 = .ok (.aload_n 0, 1) := by decide +kernel
theorem dX13_isSign_25 : decode cX13_isSign 25 = .ok (.getfield 174, 3) := by decide +kernel
theorem dX13_isSign_28 : decode cX13_isSign 28 = .ok (.laload, 1) := by decide +kernel
theorem dX13_isSign_29 : decode cX13_isSign 29 = .ok (.iload_n 1, 1) := by decide +kernel
theorem dX13_isSign_30 : decode cX13_isSign 30 = .ok (.i2l, 1) := by decide +kernel
theorem dX13_isSign_31 : decode cX13_isSign 31 = .ok (.lcmp, 1) := by decide +kernel
theorem dX13_isSign_32 : decode cX13_isSign 32 = .ok (.ifCond .ne 7, 3) := by decide +kernel
theorem dX13_isSign_35 : decode cX13_isSign 35 = .ok (.iconst 1, 1) := by decide +kernel
theorem dX13_isSign_36 : decode cX13_isSign 36 = .ok (.goto 4, 3) := by decide +kernel
theorem dX13_isSign_39 : decode cX13_isSign 39 = .ok (.iconst 0, 1) := by decide +kernel
theorem dX13_isSign_40 : decode cX13_isSign 40 = .ok (.ireturn, 1) := by decide +kernel
set_option maxHeartbeats 4000000 in
set_option maxRecDepth 100000 in
theorem B_X13_isSign {G : zG} {X : zX} {kd : kD} {N0 : Nat} (C : zCt G X 0 0 0 RX13 cX13_isSign 2) (hr : (zXh X).sig.returnType = (some .boolean)) : ∀ f : Nat,
    (∀ (S : aS) (v0 : Nat) (v1 : Int32) (res : Option Value × aS), zT0 kd N0 S → v0 < N0 → kd v0 = .inl 11 → F_X13_isSign f 0 [.ref v0, .int v1] S = some res → zV G X (zQX G X (zPo G kd N0 res) 0 0) 2 [some (.ref (zB G + v0)), some (.int v1)] [] (cn G kd N0 S) 0 0 0) ∧
    (∀ (S : aS)  (res : Option Value × aS), zT0 kd N0 S → F_X13_isSign f 1 [] S = some res → zV G X (zQX G X (zPo G kd N0 res) 0 0) 2 [none, none] [] (cn G kd N0 S) 39 0 0) ∧
    (∀ (S : aS) (w0 : Int32) (res : Option Value × aS), zT0 kd N0 S → F_X13_isSign f 2 [.int w0] S = some res → zV G X (zQX G X (zPo G kd N0 res) 0 0) 2 [none, none] [.int w0] (cn G kd N0 S) 40 0 0) := by
  intro f
  induction f with
  | zero => exact ⟨(fun _ _ _ _ _ _ _ h => by cases h), (fun _ _ _ h => by cases h), (fun _ _ _ _ h => by cases h)⟩
  | succ f ih =>
    obtain ⟨ih0, ih1, ih2⟩ := ih
    refine ⟨?_, ?_, ?_⟩
    · intro S v0 v1 res hT hpv0 hkv0 hF
      replace hF : F_X13_isSign_0 f (F_X13_isSign f) v0 v1 S = some res := hF
      unfold F_X13_isSign_0 at hF
      refine z_aload_n C dX13_isSign_0 rfl ?_
      refine f_geti C dX13_isSign_1 zfRX13_177 hpv0 hkv0 rfl ?_
      refine z_if_ne C 39 dX13_isSign_4 (by decide) (fun c3 => ?_) (fun c3 => ?_)
      · replace hF := im hF c3
        refine z_mask [false, false] ?_ rfl
        exact ih1 S  res hT  hF
      · replace hF := ip hF c3
        refine z_aload_n C dX13_isSign_7 rfl ?_
        refine f_getr C dX13_isSign_8 zfRX13_24 hpv0 hkv0 rfl ?_
        obtain ⟨hp4, hk4⟩ := hT.1 v0 11 4 (.inr (0, 1002)) hpv0 hkv0 rfl
        refine z_aload_n C dX13_isSign_11 rfl ?_
        refine f_geti C dX13_isSign_12 zfRX13_174 hpv0 hkv0 rfl ?_
        obtain ⟨hi5, hF⟩ := bX_some hF
        obtain ⟨q5, eq5⟩ : ∃ q : Nat, q = Int32.toNatClampNeg (gI S v0 7) := ⟨_, rfl⟩
        rw [← eq5] at hF
        refine f_iald C dX13_isSign_15 hp4 hk4 hi5 ?_
        rw [← eq5]
        refine z_iconst (v := 3) C dX13_isSign_16 (by decide) ?_
        refine z_icmp_ne C 39 dX13_isSign_17 (by decide) (fun c8 => ?_) (fun c8 => ?_)
        · replace hF := im hF c8
          refine z_mask [false, false] ?_ rfl
          exact ih1 S  res hT  hF
        · replace hF := ip hF c8
          refine z_aload_n C dX13_isSign_20 rfl ?_
          refine f_getr C dX13_isSign_21 zfRX13_30 hpv0 hkv0 rfl ?_
          obtain ⟨hp9, hk9⟩ := hT.1 v0 11 6 (.inr (1, 1002)) hpv0 hkv0 rfl
          refine z_aload_n C dX13_isSign_24 rfl ?_
          refine f_geti C dX13_isSign_25 zfRX13_174 hpv0 hkv0 rfl ?_
          obtain ⟨hi10, hF⟩ := bX_some hF
          obtain ⟨q10, eq10⟩ : ∃ q : Nat, q = Int32.toNatClampNeg (gI S v0 7) := ⟨_, rfl⟩
          rw [← eq10] at hF
          refine f_lald C dX13_isSign_28 hp9 hk9 hi10 ?_
          rw [← eq10]
          refine z_iload_n C dX13_isSign_29 rfl ?_
          refine z_i2l C dX13_isSign_30 ?_
          refine z_lcmp C dX13_isSign_31 ?_
          have hJ12 : zV G X (zQX G X (zPo G kd N0 res) 0 0) 2 [some (.ref (zB G + v0)), some (.int v1)] [.int (if (lg_cmp (gJ S (gR S v0 6) q10) (Int32.toInt64 v1)) = (0 : Int32) then (1 : Int32) else (0 : Int32))] (cn G kd N0 S) 40 0 0 := by
            obtain ⟨hz, hF⟩ := bZ_some hF
            cases hF
            exact z_zret C hr hz.1 dX13_isSign_40 ⟨rfl, rfl, hT⟩
          refine z_if_ne C 39 dX13_isSign_32 (by decide) (fun c11 => ?_) (fun c11 => ?_)
          · refine z_iconst (v := 0) C dX13_isSign_39 (by decide) ?_
            exact zV.at hJ12 (by first | rfl | contradiction | (simp only [if_neg c11]; done)) (by first | rfl | contradiction | (simp only [if_neg c11]; done)) rfl rfl
          · refine z_iconst (v := 1) C dX13_isSign_35 (by decide) ?_
            refine z_goto C 40 dX13_isSign_36 (by decide) ?_
            exact zV.at hJ12 (by first | rfl | contradiction | (simp only [if_pos c11]; done)) (by first | rfl | contradiction | (simp only [if_pos c11]; done)) rfl rfl
    · intro S  res hT  hF
      replace hF : F_X13_isSign_1 f (F_X13_isSign f)  S = some res := hF
      unfold F_X13_isSign_1 at hF
      refine z_iconst (v := 0) C dX13_isSign_39 (by decide) ?_
      exact ih2 S 0 res hT  hF
    · intro S w0 res hT  hF
      replace hF : F_X13_isSign_2 f (F_X13_isSign f) w0 S = some res := hF
      unfold F_X13_isSign_2 at hF
      obtain ⟨hz, hF⟩ := bZ_some hF
      cases hF
      exact z_zret C hr hz.1 dX13_isSign_40 ⟨rfl, rfl, hT⟩
theorem K_X13_isSign {G : zG} {l : Launch} {kd : kD} {N0 f : Nat} {S : aS} {v0 : Nat} {v1 : Int32} {res : Option Value × aS} (hT : zT0 kd N0 S) (hpv0 : v0 < N0) (hkv0 : kd v0 = .inl 11) (hF : F_X13_isSign f 0 [.ref v0, .int v1] S = some res) : zM G l 0 0 0 yX13_isSign cX13_isSign 2 (some .boolean) [.ref (zB G + v0), .int v1] (cn G kd N0 S) (zPo G kd N0 res) := zM.of (by decide) rfl (Nat.le_of_ble_eq_true rfl) (fun X _ C hr _ => (B_X13_isSign C hr f).1 S v0 v1 res hT hpv0 hkv0 hF)
def F_X13_isWord_0 (f : Nat) (rc : Nat → List Value → aS → aR) (v0 : Nat) (v1 : Int32) (S : aS) : aR :=
  if (gI S v0 8) = (0 : Int32) then bX (gI S v0 7) 1002 fun q5 => if (gI S (gR S v0 4) q5) = (1 : Int32) then bX (gI S v0 7) 1002 fun q10 => bX v1 29 fun q12 => bZ (if (lg_cmp (gJ S (gR S v0 6) q10) (gJ S (gR S v0 9) q12)) = (0 : Int32) then (1 : Int32) else (0 : Int32)) (some (some (.int (if (lg_cmp (gJ S (gR S v0 6) q10) (gJ S (gR S v0 9) q12)) = (0 : Int32) then (1 : Int32) else (0 : Int32))), S)) else rc 1 [] S else rc 1 [] S
def F_X13_isWord_1 (f : Nat) (rc : Nat → List Value → aS → aR)  (S : aS) : aR :=
  rc 2 [.int 0] S
def F_X13_isWord_2 (f : Nat) (rc : Nat → List Value → aS → aR) (w0 : Int32) (S : aS) : aR :=
  bZ w0 (some (some (.int w0), S))
def F_X13_isWord : Nat → Nat → List Value → aS → aR
  | 0, _, _, _ => none
  | f + 1, 0, vs, S => F_X13_isWord_0 f (F_X13_isWord f) (vR vs 0) (vI vs 1) S
  | f + 1, 1, vs, S => F_X13_isWord_1 f (F_X13_isWord f)  S
  | f + 1, 2, vs, S => F_X13_isWord_2 f (F_X13_isWord f) (vI vs 0) S
  | _ + 1, _, _, _ => none
theorem dX13_isWord_0 : decode cX13_isWord 0 = .ok (.aload_n 0, 1) := by decide +kernel
theorem dX13_isWord_1 : decode cX13_isWord 1 = .ok (.getfield 177, 3) := by decide +kernel
theorem dX13_isWord_4 : decode cX13_isWord 4 = .ok (.ifCond .ne 39, 3) := by decide +kernel
theorem dX13_isWord_7 : decode cX13_isWord 7 = .ok (.aload_n 0, 1) := by decide +kernel
theorem dX13_isWord_8 : decode cX13_isWord 8 = .ok (.getfield 24, 3) := by decide +kernel
theorem dX13_isWord_11 : decode cX13_isWord 11 = .ok (.aload_n 0, 1) := by decide +kernel
theorem dX13_isWord_12 : decode cX13_isWord 12 = .ok (.getfield 174, 3) := by decide +kernel
theorem dX13_isWord_15 : decode cX13_isWord 15 = .ok (.iaload, 1) := by decide +kernel
theorem dX13_isWord_16 : decode cX13_isWord 16 = .ok (.iconst 1, 1) := by decide +kernel
theorem dX13_isWord_17 : decode cX13_isWord 17 = .ok (.if_icmp .ne 26, 3) := by decide +kernel
theorem dX13_isWord_20 : decode cX13_isWord 20 = .ok (.aload_n 0, 1) := by decide +kernel
theorem dX13_isWord_21 : decode cX13_isWord 21 = .ok (.getfield 30, 3) := by decide +kernel
theorem dX13_isWord_24 : decode cX13_isWord 24 = .ok (.aload_n 0, 1) := by decide +kernel
theorem dX13_isWord_25 : decode cX13_isWord 25 = .ok (.getfield 174, 3) := by decide +kernel
theorem dX13_isWord_28 : decode cX13_isWord 28 = .ok (.laload, 1) := by decide +kernel
theorem dX13_isWord_29 : decode cX13_isWord 29 = .ok (.aload_n 0, 1) := by decide +kernel
theorem dX13_isWord_30 : decode cX13_isWord 30 = .ok (.getfield 92, 3) := by decide +kernel
theorem dX13_isWord_33 : decode cX13_isWord 33 = .ok (.iload_n 1, 1) := by decide +kernel
theorem dX13_isWord_34 : decode cX13_isWord 34 = .ok (.laload, 1) := by decide +kernel
theorem dX13_isWord_35 : decode cX13_isWord 35 = .ok (.lcmp, 1) := by decide +kernel
theorem dX13_isWord_36 : decode cX13_isWord 36 = .ok (.ifCond .ne 7, 3) := by decide +kernel
theorem dX13_isWord_39 : decode cX13_isWord 39 = .ok (.iconst 1, 1) := by decide +kernel
theorem dX13_isWord_40 : decode cX13_isWord 40 = .ok (.goto 4, 3) := by decide +kernel
theorem dX13_isWord_43 : decode cX13_isWord 43 = .ok (.iconst 0, 1) := by decide +kernel
theorem dX13_isWord_44 : decode cX13_isWord 44 = .ok (.ireturn, 1) := by decide +kernel
set_option maxHeartbeats 4000000 in
set_option maxRecDepth 100000 in
theorem B_X13_isWord {G : zG} {X : zX} {kd : kD} {N0 : Nat} (C : zCt G X 0 0 0 RX13 cX13_isWord 2) (hr : (zXh X).sig.returnType = (some .boolean)) : ∀ f : Nat,
    (∀ (S : aS) (v0 : Nat) (v1 : Int32) (res : Option Value × aS), zT0 kd N0 S → v0 < N0 → kd v0 = .inl 11 → F_X13_isWord f 0 [.ref v0, .int v1] S = some res → zV G X (zQX G X (zPo G kd N0 res) 0 0) 2 [some (.ref (zB G + v0)), some (.int v1)] [] (cn G kd N0 S) 0 0 0) ∧
    (∀ (S : aS)  (res : Option Value × aS), zT0 kd N0 S → F_X13_isWord f 1 [] S = some res → zV G X (zQX G X (zPo G kd N0 res) 0 0) 2 [none, none] [] (cn G kd N0 S) 43 0 0) ∧
    (∀ (S : aS) (w0 : Int32) (res : Option Value × aS), zT0 kd N0 S → F_X13_isWord f 2 [.int w0] S = some res → zV G X (zQX G X (zPo G kd N0 res) 0 0) 2 [none, none] [.int w0] (cn G kd N0 S) 44 0 0) := by
  intro f
  induction f with
  | zero => exact ⟨(fun _ _ _ _ _ _ _ h => by cases h), (fun _ _ _ h => by cases h), (fun _ _ _ _ h => by cases h)⟩
  | succ f ih =>
    obtain ⟨ih0, ih1, ih2⟩ := ih
    refine ⟨?_, ?_, ?_⟩
    · intro S v0 v1 res hT hpv0 hkv0 hF
      replace hF : F_X13_isWord_0 f (F_X13_isWord f) v0 v1 S = some res := hF
      unfold F_X13_isWord_0 at hF
      refine z_aload_n C dX13_isWord_0 rfl ?_
      refine f_geti C dX13_isWord_1 zfRX13_177 hpv0 hkv0 rfl ?_
      refine z_if_ne C 43 dX13_isWord_4 (by decide) (fun c3 => ?_) (fun c3 => ?_)
      · replace hF := im hF c3
        refine z_mask [false, false] ?_ rfl
        exact ih1 S  res hT  hF
      · replace hF := ip hF c3
        refine z_aload_n C dX13_isWord_7 rfl ?_
        refine f_getr C dX13_isWord_8 zfRX13_24 hpv0 hkv0 rfl ?_
        obtain ⟨hp4, hk4⟩ := hT.1 v0 11 4 (.inr (0, 1002)) hpv0 hkv0 rfl
        refine z_aload_n C dX13_isWord_11 rfl ?_
        refine f_geti C dX13_isWord_12 zfRX13_174 hpv0 hkv0 rfl ?_
        obtain ⟨hi5, hF⟩ := bX_some hF
        obtain ⟨q5, eq5⟩ : ∃ q : Nat, q = Int32.toNatClampNeg (gI S v0 7) := ⟨_, rfl⟩
        rw [← eq5] at hF
        refine f_iald C dX13_isWord_15 hp4 hk4 hi5 ?_
        rw [← eq5]
        refine z_iconst (v := 1) C dX13_isWord_16 (by decide) ?_
        refine z_icmp_ne C 43 dX13_isWord_17 (by decide) (fun c8 => ?_) (fun c8 => ?_)
        · replace hF := im hF c8
          refine z_mask [false, false] ?_ rfl
          exact ih1 S  res hT  hF
        · replace hF := ip hF c8
          refine z_aload_n C dX13_isWord_20 rfl ?_
          refine f_getr C dX13_isWord_21 zfRX13_30 hpv0 hkv0 rfl ?_
          obtain ⟨hp9, hk9⟩ := hT.1 v0 11 6 (.inr (1, 1002)) hpv0 hkv0 rfl
          refine z_aload_n C dX13_isWord_24 rfl ?_
          refine f_geti C dX13_isWord_25 zfRX13_174 hpv0 hkv0 rfl ?_
          obtain ⟨hi10, hF⟩ := bX_some hF
          obtain ⟨q10, eq10⟩ : ∃ q : Nat, q = Int32.toNatClampNeg (gI S v0 7) := ⟨_, rfl⟩
          rw [← eq10] at hF
          refine f_lald C dX13_isWord_28 hp9 hk9 hi10 ?_
          rw [← eq10]
          refine z_aload_n C dX13_isWord_29 rfl ?_
          refine f_getr C dX13_isWord_30 zfRX13_92 hpv0 hkv0 rfl ?_
          obtain ⟨hp11, hk11⟩ := hT.1 v0 11 9 (.inr (1, 29)) hpv0 hkv0 rfl
          refine z_iload_n C dX13_isWord_33 rfl ?_
          obtain ⟨hi12, hF⟩ := bX_some hF
          obtain ⟨q12, eq12⟩ : ∃ q : Nat, q = Int32.toNatClampNeg v1 := ⟨_, rfl⟩
          rw [← eq12] at hF
          refine f_lald C dX13_isWord_34 hp11 hk11 hi12 ?_
          rw [← eq12]
          refine z_lcmp C dX13_isWord_35 ?_
          have hJ14 : zV G X (zQX G X (zPo G kd N0 res) 0 0) 2 [some (.ref (zB G + v0)), some (.int v1)] [.int (if (lg_cmp (gJ S (gR S v0 6) q10) (gJ S (gR S v0 9) q12)) = (0 : Int32) then (1 : Int32) else (0 : Int32))] (cn G kd N0 S) 44 0 0 := by
            obtain ⟨hz, hF⟩ := bZ_some hF
            cases hF
            exact z_zret C hr hz.1 dX13_isWord_44 ⟨rfl, rfl, hT⟩
          refine z_if_ne C 43 dX13_isWord_36 (by decide) (fun c13 => ?_) (fun c13 => ?_)
          · refine z_iconst (v := 0) C dX13_isWord_43 (by decide) ?_
            exact zV.at hJ14 (by first | rfl | contradiction | (simp only [if_neg c13]; done)) (by first | rfl | contradiction | (simp only [if_neg c13]; done)) rfl rfl
          · refine z_iconst (v := 1) C dX13_isWord_39 (by decide) ?_
            refine z_goto C 44 dX13_isWord_40 (by decide) ?_
            exact zV.at hJ14 (by first | rfl | contradiction | (simp only [if_pos c13]; done)) (by first | rfl | contradiction | (simp only [if_pos c13]; done)) rfl rfl
    · intro S  res hT  hF
      replace hF : F_X13_isWord_1 f (F_X13_isWord f)  S = some res := hF
      unfold F_X13_isWord_1 at hF
      refine z_iconst (v := 0) C dX13_isWord_43 (by decide) ?_
      exact ih2 S 0 res hT  hF
    · intro S w0 res hT  hF
      replace hF : F_X13_isWord_2 f (F_X13_isWord f) w0 S = some res := hF
      unfold F_X13_isWord_2 at hF
      obtain ⟨hz, hF⟩ := bZ_some hF
      cases hF
      exact z_zret C hr hz.1 dX13_isWord_44 ⟨rfl, rfl, hT⟩
theorem K_X13_isWord {G : zG} {l : Launch} {kd : kD} {N0 f : Nat} {S : aS} {v0 : Nat} {v1 : Int32} {res : Option Value × aS} (hT : zT0 kd N0 S) (hpv0 : v0 < N0) (hkv0 : kd v0 = .inl 11) (hF : F_X13_isWord f 0 [.ref v0, .int v1] S = some res) : zM G l 0 0 0 yX13_isWord cX13_isWord 2 (some .boolean) [.ref (zB G + v0), .int v1] (cn G kd N0 S) (zPo G kd N0 res) := zM.of (by decide) rfl (Nat.le_of_ble_eq_true rfl) (fun X _ C hr _ => (B_X13_isWord C hr f).1 S v0 v1 res hT hpv0 hkv0 hF)
def F_X13_takeSign_0 (f : Nat) (rc : Nat → List Value → aS → aR) (v0 : Nat) (v1 : Int32) (S : aS) : aR :=
  bI (F_X13_isSign f 0 [.ref v0, .int v1] S) fun x1 S1 => if x1 = (0 : Int32) then bV (F_X13_wrong f 0 [.ref v0, .int 1] S1) fun S4 => rc 1 [] S4 else fS (sI S1 v0 7 ((gI S1 v0 7) + (1 : Int32))) fun S5 => rc 1 [] S5
def F_X13_takeSign_1 (f : Nat) (rc : Nat → List Value → aS → aR)  (S : aS) : aR :=
  some (none, S)
def F_X13_takeSign : Nat → Nat → List Value → aS → aR
  | 0, _, _, _ => none
  | f + 1, 0, vs, S => F_X13_takeSign_0 f (F_X13_takeSign f) (vR vs 0) (vI vs 1) S
  | f + 1, 1, vs, S => F_X13_takeSign_1 f (F_X13_takeSign f)  S
  | _ + 1, _, _, _ => none
theorem dX13_takeSign_0 : decode cX13_takeSign 0 = .ok (.aload_n 0, 1) := by decide +kernel
theorem dX13_takeSign_1 : decode cX13_takeSign 1 = .ok (.iload_n 1, 1) := by decide +kernel
theorem dX13_takeSign_2 : decode cX13_takeSign 2 = .ok (.invokevirtual 180, 3) := by decide +kernel
theorem dX13_takeSign_5 : decode cX13_takeSign 5 = .ok (.ifCond .eq 16, 3) := by decide +kernel
theorem dX13_takeSign_8 : decode cX13_takeSign 8 = .ok (.aload_n 0, 1) := by decide +kernel
theorem dX13_takeSign_9 : decode cX13_takeSign 9 = .ok (.dup, 1) := by decide +kernel
theorem dX13_takeSign_10 : decode cX13_takeSign 10 = .ok (.getfield 174, 3) := by decide +kernel
theorem dX13_takeSign_13 : decode cX13_takeSign 13 = .ok (.iconst 1, 1) := by decide +kernel
theorem dX13_takeSign_14 : decode cX13_takeSign 14 = .ok (.iadd, 1) := by decide +kernel
theorem dX13_takeSign_15 : decode cX13_takeSign 15 = .ok (.putfield 174, 3) := by decide +kernel
theorem dX13_takeSign_18 : decode cX13_takeSign 18 = .ok (.goto 8, 3) := by decide +kernel
theorem dX13_takeSign_21 : decode cX13_takeSign 21 = .ok (.aload_n 0, 1) := by decide +kernel
theorem dX13_takeSign_22 : decode cX13_takeSign 22 = .ok (.iconst 1, 1) := by decide +kernel
theorem dX13_takeSign_23 : decode cX13_takeSign 23 = .ok (.invokevirtual 183, 3) := by decide +kernel
theorem dX13_takeSign_26 : decode cX13_takeSign 26 = .ok (.return_, 1) := by decide +kernel
set_option maxHeartbeats 4000000 in
set_option maxRecDepth 100000 in
theorem B_X13_takeSign {G : zG} {X : zX} {kd : kD} {N0 : Nat} (C : zCt G X 1 0 0 RX13 cX13_takeSign 2) (hr : (zXh X).sig.returnType = none) : ∀ f : Nat,
    (∀ (S : aS) (v0 : Nat) (v1 : Int32) (res : Option Value × aS), zT0 kd N0 S → v0 < N0 → kd v0 = .inl 11 → F_X13_takeSign f 0 [.ref v0, .int v1] S = some res → zV G X (zQX G X (zPo G kd N0 res) 0 0) 2 [some (.ref (zB G + v0)), some (.int v1)] [] (cn G kd N0 S) 0 0 0) ∧
    (∀ (S : aS)  (res : Option Value × aS), zT0 kd N0 S → F_X13_takeSign f 1 [] S = some res → zV G X (zQX G X (zPo G kd N0 res) 0 0) 2 [none, none] [] (cn G kd N0 S) 26 0 0) := by
  intro f
  induction f with
  | zero => exact ⟨(fun _ _ _ _ _ _ _ h => by cases h), (fun _ _ _ h => by cases h)⟩
  | succ f ih =>
    obtain ⟨ih0, ih1⟩ := ih
    refine ⟨?_, ?_⟩
    · intro S v0 v1 res hT hpv0 hkv0 hF
      replace hF : F_X13_takeSign_0 f (F_X13_takeSign f) v0 v1 S = some res := hF
      unfold F_X13_takeSign_0 at hF
      refine z_aload_n C dX13_takeSign_0 rfl ?_
      refine z_iload_n C dX13_takeSign_1 rfl ?_
      obtain ⟨x1, S1, h1, hF⟩ := bI_some hF
      refine f_cV (st2 := [.int x1]) C dX13_takeSign_2 zyX13_isSign zvX13_isSign lkRX13_180 (K_X13_isSign (l := zXl X) hT hpv0 hkv0  h1) hpv0 hkv0 rfl (by decide) rfl rfl (Nat.le_of_ble_eq_true rfl) rfl (fun hT1 => ?_)
      refine z_if_eq C 21 dX13_takeSign_5 (by decide) (fun c3 => ?_) (fun c3 => ?_)
      · replace hF := ip hF c3
        refine z_aload_n C dX13_takeSign_21 rfl ?_
        refine z_iconst (v := 1) C dX13_takeSign_22 (by decide) ?_
        obtain ⟨S4, h4, hF⟩ := bV_some hF
        refine f_cV (st2 := []) C dX13_takeSign_23 zyX13_wrong zvX13_wrong lkRX13_183 (K_X13_wrong (l := zXl X) hT1 hpv0 hkv0  h4) hpv0 hkv0 rfl (by decide) rfl rfl (Nat.le_of_ble_eq_true rfl) rfl (fun hT4 => ?_)
        refine z_mask [false, false] ?_ rfl
        exact ih1 S4  res hT4  hF
      · replace hF := im hF c3
        refine z_aload_n C dX13_takeSign_8 rfl ?_
        refine z_dup C dX13_takeSign_9 rfl ?_
        refine f_geti C dX13_takeSign_10 zfRX13_174 hpv0 hkv0 rfl ?_
        refine z_iconst (v := 1) C dX13_takeSign_13 (by decide) ?_
        refine z_iadd C dX13_takeSign_14 ?_
        refine f_puti C dX13_takeSign_15 zfRX13_174 fw11_7 hpv0 hkv0 rfl rfl rfl ?_
        have hT5 : zT0 kd N0 (sI S1 v0 7 ((gI S1 v0 7) + (1 : Int32))) := zT0_sI hT1
        replace hF := fS_e hF
        generalize sI S1 v0 7 ((gI S1 v0 7) + (1 : Int32)) = S5 at hF hT5 ⊢
        refine z_goto C 26 dX13_takeSign_18 (by decide) ?_
        refine z_mask [false, false] ?_ rfl
        exact ih1 S5  res hT5  hF
    · intro S  res hT  hF
      replace hF : F_X13_takeSign_1 f (F_X13_takeSign f)  S = some res := hF
      unfold F_X13_takeSign_1 at hF
      cases hF
      exact z_vret C hr dX13_takeSign_26 ⟨rfl, rfl, hT⟩
theorem K_X13_takeSign {G : zG} {l : Launch} {kd : kD} {N0 f : Nat} {S : aS} {v0 : Nat} {v1 : Int32} {res : Option Value × aS} (hT : zT0 kd N0 S) (hpv0 : v0 < N0) (hkv0 : kd v0 = .inl 11) (hF : F_X13_takeSign f 0 [.ref v0, .int v1] S = some res) : zM G l 1 0 0 yX13_takeSign cX13_takeSign 2 none [.ref (zB G + v0), .int v1] (cn G kd N0 S) (zPo G kd N0 res) := zM.of (by decide) rfl (Nat.le_of_ble_eq_true rfl) (fun X _ C hr _ => (B_X13_takeSign C hr f).1 S v0 v1 res hT hpv0 hkv0 hF)
def F_X13_hasSign_0 (f : Nat) (rc : Nat → List Value → aS → aR) (v0 : Nat) (v1 : Int32) (S : aS) : aR :=
  bI (F_X13_isSign f 0 [.ref v0, .int v1] S) fun x1 S1 => fS (sI S1 v0 7 ((gI S1 v0 7) + (if x1 = (0 : Int32) then (0 : Int32) else (1 : Int32)))) fun S4 => bZ x1 (some (some (.int x1), S4))
def F_X13_hasSign : Nat → Nat → List Value → aS → aR
  | 0, _, _, _ => none
  | f + 1, 0, vs, S => F_X13_hasSign_0 f (F_X13_hasSign f) (vR vs 0) (vI vs 1) S
  | _ + 1, _, _, _ => none
theorem dX13_hasSign_0 : decode cX13_hasSign 0 = .ok (.aload_n 0, 1) := by decide +kernel
theorem dX13_hasSign_1 : decode cX13_hasSign 1 = .ok (.iload_n 1, 1) := by decide +kernel
theorem dX13_hasSign_2 : decode cX13_hasSign 2 = .ok (.invokevirtual 180, 3) := by decide +kernel
theorem dX13_hasSign_5 : decode cX13_hasSign 5 = .ok (.istore_n 2, 1) := by decide +kernel
theorem dX13_hasSign_6 : decode cX13_hasSign 6 = .ok (.aload_n 0, 1) := by decide +kernel
theorem dX13_hasSign_7 : decode cX13_hasSign 7 = .ok (.dup, 1) := by decide +kernel
theorem dX13_hasSign_8 : decode cX13_hasSign 8 = .ok (.getfield 174, 3) := by decide +kernel
theorem dX13_hasSign_11 : decode cX13_hasSign 11 = .ok (.iload_n 2, 1) := by decide +kernel
theorem dX13_hasSign_12 : decode cX13_hasSign 12 = .ok (.ifCond .eq 7, 3) := by decide +kernel
theorem dX13_hasSign_15 : decode cX13_hasSign 15 = .ok (.iconst 1, 1) := by decide +kernel
theorem dX13_hasSign_16 : decode cX13_hasSign 16 = .ok (.goto 4, 3) := by decide +kernel
theorem dX13_hasSign_19 : decode cX13_hasSign 19 = .ok (.iconst 0, 1) := by decide +kernel
theorem dX13_hasSign_20 : decode cX13_hasSign 20 = .ok (.iadd, 1) := by decide +kernel
theorem dX13_hasSign_21 : decode cX13_hasSign 21 = .ok (.putfield 174, 3) := by decide +kernel
theorem dX13_hasSign_24 : decode cX13_hasSign 24 = .ok (.iload_n 2, 1) := by decide +kernel
theorem dX13_hasSign_25 : decode cX13_hasSign 25 = .ok (.ireturn, 1) := by decide +kernel
set_option maxHeartbeats 4000000 in
set_option maxRecDepth 100000 in
theorem B_X13_hasSign {G : zG} {X : zX} {kd : kD} {N0 : Nat} (C : zCt G X 1 0 0 RX13 cX13_hasSign 3) (hr : (zXh X).sig.returnType = (some .boolean)) : ∀ f : Nat,
    (∀ (S : aS) (v0 : Nat) (v1 : Int32) (res : Option Value × aS), zT0 kd N0 S → v0 < N0 → kd v0 = .inl 11 → F_X13_hasSign f 0 [.ref v0, .int v1] S = some res → zV G X (zQX G X (zPo G kd N0 res) 0 0) 3 [some (.ref (zB G + v0)), some (.int v1), none] [] (cn G kd N0 S) 0 0 0) := by
  intro f
  induction f with
  | zero => exact (fun _ _ _ _ _ _ _ h => by cases h)
  | succ f ih =>
    have ih0 := ih
    intro S v0 v1 res hT hpv0 hkv0 hF
    replace hF : F_X13_hasSign_0 f (F_X13_hasSign f) v0 v1 S = some res := hF
    unfold F_X13_hasSign_0 at hF
    refine z_aload_n C dX13_hasSign_0 rfl ?_
    refine z_iload_n C dX13_hasSign_1 rfl ?_
    obtain ⟨x1, S1, h1, hF⟩ := bI_some hF
    refine f_cV (st2 := [.int x1]) C dX13_hasSign_2 zyX13_isSign zvX13_isSign lkRX13_180 (K_X13_isSign (l := zXl X) hT hpv0 hkv0  h1) hpv0 hkv0 rfl (by decide) rfl rfl (Nat.le_of_ble_eq_true rfl) rfl (fun hT1 => ?_)
    refine z_istore_n (lv2 := [some (.ref (zB G + v0)), some (.int v1), some (.int x1)]) C dX13_hasSign_5 (by decide) rfl ?_
    refine z_aload_n C dX13_hasSign_6 rfl ?_
    refine z_dup C dX13_hasSign_7 rfl ?_
    refine f_geti C dX13_hasSign_8 zfRX13_174 hpv0 hkv0 rfl ?_
    refine z_iload_n C dX13_hasSign_11 rfl ?_
    have hJ3 : zV G X (zQX G X (zPo G kd N0 res) 0 0) 3 [some (.ref (zB G + v0)), some (.int v1), some (.int x1)] [.int (if x1 = (0 : Int32) then (0 : Int32) else (1 : Int32)), .int (gI S1 v0 7), .ref (zB G + v0)] (cn G kd N0 S1) 20 0 0 := by
      refine z_iadd C dX13_hasSign_20 ?_
      refine f_puti C dX13_hasSign_21 zfRX13_174 fw11_7 hpv0 hkv0 rfl rfl rfl ?_
      have hT4 : zT0 kd N0 (sI S1 v0 7 ((gI S1 v0 7) + (if x1 = (0 : Int32) then (0 : Int32) else (1 : Int32)))) := zT0_sI hT1
      replace hF := fS_e hF
      generalize sI S1 v0 7 ((gI S1 v0 7) + (if x1 = (0 : Int32) then (0 : Int32) else (1 : Int32))) = S4 at hF hT4 ⊢
      refine z_iload_n C dX13_hasSign_24 rfl ?_
      obtain ⟨hz, hF⟩ := bZ_some hF
      cases hF
      exact z_zret C hr hz.1 dX13_hasSign_25 ⟨rfl, rfl, hT4⟩
    refine z_if_eq C 19 dX13_hasSign_12 (by decide) (fun c2 => ?_) (fun c2 => ?_)
    · refine z_iconst (v := 0) C dX13_hasSign_19 (by decide) ?_
      exact zV.at hJ3 (by first | rfl | contradiction | (simp only [if_pos c2]; done)) (by first | rfl | contradiction | (simp only [if_pos c2]; done)) rfl rfl
    · refine z_iconst (v := 1) C dX13_hasSign_15 (by decide) ?_
      refine z_goto C 20 dX13_hasSign_16 (by decide) ?_
      exact zV.at hJ3 (by first | rfl | contradiction | (simp only [if_neg c2]; done)) (by first | rfl | contradiction | (simp only [if_neg c2]; done)) rfl rfl
theorem K_X13_hasSign {G : zG} {l : Launch} {kd : kD} {N0 f : Nat} {S : aS} {v0 : Nat} {v1 : Int32} {res : Option Value × aS} (hT : zT0 kd N0 S) (hpv0 : v0 < N0) (hkv0 : kd v0 = .inl 11) (hF : F_X13_hasSign f 0 [.ref v0, .int v1] S = some res) : zM G l 1 0 0 yX13_hasSign cX13_hasSign 3 (some .boolean) [.ref (zB G + v0), .int v1] (cn G kd N0 S) (zPo G kd N0 res) := zM.of (by decide) rfl (Nat.le_of_ble_eq_true rfl) (fun X _ C hr _ => (B_X13_hasSign C hr f) S v0 v1 res hT hpv0 hkv0 hF)
def F_X13_hasWord_0 (f : Nat) (rc : Nat → List Value → aS → aR) (v0 : Nat) (v1 : Int32) (S : aS) : aR :=
  bI (F_X13_isWord f 0 [.ref v0, .int v1] S) fun x1 S1 => fS (sI S1 v0 7 ((gI S1 v0 7) + (if x1 = (0 : Int32) then (0 : Int32) else (1 : Int32)))) fun S4 => bZ x1 (some (some (.int x1), S4))
def F_X13_hasWord : Nat → Nat → List Value → aS → aR
  | 0, _, _, _ => none
  | f + 1, 0, vs, S => F_X13_hasWord_0 f (F_X13_hasWord f) (vR vs 0) (vI vs 1) S
  | _ + 1, _, _, _ => none
theorem dX13_hasWord_0 : decode cX13_hasWord 0 = .ok (.aload_n 0, 1) := by decide +kernel
theorem dX13_hasWord_1 : decode cX13_hasWord 1 = .ok (.iload_n 1, 1) := by decide +kernel
theorem dX13_hasWord_2 : decode cX13_hasWord 2 = .ok (.invokevirtual 186, 3) := by decide +kernel
theorem dX13_hasWord_5 : decode cX13_hasWord 5 = .ok (.istore_n 2, 1) := by decide +kernel
theorem dX13_hasWord_6 : decode cX13_hasWord 6 = .ok (.aload_n 0, 1) := by decide +kernel
theorem dX13_hasWord_7 : decode cX13_hasWord 7 = .ok (.dup, 1) := by decide +kernel
theorem dX13_hasWord_8 : decode cX13_hasWord 8 = .ok (.getfield 174, 3) := by decide +kernel
theorem dX13_hasWord_11 : decode cX13_hasWord 11 = .ok (.iload_n 2, 1) := by decide +kernel
theorem dX13_hasWord_12 : decode cX13_hasWord 12 = .ok (.ifCond .eq 7, 3) := by decide +kernel
theorem dX13_hasWord_15 : decode cX13_hasWord 15 = .ok (.iconst 1, 1) := by decide +kernel
theorem dX13_hasWord_16 : decode cX13_hasWord 16 = .ok (.goto 4, 3) := by decide +kernel
theorem dX13_hasWord_19 : decode cX13_hasWord 19 = .ok (.iconst 0, 1) := by decide +kernel
theorem dX13_hasWord_20 : decode cX13_hasWord 20 = .ok (.iadd, 1) := by decide +kernel
theorem dX13_hasWord_21 : decode cX13_hasWord 21 = .ok (.putfield 174, 3) := by decide +kernel
theorem dX13_hasWord_24 : decode cX13_hasWord 24 = .ok (.iload_n 2, 1) := by decide +kernel
theorem dX13_hasWord_25 : decode cX13_hasWord 25 = .ok (.ireturn, 1) := by decide +kernel
set_option maxHeartbeats 4000000 in
set_option maxRecDepth 100000 in
theorem B_X13_hasWord {G : zG} {X : zX} {kd : kD} {N0 : Nat} (C : zCt G X 1 0 0 RX13 cX13_hasWord 3) (hr : (zXh X).sig.returnType = (some .boolean)) : ∀ f : Nat,
    (∀ (S : aS) (v0 : Nat) (v1 : Int32) (res : Option Value × aS), zT0 kd N0 S → v0 < N0 → kd v0 = .inl 11 → F_X13_hasWord f 0 [.ref v0, .int v1] S = some res → zV G X (zQX G X (zPo G kd N0 res) 0 0) 3 [some (.ref (zB G + v0)), some (.int v1), none] [] (cn G kd N0 S) 0 0 0) := by
  intro f
  induction f with
  | zero => exact (fun _ _ _ _ _ _ _ h => by cases h)
  | succ f ih =>
    have ih0 := ih
    intro S v0 v1 res hT hpv0 hkv0 hF
    replace hF : F_X13_hasWord_0 f (F_X13_hasWord f) v0 v1 S = some res := hF
    unfold F_X13_hasWord_0 at hF
    refine z_aload_n C dX13_hasWord_0 rfl ?_
    refine z_iload_n C dX13_hasWord_1 rfl ?_
    obtain ⟨x1, S1, h1, hF⟩ := bI_some hF
    refine f_cV (st2 := [.int x1]) C dX13_hasWord_2 zyX13_isWord zvX13_isWord lkRX13_186 (K_X13_isWord (l := zXl X) hT hpv0 hkv0  h1) hpv0 hkv0 rfl (by decide) rfl rfl (Nat.le_of_ble_eq_true rfl) rfl (fun hT1 => ?_)
    refine z_istore_n (lv2 := [some (.ref (zB G + v0)), some (.int v1), some (.int x1)]) C dX13_hasWord_5 (by decide) rfl ?_
    refine z_aload_n C dX13_hasWord_6 rfl ?_
    refine z_dup C dX13_hasWord_7 rfl ?_
    refine f_geti C dX13_hasWord_8 zfRX13_174 hpv0 hkv0 rfl ?_
    refine z_iload_n C dX13_hasWord_11 rfl ?_
    have hJ3 : zV G X (zQX G X (zPo G kd N0 res) 0 0) 3 [some (.ref (zB G + v0)), some (.int v1), some (.int x1)] [.int (if x1 = (0 : Int32) then (0 : Int32) else (1 : Int32)), .int (gI S1 v0 7), .ref (zB G + v0)] (cn G kd N0 S1) 20 0 0 := by
      refine z_iadd C dX13_hasWord_20 ?_
      refine f_puti C dX13_hasWord_21 zfRX13_174 fw11_7 hpv0 hkv0 rfl rfl rfl ?_
      have hT4 : zT0 kd N0 (sI S1 v0 7 ((gI S1 v0 7) + (if x1 = (0 : Int32) then (0 : Int32) else (1 : Int32)))) := zT0_sI hT1
      replace hF := fS_e hF
      generalize sI S1 v0 7 ((gI S1 v0 7) + (if x1 = (0 : Int32) then (0 : Int32) else (1 : Int32))) = S4 at hF hT4 ⊢
      refine z_iload_n C dX13_hasWord_24 rfl ?_
      obtain ⟨hz, hF⟩ := bZ_some hF
      cases hF
      exact z_zret C hr hz.1 dX13_hasWord_25 ⟨rfl, rfl, hT4⟩
    refine z_if_eq C 19 dX13_hasWord_12 (by decide) (fun c2 => ?_) (fun c2 => ?_)
    · refine z_iconst (v := 0) C dX13_hasWord_19 (by decide) ?_
      exact zV.at hJ3 (by first | rfl | contradiction | (simp only [if_pos c2]; done)) (by first | rfl | contradiction | (simp only [if_pos c2]; done)) rfl rfl
    · refine z_iconst (v := 1) C dX13_hasWord_15 (by decide) ?_
      refine z_goto C 20 dX13_hasWord_16 (by decide) ?_
      exact zV.at hJ3 (by first | rfl | contradiction | (simp only [if_neg c2]; done)) (by first | rfl | contradiction | (simp only [if_neg c2]; done)) rfl rfl
theorem K_X13_hasWord {G : zG} {l : Launch} {kd : kD} {N0 f : Nat} {S : aS} {v0 : Nat} {v1 : Int32} {res : Option Value × aS} (hT : zT0 kd N0 S) (hpv0 : v0 < N0) (hkv0 : kd v0 = .inl 11) (hF : F_X13_hasWord f 0 [.ref v0, .int v1] S = some res) : zM G l 1 0 0 yX13_hasWord cX13_hasWord 3 (some .boolean) [.ref (zB G + v0), .int v1] (cn G kd N0 S) (zPo G kd N0 res) := zM.of (by decide) rfl (Nat.le_of_ble_eq_true rfl) (fun X _ C hr _ => (B_X13_hasWord C hr f) S v0 v1 res hT hpv0 hkv0 hF)
def F_X13_takeWord_0 (f : Nat) (rc : Nat → List Value → aS → aR) (v0 : Nat) (v1 : Int32) (S : aS) : aR :=
  bI (F_X13_hasWord f 0 [.ref v0, .int v1] S) fun x1 S1 => if x1 = (0 : Int32) then bV (F_X13_wrong f 0 [.ref v0, .int 1] S1) fun S4 => rc 1 [] S4 else rc 1 [] S1
def F_X13_takeWord_1 (f : Nat) (rc : Nat → List Value → aS → aR)  (S : aS) : aR :=
  some (none, S)
def F_X13_takeWord : Nat → Nat → List Value → aS → aR
  | 0, _, _, _ => none
  | f + 1, 0, vs, S => F_X13_takeWord_0 f (F_X13_takeWord f) (vR vs 0) (vI vs 1) S
  | f + 1, 1, vs, S => F_X13_takeWord_1 f (F_X13_takeWord f)  S
  | _ + 1, _, _, _ => none
theorem dX13_takeWord_0 : decode cX13_takeWord 0 = .ok (.aload_n 0, 1) := by decide +kernel
theorem dX13_takeWord_1 : decode cX13_takeWord 1 = .ok (.iload_n 1, 1) := by decide +kernel
theorem dX13_takeWord_2 : decode cX13_takeWord 2 = .ok (.invokevirtual 189, 3) := by decide +kernel
theorem dX13_takeWord_5 : decode cX13_takeWord 5 = .ok (.ifCond .ne 8, 3) := by decide +kernel
theorem dX13_takeWord_8 : decode cX13_takeWord 8 = .ok (.aload_n 0, 1) := by decide +kernel
theorem dX13_takeWord_9 : decode cX13_takeWord 9 = .ok (.iconst 1, 1) := by decide +kernel
theorem dX13_takeWord_10 : decode cX13_takeWord 10 = .ok (.invokevirtual 183, 3) := by decide +kernel
theorem dX13_takeWord_13 : decode cX13_takeWord 13 = .ok (.return_, 1) := by decide +kernel
set_option maxHeartbeats 4000000 in
set_option maxRecDepth 100000 in
theorem B_X13_takeWord {G : zG} {X : zX} {kd : kD} {N0 : Nat} (C : zCt G X 2 0 0 RX13 cX13_takeWord 2) (hr : (zXh X).sig.returnType = none) : ∀ f : Nat,
    (∀ (S : aS) (v0 : Nat) (v1 : Int32) (res : Option Value × aS), zT0 kd N0 S → v0 < N0 → kd v0 = .inl 11 → F_X13_takeWord f 0 [.ref v0, .int v1] S = some res → zV G X (zQX G X (zPo G kd N0 res) 0 0) 2 [some (.ref (zB G + v0)), some (.int v1)] [] (cn G kd N0 S) 0 0 0) ∧
    (∀ (S : aS)  (res : Option Value × aS), zT0 kd N0 S → F_X13_takeWord f 1 [] S = some res → zV G X (zQX G X (zPo G kd N0 res) 0 0) 2 [none, none] [] (cn G kd N0 S) 13 0 0) := by
  intro f
  induction f with
  | zero => exact ⟨(fun _ _ _ _ _ _ _ h => by cases h), (fun _ _ _ h => by cases h)⟩
  | succ f ih =>
    obtain ⟨ih0, ih1⟩ := ih
    refine ⟨?_, ?_⟩
    · intro S v0 v1 res hT hpv0 hkv0 hF
      replace hF : F_X13_takeWord_0 f (F_X13_takeWord f) v0 v1 S = some res := hF
      unfold F_X13_takeWord_0 at hF
      refine z_aload_n C dX13_takeWord_0 rfl ?_
      refine z_iload_n C dX13_takeWord_1 rfl ?_
      obtain ⟨x1, S1, h1, hF⟩ := bI_some hF
      refine f_cV (st2 := [.int x1]) C dX13_takeWord_2 zyX13_hasWord zvX13_hasWord lkRX13_189 (K_X13_hasWord (l := zXl X) hT hpv0 hkv0  h1) hpv0 hkv0 rfl (by decide) rfl rfl (Nat.le_of_ble_eq_true rfl) rfl (fun hT1 => ?_)
      refine z_if_ne C 13 dX13_takeWord_5 (by decide) (fun c3 => ?_) (fun c3 => ?_)
      · replace hF := im hF c3
        refine z_mask [false, false] ?_ rfl
        exact ih1 S1  res hT1  hF
      · replace hF := ip hF c3
        refine z_aload_n C dX13_takeWord_8 rfl ?_
        refine z_iconst (v := 1) C dX13_takeWord_9 (by decide) ?_
        obtain ⟨S4, h4, hF⟩ := bV_some hF
        refine f_cV (st2 := []) C dX13_takeWord_10 zyX13_wrong zvX13_wrong lkRX13_183 (K_X13_wrong (l := zXl X) hT1 hpv0 hkv0  h4) hpv0 hkv0 rfl (by decide) rfl rfl (Nat.le_of_ble_eq_true rfl) rfl (fun hT4 => ?_)
        refine z_mask [false, false] ?_ rfl
        exact ih1 S4  res hT4  hF
    · intro S  res hT  hF
      replace hF : F_X13_takeWord_1 f (F_X13_takeWord f)  S = some res := hF
      unfold F_X13_takeWord_1 at hF
      cases hF
      exact z_vret C hr dX13_takeWord_13 ⟨rfl, rfl, hT⟩
theorem K_X13_takeWord {G : zG} {l : Launch} {kd : kD} {N0 f : Nat} {S : aS} {v0 : Nat} {v1 : Int32} {res : Option Value × aS} (hT : zT0 kd N0 S) (hpv0 : v0 < N0) (hkv0 : kd v0 = .inl 11) (hF : F_X13_takeWord f 0 [.ref v0, .int v1] S = some res) : zM G l 2 0 0 yX13_takeWord cX13_takeWord 2 none [.ref (zB G + v0), .int v1] (cn G kd N0 S) (zPo G kd N0 res) := zM.of (by decide) rfl (Nat.le_of_ble_eq_true rfl) (fun X _ C hr _ => (B_X13_takeWord C hr f).1 S v0 v1 res hT hpv0 hkv0 hF)
def F_X13_within_0 (f : Nat) (rc : Nat → List Value → aS → aR) (v0 : Int32) (v1 : Int32) (v2 : Int32) (S : aS) : aR :=
  bZ (if v0 < v1 then (0 : Int32) else if v2 < v0 then (0 : Int32) else (1 : Int32)) (some (some (.int (if v0 < v1 then (0 : Int32) else if v2 < v0 then (0 : Int32) else (1 : Int32))), S))
def F_X13_within : Nat → Nat → List Value → aS → aR
  | 0, _, _, _ => none
  | f + 1, 0, vs, S => F_X13_within_0 f (F_X13_within f) (vI vs 0) (vI vs 1) (vI vs 2) S
  | _ + 1, _, _, _ => none
theorem dX13_within_0 : decode cX13_within 0 = .ok (.iload_n 0, 1) := by decide +kernel
theorem dX13_within_1 : decode cX13_within 1 = .ok (.iload_n 1, 1) := by decide +kernel
theorem dX13_within_2 : decode cX13_within 2 = .ok (.if_icmp .lt 12, 3) := by decide +kernel
theorem dX13_within_5 : decode cX13_within 5 = .ok (.iload_n 0, 1) := by decide +kernel
theorem dX13_within_6 : decode cX13_within 6 = .ok (.iload_n 2, 1) := by decide +kernel
theorem dX13_within_7 : decode cX13_within 7 = .ok (.if_icmp .gt 7, 3) := by decide +kernel
theorem dX13_within_10 : decode cX13_within 10 = .ok (.iconst 1, 1) := by decide +kernel
theorem dX13_within_11 : decode cX13_within 11 = .ok (.goto 4, 3) := by decide +kernel
theorem dX13_within_14 : decode cX13_within 14 = .ok (.iconst 0, 1) := by decide +kernel
theorem dX13_within_15 : decode cX13_within 15 = .ok (.ireturn, 1) := by decide +kernel
set_option maxHeartbeats 4000000 in
set_option maxRecDepth 100000 in
theorem B_X13_within {G : zG} {X : zX} {kd : kD} {N0 : Nat} (C : zCt G X 0 0 0 RX13 cX13_within 3) (hr : (zXh X).sig.returnType = (some .boolean)) : ∀ f : Nat,
    (∀ (S : aS) (v0 : Int32) (v1 : Int32) (v2 : Int32) (res : Option Value × aS), zT0 kd N0 S → F_X13_within f 0 [.int v0, .int v1, .int v2] S = some res → zV G X (zQX G X (zPo G kd N0 res) 0 0) 3 [some (.int v0), some (.int v1), some (.int v2)] [] (cn G kd N0 S) 0 0 0) := by
  intro f
  induction f with
  | zero => exact (fun _ _ _ _ _ _ h => by cases h)
  | succ f ih =>
    have ih0 := ih
    intro S v0 v1 v2 res hT  hF
    replace hF : F_X13_within_0 f (F_X13_within f) v0 v1 v2 S = some res := hF
    unfold F_X13_within_0 at hF
    refine z_iload_n C dX13_within_0 rfl ?_
    refine z_iload_n C dX13_within_1 rfl ?_
    have hJ3 : zV G X (zQX G X (zPo G kd N0 res) 0 0) 3 [some (.int v0), some (.int v1), some (.int v2)] [.int (if v0 < v1 then (0 : Int32) else if v2 < v0 then (0 : Int32) else (1 : Int32))] (cn G kd N0 S) 15 0 0 := by
      obtain ⟨hz, hF⟩ := bZ_some hF
      cases hF
      exact z_zret C hr hz.1 dX13_within_15 ⟨rfl, rfl, hT⟩
    refine z_icmp_lt C 14 dX13_within_2 (by decide) (fun c1 => ?_) (fun c1 => ?_)
    · refine z_iconst (v := 0) C dX13_within_14 (by decide) ?_
      exact zV.at hJ3 (by first | rfl | contradiction | (simp only [if_pos c1]; done)) (by first | rfl | contradiction | (simp only [if_pos c1]; done)) rfl rfl
    · refine z_iload_n C dX13_within_5 rfl ?_
      refine z_iload_n C dX13_within_6 rfl ?_
      refine z_icmp_gt C 14 dX13_within_7 (by decide) (fun c2 => ?_) (fun c2 => ?_)
      · refine z_iconst (v := 0) C dX13_within_14 (by decide) ?_
        exact zV.at hJ3 (by first | rfl | contradiction | (simp only [if_neg c1, if_pos c2]; done)) (by first | rfl | contradiction | (simp only [if_neg c1, if_pos c2]; done)) rfl rfl
      · refine z_iconst (v := 1) C dX13_within_10 (by decide) ?_
        refine z_goto C 15 dX13_within_11 (by decide) ?_
        exact zV.at hJ3 (by first | rfl | contradiction | (simp only [if_neg c1, if_neg c2]; done)) (by first | rfl | contradiction | (simp only [if_neg c1, if_neg c2]; done)) rfl rfl
theorem K_X13_within {G : zG} {l : Launch} {kd : kD} {N0 f : Nat} {S : aS} {v0 : Int32} {v1 : Int32} {v2 : Int32} {res : Option Value × aS} (hT : zT0 kd N0 S)  (hF : F_X13_within f 0 [.int v0, .int v1, .int v2] S = some res) : zM G l 0 0 0 yX13_within cX13_within 3 (some .boolean) [.int v0, .int v1, .int v2] (cn G kd N0 S) (zPo G kd N0 res) := zM.of (by decide) rfl (Nat.le_of_ble_eq_true rfl) (fun X _ C hr _ => (B_X13_within C hr f) S v0 v1 v2 res hT  hF)
def F_X13_standsAsAlways_0 (f : Nat) (rc : Nat → List Value → aS → aR) (v0 : Nat) (v1 : Int32) (S : aS) : aR :=
  rc 1 [.ref v0, .int v1, .int 0] S
def F_X13_standsAsAlways_1 (f : Nat) (rc : Nat → List Value → aS → aR) (v0 : Nat) (v1 : Int32) (v2 : Int32) (S : aS) : aR :=
  if (70 : Int32) ≤ v2 then bX (v1 + (0 : Int32)) 140 fun q5 => fS (sI S (gR S v0 10) q5 6) fun S6 => bX (v1 + (2 : Int32)) 140 fun q8 => fS (sI S6 (gR S6 v0 10) q8 1) fun S9 => bX (v1 + (3 : Int32)) 140 fun q11 => fS (sI S9 (gR S9 v0 10) q11 5) fun S12 => bX (v1 + (5 : Int32)) 140 fun q14 => fS (sI S12 (gR S12 v0 10) q14 ((-1))) fun S15 => bX ((v1 + (5 : Int32)) + (1 : Int32)) 140 fun q17 => fS (sI S15 (gR S15 v0 10) q17 ((-1))) fun S18 => some (none, S18) else bX (v1 + v2) 140 fun q20 => fS (sI S (gR S v0 10) q20 0) fun S21 => rc 1 [.ref v0, .int v1, .int (v2 + 1)] S21
def F_X13_standsAsAlways : Nat → Nat → List Value → aS → aR
  | 0, _, _, _ => none
  | f + 1, 0, vs, S => F_X13_standsAsAlways_0 f (F_X13_standsAsAlways f) (vR vs 0) (vI vs 1) S
  | f + 1, 1, vs, S => F_X13_standsAsAlways_1 f (F_X13_standsAsAlways f) (vR vs 0) (vI vs 1) (vI vs 2) S
  | _ + 1, _, _, _ => none
theorem dX13_standsAsAlways_0 : decode cX13_standsAsAlways 0 = .ok (.iconst 0, 1) := by decide +kernel
theorem dX13_standsAsAlways_1 : decode cX13_standsAsAlways 1 = .ok (.istore_n 2, 1) := by decide +kernel
theorem dX13_standsAsAlways_2 : decode cX13_standsAsAlways 2 = .ok (.iload_n 2, 1) := by decide +kernel
theorem dX13_standsAsAlways_3 : decode cX13_standsAsAlways 3 = .ok (.bipush 70, 2) := by decide +kernel
theorem dX13_standsAsAlways_5 : decode cX13_standsAsAlways 5 = .ok (.if_icmp .ge 18, 3) := by decide +kernel
theorem dX13_standsAsAlways_8 : decode cX13_standsAsAlways 8 = .ok (.aload_n 0, 1) := by decide +kernel
theorem dX13_standsAsAlways_9 : decode cX13_standsAsAlways 9 = .ok (.getfield 95, 3) := by decide +kernel
theorem dX13_standsAsAlways_12 : decode cX13_standsAsAlways 12 = .ok (.iload_n 1, 1) := by decide +kernel
theorem dX13_standsAsAlways_13 : decode cX13_standsAsAlways 13 = .ok (.iload_n 2, 1) := by decide +kernel
theorem dX13_standsAsAlways_14 : decode cX13_standsAsAlways 14 = .ok (.iadd, 1) := by decide +kernel
theorem dX13_standsAsAlways_15 : decode cX13_standsAsAlways 15 = .ok (.iconst 0, 1) := by decide +kernel
theorem dX13_standsAsAlways_16 : decode cX13_standsAsAlways 16 = .ok (.iastore, 1) := by decide +kernel
theorem dX13_standsAsAlways_17 : decode cX13_standsAsAlways 17 = .ok (.iinc 2 1, 3) := by decide +kernel
theorem dX13_standsAsAlways_20 : decode cX13_standsAsAlways 20 = .ok (.goto (-18), 3) := by decide +kernel
theorem dX13_standsAsAlways_23 : decode cX13_standsAsAlways 23 = .ok (.aload_n 0, 1) := by decide +kernel
theorem dX13_standsAsAlways_24 : decode cX13_standsAsAlways 24 = .ok (.getfield 95, 3) := by decide +kernel
theorem dX13_standsAsAlways_27 : decode cX13_standsAsAlways 27 = .ok (.iload_n 1, 1) := by decide +kernel
theorem dX13_standsAsAlways_28 : decode cX13_standsAsAlways 28 = .ok (.iconst 0, 1) := by decide +kernel
theorem dX13_standsAsAlways_29 : decode cX13_standsAsAlways 29 = .ok (.iadd, 1) := by decide +kernel
theorem dX13_standsAsAlways_30 : decode cX13_standsAsAlways 30 = .ok (.bipush 6, 2) := by decide +kernel
theorem dX13_standsAsAlways_32 : decode cX13_standsAsAlways 32 = .ok (.iastore, 1) := by decide +kernel
theorem dX13_standsAsAlways_33 : decode cX13_standsAsAlways 33 = .ok (.aload_n 0, 1) := by decide +kernel
theorem dX13_standsAsAlways_34 : decode cX13_standsAsAlways 34 = .ok (.getfield 95, 3) := by decide +kernel
theorem dX13_standsAsAlways_37 : decode cX13_standsAsAlways 37 = .ok (.iload_n 1, 1) := by decide +kernel
theorem dX13_standsAsAlways_38 : decode cX13_standsAsAlways 38 = .ok (.iconst 2, 1) := by decide +kernel
theorem dX13_standsAsAlways_39 : decode cX13_standsAsAlways 39 = .ok (.iadd, 1) := by decide +kernel
theorem dX13_standsAsAlways_40 : decode cX13_standsAsAlways 40 = .ok (.iconst 1, 1) := by decide +kernel
theorem dX13_standsAsAlways_41 : decode cX13_standsAsAlways 41 = .ok (.iastore, 1) := by decide +kernel
theorem dX13_standsAsAlways_42 : decode cX13_standsAsAlways 42 = .ok (.aload_n 0, 1) := by decide +kernel
theorem dX13_standsAsAlways_43 : decode cX13_standsAsAlways 43 = .ok (.getfield 95, 3) := by decide +kernel
theorem dX13_standsAsAlways_46 : decode cX13_standsAsAlways 46 = .ok (.iload_n 1, 1) := by decide +kernel
theorem dX13_standsAsAlways_47 : decode cX13_standsAsAlways 47 = .ok (.iconst 3, 1) := by decide +kernel
theorem dX13_standsAsAlways_48 : decode cX13_standsAsAlways 48 = .ok (.iadd, 1) := by decide +kernel
theorem dX13_standsAsAlways_49 : decode cX13_standsAsAlways 49 = .ok (.iconst 5, 1) := by decide +kernel
theorem dX13_standsAsAlways_50 : decode cX13_standsAsAlways 50 = .ok (.iastore, 1) := by decide +kernel
theorem dX13_standsAsAlways_51 : decode cX13_standsAsAlways 51 = .ok (.aload_n 0, 1) := by decide +kernel
theorem dX13_standsAsAlways_52 : decode cX13_standsAsAlways 52 = .ok (.getfield 95, 3) := by decide +kernel
theorem dX13_standsAsAlways_55 : decode cX13_standsAsAlways 55 = .ok (.iload_n 1, 1) := by decide +kernel
theorem dX13_standsAsAlways_56 : decode cX13_standsAsAlways 56 = .ok (.iconst 5, 1) := by decide +kernel
theorem dX13_standsAsAlways_57 : decode cX13_standsAsAlways 57 = .ok (.iadd, 1) := by decide +kernel
theorem dX13_standsAsAlways_58 : decode cX13_standsAsAlways 58 = .ok (.iconst (-1), 1) := by decide +kernel
theorem dX13_standsAsAlways_59 : decode cX13_standsAsAlways 59 = .ok (.iastore, 1) := by decide +kernel
theorem dX13_standsAsAlways_60 : decode cX13_standsAsAlways 60 = .ok (.aload_n 0, 1) := by decide +kernel
theorem dX13_standsAsAlways_61 : decode cX13_standsAsAlways 61 = .ok (.getfield 95, 3) := by decide +kernel
theorem dX13_standsAsAlways_64 : decode cX13_standsAsAlways 64 = .ok (.iload_n 1, 1) := by decide +kernel
theorem dX13_standsAsAlways_65 : decode cX13_standsAsAlways 65 = .ok (.iconst 5, 1) := by decide +kernel
theorem dX13_standsAsAlways_66 : decode cX13_standsAsAlways 66 = .ok (.iadd, 1) := by decide +kernel
theorem dX13_standsAsAlways_67 : decode cX13_standsAsAlways 67 = .ok (.iconst 1, 1) := by decide +kernel
theorem dX13_standsAsAlways_68 : decode cX13_standsAsAlways 68 = .ok (.iadd, 1) := by decide +kernel
theorem dX13_standsAsAlways_69 : decode cX13_standsAsAlways 69 = .ok (.iconst (-1), 1) := by decide +kernel
theorem dX13_standsAsAlways_70 : decode cX13_standsAsAlways 70 = .ok (.iastore, 1) := by decide +kernel
theorem dX13_standsAsAlways_71 : decode cX13_standsAsAlways 71 = .ok (.return_, 1) := by decide +kernel
set_option maxHeartbeats 4000000 in
set_option maxRecDepth 100000 in
theorem B_X13_standsAsAlways {G : zG} {X : zX} {kd : kD} {N0 : Nat} (C : zCt G X 0 0 0 RX13 cX13_standsAsAlways 3) (hr : (zXh X).sig.returnType = none) : ∀ f : Nat,
    (∀ (S : aS) (v0 : Nat) (v1 : Int32) (res : Option Value × aS), zT0 kd N0 S → v0 < N0 → kd v0 = .inl 11 → F_X13_standsAsAlways f 0 [.ref v0, .int v1] S = some res → zV G X (zQX G X (zPo G kd N0 res) 0 0) 3 [some (.ref (zB G + v0)), some (.int v1), none] [] (cn G kd N0 S) 0 0 0) ∧
    (∀ (S : aS) (v0 : Nat) (v1 : Int32) (v2 : Int32) (res : Option Value × aS), zT0 kd N0 S → v0 < N0 → kd v0 = .inl 11 → F_X13_standsAsAlways f 1 [.ref v0, .int v1, .int v2] S = some res → zV G X (zQX G X (zPo G kd N0 res) 0 0) 3 [some (.ref (zB G + v0)), some (.int v1), some (.int v2)] [] (cn G kd N0 S) 2 0 0) := by
  intro f
  induction f with
  | zero => exact ⟨(fun _ _ _ _ _ _ _ h => by cases h), (fun _ _ _ _ _ _ _ _ h => by cases h)⟩
  | succ f ih =>
    obtain ⟨ih0, ih1⟩ := ih
    refine ⟨?_, ?_⟩
    · intro S v0 v1 res hT hpv0 hkv0 hF
      replace hF : F_X13_standsAsAlways_0 f (F_X13_standsAsAlways f) v0 v1 S = some res := hF
      unfold F_X13_standsAsAlways_0 at hF
      refine z_iconst (v := 0) C dX13_standsAsAlways_0 (by decide) ?_
      refine z_istore_n (lv2 := [some (.ref (zB G + v0)), some (.int v1), some (.int 0)]) C dX13_standsAsAlways_1 (by decide) rfl ?_
      exact ih1 S v0 v1 0 res hT hpv0 hkv0   hF
    · intro S v0 v1 v2 res hT hpv0 hkv0 hF
      replace hF : F_X13_standsAsAlways_1 f (F_X13_standsAsAlways f) v0 v1 v2 S = some res := hF
      unfold F_X13_standsAsAlways_1 at hF
      refine z_iload_n C dX13_standsAsAlways_2 rfl ?_
      refine z_bipush (v := 70) C dX13_standsAsAlways_3 (by decide) ?_
      refine z_icmp_ge C 23 dX13_standsAsAlways_5 (by decide) (fun c3 => ?_) (fun c3 => ?_)
      · replace hF := ip hF c3
        refine z_aload_n C dX13_standsAsAlways_23 rfl ?_
        refine f_getr C dX13_standsAsAlways_24 zfRX13_95 hpv0 hkv0 rfl ?_
        obtain ⟨hp4, hk4⟩ := hT.1 v0 11 10 (.inr (0, 140)) hpv0 hkv0 rfl
        refine z_iload_n C dX13_standsAsAlways_27 rfl ?_
        refine z_iconst (v := 0) C dX13_standsAsAlways_28 (by decide) ?_
        refine z_iadd C dX13_standsAsAlways_29 ?_
        refine z_bipush (v := 6) C dX13_standsAsAlways_30 (by decide) ?_
        obtain ⟨hi5, hF⟩ := bX_some hF
        obtain ⟨q5, eq5⟩ : ∃ q : Nat, q = Int32.toNatClampNeg (v1 + (0 : Int32)) := ⟨_, rfl⟩
        rw [← eq5] at hF
        refine f_iast C dX13_standsAsAlways_32 hp4 hk4 hi5 ?_
        rw [← eq5]
        have hT6 : zT0 kd N0 (sI S (gR S v0 10) q5 6) := zT0_sI hT
        replace hF := fS_e hF
        generalize sI S (gR S v0 10) q5 6 = S6 at hF hT6 ⊢
        refine z_aload_n C dX13_standsAsAlways_33 rfl ?_
        refine f_getr C dX13_standsAsAlways_34 zfRX13_95 hpv0 hkv0 rfl ?_
        obtain ⟨hp7, hk7⟩ := hT6.1 v0 11 10 (.inr (0, 140)) hpv0 hkv0 rfl
        refine z_iload_n C dX13_standsAsAlways_37 rfl ?_
        refine z_iconst (v := 2) C dX13_standsAsAlways_38 (by decide) ?_
        refine z_iadd C dX13_standsAsAlways_39 ?_
        refine z_iconst (v := 1) C dX13_standsAsAlways_40 (by decide) ?_
        obtain ⟨hi8, hF⟩ := bX_some hF
        obtain ⟨q8, eq8⟩ : ∃ q : Nat, q = Int32.toNatClampNeg (v1 + (2 : Int32)) := ⟨_, rfl⟩
        rw [← eq8] at hF
        refine f_iast C dX13_standsAsAlways_41 hp7 hk7 hi8 ?_
        rw [← eq8]
        have hT9 : zT0 kd N0 (sI S6 (gR S6 v0 10) q8 1) := zT0_sI hT6
        replace hF := fS_e hF
        generalize sI S6 (gR S6 v0 10) q8 1 = S9 at hF hT9 ⊢
        refine z_aload_n C dX13_standsAsAlways_42 rfl ?_
        refine f_getr C dX13_standsAsAlways_43 zfRX13_95 hpv0 hkv0 rfl ?_
        obtain ⟨hp10, hk10⟩ := hT9.1 v0 11 10 (.inr (0, 140)) hpv0 hkv0 rfl
        refine z_iload_n C dX13_standsAsAlways_46 rfl ?_
        refine z_iconst (v := 3) C dX13_standsAsAlways_47 (by decide) ?_
        refine z_iadd C dX13_standsAsAlways_48 ?_
        refine z_iconst (v := 5) C dX13_standsAsAlways_49 (by decide) ?_
        obtain ⟨hi11, hF⟩ := bX_some hF
        obtain ⟨q11, eq11⟩ : ∃ q : Nat, q = Int32.toNatClampNeg (v1 + (3 : Int32)) := ⟨_, rfl⟩
        rw [← eq11] at hF
        refine f_iast C dX13_standsAsAlways_50 hp10 hk10 hi11 ?_
        rw [← eq11]
        have hT12 : zT0 kd N0 (sI S9 (gR S9 v0 10) q11 5) := zT0_sI hT9
        replace hF := fS_e hF
        generalize sI S9 (gR S9 v0 10) q11 5 = S12 at hF hT12 ⊢
        refine z_aload_n C dX13_standsAsAlways_51 rfl ?_
        refine f_getr C dX13_standsAsAlways_52 zfRX13_95 hpv0 hkv0 rfl ?_
        obtain ⟨hp13, hk13⟩ := hT12.1 v0 11 10 (.inr (0, 140)) hpv0 hkv0 rfl
        refine z_iload_n C dX13_standsAsAlways_55 rfl ?_
        refine z_iconst (v := 5) C dX13_standsAsAlways_56 (by decide) ?_
        refine z_iadd C dX13_standsAsAlways_57 ?_
        refine z_iconst (v := (-1)) C dX13_standsAsAlways_58 (by decide) ?_
        obtain ⟨hi14, hF⟩ := bX_some hF
        obtain ⟨q14, eq14⟩ : ∃ q : Nat, q = Int32.toNatClampNeg (v1 + (5 : Int32)) := ⟨_, rfl⟩
        rw [← eq14] at hF
        refine f_iast C dX13_standsAsAlways_59 hp13 hk13 hi14 ?_
        rw [← eq14]
        have hT15 : zT0 kd N0 (sI S12 (gR S12 v0 10) q14 ((-1))) := zT0_sI hT12
        replace hF := fS_e hF
        generalize sI S12 (gR S12 v0 10) q14 ((-1)) = S15 at hF hT15 ⊢
        refine z_aload_n C dX13_standsAsAlways_60 rfl ?_
        refine f_getr C dX13_standsAsAlways_61 zfRX13_95 hpv0 hkv0 rfl ?_
        obtain ⟨hp16, hk16⟩ := hT15.1 v0 11 10 (.inr (0, 140)) hpv0 hkv0 rfl
        refine z_iload_n C dX13_standsAsAlways_64 rfl ?_
        refine z_iconst (v := 5) C dX13_standsAsAlways_65 (by decide) ?_
        refine z_iadd C dX13_standsAsAlways_66 ?_
        refine z_iconst (v := 1) C dX13_standsAsAlways_67 (by decide) ?_
        refine z_iadd C dX13_standsAsAlways_68 ?_
        refine z_iconst (v := (-1)) C dX13_standsAsAlways_69 (by decide) ?_
        obtain ⟨hi17, hF⟩ := bX_some hF
        obtain ⟨q17, eq17⟩ : ∃ q : Nat, q = Int32.toNatClampNeg ((v1 + (5 : Int32)) + (1 : Int32)) := ⟨_, rfl⟩
        rw [← eq17] at hF
        refine f_iast C dX13_standsAsAlways_70 hp16 hk16 hi17 ?_
        rw [← eq17]
        have hT18 : zT0 kd N0 (sI S15 (gR S15 v0 10) q17 ((-1))) := zT0_sI hT15
        replace hF := fS_e hF
        generalize sI S15 (gR S15 v0 10) q17 ((-1)) = S18 at hF hT18 ⊢
        cases hF
        exact z_vret C hr dX13_standsAsAlways_71 ⟨rfl, rfl, hT18⟩
      · replace hF := im hF c3
        refine z_aload_n C dX13_standsAsAlways_8 rfl ?_
        refine f_getr C dX13_standsAsAlways_9 zfRX13_95 hpv0 hkv0 rfl ?_
        obtain ⟨hp19, hk19⟩ := hT.1 v0 11 10 (.inr (0, 140)) hpv0 hkv0 rfl
        refine z_iload_n C dX13_standsAsAlways_12 rfl ?_
        refine z_iload_n C dX13_standsAsAlways_13 rfl ?_
        refine z_iadd C dX13_standsAsAlways_14 ?_
        refine z_iconst (v := 0) C dX13_standsAsAlways_15 (by decide) ?_
        obtain ⟨hi20, hF⟩ := bX_some hF
        obtain ⟨q20, eq20⟩ : ∃ q : Nat, q = Int32.toNatClampNeg (v1 + v2) := ⟨_, rfl⟩
        rw [← eq20] at hF
        refine f_iast C dX13_standsAsAlways_16 hp19 hk19 hi20 ?_
        rw [← eq20]
        have hT21 : zT0 kd N0 (sI S (gR S v0 10) q20 0) := zT0_sI hT
        replace hF := fS_e hF
        generalize sI S (gR S v0 10) q20 0 = S21 at hF hT21 ⊢
        refine z_iinc (v := v2 + 1) (lv2 := [some (.ref (zB G + v0)), some (.int v1), some (.int (v2 + 1))]) C dX13_standsAsAlways_17 rfl (by rw [show Int32.ofInt 1 = (1 : Int32) from by decide]) rfl ?_
        refine z_goto C 2 dX13_standsAsAlways_20 (by decide) ?_
        exact ih1 S21 v0 v1 (v2 + 1) res hT21 hpv0 hkv0   hF
theorem K_X13_standsAsAlways {G : zG} {l : Launch} {kd : kD} {N0 f : Nat} {S : aS} {v0 : Nat} {v1 : Int32} {res : Option Value × aS} (hT : zT0 kd N0 S) (hpv0 : v0 < N0) (hkv0 : kd v0 = .inl 11) (hF : F_X13_standsAsAlways f 0 [.ref v0, .int v1] S = some res) : zM G l 0 0 0 yX13_standsAsAlways cX13_standsAsAlways 3 none [.ref (zB G + v0), .int v1] (cn G kd N0 S) (zPo G kd N0 res) := zM.of (by decide) rfl (Nat.le_of_ble_eq_true rfl) (fun X _ C hr _ => (B_X13_standsAsAlways C hr f).1 S v0 v1 res hT hpv0 hkv0 hF)
def F_X13_takeNumber_0 (f : Nat) (rc : Nat → List Value → aS → aR) (v0 : Nat) (v1 : Int32) (v2 : Int32) (S : aS) : aR :=
  if (gI S v0 8) = (0 : Int32) then bX (gI S v0 7) 1002 fun q6 => if (gI S (gR S v0 4) q6) = (2 : Int32) then rc 1 [.ref v0, .int v1, .int v2] S else bV (F_X13_wrong f 0 [.ref v0, .int 1] S) fun S11 => rc 2 [.ref v0] S11 else rc 1 [.ref v0, .int v1, .int v2] S
def F_X13_takeNumber_1 (f : Nat) (rc : Nat → List Value → aS → aR) (v0 : Nat) (v1 : Int32) (v2 : Int32) (S : aS) : aR :=
  if (gI S v0 8) = (0 : Int32) then bX (gI S v0 7) 1002 fun q16 => if (lg_cmp (gJ S (gR S v0 6) q16) (Int32.toInt64 v1)) < (0 : Int32) then rc 3 [.ref v0] S else bX (gI S v0 7) 1002 fun q20 => if (lg_cmp (gJ S (gR S v0 6) q20) (Int32.toInt64 v2)) ≤ (0 : Int32) then rc 2 [.ref v0] S else rc 3 [.ref v0] S else rc 2 [.ref v0] S
def F_X13_takeNumber_2 (f : Nat) (rc : Nat → List Value → aS → aR) (v0 : Nat) (S : aS) : aR :=
  if (gI S v0 8) ≤ (0 : Int32) then fS (sI S v0 7 ((gI S v0 7) + (1 : Int32))) fun S24 => bX ((gI S24 v0 7) - (1 : Int32)) 1002 fun q26 => some (some (.int (Int64.toInt32 (gJ S24 (gR S24 v0 6) q26))), S24) else some (some (.int 0), S)
def F_X13_takeNumber_3 (f : Nat) (rc : Nat → List Value → aS → aR) (v0 : Nat) (S : aS) : aR :=
  bV (F_X13_wrong f 0 [.ref v0, .int 4] S) fun S27 => rc 2 [.ref v0] S27
def F_X13_takeNumber : Nat → Nat → List Value → aS → aR
  | 0, _, _, _ => none
  | f + 1, 0, vs, S => F_X13_takeNumber_0 f (F_X13_takeNumber f) (vR vs 0) (vI vs 1) (vI vs 2) S
  | f + 1, 1, vs, S => F_X13_takeNumber_1 f (F_X13_takeNumber f) (vR vs 0) (vI vs 1) (vI vs 2) S
  | f + 1, 2, vs, S => F_X13_takeNumber_2 f (F_X13_takeNumber f) (vR vs 0) S
  | f + 1, 3, vs, S => F_X13_takeNumber_3 f (F_X13_takeNumber f) (vR vs 0) S
  | _ + 1, _, _, _ => none
theorem dX13_takeNumber_0 : decode cX13_takeNumber 0 = .ok (.aload_n 0, 1) := by decide +kernel
theorem dX13_takeNumber_1 : decode cX13_takeNumber 1 = .ok (.getfield 177, 3) := by decide +kernel
theorem dX13_takeNumber_4 : decode cX13_takeNumber 4 = .ok (.ifCond .ne 24, 3) := by decide +kernel
theorem dX13_takeNumber_7 : decode cX13_takeNumber 7 = .ok (.aload_n 0, 1) := by decide +kernel
theorem dX13_takeNumber_8 : decode cX13_takeNumber 8 = .ok (.getfield 24, 3) := by decide +kernel
theorem dX13_takeNumber_11 : decode cX13_takeNumber 11 = .ok (.aload_n 0, 1) := by decide +kernel
theorem dX13_takeNumber_12 : decode cX13_takeNumber 12 = .ok (.getfield 174, 3) := by decide +kernel
theorem dX13_takeNumber_15 : decode cX13_takeNumber 15 = .ok (.iaload, 1) := by decide +kernel
theorem dX13_takeNumber_16 : decode cX13_takeNumber 16 = .ok (.iconst 2, 1) := by decide +kernel
theorem dX13_takeNumber_17 : decode cX13_takeNumber 17 = .ok (.if_icmp .eq 11, 3) := by decide +kernel
theorem dX13_takeNumber_20 : decode cX13_takeNumber 20 = .ok (.aload_n 0, 1) := by decide +kernel
theorem dX13_takeNumber_21 : decode cX13_takeNumber 21 = .ok (.iconst 1, 1) := by decide +kernel
theorem dX13_takeNumber_22 : decode cX13_takeNumber 22 = .ok (.invokevirtual 183, 3) := by decide +kernel
theorem dX13_takeNumber_25 : decode cX13_takeNumber 25 = .ok (.goto 45, 3) := by decide +kernel
theorem dX13_takeNumber_28 : decode cX13_takeNumber 28 = .ok (.aload_n 0, 1) := by decide +kernel
theorem dX13_takeNumber_29 : decode cX13_takeNumber 29 = .ok (.getfield 177, 3) := by decide +kernel
theorem dX13_takeNumber_32 : decode cX13_takeNumber 32 = .ok (.ifCond .ne 38, 3) := by decide +kernel
theorem dX13_takeNumber_35 : decode cX13_takeNumber 35 = .ok (.aload_n 0, 1) := by decide +kernel
theorem dX13_takeNumber_36 : decode cX13_takeNumber 36 = .ok (.getfield 30, 3) := by decide +kernel
theorem dX13_takeNumber_39 : decode cX13_takeNumber 39 = .ok (.aload_n 0, 1) := by decide +kernel
theorem dX13_takeNumber_40 : decode cX13_takeNumber 40 = .ok (.getfield 174, 3) := by decide +kernel
theorem dX13_takeNumber_43 : decode cX13_takeNumber 43 = .ok (.laload, 1) := by decide +kernel
theorem dX13_takeNumber_44 : decode cX13_takeNumber 44 = .ok (.iload_n 1, 1) := by decide +kernel
theorem dX13_takeNumber_45 : decode cX13_takeNumber 45 = .ok (.i2l, 1) := by decide +kernel
theorem dX13_takeNumber_46 : decode cX13_takeNumber 46 = .ok (.lcmp, 1) := by decide +kernel
theorem dX13_takeNumber_47 : decode cX13_takeNumber 47 = .ok (.ifCond .lt 18, 3) := by decide +kernel
theorem dX13_takeNumber_50 : decode cX13_takeNumber 50 = .ok (.aload_n 0, 1) := by decide +kernel
theorem dX13_takeNumber_51 : decode cX13_takeNumber 51 = .ok (.getfield 30, 3) := by decide +kernel
theorem dX13_takeNumber_54 : decode cX13_takeNumber 54 = .ok (.aload_n 0, 1) := by decide +kernel
theorem dX13_takeNumber_55 : decode cX13_takeNumber 55 = .ok (.getfield 174, 3) := by decide +kernel
theorem dX13_takeNumber_58 : decode cX13_takeNumber 58 = .ok (.laload, 1) := by decide +kernel
theorem dX13_takeNumber_59 : decode cX13_takeNumber 59 = .ok (.iload_n 2, 1) := by decide +kernel
theorem dX13_takeNumber_60 : decode cX13_takeNumber 60 = .ok (.i2l, 1) := by decide +kernel
theorem dX13_takeNumber_61 : decode cX13_takeNumber 61 = .ok (.lcmp, 1) := by decide +kernel
theorem dX13_takeNumber_62 : decode cX13_takeNumber 62 = .ok (.ifCond .le 8, 3) := by decide +kernel
theorem dX13_takeNumber_65 : decode cX13_takeNumber 65 = .ok (.aload_n 0, 1) := by decide +kernel
theorem dX13_takeNumber_66 : decode cX13_takeNumber 66 = .ok (.iconst 4, 1) := by decide +kernel
theorem dX13_takeNumber_67 : decode cX13_takeNumber 67 = .ok (.invokevirtual 183, 3) := by decide +kernel
theorem dX13_takeNumber_70 : decode cX13_takeNumber 70 = .ok (.aload_n 0, 1) := by decide +kernel
theorem dX13_takeNumber_71 : decode cX13_takeNumber 71 = .ok (.getfield 177, 3) := by decide +kernel
theorem dX13_takeNumber_74 : decode cX13_takeNumber 74 = .ok (.ifCond .le 5, 3) := by decide +kernel
theorem dX13_takeNumber_77 : decode cX13_takeNumber 77 = .ok (.iconst 0, 1) := by decide +kernel
theorem dX13_takeNumber_78 : decode cX13_takeNumber 78 = .ok (.ireturn, 1) := by decide +kernel
theorem dX13_takeNumber_79 : decode cX13_takeNumber 79 = .ok (.aload_n 0, 1) := by decide +kernel
theorem dX13_takeNumber_80 : decode cX13_takeNumber 80 = .ok (.dup, 1) := by decide +kernel
theorem dX13_takeNumber_81 : decode cX13_takeNumber 81 = .ok (.getfield 174, 3) := by decide +kernel
theorem dX13_takeNumber_84 : decode cX13_takeNumber 84 = .ok (.iconst 1, 1) := by decide +kernel
theorem dX13_takeNumber_85 : decode cX13_takeNumber 85 = .ok (.iadd, 1) := by decide +kernel
theorem dX13_takeNumber_86 : decode cX13_takeNumber 86 = .ok (.putfield 174, 3) := by decide +kernel
theorem dX13_takeNumber_89 : decode cX13_takeNumber 89 = .ok (.aload_n 0, 1) := by decide +kernel
theorem dX13_takeNumber_90 : decode cX13_takeNumber 90 = .ok (.getfield 30, 3) := by decide +kernel
theorem dX13_takeNumber_93 : decode cX13_takeNumber 93 = .ok (.aload_n 0, 1) := by decide +kernel
theorem dX13_takeNumber_94 : decode cX13_takeNumber 94 = .ok (.getfield 174, 3) := by decide +kernel
theorem dX13_takeNumber_97 : decode cX13_takeNumber 97 = .ok (.iconst 1, 1) := by decide +kernel
theorem dX13_takeNumber_98 : decode cX13_takeNumber 98 = .ok (.isub, 1) := by decide +kernel
theorem dX13_takeNumber_99 : decode cX13_takeNumber 99 = .ok (.laload, 1) := by decide +kernel
theorem dX13_takeNumber_100 : decode cX13_takeNumber 100 = .ok (.l2i, 1) := by decide +kernel
theorem dX13_takeNumber_101 : decode cX13_takeNumber 101 = .ok (.ireturn, 1) := by decide +kernel
set_option maxHeartbeats 4000000 in
set_option maxRecDepth 100000 in
theorem B_X13_takeNumber {G : zG} {X : zX} {kd : kD} {N0 : Nat} (C : zCt G X 1 0 0 RX13 cX13_takeNumber 3) (hr : (zXh X).sig.returnType = (some .int)) : ∀ f : Nat,
    (∀ (S : aS) (v0 : Nat) (v1 : Int32) (v2 : Int32) (res : Option Value × aS), zT0 kd N0 S → v0 < N0 → kd v0 = .inl 11 → F_X13_takeNumber f 0 [.ref v0, .int v1, .int v2] S = some res → zV G X (zQX G X (zPo G kd N0 res) 0 0) 3 [some (.ref (zB G + v0)), some (.int v1), some (.int v2)] [] (cn G kd N0 S) 0 0 0) ∧
    (∀ (S : aS) (v0 : Nat) (v1 : Int32) (v2 : Int32) (res : Option Value × aS), zT0 kd N0 S → v0 < N0 → kd v0 = .inl 11 → F_X13_takeNumber f 1 [.ref v0, .int v1, .int v2] S = some res → zV G X (zQX G X (zPo G kd N0 res) 0 0) 3 [some (.ref (zB G + v0)), some (.int v1), some (.int v2)] [] (cn G kd N0 S) 28 0 0) ∧
    (∀ (S : aS) (v0 : Nat) (res : Option Value × aS), zT0 kd N0 S → v0 < N0 → kd v0 = .inl 11 → F_X13_takeNumber f 2 [.ref v0] S = some res → zV G X (zQX G X (zPo G kd N0 res) 0 0) 3 [some (.ref (zB G + v0)), none, none] [] (cn G kd N0 S) 70 0 0) ∧
    (∀ (S : aS) (v0 : Nat) (res : Option Value × aS), zT0 kd N0 S → v0 < N0 → kd v0 = .inl 11 → F_X13_takeNumber f 3 [.ref v0] S = some res → zV G X (zQX G X (zPo G kd N0 res) 0 0) 3 [some (.ref (zB G + v0)), none, none] [] (cn G kd N0 S) 65 0 0) := by
  intro f
  induction f with
  | zero => exact ⟨(fun _ _ _ _ _ _ _ _ h => by cases h), (fun _ _ _ _ _ _ _ _ h => by cases h), (fun _ _ _ _ _ _ h => by cases h), (fun _ _ _ _ _ _ h => by cases h)⟩
  | succ f ih =>
    obtain ⟨ih0, ih1, ih2, ih3⟩ := ih
    refine ⟨?_, ?_, ?_, ?_⟩
    · intro S v0 v1 v2 res hT hpv0 hkv0 hF
      replace hF : F_X13_takeNumber_0 f (F_X13_takeNumber f) v0 v1 v2 S = some res := hF
      unfold F_X13_takeNumber_0 at hF
      refine z_aload_n C dX13_takeNumber_0 rfl ?_
      refine f_geti C dX13_takeNumber_1 zfRX13_177 hpv0 hkv0 rfl ?_
      refine z_if_ne C 28 dX13_takeNumber_4 (by decide) (fun c4 => ?_) (fun c4 => ?_)
      · replace hF := im hF c4
        exact ih1 S v0 v1 v2 res hT hpv0 hkv0   hF
      · replace hF := ip hF c4
        refine z_aload_n C dX13_takeNumber_7 rfl ?_
        refine f_getr C dX13_takeNumber_8 zfRX13_24 hpv0 hkv0 rfl ?_
        obtain ⟨hp5, hk5⟩ := hT.1 v0 11 4 (.inr (0, 1002)) hpv0 hkv0 rfl
        refine z_aload_n C dX13_takeNumber_11 rfl ?_
        refine f_geti C dX13_takeNumber_12 zfRX13_174 hpv0 hkv0 rfl ?_
        obtain ⟨hi6, hF⟩ := bX_some hF
        obtain ⟨q6, eq6⟩ : ∃ q : Nat, q = Int32.toNatClampNeg (gI S v0 7) := ⟨_, rfl⟩
        rw [← eq6] at hF
        refine f_iald C dX13_takeNumber_15 hp5 hk5 hi6 ?_
        rw [← eq6]
        refine z_iconst (v := 2) C dX13_takeNumber_16 (by decide) ?_
        refine z_icmp_eq C 28 dX13_takeNumber_17 (by decide) (fun c10 => ?_) (fun c10 => ?_)
        · replace hF := ip hF c10
          exact ih1 S v0 v1 v2 res hT hpv0 hkv0   hF
        · replace hF := im hF c10
          refine z_aload_n C dX13_takeNumber_20 rfl ?_
          refine z_iconst (v := 1) C dX13_takeNumber_21 (by decide) ?_
          obtain ⟨S11, h11, hF⟩ := bV_some hF
          refine f_cV (st2 := []) C dX13_takeNumber_22 zyX13_wrong zvX13_wrong lkRX13_183 (K_X13_wrong (l := zXl X) hT hpv0 hkv0  h11) hpv0 hkv0 rfl (by decide) rfl rfl (Nat.le_of_ble_eq_true rfl) rfl (fun hT11 => ?_)
          refine z_goto C 70 dX13_takeNumber_25 (by decide) ?_
          refine z_mask [true, false, false] ?_ rfl
          exact ih2 S11 v0 res hT11 hpv0 hkv0 hF
    · intro S v0 v1 v2 res hT hpv0 hkv0 hF
      replace hF : F_X13_takeNumber_1 f (F_X13_takeNumber f) v0 v1 v2 S = some res := hF
      unfold F_X13_takeNumber_1 at hF
      refine z_aload_n C dX13_takeNumber_28 rfl ?_
      refine f_geti C dX13_takeNumber_29 zfRX13_177 hpv0 hkv0 rfl ?_
      refine z_if_ne C 70 dX13_takeNumber_32 (by decide) (fun c14 => ?_) (fun c14 => ?_)
      · replace hF := im hF c14
        refine z_mask [true, false, false] ?_ rfl
        exact ih2 S v0 res hT hpv0 hkv0 hF
      · replace hF := ip hF c14
        refine z_aload_n C dX13_takeNumber_35 rfl ?_
        refine f_getr C dX13_takeNumber_36 zfRX13_30 hpv0 hkv0 rfl ?_
        obtain ⟨hp15, hk15⟩ := hT.1 v0 11 6 (.inr (1, 1002)) hpv0 hkv0 rfl
        refine z_aload_n C dX13_takeNumber_39 rfl ?_
        refine f_geti C dX13_takeNumber_40 zfRX13_174 hpv0 hkv0 rfl ?_
        obtain ⟨hi16, hF⟩ := bX_some hF
        obtain ⟨q16, eq16⟩ : ∃ q : Nat, q = Int32.toNatClampNeg (gI S v0 7) := ⟨_, rfl⟩
        rw [← eq16] at hF
        refine f_lald C dX13_takeNumber_43 hp15 hk15 hi16 ?_
        rw [← eq16]
        refine z_iload_n C dX13_takeNumber_44 rfl ?_
        refine z_i2l C dX13_takeNumber_45 ?_
        refine z_lcmp C dX13_takeNumber_46 ?_
        refine z_if_lt C 65 dX13_takeNumber_47 (by decide) (fun c18 => ?_) (fun c18 => ?_)
        · replace hF := ip hF c18
          refine z_mask [true, false, false] ?_ rfl
          exact ih3 S v0 res hT hpv0 hkv0 hF
        · replace hF := im hF c18
          refine z_aload_n C dX13_takeNumber_50 rfl ?_
          refine f_getr C dX13_takeNumber_51 zfRX13_30 hpv0 hkv0 rfl ?_
          obtain ⟨hp19, hk19⟩ := hT.1 v0 11 6 (.inr (1, 1002)) hpv0 hkv0 rfl
          refine z_aload_n C dX13_takeNumber_54 rfl ?_
          refine f_geti C dX13_takeNumber_55 zfRX13_174 hpv0 hkv0 rfl ?_
          obtain ⟨hi20, hF⟩ := bX_some hF
          obtain ⟨q20, eq20⟩ : ∃ q : Nat, q = Int32.toNatClampNeg (gI S v0 7) := ⟨_, rfl⟩
          rw [← eq20] at hF
          refine f_lald C dX13_takeNumber_58 hp19 hk19 hi20 ?_
          rw [← eq20]
          refine z_iload_n C dX13_takeNumber_59 rfl ?_
          refine z_i2l C dX13_takeNumber_60 ?_
          refine z_lcmp C dX13_takeNumber_61 ?_
          refine z_if_le C 70 dX13_takeNumber_62 (by decide) (fun c22 => ?_) (fun c22 => ?_)
          · replace hF := ip hF c22
            refine z_mask [true, false, false] ?_ rfl
            exact ih2 S v0 res hT hpv0 hkv0 hF
          · replace hF := im hF c22
            refine z_mask [true, false, false] ?_ rfl
            exact ih3 S v0 res hT hpv0 hkv0 hF
    · intro S v0 res hT hpv0 hkv0 hF
      replace hF : F_X13_takeNumber_2 f (F_X13_takeNumber f) v0 S = some res := hF
      unfold F_X13_takeNumber_2 at hF
      refine z_aload_n C dX13_takeNumber_70 rfl ?_
      refine f_geti C dX13_takeNumber_71 zfRX13_177 hpv0 hkv0 rfl ?_
      refine z_if_le C 79 dX13_takeNumber_74 (by decide) (fun c23 => ?_) (fun c23 => ?_)
      · replace hF := ip hF c23
        refine z_aload_n C dX13_takeNumber_79 rfl ?_
        refine z_dup C dX13_takeNumber_80 rfl ?_
        refine f_geti C dX13_takeNumber_81 zfRX13_174 hpv0 hkv0 rfl ?_
        refine z_iconst (v := 1) C dX13_takeNumber_84 (by decide) ?_
        refine z_iadd C dX13_takeNumber_85 ?_
        refine f_puti C dX13_takeNumber_86 zfRX13_174 fw11_7 hpv0 hkv0 rfl rfl rfl ?_
        have hT24 : zT0 kd N0 (sI S v0 7 ((gI S v0 7) + (1 : Int32))) := zT0_sI hT
        replace hF := fS_e hF
        generalize sI S v0 7 ((gI S v0 7) + (1 : Int32)) = S24 at hF hT24 ⊢
        refine z_aload_n C dX13_takeNumber_89 rfl ?_
        refine f_getr C dX13_takeNumber_90 zfRX13_30 hpv0 hkv0 rfl ?_
        obtain ⟨hp25, hk25⟩ := hT24.1 v0 11 6 (.inr (1, 1002)) hpv0 hkv0 rfl
        refine z_aload_n C dX13_takeNumber_93 rfl ?_
        refine f_geti C dX13_takeNumber_94 zfRX13_174 hpv0 hkv0 rfl ?_
        refine z_iconst (v := 1) C dX13_takeNumber_97 (by decide) ?_
        refine z_isub C dX13_takeNumber_98 ?_
        obtain ⟨hi26, hF⟩ := bX_some hF
        obtain ⟨q26, eq26⟩ : ∃ q : Nat, q = Int32.toNatClampNeg ((gI S24 v0 7) - (1 : Int32)) := ⟨_, rfl⟩
        rw [← eq26] at hF
        refine f_lald C dX13_takeNumber_99 hp25 hk25 hi26 ?_
        rw [← eq26]
        refine z_l2i C dX13_takeNumber_100 ?_
        cases hF
        exact z_iret C hr dX13_takeNumber_101 ⟨rfl, rfl, hT24⟩
      · replace hF := im hF c23
        refine z_iconst (v := 0) C dX13_takeNumber_77 (by decide) ?_
        cases hF
        exact z_iret C hr dX13_takeNumber_78 ⟨rfl, rfl, hT⟩
    · intro S v0 res hT hpv0 hkv0 hF
      replace hF : F_X13_takeNumber_3 f (F_X13_takeNumber f) v0 S = some res := hF
      unfold F_X13_takeNumber_3 at hF
      refine z_aload_n C dX13_takeNumber_65 rfl ?_
      refine z_iconst (v := 4) C dX13_takeNumber_66 (by decide) ?_
      obtain ⟨S27, h27, hF⟩ := bV_some hF
      refine f_cV (st2 := []) C dX13_takeNumber_67 zyX13_wrong zvX13_wrong lkRX13_183 (K_X13_wrong (l := zXl X) hT hpv0 hkv0  h27) hpv0 hkv0 rfl (by decide) rfl rfl (Nat.le_of_ble_eq_true rfl) rfl (fun hT27 => ?_)
      exact ih2 S27 v0 res hT27 hpv0 hkv0 hF
theorem K_X13_takeNumber {G : zG} {l : Launch} {kd : kD} {N0 f : Nat} {S : aS} {v0 : Nat} {v1 : Int32} {v2 : Int32} {res : Option Value × aS} (hT : zT0 kd N0 S) (hpv0 : v0 < N0) (hkv0 : kd v0 = .inl 11) (hF : F_X13_takeNumber f 0 [.ref v0, .int v1, .int v2] S = some res) : zM G l 1 0 0 yX13_takeNumber cX13_takeNumber 3 (some .int) [.ref (zB G + v0), .int v1, .int v2] (cn G kd N0 S) (zPo G kd N0 res) := zM.of (by decide) rfl (Nat.le_of_ble_eq_true rfl) (fun X _ C hr _ => (B_X13_takeNumber C hr f).1 S v0 v1 v2 res hT hpv0 hkv0 hF)
def F_X13_takeAfter_0 (f : Nat) (rc : Nat → List Value → aS → aR) (v0 : Nat) (v1 : Int32) (v2 : Int32) (v3 : Int32) (S : aS) : aR :=
  bV (F_X13_takeWord f 0 [.ref v0, .int v1] S) fun S1 => bI (F_X13_takeNumber f 0 [.ref v0, .int v2, .int v3] S1) fun x2 S2 => some (some (.int x2), S2)
def F_X13_takeAfter : Nat → Nat → List Value → aS → aR
  | 0, _, _, _ => none
  | f + 1, 0, vs, S => F_X13_takeAfter_0 f (F_X13_takeAfter f) (vR vs 0) (vI vs 1) (vI vs 2) (vI vs 3) S
  | _ + 1, _, _, _ => none
theorem dX13_takeAfter_0 : decode cX13_takeAfter 0 = .ok (.aload_n 0, 1) := by decide +kernel
theorem dX13_takeAfter_1 : decode cX13_takeAfter 1 = .ok (.iload_n 1, 1) := by decide +kernel
theorem dX13_takeAfter_2 : decode cX13_takeAfter 2 = .ok (.invokevirtual 192, 3) := by decide +kernel
theorem dX13_takeAfter_5 : decode cX13_takeAfter 5 = .ok (.aload_n 0, 1) := by decide +kernel
theorem dX13_takeAfter_6 : decode cX13_takeAfter 6 = .ok (.iload_n 2, 1) := by decide +kernel
theorem dX13_takeAfter_7 : decode cX13_takeAfter 7 = .ok (.iload_n 3, 1) := by decide +kernel
theorem dX13_takeAfter_8 : decode cX13_takeAfter 8 = .ok (.invokevirtual 195, 3) := by decide +kernel
theorem dX13_takeAfter_11 : decode cX13_takeAfter 11 = .ok (.ireturn, 1) := by decide +kernel
set_option maxHeartbeats 4000000 in
set_option maxRecDepth 100000 in
theorem B_X13_takeAfter {G : zG} {X : zX} {kd : kD} {N0 : Nat} (C : zCt G X 3 0 0 RX13 cX13_takeAfter 4) (hr : (zXh X).sig.returnType = (some .int)) : ∀ f : Nat,
    (∀ (S : aS) (v0 : Nat) (v1 : Int32) (v2 : Int32) (v3 : Int32) (res : Option Value × aS), zT0 kd N0 S → v0 < N0 → kd v0 = .inl 11 → F_X13_takeAfter f 0 [.ref v0, .int v1, .int v2, .int v3] S = some res → zV G X (zQX G X (zPo G kd N0 res) 0 0) 4 [some (.ref (zB G + v0)), some (.int v1), some (.int v2), some (.int v3)] [] (cn G kd N0 S) 0 0 0) := by
  intro f
  induction f with
  | zero => exact (fun _ _ _ _ _ _ _ _ _ h => by cases h)
  | succ f ih =>
    have ih0 := ih
    intro S v0 v1 v2 v3 res hT hpv0 hkv0 hF
    replace hF : F_X13_takeAfter_0 f (F_X13_takeAfter f) v0 v1 v2 v3 S = some res := hF
    unfold F_X13_takeAfter_0 at hF
    refine z_aload_n C dX13_takeAfter_0 rfl ?_
    refine z_iload_n C dX13_takeAfter_1 rfl ?_
    obtain ⟨S1, h1, hF⟩ := bV_some hF
    refine f_cV (st2 := []) C dX13_takeAfter_2 zyX13_takeWord zvX13_takeWord lkRX13_192 (K_X13_takeWord (l := zXl X) hT hpv0 hkv0  h1) hpv0 hkv0 rfl (by decide) rfl rfl (Nat.le_of_ble_eq_true rfl) rfl (fun hT1 => ?_)
    refine z_aload_n C dX13_takeAfter_5 rfl ?_
    refine z_iload_n C dX13_takeAfter_6 rfl ?_
    refine z_iload_n C dX13_takeAfter_7 rfl ?_
    obtain ⟨x2, S2, h2, hF⟩ := bI_some hF
    refine f_cV (st2 := [.int x2]) C dX13_takeAfter_8 zyX13_takeNumber zvX13_takeNumber lkRX13_195 (K_X13_takeNumber (l := zXl X) hT1 hpv0 hkv0   h2) hpv0 hkv0 rfl (by decide) rfl rfl (Nat.le_of_ble_eq_true rfl) rfl (fun hT2 => ?_)
    cases hF
    exact z_iret C hr dX13_takeAfter_11 ⟨rfl, rfl, hT2⟩
theorem K_X13_takeAfter {G : zG} {l : Launch} {kd : kD} {N0 f : Nat} {S : aS} {v0 : Nat} {v1 : Int32} {v2 : Int32} {v3 : Int32} {res : Option Value × aS} (hT : zT0 kd N0 S) (hpv0 : v0 < N0) (hkv0 : kd v0 = .inl 11) (hF : F_X13_takeAfter f 0 [.ref v0, .int v1, .int v2, .int v3] S = some res) : zM G l 3 0 0 yX13_takeAfter cX13_takeAfter 4 (some .int) [.ref (zB G + v0), .int v1, .int v2, .int v3] (cn G kd N0 S) (zPo G kd N0 res) := zM.of (by decide) rfl (Nat.le_of_ble_eq_true rfl) (fun X _ C hr _ => (B_X13_takeAfter C hr f) S v0 v1 v2 v3 res hT hpv0 hkv0 hF)
def F_X13_wordHere_0 (f : Nat) (rc : Nat → List Value → aS → aR) (v0 : Nat) (v1 : Int32) (v2 : Int32) (S : aS) : aR :=
  rc 1 [.ref v0, .int v1, .int v2, .int ((-1)), .int 0] S
def F_X13_wordHere_1 (f : Nat) (rc : Nat → List Value → aS → aR) (v0 : Nat) (v1 : Int32) (v2 : Int32) (v3 : Int32) (v4 : Int32) (S : aS) : aR :=
  if v2 ≤ v4 then some (some (.int v3), S) else bI (F_X13_isWord f 0 [.ref v0, .int (v1 + v4)] S) fun x3 S3 => rc 1 [.ref v0, .int v1, .int v2, .int (if x3 = (0 : Int32) then v3 else v4), .int (v4 + 1)] S3
def F_X13_wordHere : Nat → Nat → List Value → aS → aR
  | 0, _, _, _ => none
  | f + 1, 0, vs, S => F_X13_wordHere_0 f (F_X13_wordHere f) (vR vs 0) (vI vs 1) (vI vs 2) S
  | f + 1, 1, vs, S => F_X13_wordHere_1 f (F_X13_wordHere f) (vR vs 0) (vI vs 1) (vI vs 2) (vI vs 3) (vI vs 4) S
  | _ + 1, _, _, _ => none
theorem dX13_wordHere_0 : decode cX13_wordHere 0 = .ok (.iconst (-1), 1) := by decide +kernel
theorem dX13_wordHere_1 : decode cX13_wordHere 1 = .ok (.istore_n 3, 1) := by decide +kernel
theorem dX13_wordHere_2 : decode cX13_wordHere 2 = .ok (.iconst 0, 1) := by decide +kernel
theorem dX13_wordHere_3 : decode cX13_wordHere 3 = .ok (.istore 4, 2) := by decide +kernel
theorem dX13_wordHere_5 : decode cX13_wordHere 5 = .ok (.iload 4, 2) := by decide +kernel
theorem dX13_wordHere_7 : decode cX13_wordHere 7 = .ok (.iload_n 2, 1) := by decide +kernel
theorem dX13_wordHere_8 : decode cX13_wordHere 8 = .ok (.if_icmp .ge 27, 3) := by decide +kernel
theorem dX13_wordHere_11 : decode cX13_wordHere 11 = .ok (.aload_n 0, 1) := by decide +kernel
theorem dX13_wordHere_12 : decode cX13_wordHere 12 = .ok (.iload_n 1, 1) := by decide +kernel
theorem dX13_wordHere_13 : decode cX13_wordHere 13 = .ok (.iload 4, 2) := by decide +kernel
theorem dX13_wordHere_15 : decode cX13_wordHere 15 = .ok (.iadd, 1) := by decide +kernel
theorem dX13_wordHere_16 : decode cX13_wordHere 16 = .ok (.invokevirtual 186, 3) := by decide +kernel
theorem dX13_wordHere_19 : decode cX13_wordHere 19 = .ok (.ifCond .eq 8, 3) := by decide +kernel
theorem dX13_wordHere_22 : decode cX13_wordHere 22 = .ok (.iload 4, 2) := by decide +kernel
theorem dX13_wordHere_24 : decode cX13_wordHere 24 = .ok (.goto 4, 3) := by decide +kernel
theorem dX13_wordHere_27 : decode cX13_wordHere 27 = .ok (.iload_n 3, 1) := by decide +kernel
theorem dX13_wordHere_28 : decode cX13_wordHere 28 = .ok (.istore_n 3, 1) := by decide +kernel
theorem dX13_wordHere_29 : decode cX13_wordHere 29 = .ok (.iinc 4 1, 3) := by decide +kernel
theorem dX13_wordHere_32 : decode cX13_wordHere 32 = .ok (.goto (-27), 3) := by decide +kernel
theorem dX13_wordHere_35 : decode cX13_wordHere 35 = .ok (.iload_n 3, 1) := by decide +kernel
theorem dX13_wordHere_36 : decode cX13_wordHere 36 = .ok (.ireturn, 1) := by decide +kernel
set_option maxHeartbeats 4000000 in
set_option maxRecDepth 100000 in
theorem B_X13_wordHere {G : zG} {X : zX} {kd : kD} {N0 : Nat} (C : zCt G X 1 0 0 RX13 cX13_wordHere 5) (hr : (zXh X).sig.returnType = (some .int)) : ∀ f : Nat,
    (∀ (S : aS) (v0 : Nat) (v1 : Int32) (v2 : Int32) (res : Option Value × aS), zT0 kd N0 S → v0 < N0 → kd v0 = .inl 11 → F_X13_wordHere f 0 [.ref v0, .int v1, .int v2] S = some res → zV G X (zQX G X (zPo G kd N0 res) 0 0) 5 [some (.ref (zB G + v0)), some (.int v1), some (.int v2), none, none] [] (cn G kd N0 S) 0 0 0) ∧
    (∀ (S : aS) (v0 : Nat) (v1 : Int32) (v2 : Int32) (v3 : Int32) (v4 : Int32) (res : Option Value × aS), zT0 kd N0 S → v0 < N0 → kd v0 = .inl 11 → F_X13_wordHere f 1 [.ref v0, .int v1, .int v2, .int v3, .int v4] S = some res → zV G X (zQX G X (zPo G kd N0 res) 0 0) 5 [some (.ref (zB G + v0)), some (.int v1), some (.int v2), some (.int v3), some (.int v4)] [] (cn G kd N0 S) 5 0 0) := by
  intro f
  induction f with
  | zero => exact ⟨(fun _ _ _ _ _ _ _ _ h => by cases h), (fun _ _ _ _ _ _ _ _ _ _ h => by cases h)⟩
  | succ f ih =>
    obtain ⟨ih0, ih1⟩ := ih
    refine ⟨?_, ?_⟩
    · intro S v0 v1 v2 res hT hpv0 hkv0 hF
      replace hF : F_X13_wordHere_0 f (F_X13_wordHere f) v0 v1 v2 S = some res := hF
      unfold F_X13_wordHere_0 at hF
      refine z_iconst (v := (-1)) C dX13_wordHere_0 (by decide) ?_
      refine z_istore_n (lv2 := [some (.ref (zB G + v0)), some (.int v1), some (.int v2), some (.int ((-1))), none]) C dX13_wordHere_1 (by decide) rfl ?_
      refine z_iconst (v := 0) C dX13_wordHere_2 (by decide) ?_
      refine z_istore (lv2 := [some (.ref (zB G + v0)), some (.int v1), some (.int v2), some (.int ((-1))), some (.int 0)]) C dX13_wordHere_3 (by decide) rfl ?_
      exact ih1 S v0 v1 v2 ((-1)) 0 res hT hpv0 hkv0     hF
    · intro S v0 v1 v2 v3 v4 res hT hpv0 hkv0 hF
      replace hF : F_X13_wordHere_1 f (F_X13_wordHere f) v0 v1 v2 v3 v4 S = some res := hF
      unfold F_X13_wordHere_1 at hF
      refine z_iload C dX13_wordHere_5 rfl ?_
      refine z_iload_n C dX13_wordHere_7 rfl ?_
      refine z_icmp_ge C 35 dX13_wordHere_8 (by decide) (fun c2 => ?_) (fun c2 => ?_)
      · replace hF := ip hF c2
        refine z_iload_n C dX13_wordHere_35 rfl ?_
        cases hF
        exact z_iret C hr dX13_wordHere_36 ⟨rfl, rfl, hT⟩
      · replace hF := im hF c2
        refine z_aload_n C dX13_wordHere_11 rfl ?_
        refine z_iload_n C dX13_wordHere_12 rfl ?_
        refine z_iload C dX13_wordHere_13 rfl ?_
        refine z_iadd C dX13_wordHere_15 ?_
        obtain ⟨x3, S3, h3, hF⟩ := bI_some hF
        refine f_cV (st2 := [.int x3]) C dX13_wordHere_16 zyX13_isWord zvX13_isWord lkRX13_186 (K_X13_isWord (l := zXl X) hT hpv0 hkv0  h3) hpv0 hkv0 rfl (by decide) rfl rfl (Nat.le_of_ble_eq_true rfl) rfl (fun hT3 => ?_)
        have hJ5 : zV G X (zQX G X (zPo G kd N0 res) 0 0) 5 [some (.ref (zB G + v0)), some (.int v1), some (.int v2), some (.int v3), some (.int v4)] [.int (if x3 = (0 : Int32) then v3 else v4)] (cn G kd N0 S3) 28 0 0 := by
          refine z_istore_n (lv2 := [some (.ref (zB G + v0)), some (.int v1), some (.int v2), some (.int (if x3 = (0 : Int32) then v3 else v4)), some (.int v4)]) C dX13_wordHere_28 (by decide) rfl ?_
          refine z_iinc (v := v4 + 1) (lv2 := [some (.ref (zB G + v0)), some (.int v1), some (.int v2), some (.int (if x3 = (0 : Int32) then v3 else v4)), some (.int (v4 + 1))]) C dX13_wordHere_29 rfl (by rw [show Int32.ofInt 1 = (1 : Int32) from by decide]) rfl ?_
          refine z_goto C 5 dX13_wordHere_32 (by decide) ?_
          exact ih1 S3 v0 v1 v2 (if x3 = (0 : Int32) then v3 else v4) (v4 + 1) res hT3 hpv0 hkv0     hF
        refine z_if_eq C 27 dX13_wordHere_19 (by decide) (fun c4 => ?_) (fun c4 => ?_)
        · refine z_iload_n C dX13_wordHere_27 rfl ?_
          exact zV.at hJ5 (by first | rfl | contradiction | (simp only [if_pos c4]; done)) (by first | rfl | contradiction | (simp only [if_pos c4]; done)) rfl rfl
        · refine z_iload C dX13_wordHere_22 rfl ?_
          refine z_goto C 28 dX13_wordHere_24 (by decide) ?_
          exact zV.at hJ5 (by first | rfl | contradiction | (simp only [if_neg c4]; done)) (by first | rfl | contradiction | (simp only [if_neg c4]; done)) rfl rfl
theorem K_X13_wordHere {G : zG} {l : Launch} {kd : kD} {N0 f : Nat} {S : aS} {v0 : Nat} {v1 : Int32} {v2 : Int32} {res : Option Value × aS} (hT : zT0 kd N0 S) (hpv0 : v0 < N0) (hkv0 : kd v0 = .inl 11) (hF : F_X13_wordHere f 0 [.ref v0, .int v1, .int v2] S = some res) : zM G l 1 0 0 yX13_wordHere cX13_wordHere 5 (some .int) [.ref (zB G + v0), .int v1, .int v2] (cn G kd N0 S) (zPo G kd N0 res) := zM.of (by decide) rfl (Nat.le_of_ble_eq_true rfl) (fun X _ C hr _ => (B_X13_wordHere C hr f).1 S v0 v1 v2 res hT hpv0 hkv0 hF)
def F_X13_takeOne_0 (f : Nat) (rc : Nat → List Value → aS → aR) (v0 : Nat) (v1 : Int32) (v2 : Int32) (S : aS) : aR :=
  if (gI S v0 8) ≤ (0 : Int32) then bI (F_X13_wordHere f 0 [.ref v0, .int v1, .int v2] S) fun x3 S3 => rc 1 [.ref v0, .int x3] S3 else rc 1 [.ref v0, .int ((-1))] S
def F_X13_takeOne_1 (f : Nat) (rc : Nat → List Value → aS → aR) (v0 : Nat) (w0 : Int32) (S : aS) : aR :=
  if (gI S v0 8) = (0 : Int32) then if (0 : Int32) ≤ w0 then rc 2 [.ref v0, .int w0] S else bV (F_X13_wrong f 0 [.ref v0, .int 1] S) fun S9 => rc 2 [.ref v0, .int w0] S9 else rc 2 [.ref v0, .int w0] S
def F_X13_takeOne_2 (f : Nat) (rc : Nat → List Value → aS → aR) (v0 : Nat) (v1 : Int32) (S : aS) : aR :=
  fS (sI S v0 7 ((gI S v0 7) + (if (gI S v0 8) ≤ (0 : Int32) then (1 : Int32) else (0 : Int32)))) fun S12 => some (some (.int (if (gI S12 v0 8) ≤ (0 : Int32) then v1 else (0 : Int32))), S12)
def F_X13_takeOne : Nat → Nat → List Value → aS → aR
  | 0, _, _, _ => none
  | f + 1, 0, vs, S => F_X13_takeOne_0 f (F_X13_takeOne f) (vR vs 0) (vI vs 1) (vI vs 2) S
  | f + 1, 1, vs, S => F_X13_takeOne_1 f (F_X13_takeOne f) (vR vs 0) (vI vs 1) S
  | f + 1, 2, vs, S => F_X13_takeOne_2 f (F_X13_takeOne f) (vR vs 0) (vI vs 1) S
  | _ + 1, _, _, _ => none
theorem dX13_takeOne_0 : decode cX13_takeOne 0 = .ok (.aload_n 0, 1) := by decide +kernel
theorem dX13_takeOne_1 : decode cX13_takeOne 1 = .ok (.getfield 177, 3) := by decide +kernel
theorem dX13_takeOne_4 : decode cX13_takeOne 4 = .ok (.ifCond .le 7, 3) := by decide +kernel
theorem dX13_takeOne_7 : decode cX13_takeOne 7 = .ok (.iconst (-1), 1) := by decide +kernel
theorem dX13_takeOne_8 : decode cX13_takeOne 8 = .ok (.goto 9, 3) := by decide +kernel
theorem dX13_takeOne_11 : decode cX13_takeOne 11 = .ok (.aload_n 0, 1) := by decide +kernel
theorem dX13_takeOne_12 : decode cX13_takeOne 12 = .ok (.iload_n 1, 1) := by decide +kernel
theorem dX13_takeOne_13 : decode cX13_takeOne 13 = .ok (.iload_n 2, 1) := by decide +kernel
theorem dX13_takeOne_14 : decode cX13_takeOne 14 = .ok (.invokevirtual 199, 3) := by decide +kernel
theorem dX13_takeOne_17 : decode cX13_takeOne 17 = .ok (.istore_n 3, 1) := by decide +kernel
theorem dX13_takeOne_18 : decode cX13_takeOne 18 = .ok (.aload_n 0, 1) := by decide +kernel
theorem dX13_takeOne_19 : decode cX13_takeOne 19 = .ok (.getfield 177, 3) := by decide +kernel
theorem dX13_takeOne_22 : decode cX13_takeOne 22 = .ok (.ifCond .ne 12, 3) := by decide +kernel
theorem dX13_takeOne_25 : decode cX13_takeOne 25 = .ok (.iload_n 3, 1) := by decide +kernel
theorem dX13_takeOne_26 : decode cX13_takeOne 26 = .ok (.ifCond .ge 8, 3) := by decide +kernel
theorem dX13_takeOne_29 : decode cX13_takeOne 29 = .ok (.aload_n 0, 1) := by decide +kernel
theorem dX13_takeOne_30 : decode cX13_takeOne 30 = .ok (.iconst 1, 1) := by decide +kernel
theorem dX13_takeOne_31 : decode cX13_takeOne 31 = .ok (.invokevirtual 183, 3) := by decide +kernel
theorem dX13_takeOne_34 : decode cX13_takeOne 34 = .ok (.aload_n 0, 1) := by decide +kernel
theorem dX13_takeOne_35 : decode cX13_takeOne 35 = .ok (.dup, 1) := by decide +kernel
theorem dX13_takeOne_36 : decode cX13_takeOne 36 = .ok (.getfield 174, 3) := by decide +kernel
theorem dX13_takeOne_39 : decode cX13_takeOne 39 = .ok (.aload_n 0, 1) := by decide +kernel
theorem dX13_takeOne_40 : decode cX13_takeOne 40 = .ok (.getfield 177, 3) := by decide +kernel
theorem dX13_takeOne_43 : decode cX13_takeOne 43 = .ok (.ifCond .le 7, 3) := by decide +kernel
theorem dX13_takeOne_46 : decode cX13_takeOne 46 = .ok (.iconst 0, 1) := by decide +kernel
theorem dX13_takeOne_47 : decode cX13_takeOne 47 = .ok (.goto 4, 3) := by decide +kernel
theorem dX13_takeOne_50 : decode cX13_takeOne 50 = .ok (.iconst 1, 1) := by decide +kernel
theorem dX13_takeOne_51 : decode cX13_takeOne 51 = .ok (.iadd, 1) := by decide +kernel
theorem dX13_takeOne_52 : decode cX13_takeOne 52 = .ok (.putfield 174, 3) := by decide +kernel
theorem dX13_takeOne_55 : decode cX13_takeOne 55 = .ok (.aload_n 0, 1) := by decide +kernel
theorem dX13_takeOne_56 : decode cX13_takeOne 56 = .ok (.getfield 177, 3) := by decide +kernel
theorem dX13_takeOne_59 : decode cX13_takeOne 59 = .ok (.ifCond .le 7, 3) := by decide +kernel
theorem dX13_takeOne_62 : decode cX13_takeOne 62 = .ok (.iconst 0, 1) := by decide +kernel
theorem dX13_takeOne_63 : decode cX13_takeOne 63 = .ok (.goto 4, 3) := by decide +kernel
theorem dX13_takeOne_66 : decode cX13_takeOne 66 = .ok (.iload_n 3, 1) := by decide +kernel
theorem dX13_takeOne_67 : decode cX13_takeOne 67 = .ok (.ireturn, 1) := by decide +kernel
set_option maxHeartbeats 4000000 in
set_option maxRecDepth 100000 in
theorem B_X13_takeOne {G : zG} {X : zX} {kd : kD} {N0 : Nat} (C : zCt G X 2 0 0 RX13 cX13_takeOne 4) (hr : (zXh X).sig.returnType = (some .int)) : ∀ f : Nat,
    (∀ (S : aS) (v0 : Nat) (v1 : Int32) (v2 : Int32) (res : Option Value × aS), zT0 kd N0 S → v0 < N0 → kd v0 = .inl 11 → F_X13_takeOne f 0 [.ref v0, .int v1, .int v2] S = some res → zV G X (zQX G X (zPo G kd N0 res) 0 0) 4 [some (.ref (zB G + v0)), some (.int v1), some (.int v2), none] [] (cn G kd N0 S) 0 0 0) ∧
    (∀ (S : aS) (v0 : Nat) (w0 : Int32) (res : Option Value × aS), zT0 kd N0 S → v0 < N0 → kd v0 = .inl 11 → F_X13_takeOne f 1 [.ref v0, .int w0] S = some res → zV G X (zQX G X (zPo G kd N0 res) 0 0) 4 [some (.ref (zB G + v0)), none, none, none] [.int w0] (cn G kd N0 S) 17 0 0) ∧
    (∀ (S : aS) (v0 : Nat) (v1 : Int32) (res : Option Value × aS), zT0 kd N0 S → v0 < N0 → kd v0 = .inl 11 → F_X13_takeOne f 2 [.ref v0, .int v1] S = some res → zV G X (zQX G X (zPo G kd N0 res) 0 0) 4 [some (.ref (zB G + v0)), none, none, some (.int v1)] [] (cn G kd N0 S) 34 0 0) := by
  intro f
  induction f with
  | zero => exact ⟨(fun _ _ _ _ _ _ _ _ h => by cases h), (fun _ _ _ _ _ _ _ h => by cases h), (fun _ _ _ _ _ _ _ h => by cases h)⟩
  | succ f ih =>
    obtain ⟨ih0, ih1, ih2⟩ := ih
    refine ⟨?_, ?_, ?_⟩
    · intro S v0 v1 v2 res hT hpv0 hkv0 hF
      replace hF : F_X13_takeOne_0 f (F_X13_takeOne f) v0 v1 v2 S = some res := hF
      unfold F_X13_takeOne_0 at hF
      refine z_aload_n C dX13_takeOne_0 rfl ?_
      refine f_geti C dX13_takeOne_1 zfRX13_177 hpv0 hkv0 rfl ?_
      refine z_if_le C 11 dX13_takeOne_4 (by decide) (fun c2 => ?_) (fun c2 => ?_)
      · replace hF := ip hF c2
        refine z_aload_n C dX13_takeOne_11 rfl ?_
        refine z_iload_n C dX13_takeOne_12 rfl ?_
        refine z_iload_n C dX13_takeOne_13 rfl ?_
        obtain ⟨x3, S3, h3, hF⟩ := bI_some hF
        refine f_cV (st2 := [.int x3]) C dX13_takeOne_14 zyX13_wordHere zvX13_wordHere lkRX13_199 (K_X13_wordHere (l := zXl X) hT hpv0 hkv0   h3) hpv0 hkv0 rfl (by decide) rfl rfl (Nat.le_of_ble_eq_true rfl) rfl (fun hT3 => ?_)
        refine z_mask [true, false, false, true] ?_ rfl
        exact ih1 S3 v0 x3 res hT3 hpv0 hkv0  hF
      · replace hF := im hF c2
        refine z_iconst (v := (-1)) C dX13_takeOne_7 (by decide) ?_
        refine z_goto C 17 dX13_takeOne_8 (by decide) ?_
        refine z_mask [true, false, false, true] ?_ rfl
        exact ih1 S v0 ((-1)) res hT hpv0 hkv0  hF
    · intro S v0 w0 res hT hpv0 hkv0 hF
      replace hF : F_X13_takeOne_1 f (F_X13_takeOne f) v0 w0 S = some res := hF
      unfold F_X13_takeOne_1 at hF
      refine z_istore_n (lv2 := [some (.ref (zB G + v0)), none, none, some (.int w0)]) C dX13_takeOne_17 (by decide) rfl ?_
      refine z_aload_n C dX13_takeOne_18 rfl ?_
      refine f_geti C dX13_takeOne_19 zfRX13_177 hpv0 hkv0 rfl ?_
      refine z_if_ne C 34 dX13_takeOne_22 (by decide) (fun c6 => ?_) (fun c6 => ?_)
      · replace hF := im hF c6
        exact ih2 S v0 w0 res hT hpv0 hkv0  hF
      · replace hF := ip hF c6
        refine z_iload_n C dX13_takeOne_25 rfl ?_
        refine z_if_ge C 34 dX13_takeOne_26 (by decide) (fun c8 => ?_) (fun c8 => ?_)
        · replace hF := ip hF c8
          exact ih2 S v0 w0 res hT hpv0 hkv0  hF
        · replace hF := im hF c8
          refine z_aload_n C dX13_takeOne_29 rfl ?_
          refine z_iconst (v := 1) C dX13_takeOne_30 (by decide) ?_
          obtain ⟨S9, h9, hF⟩ := bV_some hF
          refine f_cV (st2 := []) C dX13_takeOne_31 zyX13_wrong zvX13_wrong lkRX13_183 (K_X13_wrong (l := zXl X) hT hpv0 hkv0  h9) hpv0 hkv0 rfl (by decide) rfl rfl (Nat.le_of_ble_eq_true rfl) rfl (fun hT9 => ?_)
          exact ih2 S9 v0 w0 res hT9 hpv0 hkv0  hF
    · intro S v0 v1 res hT hpv0 hkv0 hF
      replace hF : F_X13_takeOne_2 f (F_X13_takeOne f) v0 v1 S = some res := hF
      unfold F_X13_takeOne_2 at hF
      refine z_aload_n C dX13_takeOne_34 rfl ?_
      refine z_dup C dX13_takeOne_35 rfl ?_
      refine f_geti C dX13_takeOne_36 zfRX13_174 hpv0 hkv0 rfl ?_
      refine z_aload_n C dX13_takeOne_39 rfl ?_
      refine f_geti C dX13_takeOne_40 zfRX13_177 hpv0 hkv0 rfl ?_
      have hJ11 : zV G X (zQX G X (zPo G kd N0 res) 0 0) 4 [some (.ref (zB G + v0)), none, none, some (.int v1)] [.int (if (gI S v0 8) ≤ (0 : Int32) then (1 : Int32) else (0 : Int32)), .int (gI S v0 7), .ref (zB G + v0)] (cn G kd N0 S) 51 0 0 := by
        refine z_iadd C dX13_takeOne_51 ?_
        refine f_puti C dX13_takeOne_52 zfRX13_174 fw11_7 hpv0 hkv0 rfl rfl rfl ?_
        have hT12 : zT0 kd N0 (sI S v0 7 ((gI S v0 7) + (if (gI S v0 8) ≤ (0 : Int32) then (1 : Int32) else (0 : Int32)))) := zT0_sI hT
        replace hF := fS_e hF
        generalize sI S v0 7 ((gI S v0 7) + (if (gI S v0 8) ≤ (0 : Int32) then (1 : Int32) else (0 : Int32))) = S12 at hF hT12 ⊢
        refine z_aload_n C dX13_takeOne_55 rfl ?_
        refine f_geti C dX13_takeOne_56 zfRX13_177 hpv0 hkv0 rfl ?_
        have hJ14 : zV G X (zQX G X (zPo G kd N0 res) 0 0) 4 [some (.ref (zB G + v0)), none, none, some (.int v1)] [.int (if (gI S12 v0 8) ≤ (0 : Int32) then v1 else (0 : Int32))] (cn G kd N0 S12) 67 0 0 := by
          cases hF
          exact z_iret C hr dX13_takeOne_67 ⟨rfl, rfl, hT12⟩
        refine z_if_le C 66 dX13_takeOne_59 (by decide) (fun c13 => ?_) (fun c13 => ?_)
        · refine z_iload_n C dX13_takeOne_66 rfl ?_
          exact zV.at hJ14 (by first | rfl | contradiction | (simp only [if_pos c13]; done)) (by first | rfl | contradiction | (simp only [if_pos c13]; done)) rfl rfl
        · refine z_iconst (v := 0) C dX13_takeOne_62 (by decide) ?_
          refine z_goto C 67 dX13_takeOne_63 (by decide) ?_
          exact zV.at hJ14 (by first | rfl | contradiction | (simp only [if_neg c13]; done)) (by first | rfl | contradiction | (simp only [if_neg c13]; done)) rfl rfl
      refine z_if_le C 50 dX13_takeOne_43 (by decide) (fun c10 => ?_) (fun c10 => ?_)
      · refine z_iconst (v := 1) C dX13_takeOne_50 (by decide) ?_
        exact zV.at hJ11 (by first | rfl | contradiction | (simp only [if_pos c10]; done)) (by first | rfl | contradiction | (simp only [if_pos c10]; done)) rfl rfl
      · refine z_iconst (v := 0) C dX13_takeOne_46 (by decide) ?_
        refine z_goto C 51 dX13_takeOne_47 (by decide) ?_
        exact zV.at hJ11 (by first | rfl | contradiction | (simp only [if_neg c10]; done)) (by first | rfl | contradiction | (simp only [if_neg c10]; done)) rfl rfl
theorem K_X13_takeOne {G : zG} {l : Launch} {kd : kD} {N0 f : Nat} {S : aS} {v0 : Nat} {v1 : Int32} {v2 : Int32} {res : Option Value × aS} (hT : zT0 kd N0 S) (hpv0 : v0 < N0) (hkv0 : kd v0 = .inl 11) (hF : F_X13_takeOne f 0 [.ref v0, .int v1, .int v2] S = some res) : zM G l 2 0 0 yX13_takeOne cX13_takeOne 4 (some .int) [.ref (zB G + v0), .int v1, .int v2] (cn G kd N0 S) (zPo G kd N0 res) := zM.of (by decide) rfl (Nat.le_of_ble_eq_true rfl) (fun X _ C hr _ => (B_X13_takeOne C hr f).1 S v0 v1 v2 res hT hpv0 hkv0 hF)
def F_X13_isName_0 (f : Nat) (rc : Nat → List Value → aS → aR) (v0 : Nat) (S : aS) : aR :=
  if (gI S v0 8) = (0 : Int32) then bX (gI S v0 7) 1002 fun q5 => if (gI S (gR S v0 4) q5) = (1 : Int32) then bI (F_X13_wordHere f 0 [.ref v0, .int 0, .int 25] S) fun x8 S8 => bZ (if (0 : Int32) ≤ x8 then (0 : Int32) else (1 : Int32)) (some (some (.int (if (0 : Int32) ≤ x8 then (0 : Int32) else (1 : Int32))), S8)) else rc 1 [] S else rc 1 [] S
def F_X13_isName_1 (f : Nat) (rc : Nat → List Value → aS → aR)  (S : aS) : aR :=
  rc 2 [.int 0] S
def F_X13_isName_2 (f : Nat) (rc : Nat → List Value → aS → aR) (w0 : Int32) (S : aS) : aR :=
  bZ w0 (some (some (.int w0), S))
def F_X13_isName : Nat → Nat → List Value → aS → aR
  | 0, _, _, _ => none
  | f + 1, 0, vs, S => F_X13_isName_0 f (F_X13_isName f) (vR vs 0) S
  | f + 1, 1, vs, S => F_X13_isName_1 f (F_X13_isName f)  S
  | f + 1, 2, vs, S => F_X13_isName_2 f (F_X13_isName f) (vI vs 0) S
  | _ + 1, _, _, _ => none
theorem dX13_isName_0 : decode cX13_isName 0 = .ok (.aload_n 0, 1) := by decide +kernel
theorem dX13_isName_1 : decode cX13_isName 1 = .ok (.getfield 177, 3) := by decide +kernel
theorem dX13_isName_4 : decode cX13_isName 4 = .ok (.ifCond .ne 30, 3) := by decide +kernel
theorem dX13_isName_7 : decode cX13_isName 7 = .ok (.aload_n 0, 1) := by decide +kernel
theorem dX13_isName_8 : decode cX13_isName 8 = .ok (.getfield 24, 3) := by decide +kernel
theorem dX13_isName_11 : decode cX13_isName 11 = .ok (.aload_n 0, 1) := by decide +kernel
theorem dX13_isName_12 : decode cX13_isName 12 = .ok (.getfield 174, 3) := by decide +kernel
theorem dX13_isName_15 : decode cX13_isName 15 = .ok (.iaload, 1) := by decide +kernel
theorem dX13_isName_16 : decode cX13_isName 16 = .ok (.iconst 1, 1) := by decide +kernel
theorem dX13_isName_17 : decode cX13_isName 17 = .ok (.if_icmp .ne 17, 3) := by decide +kernel
theorem dX13_isName_20 : decode cX13_isName 20 = .ok (.aload_n 0, 1) := by decide +kernel
theorem dX13_isName_21 : decode cX13_isName 21 = .ok (.iconst 0, 1) := by decide +kernel
theorem dX13_isName_22 : decode cX13_isName 22 = .ok (.bipush 25, 2) := by decide +kernel
theorem dX13_isName_24 : decode cX13_isName 24 = .ok (.invokevirtual 199, 3) := by decide +kernel
theorem dX13_isName_27 : decode cX13_isName 27 = .ok (.ifCond .ge 7, 3) := by decide +kernel
theorem dX13_isName_30 : decode cX13_isName 30 = .ok (.iconst 1, 1) := by decide +kernel
theorem dX13_isName_31 : decode cX13_isName 31 = .ok (.goto 4, 3) := by decide +kernel
theorem dX13_isName_34 : decode cX13_isName 34 = .ok (.iconst 0, 1) := by decide +kernel
theorem dX13_isName_35 : decode cX13_isName 35 = .ok (.ireturn, 1) := by decide +kernel
set_option maxHeartbeats 4000000 in
set_option maxRecDepth 100000 in
theorem B_X13_isName {G : zG} {X : zX} {kd : kD} {N0 : Nat} (C : zCt G X 2 0 0 RX13 cX13_isName 1) (hr : (zXh X).sig.returnType = (some .boolean)) : ∀ f : Nat,
    (∀ (S : aS) (v0 : Nat) (res : Option Value × aS), zT0 kd N0 S → v0 < N0 → kd v0 = .inl 11 → F_X13_isName f 0 [.ref v0] S = some res → zV G X (zQX G X (zPo G kd N0 res) 0 0) 1 [some (.ref (zB G + v0))] [] (cn G kd N0 S) 0 0 0) ∧
    (∀ (S : aS)  (res : Option Value × aS), zT0 kd N0 S → F_X13_isName f 1 [] S = some res → zV G X (zQX G X (zPo G kd N0 res) 0 0) 1 [none] [] (cn G kd N0 S) 34 0 0) ∧
    (∀ (S : aS) (w0 : Int32) (res : Option Value × aS), zT0 kd N0 S → F_X13_isName f 2 [.int w0] S = some res → zV G X (zQX G X (zPo G kd N0 res) 0 0) 1 [none] [.int w0] (cn G kd N0 S) 35 0 0) := by
  intro f
  induction f with
  | zero => exact ⟨(fun _ _ _ _ _ _ h => by cases h), (fun _ _ _ h => by cases h), (fun _ _ _ _ h => by cases h)⟩
  | succ f ih =>
    obtain ⟨ih0, ih1, ih2⟩ := ih
    refine ⟨?_, ?_, ?_⟩
    · intro S v0 res hT hpv0 hkv0 hF
      replace hF : F_X13_isName_0 f (F_X13_isName f) v0 S = some res := hF
      unfold F_X13_isName_0 at hF
      refine z_aload_n C dX13_isName_0 rfl ?_
      refine f_geti C dX13_isName_1 zfRX13_177 hpv0 hkv0 rfl ?_
      refine z_if_ne C 34 dX13_isName_4 (by decide) (fun c3 => ?_) (fun c3 => ?_)
      · replace hF := im hF c3
        refine z_mask [false] ?_ rfl
        exact ih1 S  res hT  hF
      · replace hF := ip hF c3
        refine z_aload_n C dX13_isName_7 rfl ?_
        refine f_getr C dX13_isName_8 zfRX13_24 hpv0 hkv0 rfl ?_
        obtain ⟨hp4, hk4⟩ := hT.1 v0 11 4 (.inr (0, 1002)) hpv0 hkv0 rfl
        refine z_aload_n C dX13_isName_11 rfl ?_
        refine f_geti C dX13_isName_12 zfRX13_174 hpv0 hkv0 rfl ?_
        obtain ⟨hi5, hF⟩ := bX_some hF
        obtain ⟨q5, eq5⟩ : ∃ q : Nat, q = Int32.toNatClampNeg (gI S v0 7) := ⟨_, rfl⟩
        rw [← eq5] at hF
        refine f_iald C dX13_isName_15 hp4 hk4 hi5 ?_
        rw [← eq5]
        refine z_iconst (v := 1) C dX13_isName_16 (by decide) ?_
        refine z_icmp_ne C 34 dX13_isName_17 (by decide) (fun c7 => ?_) (fun c7 => ?_)
        · replace hF := im hF c7
          refine z_mask [false] ?_ rfl
          exact ih1 S  res hT  hF
        · replace hF := ip hF c7
          refine z_aload_n C dX13_isName_20 rfl ?_
          refine z_iconst (v := 0) C dX13_isName_21 (by decide) ?_
          refine z_bipush (v := 25) C dX13_isName_22 (by decide) ?_
          obtain ⟨x8, S8, h8, hF⟩ := bI_some hF
          refine f_cV (st2 := [.int x8]) C dX13_isName_24 zyX13_wordHere zvX13_wordHere lkRX13_199 (K_X13_wordHere (l := zXl X) hT hpv0 hkv0   h8) hpv0 hkv0 rfl (by decide) rfl rfl (Nat.le_of_ble_eq_true rfl) rfl (fun hT8 => ?_)
          have hJ10 : zV G X (zQX G X (zPo G kd N0 res) 0 0) 1 [some (.ref (zB G + v0))] [.int (if (0 : Int32) ≤ x8 then (0 : Int32) else (1 : Int32))] (cn G kd N0 S8) 35 0 0 := by
            obtain ⟨hz, hF⟩ := bZ_some hF
            cases hF
            exact z_zret C hr hz.1 dX13_isName_35 ⟨rfl, rfl, hT8⟩
          refine z_if_ge C 34 dX13_isName_27 (by decide) (fun c9 => ?_) (fun c9 => ?_)
          · refine z_iconst (v := 0) C dX13_isName_34 (by decide) ?_
            exact zV.at hJ10 (by first | rfl | contradiction | (simp only [if_pos c9]; done)) (by first | rfl | contradiction | (simp only [if_pos c9]; done)) rfl rfl
          · refine z_iconst (v := 1) C dX13_isName_30 (by decide) ?_
            refine z_goto C 35 dX13_isName_31 (by decide) ?_
            exact zV.at hJ10 (by first | rfl | contradiction | (simp only [if_neg c9]; done)) (by first | rfl | contradiction | (simp only [if_neg c9]; done)) rfl rfl
    · intro S  res hT  hF
      replace hF : F_X13_isName_1 f (F_X13_isName f)  S = some res := hF
      unfold F_X13_isName_1 at hF
      refine z_iconst (v := 0) C dX13_isName_34 (by decide) ?_
      exact ih2 S 0 res hT  hF
    · intro S w0 res hT  hF
      replace hF : F_X13_isName_2 f (F_X13_isName f) w0 S = some res := hF
      unfold F_X13_isName_2 at hF
      obtain ⟨hz, hF⟩ := bZ_some hF
      cases hF
      exact z_zret C hr hz.1 dX13_isName_35 ⟨rfl, rfl, hT⟩
theorem K_X13_isName {G : zG} {l : Launch} {kd : kD} {N0 f : Nat} {S : aS} {v0 : Nat} {res : Option Value × aS} (hT : zT0 kd N0 S) (hpv0 : v0 < N0) (hkv0 : kd v0 = .inl 11) (hF : F_X13_isName f 0 [.ref v0] S = some res) : zM G l 2 0 0 yX13_isName cX13_isName 1 (some .boolean) [.ref (zB G + v0)] (cn G kd N0 S) (zPo G kd N0 res) := zM.of (by decide) rfl (Nat.le_of_ble_eq_true rfl) (fun X _ C hr _ => (B_X13_isName C hr f).1 S v0 res hT hpv0 hkv0 hF)
def F_X13_nameAt_0 (f : Nat) (rc : Nat → List Value → aS → aR) (v0 : Nat) (v1 : Int32) (S : aS) : aR :=
  rc 1 [.ref v0, .int v1, .int ((-1)), .int 0] S
def F_X13_nameAt_1 (f : Nat) (rc : Nat → List Value → aS → aR) (v0 : Nat) (v1 : Int32) (v2 : Int32) (v3 : Int32) (S : aS) : aR :=
  if (if v1 = (0 : Int32) then (gI S v0 16) else (gI S v0 17)) ≤ v3 then some (some (.int v2), S) else if v1 = (0 : Int32) then bX v3 6 fun q11 => rc 2 [.ref v0, .int v1, .int v2, .int v3, .long (gJ S (gR S v0 14) q11)] S else bX v3 6 fun q13 => rc 2 [.ref v0, .int v1, .int v2, .int v3, .long (gJ S (gR S v0 15) q13)] S
def F_X13_nameAt_2 (f : Nat) (rc : Nat → List Value → aS → aR) (v0 : Nat) (v1 : Int32) (v2 : Int32) (v3 : Int32) (w0 : Int64) (S : aS) : aR :=
  bX (gI S v0 7) 1002 fun q15 => lI (if (lg_cmp w0 (gJ S (gR S v0 6) q15)) = (0 : Int32) then v3 else v2) fun y18 => rc 1 [.ref v0, .int v1, .int y18, .int (v3 + 1)] S
def F_X13_nameAt : Nat → Nat → List Value → aS → aR
  | 0, _, _, _ => none
  | f + 1, 0, vs, S => F_X13_nameAt_0 f (F_X13_nameAt f) (vR vs 0) (vI vs 1) S
  | f + 1, 1, vs, S => F_X13_nameAt_1 f (F_X13_nameAt f) (vR vs 0) (vI vs 1) (vI vs 2) (vI vs 3) S
  | f + 1, 2, vs, S => F_X13_nameAt_2 f (F_X13_nameAt f) (vR vs 0) (vI vs 1) (vI vs 2) (vI vs 3) (vJ vs 4) S
  | _ + 1, _, _, _ => none
theorem dX13_nameAt_0 : decode cX13_nameAt 0 = .ok (.iconst (-1), 1) := by decide +kernel
theorem dX13_nameAt_1 : decode cX13_nameAt 1 = .ok (.istore_n 2, 1) := by decide +kernel
theorem dX13_nameAt_2 : decode cX13_nameAt 2 = .ok (.iconst 0, 1) := by decide +kernel
theorem dX13_nameAt_3 : decode cX13_nameAt 3 = .ok (.istore_n 3, 1) := by decide +kernel
theorem dX13_nameAt_4 : decode cX13_nameAt 4 = .ok (.iload_n 3, 1) := by decide +kernel
theorem dX13_nameAt_5 : decode cX13_nameAt 5 = .ok (.iload_n 1, 1) := by decide +kernel
theorem dX13_nameAt_6 : decode cX13_nameAt 6 = .ok (.ifCond .eq 10, 3) := by decide +kernel
theorem dX13_nameAt_9 : decode cX13_nameAt 9 = .ok (.aload_n 0, 1) := by decide +kernel
theorem dX13_nameAt_10 : decode cX13_nameAt 10 = .ok (.getfield 202, 3) := by decide +kernel
theorem dX13_nameAt_13 : decode cX13_nameAt 13 = .ok (.goto 7, 3) := by decide +kernel
theorem dX13_nameAt_16 : decode cX13_nameAt 16 = .ok (.aload_n 0, 1) := by decide +kernel
theorem dX13_nameAt_17 : decode cX13_nameAt 17 = .ok (.getfield 205, 3) := by decide +kernel
theorem dX13_nameAt_20 : decode cX13_nameAt 20 = .ok (.if_icmp .ge 47, 3) := by decide +kernel
theorem dX13_nameAt_23 : decode cX13_nameAt 23 = .ok (.iload_n 1, 1) := by decide +kernel
theorem dX13_nameAt_24 : decode cX13_nameAt 24 = .ok (.ifCond .eq 12, 3) := by decide +kernel
theorem dX13_nameAt_27 : decode cX13_nameAt 27 = .ok (.aload_n 0, 1) := by decide +kernel
theorem dX13_nameAt_28 : decode cX13_nameAt 28 = .ok (.getfield 107, 3) := by decide +kernel
theorem dX13_nameAt_31 : decode cX13_nameAt 31 = .ok (.iload_n 3, 1) := by decide +kernel
theorem dX13_nameAt_32 : decode cX13_nameAt 32 = .ok (.laload, 1) := by decide +kernel
theorem dX13_nameAt_33 : decode cX13_nameAt 33 = .ok (.goto 9, 3) := by decide +kernel
theorem dX13_nameAt_36 : decode cX13_nameAt 36 = .ok (.aload_n 0, 1) := by decide +kernel
theorem dX13_nameAt_37 : decode cX13_nameAt 37 = .ok (.getfield 104, 3) := by decide +kernel
theorem dX13_nameAt_40 : decode cX13_nameAt 40 = .ok (.iload_n 3, 1) := by decide +kernel
theorem dX13_nameAt_41 : decode cX13_nameAt 41 = .ok (.laload, 1) := by decide +kernel
theorem dX13_nameAt_42 : decode cX13_nameAt 42 = .ok (.aload_n 0, 1) := by decide +kernel
theorem dX13_nameAt_43 : decode cX13_nameAt 43 = .ok (.getfield 30, 3) := by decide +kernel
theorem dX13_nameAt_46 : decode cX13_nameAt 46 = .ok (.aload_n 0, 1) := by decide +kernel
theorem dX13_nameAt_47 : decode cX13_nameAt 47 = .ok (.getfield 174, 3) := by decide +kernel
theorem dX13_nameAt_50 : decode cX13_nameAt 50 = .ok (.laload, 1) := by decide +kernel
theorem dX13_nameAt_51 : decode cX13_nameAt 51 = .ok (.lcmp, 1) := by decide +kernel
theorem dX13_nameAt_52 : decode cX13_nameAt 52 = .ok (.ifCond .ne 7, 3) := by decide +kernel
theorem dX13_nameAt_55 : decode cX13_nameAt 55 = .ok (.iload_n 3, 1) := by decide +kernel
theorem dX13_nameAt_56 : decode cX13_nameAt 56 = .ok (.goto 4, 3) := by decide +kernel
theorem dX13_nameAt_59 : decode cX13_nameAt 59 = .ok (.iload_n 2, 1) := by decide +kernel
theorem dX13_nameAt_60 : decode cX13_nameAt 60 = .ok (.istore_n 2, 1) := by decide +kernel
theorem dX13_nameAt_61 : decode cX13_nameAt 61 = .ok (.iinc 3 1, 3) := by decide +kernel
theorem dX13_nameAt_64 : decode cX13_nameAt 64 = .ok (.goto (-60), 3) := by decide +kernel
theorem dX13_nameAt_67 : decode cX13_nameAt 67 = .ok (.iload_n 2, 1) := by decide +kernel
theorem dX13_nameAt_68 : decode cX13_nameAt 68 = .ok (.ireturn, 1) := by decide +kernel
set_option maxHeartbeats 4000000 in
set_option maxRecDepth 100000 in
theorem B_X13_nameAt {G : zG} {X : zX} {kd : kD} {N0 : Nat} (C : zCt G X 0 0 0 RX13 cX13_nameAt 4) (hr : (zXh X).sig.returnType = (some .int)) : ∀ f : Nat,
    (∀ (S : aS) (v0 : Nat) (v1 : Int32) (res : Option Value × aS), zT0 kd N0 S → v0 < N0 → kd v0 = .inl 11 → F_X13_nameAt f 0 [.ref v0, .int v1] S = some res → zV G X (zQX G X (zPo G kd N0 res) 0 0) 4 [some (.ref (zB G + v0)), some (.int v1), none, none] [] (cn G kd N0 S) 0 0 0) ∧
    (∀ (S : aS) (v0 : Nat) (v1 : Int32) (v2 : Int32) (v3 : Int32) (res : Option Value × aS), zT0 kd N0 S → v0 < N0 → kd v0 = .inl 11 → F_X13_nameAt f 1 [.ref v0, .int v1, .int v2, .int v3] S = some res → zV G X (zQX G X (zPo G kd N0 res) 0 0) 4 [some (.ref (zB G + v0)), some (.int v1), some (.int v2), some (.int v3)] [] (cn G kd N0 S) 4 0 0) ∧
    (∀ (S : aS) (v0 : Nat) (v1 : Int32) (v2 : Int32) (v3 : Int32) (w0 : Int64) (res : Option Value × aS), zT0 kd N0 S → v0 < N0 → kd v0 = .inl 11 → F_X13_nameAt f 2 [.ref v0, .int v1, .int v2, .int v3, .long w0] S = some res → zV G X (zQX G X (zPo G kd N0 res) 0 0) 4 [some (.ref (zB G + v0)), some (.int v1), some (.int v2), some (.int v3)] [.long w0] (cn G kd N0 S) 42 0 0) := by
  intro f
  induction f with
  | zero => exact ⟨(fun _ _ _ _ _ _ _ h => by cases h), (fun _ _ _ _ _ _ _ _ _ h => by cases h), (fun _ _ _ _ _ _ _ _ _ _ h => by cases h)⟩
  | succ f ih =>
    obtain ⟨ih0, ih1, ih2⟩ := ih
    refine ⟨?_, ?_, ?_⟩
    · intro S v0 v1 res hT hpv0 hkv0 hF
      replace hF : F_X13_nameAt_0 f (F_X13_nameAt f) v0 v1 S = some res := hF
      unfold F_X13_nameAt_0 at hF
      refine z_iconst (v := (-1)) C dX13_nameAt_0 (by decide) ?_
      refine z_istore_n (lv2 := [some (.ref (zB G + v0)), some (.int v1), some (.int ((-1))), none]) C dX13_nameAt_1 (by decide) rfl ?_
      refine z_iconst (v := 0) C dX13_nameAt_2 (by decide) ?_
      refine z_istore_n (lv2 := [some (.ref (zB G + v0)), some (.int v1), some (.int ((-1))), some (.int 0)]) C dX13_nameAt_3 (by decide) rfl ?_
      exact ih1 S v0 v1 ((-1)) 0 res hT hpv0 hkv0    hF
    · intro S v0 v1 v2 v3 res hT hpv0 hkv0 hF
      replace hF : F_X13_nameAt_1 f (F_X13_nameAt f) v0 v1 v2 v3 S = some res := hF
      unfold F_X13_nameAt_1 at hF
      refine z_iload_n C dX13_nameAt_4 rfl ?_
      refine z_iload_n C dX13_nameAt_5 rfl ?_
      have hJ2 : zV G X (zQX G X (zPo G kd N0 res) 0 0) 4 [some (.ref (zB G + v0)), some (.int v1), some (.int v2), some (.int v3)] [.int (if v1 = (0 : Int32) then (gI S v0 16) else (gI S v0 17)), .int v3] (cn G kd N0 S) 20 0 0 := by
        refine z_icmp_ge C 67 dX13_nameAt_20 (by decide) (fun c6 => ?_) (fun c6 => ?_)
        · replace hF := ip hF c6
          refine z_iload_n C dX13_nameAt_67 rfl ?_
          cases hF
          exact z_iret C hr dX13_nameAt_68 ⟨rfl, rfl, hT⟩
        · replace hF := im hF c6
          refine z_iload_n C dX13_nameAt_23 rfl ?_
          refine z_if_eq C 36 dX13_nameAt_24 (by decide) (fun c9 => ?_) (fun c9 => ?_)
          · replace hF := ip hF c9
            refine z_aload_n C dX13_nameAt_36 rfl ?_
            refine f_getr C dX13_nameAt_37 zfRX13_104 hpv0 hkv0 rfl ?_
            obtain ⟨hp10, hk10⟩ := hT.1 v0 11 14 (.inr (1, 6)) hpv0 hkv0 rfl
            refine z_iload_n C dX13_nameAt_40 rfl ?_
            obtain ⟨hi11, hF⟩ := bX_some hF
            obtain ⟨q11, eq11⟩ : ∃ q : Nat, q = Int32.toNatClampNeg v3 := ⟨_, rfl⟩
            rw [← eq11] at hF
            refine f_lald C dX13_nameAt_41 hp10 hk10 hi11 ?_
            rw [← eq11]
            exact ih2 S v0 v1 v2 v3 (gJ S (gR S v0 14) q11) res hT hpv0 hkv0     hF
          · replace hF := im hF c9
            refine z_aload_n C dX13_nameAt_27 rfl ?_
            refine f_getr C dX13_nameAt_28 zfRX13_107 hpv0 hkv0 rfl ?_
            obtain ⟨hp12, hk12⟩ := hT.1 v0 11 15 (.inr (1, 6)) hpv0 hkv0 rfl
            refine z_iload_n C dX13_nameAt_31 rfl ?_
            obtain ⟨hi13, hF⟩ := bX_some hF
            obtain ⟨q13, eq13⟩ : ∃ q : Nat, q = Int32.toNatClampNeg v3 := ⟨_, rfl⟩
            rw [← eq13] at hF
            refine f_lald C dX13_nameAt_32 hp12 hk12 hi13 ?_
            rw [← eq13]
            refine z_goto C 42 dX13_nameAt_33 (by decide) ?_
            exact ih2 S v0 v1 v2 v3 (gJ S (gR S v0 15) q13) res hT hpv0 hkv0     hF
      refine z_if_eq C 16 dX13_nameAt_6 (by decide) (fun c1 => ?_) (fun c1 => ?_)
      · refine z_aload_n C dX13_nameAt_16 rfl ?_
        refine f_geti C dX13_nameAt_17 zfRX13_205 hpv0 hkv0 rfl ?_
        exact zV.at hJ2 (by first | rfl | contradiction | (simp only [if_pos c1]; done)) (by first | rfl | contradiction | (simp only [if_pos c1]; done)) rfl rfl
      · refine z_aload_n C dX13_nameAt_9 rfl ?_
        refine f_geti C dX13_nameAt_10 zfRX13_202 hpv0 hkv0 rfl ?_
        refine z_goto C 20 dX13_nameAt_13 (by decide) ?_
        exact zV.at hJ2 (by first | rfl | contradiction | (simp only [if_neg c1]; done)) (by first | rfl | contradiction | (simp only [if_neg c1]; done)) rfl rfl
    · intro S v0 v1 v2 v3 w0 res hT hpv0 hkv0 hF
      replace hF : F_X13_nameAt_2 f (F_X13_nameAt f) v0 v1 v2 v3 w0 S = some res := hF
      unfold F_X13_nameAt_2 at hF
      refine z_aload_n C dX13_nameAt_42 rfl ?_
      refine f_getr C dX13_nameAt_43 zfRX13_30 hpv0 hkv0 rfl ?_
      obtain ⟨hp14, hk14⟩ := hT.1 v0 11 6 (.inr (1, 1002)) hpv0 hkv0 rfl
      refine z_aload_n C dX13_nameAt_46 rfl ?_
      refine f_geti C dX13_nameAt_47 zfRX13_174 hpv0 hkv0 rfl ?_
      obtain ⟨hi15, hF⟩ := bX_some hF
      obtain ⟨q15, eq15⟩ : ∃ q : Nat, q = Int32.toNatClampNeg (gI S v0 7) := ⟨_, rfl⟩
      rw [← eq15] at hF
      refine f_lald C dX13_nameAt_50 hp14 hk14 hi15 ?_
      rw [← eq15]
      refine z_lcmp C dX13_nameAt_51 ?_
      have hJ17 : zV G X (zQX G X (zPo G kd N0 res) 0 0) 4 [some (.ref (zB G + v0)), some (.int v1), some (.int v2), some (.int v3)] [.int (if (lg_cmp w0 (gJ S (gR S v0 6) q15)) = (0 : Int32) then v3 else v2)] (cn G kd N0 S) 60 0 0 := by
        replace hF := lI_e hF
        generalize (if (lg_cmp w0 (gJ S (gR S v0 6) q15)) = (0 : Int32) then v3 else v2) = y18 at hF ⊢
        refine z_istore_n (lv2 := [some (.ref (zB G + v0)), some (.int v1), some (.int y18), some (.int v3)]) C dX13_nameAt_60 (by decide) rfl ?_
        refine z_iinc (v := v3 + 1) (lv2 := [some (.ref (zB G + v0)), some (.int v1), some (.int y18), some (.int (v3 + 1))]) C dX13_nameAt_61 rfl (by rw [show Int32.ofInt 1 = (1 : Int32) from by decide]) rfl ?_
        refine z_goto C 4 dX13_nameAt_64 (by decide) ?_
        exact ih1 S v0 v1 y18 (v3 + 1) res hT hpv0 hkv0    hF
      refine z_if_ne C 59 dX13_nameAt_52 (by decide) (fun c16 => ?_) (fun c16 => ?_)
      · refine z_iload_n C dX13_nameAt_59 rfl ?_
        exact zV.at hJ17 (by first | rfl | contradiction | (simp only [if_neg c16]; done)) (by first | rfl | contradiction | (simp only [if_neg c16]; done)) rfl rfl
      · refine z_iload_n C dX13_nameAt_55 rfl ?_
        refine z_goto C 60 dX13_nameAt_56 (by decide) ?_
        exact zV.at hJ17 (by first | rfl | contradiction | (simp only [if_pos c16]; done)) (by first | rfl | contradiction | (simp only [if_pos c16]; done)) rfl rfl
theorem K_X13_nameAt {G : zG} {l : Launch} {kd : kD} {N0 f : Nat} {S : aS} {v0 : Nat} {v1 : Int32} {res : Option Value × aS} (hT : zT0 kd N0 S) (hpv0 : v0 < N0) (hkv0 : kd v0 = .inl 11) (hF : F_X13_nameAt f 0 [.ref v0, .int v1] S = some res) : zM G l 0 0 0 yX13_nameAt cX13_nameAt 4 (some .int) [.ref (zB G + v0), .int v1] (cn G kd N0 S) (zPo G kd N0 res) := zM.of (by decide) rfl (Nat.le_of_ble_eq_true rfl) (fun X _ C hr _ => (B_X13_nameAt C hr f).1 S v0 v1 res hT hpv0 hkv0 hF)

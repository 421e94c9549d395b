/-! one step of each F -/
theorem E_X1_clear_0 (f : Nat) (v0 : Nat) (S : aS) : F_X1_clear (f + 1) 0 [.ref v0] S = F_X1_clear_0 f (F_X1_clear f) v0 S := rfl
theorem E_X1_isAct_0 (f : Nat) (v0 : Nat) (S : aS) : F_X1_isAct (f + 1) 0 [.ref v0] S = F_X1_isAct_0 f (F_X1_isAct f) v0 S := rfl
theorem E_X2_clear_0 (f : Nat) (v0 : Nat) (S : aS) : F_X2_clear (f + 1) 0 [.ref v0] S = F_X2_clear_0 f (F_X2_clear f) v0 S := rfl
theorem E_X2_set_0 (f : Nat) (v0 : Nat) (v1 : Int32) (v2 : Int32) (S : aS) : F_X2_set (f + 1) 0 [.ref v0, .int v1, .int v2] S = F_X2_set_0 f (F_X2_set f) v0 v1 v2 S := rfl
theorem E_X2_become_0 (f : Nat) (v0 : Nat) (v1 : Nat) (S : aS) : F_X2_become (f + 1) 0 [.ref v0, .ref v1] S = F_X2_become_0 f (F_X2_become f) v0 v1 S := rfl
theorem E_X2_become_1 (f : Nat) (v0 : Nat) (v1 : Nat) (v2 : Int32) (S : aS) : F_X2_become (f + 1) 1 [.ref v0, .ref v1, .int v2] S = F_X2_become_1 f (F_X2_become f) v0 v1 v2 S := rfl
theorem E_X2_agrees_0 (f : Nat) (v0 : Nat) (v1 : Nat) (v2 : Int32) (S : aS) : F_X2_agrees (f + 1) 0 [.ref v0, .ref v1, .int v2] S = F_X2_agrees_0 f (F_X2_agrees f) v0 v1 v2 S := rfl
theorem E_X2_agrees_1 (f : Nat) (v0 : Nat) (v1 : Nat) (v2 : Int32) (v3 : Int32) (S : aS) : F_X2_agrees (f + 1) 1 [.ref v0, .ref v1, .int v2, .int v3] S = F_X2_agrees_1 f (F_X2_agrees f) v0 v1 v2 v3 S := rfl
theorem E_X2_agrees_2 (f : Nat) (v0 : Nat) (v1 : Nat) (v2 : Int32) (v3 : Int32) (S : aS) : F_X2_agrees (f + 1) 2 [.ref v0, .ref v1, .int v2, .int v3] S = F_X2_agrees_2 f (F_X2_agrees f) v0 v1 v2 v3 S := rfl
theorem E_X3_clear_0 (f : Nat) (v0 : Nat) (S : aS) : F_X3_clear (f + 1) 0 [.ref v0] S = F_X3_clear_0 f (F_X3_clear f) v0 S := rfl
theorem E_X4_begin_0 (f : Nat) (v0 : Nat) (v1 : Nat) (S : aS) : F_X4_begin (f + 1) 0 [.ref v0, .ref v1] S = F_X4_begin_0 f (F_X4_begin f) v0 v1 S := rfl
theorem E_X4_begin_1 (f : Nat) (v0 : Nat) (v1 : Nat) (v2 : Int32) (S : aS) : F_X4_begin (f + 1) 1 [.ref v0, .ref v1, .int v2] S = F_X4_begin_1 f (F_X4_begin f) v0 v1 v2 S := rfl
theorem E_X4_begin_2 (f : Nat) (v0 : Nat) (v1 : Nat) (v2 : Int32) (w0 : Int32) (w1 : Int32) (w2 : Nat) (S : aS) : F_X4_begin (f + 1) 2 [.ref v0, .ref v1, .int v2, .int w0, .int w1, .ref w2] S = F_X4_begin_2 f (F_X4_begin f) v0 v1 v2 w0 w1 w2 S := rfl
theorem E_X4_begin_3 (f : Nat) (v0 : Nat) (v1 : Nat) (v2 : Int32) (w0 : Int32) (w1 : Int32) (w2 : Nat) (S : aS) : F_X4_begin (f + 1) 3 [.ref v0, .ref v1, .int v2, .int w0, .int w1, .ref w2] S = F_X4_begin_3 f (F_X4_begin f) v0 v1 v2 w0 w1 w2 S := rfl
theorem E_X4_become_0 (f : Nat) (v0 : Nat) (v1 : Nat) (S : aS) : F_X4_become (f + 1) 0 [.ref v0, .ref v1] S = F_X4_become_0 f (F_X4_become f) v0 v1 S := rfl
theorem E_X4_become_1 (f : Nat) (v0 : Nat) (v1 : Nat) (v2 : Int32) (S : aS) : F_X4_become (f + 1) 1 [.ref v0, .ref v1, .int v2] S = F_X4_become_1 f (F_X4_become f) v0 v1 v2 S := rfl
theorem E_X4_hasYard_0 (f : Nat) (v0 : Nat) (v1 : Int32) (S : aS) : F_X4_hasYard (f + 1) 0 [.ref v0, .int v1] S = F_X4_hasYard_0 f (F_X4_hasYard f) v0 v1 S := rfl
theorem E_X4_hasBin_0 (f : Nat) (v0 : Nat) (v1 : Int32) (S : aS) : F_X4_hasBin (f + 1) 0 [.ref v0, .int v1] S = F_X4_hasBin_0 f (F_X4_hasBin f) v0 v1 S := rfl
theorem E_X4_hasBin_1 (f : Nat)  (S : aS) : F_X4_hasBin (f + 1) 1 [] S = F_X4_hasBin_1 f (F_X4_hasBin f)  S := rfl
theorem E_X4_hasBin_2 (f : Nat) (w0 : Int32) (S : aS) : F_X4_hasBin (f + 1) 2 [.int w0] S = F_X4_hasBin_2 f (F_X4_hasBin f) w0 S := rfl
theorem E_X4_binBits_0 (f : Nat) (v0 : Nat) (S : aS) : F_X4_binBits (f + 1) 0 [.ref v0] S = F_X4_binBits_0 f (F_X4_binBits f) v0 S := rfl
theorem E_X4_binBits_1 (f : Nat) (v0 : Nat) (v1 : Int32) (v2 : Int32) (S : aS) : F_X4_binBits (f + 1) 1 [.ref v0, .int v1, .int v2] S = F_X4_binBits_1 f (F_X4_binBits f) v0 v1 v2 S := rfl
theorem E_X4_total_0 (f : Nat) (v0 : Nat) (S : aS) : F_X4_total (f + 1) 0 [.ref v0] S = F_X4_total_0 f (F_X4_total f) v0 S := rfl
theorem E_X4_total_1 (f : Nat) (v0 : Nat) (v1 : Int32) (v2 : Int32) (S : aS) : F_X4_total (f + 1) 1 [.ref v0, .int v1, .int v2] S = F_X4_total_1 f (F_X4_total f) v0 v1 v2 S := rfl
theorem E_X4_room_0 (f : Nat) (v0 : Nat) (S : aS) : F_X4_room (f + 1) 0 [.ref v0] S = F_X4_room_0 f (F_X4_room f) v0 S := rfl
theorem E_X4_room_1 (f : Nat) (v0 : Nat) (v1 : Int32) (v2 : Int32) (S : aS) : F_X4_room (f + 1) 1 [.ref v0, .int v1, .int v2] S = F_X4_room_1 f (F_X4_room f) v0 v1 v2 S := rfl
theorem E_X4_yardsAbove_0 (f : Nat) (v0 : Nat) (v1 : Int32) (S : aS) : F_X4_yardsAbove (f + 1) 0 [.ref v0, .int v1] S = F_X4_yardsAbove_0 f (F_X4_yardsAbove f) v0 v1 S := rfl
theorem E_X4_yardsAbove_1 (f : Nat) (v0 : Nat) (v1 : Int32) (v2 : Int32) (v3 : Int32) (S : aS) : F_X4_yardsAbove (f + 1) 1 [.ref v0, .int v1, .int v2, .int v3] S = F_X4_yardsAbove_1 f (F_X4_yardsAbove f) v0 v1 v2 v3 S := rfl
theorem E_X4_yardsToOpen_0 (f : Nat) (v0 : Nat) (v1 : Int32) (S : aS) : F_X4_yardsToOpen (f + 1) 0 [.ref v0, .int v1] S = F_X4_yardsToOpen_0 f (F_X4_yardsToOpen f) v0 v1 S := rfl
theorem E_X4_yardsToOpen_1 (f : Nat) (v0 : Nat) (v1 : Int32) (v2 : Int32) (S : aS) : F_X4_yardsToOpen (f + 1) 1 [.ref v0, .int v1, .int v2] S = F_X4_yardsToOpen_1 f (F_X4_yardsToOpen f) v0 v1 v2 S := rfl
theorem E_X4_nearOf_0 (f : Nat) (v0 : Nat) (v1 : Int32) (S : aS) : F_X4_nearOf (f + 1) 0 [.ref v0, .int v1] S = F_X4_nearOf_0 f (F_X4_nearOf f) v0 v1 S := rfl
theorem E_X4_emptyBin_0 (f : Nat) (v0 : Nat) (v1 : Int32) (v2 : Int32) (S : aS) : F_X4_emptyBin (f + 1) 0 [.ref v0, .int v1, .int v2] S = F_X4_emptyBin_0 f (F_X4_emptyBin f) v0 v1 v2 S := rfl
theorem E_X4_emptyBins_0 (f : Nat) (v0 : Nat) (v1 : Int32) (S : aS) : F_X4_emptyBins (f + 1) 0 [.ref v0, .int v1] S = F_X4_emptyBins_0 f (F_X4_emptyBins f) v0 v1 S := rfl
theorem E_X4_emptyBins_1 (f : Nat) (v0 : Nat) (v1 : Int32) (v2 : Int32) (S : aS) : F_X4_emptyBins (f + 1) 1 [.ref v0, .int v1, .int v2] S = F_X4_emptyBins_1 f (F_X4_emptyBins f) v0 v1 v2 S := rfl
theorem E_X4_emptyBins_2 (f : Nat) (v0 : Nat) (v1 : Int32) (v2 : Int32) (S : aS) : F_X4_emptyBins (f + 1) 2 [.ref v0, .int v1, .int v2] S = F_X4_emptyBins_2 f (F_X4_emptyBins f) v0 v1 v2 S := rfl
theorem E_X4_setBin_0 (f : Nat) (v0 : Nat) (v1 : Int32) (v2 : Int32) (S : aS) : F_X4_setBin (f + 1) 0 [.ref v0, .int v1, .int v2] S = F_X4_setBin_0 f (F_X4_setBin f) v0 v1 v2 S := rfl
theorem E_X4_takeBin_0 (f : Nat) (v0 : Nat) (v1 : Int32) (S : aS) : F_X4_takeBin (f + 1) 0 [.ref v0, .int v1] S = F_X4_takeBin_0 f (F_X4_takeBin f) v0 v1 S := rfl
theorem E_X4_sweepYard_0 (f : Nat) (v0 : Nat) (v1 : Int32) (S : aS) : F_X4_sweepYard (f + 1) 0 [.ref v0, .int v1] S = F_X4_sweepYard_0 f (F_X4_sweepYard f) v0 v1 S := rfl
theorem E_X4_drop_0 (f : Nat) (v0 : Nat) (v1 : Int32) (v2 : Int32) (S : aS) : F_X4_drop (f + 1) 0 [.ref v0, .int v1, .int v2] S = F_X4_drop_0 f (F_X4_drop f) v0 v1 v2 S := rfl
theorem E_X4_blowOn_0 (f : Nat) (v0 : Nat) (S : aS) : F_X4_blowOn (f + 1) 0 [.ref v0] S = F_X4_blowOn_0 f (F_X4_blowOn f) v0 S := rfl
theorem E_X4_blowOn_1 (f : Nat) (v0 : Nat) (v1 : Int32) (v2 : Int32) (S : aS) : F_X4_blowOn (f + 1) 1 [.ref v0, .int v1, .int v2] S = F_X4_blowOn_1 f (F_X4_blowOn f) v0 v1 v2 S := rfl
theorem E_X4_blowOn_2 (f : Nat) (v0 : Nat) (v1 : Int32) (v2 : Int32) (w0 : Int32) (S : aS) : F_X4_blowOn (f + 1) 2 [.ref v0, .int v1, .int v2, .int w0] S = F_X4_blowOn_2 f (F_X4_blowOn f) v0 v1 v2 w0 S := rfl
theorem E_X4_blowBack_0 (f : Nat) (v0 : Nat) (S : aS) : F_X4_blowBack (f + 1) 0 [.ref v0] S = F_X4_blowBack_0 f (F_X4_blowBack f) v0 S := rfl
theorem E_X4_blowBack_1 (f : Nat) (v0 : Nat) (v1 : Int32) (v2 : Int32) (S : aS) : F_X4_blowBack (f + 1) 1 [.ref v0, .int v1, .int v2] S = F_X4_blowBack_1 f (F_X4_blowBack f) v0 v1 v2 S := rfl
theorem E_X4_blowBack_2 (f : Nat) (v0 : Nat) (v1 : Int32) (v2 : Int32) (w0 : Int32) (S : aS) : F_X4_blowBack (f + 1) 2 [.ref v0, .int v1, .int v2, .int w0] S = F_X4_blowBack_2 f (F_X4_blowBack f) v0 v1 v2 w0 S := rfl
theorem E_X5_clear_0 (f : Nat) (v0 : Nat) (S : aS) : F_X5_clear (f + 1) 0 [.ref v0] S = F_X5_clear_0 f (F_X5_clear f) v0 S := rfl
theorem E_X5_isTold_0 (f : Nat) (v0 : Nat) (S : aS) : F_X5_isTold (f + 1) 0 [.ref v0] S = F_X5_isTold_0 f (F_X5_isTold f) v0 S := rfl
theorem E_X5_add_0 (f : Nat) (v0 : Nat) (v1 : Int32) (S : aS) : F_X5_add (f + 1) 0 [.ref v0, .int v1] S = F_X5_add_0 f (F_X5_add f) v0 v1 S := rfl
theorem E_X5_add_1 (f : Nat)  (S : aS) : F_X5_add (f + 1) 1 [] S = F_X5_add_1 f (F_X5_add f)  S := rfl
theorem E_X5_isFact_0 (f : Nat) (v0 : Nat) (S : aS) : F_X5_isFact (f + 1) 0 [.ref v0] S = F_X5_isFact_0 f (F_X5_isFact f) v0 S := rfl
theorem E_X5_joined_0 (f : Nat) (v0 : Int32) (v1 : Int32) (v2 : Int32) (S : aS) : F_X5_joined (f + 1) 0 [.int v0, .int v1, .int v2] S = F_X5_joined_0 f (F_X5_joined f) v0 v1 v2 S := rfl
theorem E_X6_clear_0 (f : Nat) (v0 : Nat) (S : aS) : F_X6_clear (f + 1) 0 [.ref v0] S = F_X6_clear_0 f (F_X6_clear f) v0 S := rfl
theorem E_X6_clear_1 (f : Nat) (v0 : Nat) (v1 : Int32) (S : aS) : F_X6_clear (f + 1) 1 [.ref v0, .int v1] S = F_X6_clear_1 f (F_X6_clear f) v0 v1 S := rfl
theorem E_X6_isToldOnce_0 (f : Nat) (v0 : Nat) (S : aS) : F_X6_isToldOnce (f + 1) 0 [.ref v0] S = F_X6_isToldOnce_0 f (F_X6_isToldOnce f) v0 S := rfl
theorem E_X6_isKind_0 (f : Nat) (v0 : Nat) (S : aS) : F_X6_isKind (f + 1) 0 [.ref v0] S = F_X6_isKind_0 f (F_X6_isKind f) v0 S := rfl
theorem E_X6_hasPerson_0 (f : Nat) (v0 : Nat) (v1 : Int32) (S : aS) : F_X6_hasPerson (f + 1) 0 [.ref v0, .int v1] S = F_X6_hasPerson_0 f (F_X6_hasPerson f) v0 v1 S := rfl
theorem E_X6_numberOf_0 (f : Nat) (v0 : Nat) (v1 : Int64) (S : aS) : F_X6_numberOf (f + 1) 0 [.ref v0, .long v1] S = F_X6_numberOf_0 f (F_X6_numberOf f) v0 v1 S := rfl
theorem E_X6_numberOf_1 (f : Nat) (v0 : Nat) (v1 : Int64) (v2 : Int32) (S : aS) : F_X6_numberOf (f + 1) 1 [.ref v0, .long v1, .int v2] S = F_X6_numberOf_1 f (F_X6_numberOf f) v0 v1 v2 S := rfl
theorem E_X6_windOf_0 (f : Nat) (v0 : Nat) (v1 : Int32) (S : aS) : F_X6_windOf (f + 1) 0 [.ref v0, .int v1] S = F_X6_windOf_0 f (F_X6_windOf f) v0 v1 S := rfl
theorem E_X6_windOf_1 (f : Nat)  (S : aS) : F_X6_windOf (f + 1) 1 [] S = F_X6_windOf_1 f (F_X6_windOf f)  S := rfl
theorem E_X6_windOf_2 (f : Nat) (w0 : Int32) (S : aS) : F_X6_windOf (f + 1) 2 [.int w0] S = F_X6_windOf_2 f (F_X6_windOf f) w0 S := rfl
theorem E_X6_droppedByHabit_0 (f : Nat) (v0 : Nat) (v1 : Int32) (v2 : Int32) (v3 : Int32) (v4 : Int32) (S : aS) : F_X6_droppedByHabit (f + 1) 0 [.ref v0, .int v1, .int v2, .int v3, .int v4] S = F_X6_droppedByHabit_0 f (F_X6_droppedByHabit f) v0 v1 v2 v3 v4 S := rfl
theorem E_X7_use_0 (f : Nat) (v0 : Nat) (v1 : Nat) (S : aS) : F_X7_use (f + 1) 0 [.ref v0, .ref v1] S = F_X7_use_0 f (F_X7_use f) v0 v1 S := rfl
theorem E_X7_start_0 (f : Nat) (v0 : Nat) (S : aS) : F_X7_start (f + 1) 0 [.ref v0] S = F_X7_start_0 f (F_X7_start f) v0 S := rfl
theorem E_X7_offerRow_0 (f : Nat) (v0 : Nat) (v1 : Int32) (S : aS) : F_X7_offerRow (f + 1) 0 [.ref v0, .int v1] S = F_X7_offerRow_0 f (F_X7_offerRow f) v0 v1 S := rfl
theorem E_X7_offerRow_1 (f : Nat)  (S : aS) : F_X7_offerRow (f + 1) 1 [] S = F_X7_offerRow_1 f (F_X7_offerRow f)  S := rfl
theorem E_X7_offerRow_2 (f : Nat) (v0 : Nat) (v1 : Int32) (S : aS) : F_X7_offerRow (f + 1) 2 [.ref v0, .int v1] S = F_X7_offerRow_2 f (F_X7_offerRow f) v0 v1 S := rfl
theorem E_X7_mostAlike_0 (f : Nat) (v0 : Nat) (v1 : Int32) (v2 : Int32) (S : aS) : F_X7_mostAlike (f + 1) 0 [.ref v0, .int v1, .int v2] S = F_X7_mostAlike_0 f (F_X7_mostAlike f) v0 v1 v2 S := rfl
theorem E_X7_mostAlike_1 (f : Nat) (v0 : Nat) (v1 : Int32) (v2 : Int32) (v3 : Int32) (v4 : Int32) (S : aS) : F_X7_mostAlike (f + 1) 1 [.ref v0, .int v1, .int v2, .int v3, .int v4] S = F_X7_mostAlike_1 f (F_X7_mostAlike f) v0 v1 v2 v3 v4 S := rfl
theorem E_X7_mostAlike_2 (f : Nat) (v0 : Nat) (v1 : Int32) (v2 : Int32) (v3 : Int32) (v4 : Int32) (v5 : Int32) (v6 : Int32) (S : aS) : F_X7_mostAlike (f + 1) 2 [.ref v0, .int v1, .int v2, .int v3, .int v4, .int v5, .int v6] S = F_X7_mostAlike_2 f (F_X7_mostAlike f) v0 v1 v2 v3 v4 v5 v6 S := rfl
theorem E_X7_mostAlike_3 (f : Nat) (v0 : Nat) (v1 : Int32) (v2 : Int32) (v3 : Int32) (v4 : Int32) (v5 : Int32) (w0 : Int32) (S : aS) : F_X7_mostAlike (f + 1) 3 [.ref v0, .int v1, .int v2, .int v3, .int v4, .int v5, .int w0] S = F_X7_mostAlike_3 f (F_X7_mostAlike f) v0 v1 v2 v3 v4 v5 w0 S := rfl
theorem E_X7_mostAlike_4 (f : Nat) (v0 : Nat) (v1 : Int32) (v2 : Int32) (v3 : Int32) (v4 : Int32) (v5 : Int32) (w0 : Int32) (w1 : Int32) (S : aS) : F_X7_mostAlike (f + 1) 4 [.ref v0, .int v1, .int v2, .int v3, .int v4, .int v5, .int w0, .int w1] S = F_X7_mostAlike_4 f (F_X7_mostAlike f) v0 v1 v2 v3 v4 v5 w0 w1 S := rfl
theorem E_X8_clear_0 (f : Nat) (v0 : Nat) (S : aS) : F_X8_clear (f + 1) 0 [.ref v0] S = F_X8_clear_0 f (F_X8_clear f) v0 S := rfl
theorem E_X8_isLetter_0 (f : Nat) (v0 : Int32) (S : aS) : F_X8_isLetter (f + 1) 0 [.int v0] S = F_X8_isLetter_0 f (F_X8_isLetter f) v0 S := rfl
theorem E_X8_isDigit_0 (f : Nat) (v0 : Int32) (S : aS) : F_X8_isDigit (f + 1) 0 [.int v0] S = F_X8_isDigit_0 f (F_X8_isDigit f) v0 S := rfl
theorem E_X8_isAtEnd_0 (f : Nat) (v0 : Nat) (S : aS) : F_X8_isAtEnd (f + 1) 0 [.ref v0] S = F_X8_isAtEnd_0 f (F_X8_isAtEnd f) v0 S := rfl
theorem E_X8_fail_0 (f : Nat) (v0 : Nat) (v1 : Int32) (S : aS) : F_X8_fail (f + 1) 0 [.ref v0, .int v1] S = F_X8_fail_0 f (F_X8_fail f) v0 v1 S := rfl
theorem E_X8_isNameToken_0 (f : Nat) (v0 : Nat) (S : aS) : F_X8_isNameToken (f + 1) 0 [.ref v0] S = F_X8_isNameToken_0 f (F_X8_isNameToken f) v0 S := rfl
theorem E_X8_isNameToken_1 (f : Nat)  (S : aS) : F_X8_isNameToken (f + 1) 1 [] S = F_X8_isNameToken_1 f (F_X8_isNameToken f)  S := rfl
theorem E_X8_isNameToken_2 (f : Nat) (w0 : Int32) (S : aS) : F_X8_isNameToken (f + 1) 2 [.int w0] S = F_X8_isNameToken_2 f (F_X8_isNameToken f) w0 S := rfl
theorem E_X9_use_0 (f : Nat) (v0 : Nat) (v1 : Nat) (S : aS) : F_X9_use (f + 1) 0 [.ref v0, .ref v1] S = F_X9_use_0 f (F_X9_use f) v0 v1 S := rfl
theorem E_X9_canBe_0 (f : Nat) (v0 : Nat) (v1 : Nat) (v2 : Int32) (S : aS) : F_X9_canBe (f + 1) 0 [.ref v0, .ref v1, .int v2] S = F_X9_canBe_0 f (F_X9_canBe f) v0 v1 v2 S := rfl
theorem E_X9_canBe_1 (f : Nat)  (S : aS) : F_X9_canBe (f + 1) 1 [] S = F_X9_canBe_1 f (F_X9_canBe f)  S := rfl
theorem E_X9_canBe_2 (f : Nat) (w0 : Int32) (S : aS) : F_X9_canBe (f + 1) 2 [.int w0] S = F_X9_canBe_2 f (F_X9_canBe f) w0 S := rfl
theorem E_X9_draw_0 (f : Nat) (v0 : Nat) (v1 : Int32) (S : aS) : F_X9_draw (f + 1) 0 [.ref v0, .int v1] S = F_X9_draw_0 f (F_X9_draw f) v0 v1 S := rfl
theorem E_X9_draw_1 (f : Nat) (w0 : Int32) (S : aS) : F_X9_draw (f + 1) 1 [.int w0] S = F_X9_draw_1 f (F_X9_draw f) w0 S := rfl
theorem E_X10_pickUp_0 (f : Nat) (v0 : Nat) (v1 : Nat) (v2 : Int32) (S : aS) : F_X10_pickUp (f + 1) 0 [.ref v0, .ref v1, .int v2] S = F_X10_pickUp_0 f (F_X10_pickUp f) v0 v1 v2 S := rfl
theorem E_X10_putIn_0 (f : Nat) (v0 : Nat) (v1 : Nat) (v2 : Int32) (v3 : Int32) (S : aS) : F_X10_putIn (f + 1) 0 [.ref v0, .ref v1, .int v2, .int v3] S = F_X10_putIn_0 f (F_X10_putIn f) v0 v1 v2 v3 S := rfl
theorem E_X11_keyWith_0 (f : Nat) (v0 : Int64) (v1 : Int32) (S : aS) : F_X11_keyWith (f + 1) 0 [.long v0, .int v1] S = F_X11_keyWith_0 f (F_X11_keyWith f) v0 v1 S := rfl
theorem E_X11_of_0 (f : Nat) (v0 : Int64) (S : aS) : F_X11_of (f + 1) 0 [.long v0] S = F_X11_of_0 f (F_X11_of f) v0 S := rfl
theorem E_X11_of_1 (f : Nat) (v0 : Int64) (v2 : Int32) (v3 : Int32) (S : aS) : F_X11_of (f + 1) 1 [.long v0, .int v2, .int v3] S = F_X11_of_1 f (F_X11_of f) v0 v2 v3 S := rfl
theorem E_X12_begin_0 (f : Nat) (v0 : Nat) (S : aS) : F_X12_begin (f + 1) 0 [.ref v0] S = F_X12_begin_0 f (F_X12_begin f) v0 S := rfl
theorem E_X12_yard_0 (f : Nat) (v0 : Nat) (v1 : Int32) (v2 : Int32) (S : aS) : F_X12_yard (f + 1) 0 [.ref v0, .int v1, .int v2] S = F_X12_yard_0 f (F_X12_yard f) v0 v1 v2 S := rfl
theorem E_X12_space_0 (f : Nat) (v0 : Nat) (S : aS) : F_X12_space (f + 1) 0 [.ref v0] S = F_X12_space_0 f (F_X12_space f) v0 S := rfl
theorem E_X12_heaps_0 (f : Nat) (v0 : Nat) (v1 : Int32) (S : aS) : F_X12_heaps (f + 1) 0 [.ref v0, .int v1] S = F_X12_heaps_0 f (F_X12_heaps f) v0 v1 S := rfl
theorem E_X12_lies_0 (f : Nat) (v0 : Nat) (S : aS) : F_X12_lies (f + 1) 0 [.ref v0] S = F_X12_lies_0 f (F_X12_lies f) v0 S := rfl
theorem E_X12_gain_0 (f : Nat) (v0 : Int32) (v1 : Int32) (v2 : Int32) (v3 : Int32) (S : aS) : F_X12_gain (f + 1) 0 [.int v0, .int v1, .int v2, .int v3] S = F_X12_gain_0 f (F_X12_gain f) v0 v1 v2 v3 S := rfl
theorem E_X12_isWithin_0 (f : Nat) (v0 : Int32) (v1 : Int32) (v2 : Int32) (S : aS) : F_X12_isWithin (f + 1) 0 [.int v0, .int v1, .int v2] S = F_X12_isWithin_0 f (F_X12_isWithin f) v0 v1 v2 S := rfl
theorem E_X13_thrown_0 (f : Nat) (v0 : Nat) (S : aS) : F_X13_thrown (f + 1) 0 [.ref v0] S = F_X13_thrown_0 f (F_X13_thrown f) v0 S := rfl
theorem E_X13_lay_0 (f : Nat) (v0 : Nat) (v1 : Int64) (S : aS) : F_X13_lay (f + 1) 0 [.ref v0, .long v1] S = F_X13_lay_0 f (F_X13_lay f) v0 v1 S := rfl
theorem E_X13_lay_1 (f : Nat) (v0 : Nat) (v1 : Int64) (v2 : Int32) (S : aS) : F_X13_lay (f + 1) 1 [.ref v0, .long v1, .int v2] S = F_X13_lay_1 f (F_X13_lay f) v0 v1 v2 S := rfl
theorem E_X13_lay_2 (f : Nat) (v0 : Nat) (v1 : Int64) (v2 : Int32) (v3 : Int32) (S : aS) : F_X13_lay (f + 1) 2 [.ref v0, .long v1, .int v2, .int v3] S = F_X13_lay_2 f (F_X13_lay f) v0 v1 v2 v3 S := rfl
theorem E_X13_lay_3 (f : Nat) (v0 : Nat) (v1 : Int64) (v2 : Int32) (S : aS) : F_X13_lay (f + 1) 3 [.ref v0, .long v1, .int v2] S = F_X13_lay_3 f (F_X13_lay f) v0 v1 v2 S := rfl
theorem E_X13_isLetter_0 (f : Nat) (v0 : Int32) (S : aS) : F_X13_isLetter (f + 1) 0 [.int v0] S = F_X13_isLetter_0 f (F_X13_isLetter f) v0 S := rfl
theorem E_X13_isDigit_0 (f : Nat) (v0 : Int32) (S : aS) : F_X13_isDigit (f + 1) 0 [.int v0] S = F_X13_isDigit_0 f (F_X13_isDigit f) v0 S := rfl
theorem E_X13_rank_0 (f : Nat) (v0 : Int32) (S : aS) : F_X13_rank (f + 1) 0 [.int v0] S = F_X13_rank_0 f (F_X13_rank f) v0 S := rfl
theorem E_X13_isSignOf_0 (f : Nat) (v0 : Int32) (S : aS) : F_X13_isSignOf (f + 1) 0 [.int v0] S = F_X13_isSignOf_0 f (F_X13_isSignOf f) v0 S := rfl
theorem E_X13_isSignOf_1 (f : Nat)  (S : aS) : F_X13_isSignOf (f + 1) 1 [] S = F_X13_isSignOf_1 f (F_X13_isSignOf f)  S := rfl
theorem E_X13_isSignOf_2 (f : Nat) (w0 : Int32) (S : aS) : F_X13_isSignOf (f + 1) 2 [.int w0] S = F_X13_isSignOf_2 f (F_X13_isSignOf f) w0 S := rfl
theorem E_X13_cutAll_0 (f : Nat) (v0 : Nat) (S : aS) : F_X13_cutAll (f + 1) 0 [.ref v0] S = F_X13_cutAll_0 f (F_X13_cutAll f) v0 S := rfl
theorem E_X13_cutAll_1 (f : Nat) (v0 : Nat) (v1 : Int32) (v2 : Int32) (S : aS) : F_X13_cutAll (f + 1) 1 [.ref v0, .int v1, .int v2] S = F_X13_cutAll_1 f (F_X13_cutAll f) v0 v1 v2 S := rfl
theorem E_X13_cutAll_2 (f : Nat) (v0 : Nat) (v1 : Int32) (v2 : Int32) (S : aS) : F_X13_cutAll (f + 1) 2 [.ref v0, .int v1, .int v2] S = F_X13_cutAll_2 f (F_X13_cutAll f) v0 v1 v2 S := rfl
theorem E_X13_cutAll_3 (f : Nat) (v0 : Nat) (v1 : Int32) (v2 : Int32) (v3 : Int64) (S : aS) : F_X13_cutAll (f + 1) 3 [.ref v0, .int v1, .int v2, .long v3] S = F_X13_cutAll_3 f (F_X13_cutAll f) v0 v1 v2 v3 S := rfl
theorem E_X13_cutAll_4 (f : Nat) (v0 : Nat) (v1 : Int32) (v2 : Int32) (v3 : Int32) (v4 : Int64) (S : aS) : F_X13_cutAll (f + 1) 4 [.ref v0, .int v1, .int v2, .int v3, .long v4] S = F_X13_cutAll_4 f (F_X13_cutAll f) v0 v1 v2 v3 v4 S := rfl
theorem E_X13_cutAll_5 (f : Nat) (v0 : Nat) (v1 : Int32) (v2 : Int32) (v3 : Int32) (v4 : Int64) (S : aS) : F_X13_cutAll (f + 1) 5 [.ref v0, .int v1, .int v2, .int v3, .long v4] S = F_X13_cutAll_5 f (F_X13_cutAll f) v0 v1 v2 v3 v4 S := rfl
theorem E_X13_cutAll_6 (f : Nat) (v0 : Nat) (v1 : Int32) (v2 : Int32) (v3 : Int32) (v4 : Int64) (S : aS) : F_X13_cutAll (f + 1) 6 [.ref v0, .int v1, .int v2, .int v3, .long v4] S = F_X13_cutAll_6 f (F_X13_cutAll f) v0 v1 v2 v3 v4 S := rfl
theorem E_X13_cutAll_7 (f : Nat) (v0 : Nat) (v1 : Int32) (v2 : Int32) (v3 : Int32) (w0 : Int64) (S : aS) : F_X13_cutAll (f + 1) 7 [.ref v0, .int v1, .int v2, .int v3, .long w0] S = F_X13_cutAll_7 f (F_X13_cutAll f) v0 v1 v2 v3 w0 S := rfl
theorem E_X13_cutAll_8 (f : Nat) (v0 : Nat) (v1 : Int32) (v2 : Int32) (v3 : Int32) (v4 : Int64) (S : aS) : F_X13_cutAll (f + 1) 8 [.ref v0, .int v1, .int v2, .int v3, .long v4] S = F_X13_cutAll_8 f (F_X13_cutAll f) v0 v1 v2 v3 v4 S := rfl
theorem E_X13_cutAll_9 (f : Nat) (v0 : Nat) (v1 : Int32) (v2 : Int32) (v3 : Int32) (w0 : Int64) (S : aS) : F_X13_cutAll (f + 1) 9 [.ref v0, .int v1, .int v2, .int v3, .long w0] S = F_X13_cutAll_9 f (F_X13_cutAll f) v0 v1 v2 v3 w0 S := rfl
theorem E_X13_wrong_0 (f : Nat) (v0 : Nat) (v1 : Int32) (S : aS) : F_X13_wrong (f + 1) 0 [.ref v0, .int v1] S = F_X13_wrong_0 f (F_X13_wrong f) v0 v1 S := rfl
theorem E_X13_wrong_1 (f : Nat)  (S : aS) : F_X13_wrong (f + 1) 1 [] S = F_X13_wrong_1 f (F_X13_wrong f)  S := rfl
theorem E_X13_isSign_0 (f : Nat) (v0 : Nat) (v1 : Int32) (S : aS) : F_X13_isSign (f + 1) 0 [.ref v0, .int v1] S = F_X13_isSign_0 f (F_X13_isSign f) v0 v1 S := rfl
theorem E_X13_isSign_1 (f : Nat)  (S : aS) : F_X13_isSign (f + 1) 1 [] S = F_X13_isSign_1 f (F_X13_isSign f)  S := rfl
theorem E_X13_isSign_2 (f : Nat) (w0 : Int32) (S : aS) : F_X13_isSign (f + 1) 2 [.int w0] S = F_X13_isSign_2 f (F_X13_isSign f) w0 S := rfl
theorem E_X13_isWord_0 (f : Nat) (v0 : Nat) (v1 : Int32) (S : aS) : F_X13_isWord (f + 1) 0 [.ref v0, .int v1] S = F_X13_isWord_0 f (F_X13_isWord f) v0 v1 S := rfl
theorem E_X13_isWord_1 (f : Nat)  (S : aS) : F_X13_isWord (f + 1) 1 [] S = F_X13_isWord_1 f (F_X13_isWord f)  S := rfl
theorem E_X13_isWord_2 (f : Nat) (w0 : Int32) (S : aS) : F_X13_isWord (f + 1) 2 [.int w0] S = F_X13_isWord_2 f (F_X13_isWord f) w0 S := rfl
theorem E_X13_takeSign_0 (f : Nat) (v0 : Nat) (v1 : Int32) (S : aS) : F_X13_takeSign (f + 1) 0 [.ref v0, .int v1] S = F_X13_takeSign_0 f (F_X13_takeSign f) v0 v1 S := rfl
theorem E_X13_takeSign_1 (f : Nat)  (S : aS) : F_X13_takeSign (f + 1) 1 [] S = F_X13_takeSign_1 f (F_X13_takeSign f)  S := rfl
theorem E_X13_hasSign_0 (f : Nat) (v0 : Nat) (v1 : Int32) (S : aS) : F_X13_hasSign (f + 1) 0 [.ref v0, .int v1] S = F_X13_hasSign_0 f (F_X13_hasSign f) v0 v1 S := rfl
theorem E_X13_hasWord_0 (f : Nat) (v0 : Nat) (v1 : Int32) (S : aS) : F_X13_hasWord (f + 1) 0 [.ref v0, .int v1] S = F_X13_hasWord_0 f (F_X13_hasWord f) v0 v1 S := rfl
theorem E_X13_takeWord_0 (f : Nat) (v0 : Nat) (v1 : Int32) (S : aS) : F_X13_takeWord (f + 1) 0 [.ref v0, .int v1] S = F_X13_takeWord_0 f (F_X13_takeWord f) v0 v1 S := rfl
theorem E_X13_takeWord_1 (f : Nat)  (S : aS) : F_X13_takeWord (f + 1) 1 [] S = F_X13_takeWord_1 f (F_X13_takeWord f)  S := rfl
theorem E_X13_within_0 (f : Nat) (v0 : Int32) (v1 : Int32) (v2 : Int32) (S : aS) : F_X13_within (f + 1) 0 [.int v0, .int v1, .int v2] S = F_X13_within_0 f (F_X13_within f) v0 v1 v2 S := rfl
theorem E_X13_standsAsAlways_0 (f : Nat) (v0 : Nat) (v1 : Int32) (S : aS) : F_X13_standsAsAlways (f + 1) 0 [.ref v0, .int v1] S = F_X13_standsAsAlways_0 f (F_X13_standsAsAlways f) v0 v1 S := rfl
theorem E_X13_standsAsAlways_1 (f : Nat) (v0 : Nat) (v1 : Int32) (v2 : Int32) (S : aS) : F_X13_standsAsAlways (f + 1) 1 [.ref v0, .int v1, .int v2] S = F_X13_standsAsAlways_1 f (F_X13_standsAsAlways f) v0 v1 v2 S := rfl
theorem E_X13_takeNumber_0 (f : Nat) (v0 : Nat) (v1 : Int32) (v2 : Int32) (S : aS) : F_X13_takeNumber (f + 1) 0 [.ref v0, .int v1, .int v2] S = F_X13_takeNumber_0 f (F_X13_takeNumber f) v0 v1 v2 S := rfl
theorem E_X13_takeNumber_1 (f : Nat) (v0 : Nat) (v1 : Int32) (v2 : Int32) (S : aS) : F_X13_takeNumber (f + 1) 1 [.ref v0, .int v1, .int v2] S = F_X13_takeNumber_1 f (F_X13_takeNumber f) v0 v1 v2 S := rfl
theorem E_X13_takeNumber_2 (f : Nat) (v0 : Nat) (S : aS) : F_X13_takeNumber (f + 1) 2 [.ref v0] S = F_X13_takeNumber_2 f (F_X13_takeNumber f) v0 S := rfl
theorem E_X13_takeNumber_3 (f : Nat) (v0 : Nat) (S : aS) : F_X13_takeNumber (f + 1) 3 [.ref v0] S = F_X13_takeNumber_3 f (F_X13_takeNumber f) v0 S := rfl
theorem E_X13_takeAfter_0 (f : Nat) (v0 : Nat) (v1 : Int32) (v2 : Int32) (v3 : Int32) (S : aS) : F_X13_takeAfter (f + 1) 0 [.ref v0, .int v1, .int v2, .int v3] S = F_X13_takeAfter_0 f (F_X13_takeAfter f) v0 v1 v2 v3 S := rfl
theorem E_X13_wordHere_0 (f : Nat) (v0 : Nat) (v1 : Int32) (v2 : Int32) (S : aS) : F_X13_wordHere (f + 1) 0 [.ref v0, .int v1, .int v2] S = F_X13_wordHere_0 f (F_X13_wordHere f) v0 v1 v2 S := rfl
theorem E_X13_wordHere_1 (f : Nat) (v0 : Nat) (v1 : Int32) (v2 : Int32) (v3 : Int32) (v4 : Int32) (S : aS) : F_X13_wordHere (f + 1) 1 [.ref v0, .int v1, .int v2, .int v3, .int v4] S = F_X13_wordHere_1 f (F_X13_wordHere f) v0 v1 v2 v3 v4 S := rfl
theorem E_X13_takeOne_0 (f : Nat) (v0 : Nat) (v1 : Int32) (v2 : Int32) (S : aS) : F_X13_takeOne (f + 1) 0 [.ref v0, .int v1, .int v2] S = F_X13_takeOne_0 f (F_X13_takeOne f) v0 v1 v2 S := rfl
theorem E_X13_takeOne_1 (f : Nat) (v0 : Nat) (w0 : Int32) (S : aS) : F_X13_takeOne (f + 1) 1 [.ref v0, .int w0] S = F_X13_takeOne_1 f (F_X13_takeOne f) v0 w0 S := rfl
theorem E_X13_takeOne_2 (f : Nat) (v0 : Nat) (v1 : Int32) (S : aS) : F_X13_takeOne (f + 1) 2 [.ref v0, .int v1] S = F_X13_takeOne_2 f (F_X13_takeOne f) v0 v1 S := rfl
theorem E_X13_isName_0 (f : Nat) (v0 : Nat) (S : aS) : F_X13_isName (f + 1) 0 [.ref v0] S = F_X13_isName_0 f (F_X13_isName f) v0 S := rfl
theorem E_X13_isName_1 (f : Nat)  (S : aS) : F_X13_isName (f + 1) 1 [] S = F_X13_isName_1 f (F_X13_isName f)  S := rfl
theorem E_X13_isName_2 (f : Nat) (w0 : Int32) (S : aS) : F_X13_isName (f + 1) 2 [.int w0] S = F_X13_isName_2 f (F_X13_isName f) w0 S := rfl
theorem E_X13_nameAt_0 (f : Nat) (v0 : Nat) (v1 : Int32) (S : aS) : F_X13_nameAt (f + 1) 0 [.ref v0, .int v1] S = F_X13_nameAt_0 f (F_X13_nameAt f) v0 v1 S := rfl
theorem E_X13_nameAt_1 (f : Nat) (v0 : Nat) (v1 : Int32) (v2 : Int32) (v3 : Int32) (S : aS) : F_X13_nameAt (f + 1) 1 [.ref v0, .int v1, .int v2, .int v3] S = F_X13_nameAt_1 f (F_X13_nameAt f) v0 v1 v2 v3 S := rfl
theorem E_X13_nameAt_2 (f : Nat) (v0 : Nat) (v1 : Int32) (v2 : Int32) (v3 : Int32) (w0 : Int64) (S : aS) : F_X13_nameAt (f + 1) 2 [.ref v0, .int v1, .int v2, .int v3, .long w0] S = F_X13_nameAt_2 f (F_X13_nameAt f) v0 v1 v2 v3 w0 S := rfl
theorem E_X13_yardHere_0 (f : Nat) (v0 : Nat) (v1 : Int32) (S : aS) : F_X13_yardHere (f + 1) 0 [.ref v0, .int v1] S = F_X13_yardHere_0 f (F_X13_yardHere f) v0 v1 S := rfl
theorem E_X13_yardHere_1 (f : Nat) (v0 : Int32) (S : aS) : F_X13_yardHere (f + 1) 1 [.int v0] S = F_X13_yardHere_1 f (F_X13_yardHere f) v0 S := rfl
theorem E_X13_readPerson_0 (f : Nat) (v0 : Nat) (S : aS) : F_X13_readPerson (f + 1) 0 [.ref v0] S = F_X13_readPerson_0 f (F_X13_readPerson f) v0 S := rfl
theorem E_X13_readPerson_1 (f : Nat) (v0 : Nat) (v1 : Int32) (S : aS) : F_X13_readPerson (f + 1) 1 [.ref v0, .int v1] S = F_X13_readPerson_1 f (F_X13_readPerson f) v0 v1 S := rfl
theorem E_X13_readWinds_0 (f : Nat) (v0 : Nat) (S : aS) : F_X13_readWinds (f + 1) 0 [.ref v0] S = F_X13_readWinds_0 f (F_X13_readWinds f) v0 S := rfl
theorem E_X13_readWinds_1 (f : Nat) (v0 : Nat) (v1 : Int32) (S : aS) : F_X13_readWinds (f + 1) 1 [.ref v0, .int v1] S = F_X13_readWinds_1 f (F_X13_readWinds f) v0 v1 S := rfl
theorem E_X13_readWinds_2 (f : Nat) (v0 : Nat) (v1 : Int32) (S : aS) : F_X13_readWinds (f + 1) 2 [.ref v0, .int v1] S = F_X13_readWinds_2 f (F_X13_readWinds f) v0 v1 S := rfl
theorem E_X13_readWinds_3 (f : Nat) (v0 : Nat) (v1 : Int32) (S : aS) : F_X13_readWinds (f + 1) 3 [.ref v0, .int v1] S = F_X13_readWinds_3 f (F_X13_readWinds f) v0 v1 S := rfl
theorem E_X13_readWinds_4 (f : Nat) (v0 : Nat) (v1 : Int32) (v2 : Int32) (S : aS) : F_X13_readWinds (f + 1) 4 [.ref v0, .int v1, .int v2] S = F_X13_readWinds_4 f (F_X13_readWinds f) v0 v1 v2 S := rfl
theorem E_X13_readWinds_5 (f : Nat) (v0 : Nat) (v1 : Int32) (S : aS) : F_X13_readWinds (f + 1) 5 [.ref v0, .int v1] S = F_X13_readWinds_5 f (F_X13_readWinds f) v0 v1 S := rfl
theorem E_X13_takePerson_0 (f : Nat) (v0 : Nat) (S : aS) : F_X13_takePerson (f + 1) 0 [.ref v0] S = F_X13_takePerson_0 f (F_X13_takePerson f) v0 S := rfl
theorem E_X13_takePerson_1 (f : Nat) (v0 : Nat) (S : aS) : F_X13_takePerson (f + 1) 1 [.ref v0] S = F_X13_takePerson_1 f (F_X13_takePerson f) v0 S := rfl
theorem E_X13_takePerson_2 (f : Nat) (v0 : Nat) (w0 : Int32) (S : aS) : F_X13_takePerson (f + 1) 2 [.ref v0, .int w0] S = F_X13_takePerson_2 f (F_X13_takePerson f) v0 w0 S := rfl
theorem E_X13_takePerson_3 (f : Nat) (v0 : Nat) (v1 : Int32) (S : aS) : F_X13_takePerson (f + 1) 3 [.ref v0, .int v1] S = F_X13_takePerson_3 f (F_X13_takePerson f) v0 v1 S := rfl
theorem E_X13_emit_0 (f : Nat) (v0 : Nat) (v1 : Int32) (v2 : Int32) (S : aS) : F_X13_emit (f + 1) 0 [.ref v0, .int v1, .int v2] S = F_X13_emit_0 f (F_X13_emit f) v0 v1 v2 S := rfl
theorem E_X13_both_0 (f : Nat) (v0 : Int32) (v1 : Int32) (v2 : Int32) (S : aS) : F_X13_both (f + 1) 0 [.int v0, .int v1, .int v2] S = F_X13_both_0 f (F_X13_both f) v0 v1 v2 S := rfl
theorem E_X13_copies_0 (f : Nat) (v0 : Nat) (v1 : Int32) (v2 : Int32) (v3 : Int32) (S : aS) : F_X13_copies (f + 1) 0 [.ref v0, .int v1, .int v2, .int v3] S = F_X13_copies_0 f (F_X13_copies f) v0 v1 v2 v3 S := rfl
theorem E_X13_copies_1 (f : Nat) (v0 : Nat) (v1 : Int32) (v2 : Int32) (v3 : Int32) (v4 : Int32) (S : aS) : F_X13_copies (f + 1) 1 [.ref v0, .int v1, .int v2, .int v3, .int v4] S = F_X13_copies_1 f (F_X13_copies f) v0 v1 v2 v3 v4 S := rfl
theorem E_X13_keeps_0 (f : Nat) (v0 : Nat) (S : aS) : F_X13_keeps (f + 1) 0 [.ref v0] S = F_X13_keeps_0 f (F_X13_keeps f) v0 S := rfl
theorem E_X13_keeps_1 (f : Nat) (v0 : Nat) (S : aS) : F_X13_keeps (f + 1) 1 [.ref v0] S = F_X13_keeps_1 f (F_X13_keeps f) v0 S := rfl
theorem E_X13_keeps_2 (f : Nat) (v0 : Nat) (v1 : Int32) (S : aS) : F_X13_keeps (f + 1) 2 [.ref v0, .int v1] S = F_X13_keeps_2 f (F_X13_keeps f) v0 v1 S := rfl
theorem E_X13_yards_0 (f : Nat) (v0 : Nat) (S : aS) : F_X13_yards (f + 1) 0 [.ref v0] S = F_X13_yards_0 f (F_X13_yards f) v0 S := rfl
theorem E_X13_people_0 (f : Nat) (v0 : Nat) (S : aS) : F_X13_people (f + 1) 0 [.ref v0] S = F_X13_people_0 f (F_X13_people f) v0 S := rfl
theorem E_X13_personOf_0 (f : Nat) (v0 : Nat) (v1 : Int32) (v2 : Int32) (S : aS) : F_X13_personOf (f + 1) 0 [.ref v0, .int v1, .int v2] S = F_X13_personOf_0 f (F_X13_personOf f) v0 v1 v2 S := rfl
theorem E_X13_isYard_0 (f : Nat) (v0 : Nat) (v1 : Int32) (S : aS) : F_X13_isYard (f + 1) 0 [.ref v0, .int v1] S = F_X13_isYard_0 f (F_X13_isYard f) v0 v1 S := rfl
theorem E_X13_isYard_1 (f : Nat)  (S : aS) : F_X13_isYard (f + 1) 1 [] S = F_X13_isYard_1 f (F_X13_isYard f)  S := rfl
theorem E_X13_isYard_2 (f : Nat) (w0 : Int32) (S : aS) : F_X13_isYard (f + 1) 2 [.int w0] S = F_X13_isYard_2 f (F_X13_isYard f) w0 S := rfl
theorem E_X13_isPerson_0 (f : Nat) (v0 : Nat) (v1 : Int32) (S : aS) : F_X13_isPerson (f + 1) 0 [.ref v0, .int v1] S = F_X13_isPerson_0 f (F_X13_isPerson f) v0 v1 S := rfl
theorem E_X13_isPerson_1 (f : Nat)  (S : aS) : F_X13_isPerson (f + 1) 1 [] S = F_X13_isPerson_1 f (F_X13_isPerson f)  S := rfl
theorem E_X13_isPerson_2 (f : Nat) (w0 : Int32) (S : aS) : F_X13_isPerson (f + 1) 2 [.int w0] S = F_X13_isPerson_2 f (F_X13_isPerson f) w0 S := rfl
theorem E_X13_isBin_0 (f : Nat) (v0 : Nat) (v1 : Int32) (v2 : Int32) (S : aS) : F_X13_isBin (f + 1) 0 [.ref v0, .int v1, .int v2] S = F_X13_isBin_0 f (F_X13_isBin f) v0 v1 v2 S := rfl
theorem E_X13_hasRoom_0 (f : Nat) (v0 : Nat) (v1 : Int32) (v2 : Int32) (S : aS) : F_X13_hasRoom (f + 1) 0 [.ref v0, .int v1, .int v2] S = F_X13_hasRoom_0 f (F_X13_hasRoom f) v0 v1 v2 S := rfl
theorem E_X13_nearOf_0 (f : Nat) (v0 : Nat) (v1 : Int32) (v2 : Int32) (S : aS) : F_X13_nearOf (f + 1) 0 [.ref v0, .int v1, .int v2] S = F_X13_nearOf_0 f (F_X13_nearOf f) v0 v1 v2 S := rfl
theorem E_X13_nearOf_1 (f : Nat) (v0 : Nat) (v1 : Int32) (v2 : Int32) (v3 : Int32) (S : aS) : F_X13_nearOf (f + 1) 1 [.ref v0, .int v1, .int v2, .int v3] S = F_X13_nearOf_1 f (F_X13_nearOf f) v0 v1 v2 v3 S := rfl
theorem E_X13_lyingIn_0 (f : Nat) (v0 : Nat) (v1 : Int32) (S : aS) : F_X13_lyingIn (f + 1) 0 [.ref v0, .int v1] S = F_X13_lyingIn_0 f (F_X13_lyingIn f) v0 v1 S := rfl
theorem E_X13_lyingIn_1 (f : Nat) (v0 : Nat) (v1 : Int32) (v2 : Int32) (v3 : Int32) (S : aS) : F_X13_lyingIn (f + 1) 1 [.ref v0, .int v1, .int v2, .int v3] S = F_X13_lyingIn_1 f (F_X13_lyingIn f) v0 v1 v2 v3 S := rfl
theorem E_X13_depositNow_0 (f : Nat) (v0 : Nat) (S : aS) : F_X13_depositNow (f + 1) 0 [.ref v0] S = F_X13_depositNow_0 f (F_X13_depositNow f) v0 S := rfl
theorem E_X13_depositNow_1 (f : Nat) (w0 : Int32) (S : aS) : F_X13_depositNow (f + 1) 1 [.int w0] S = F_X13_depositNow_1 f (F_X13_depositNow f) w0 S := rfl
theorem E_X13_empties_0 (f : Nat) (v0 : Nat) (v1 : Int32) (v2 : Int32) (S : aS) : F_X13_empties (f + 1) 0 [.ref v0, .int v1, .int v2] S = F_X13_empties_0 f (F_X13_empties f) v0 v1 v2 S := rfl
theorem E_X13_windOf_0 (f : Nat) (v0 : Nat) (v1 : Int32) (S : aS) : F_X13_windOf (f + 1) 0 [.ref v0, .int v1] S = F_X13_windOf_0 f (F_X13_windOf f) v0 v1 S := rfl
theorem E_X13_passes_0 (f : Nat) (v0 : Nat) (v1 : Int32) (S : aS) : F_X13_passes (f + 1) 0 [.ref v0, .int v1] S = F_X13_passes_0 f (F_X13_passes f) v0 v1 S := rfl
theorem E_X13_passes_1 (f : Nat) (v0 : Nat) (v1 : Int32) (v2 : Int32) (v3 : Int32) (v4 : Int32) (S : aS) : F_X13_passes (f + 1) 1 [.ref v0, .int v1, .int v2, .int v3, .int v4] S = F_X13_passes_1 f (F_X13_passes f) v0 v1 v2 v3 v4 S := rfl
theorem E_X13_passes_2 (f : Nat) (v0 : Nat) (v1 : Int32) (v2 : Int32) (v3 : Int32) (v4 : Int32) (S : aS) : F_X13_passes (f + 1) 2 [.ref v0, .int v1, .int v2, .int v3, .int v4] S = F_X13_passes_2 f (F_X13_passes f) v0 v1 v2 v3 v4 S := rfl
theorem E_X13_passes_3 (f : Nat) (v0 : Nat) (v1 : Int32) (v2 : Int32) (v3 : Int32) (v4 : Int32) (w0 : Int32) (w1 : Nat) (S : aS) : F_X13_passes (f + 1) 3 [.ref v0, .int v1, .int v2, .int v3, .int v4, .int w0, .ref w1] S = F_X13_passes_3 f (F_X13_passes f) v0 v1 v2 v3 v4 w0 w1 S := rfl
theorem E_X13_passes_4 (f : Nat) (v0 : Nat) (v1 : Int32) (v2 : Int32) (v3 : Int32) (v4 : Int32) (w0 : Int32) (w1 : Int32) (w2 : Nat) (S : aS) : F_X13_passes (f + 1) 4 [.ref v0, .int v1, .int v2, .int v3, .int v4, .int w0, .int w1, .ref w2] S = F_X13_passes_4 f (F_X13_passes f) v0 v1 v2 v3 v4 w0 w1 w2 S := rfl
theorem E_X13_passes_5 (f : Nat) (v0 : Nat) (v1 : Int32) (v2 : Int32) (v3 : Int32) (v4 : Int32) (S : aS) : F_X13_passes (f + 1) 5 [.ref v0, .int v1, .int v2, .int v3, .int v4] S = F_X13_passes_5 f (F_X13_passes f) v0 v1 v2 v3 v4 S := rfl
theorem E_X13_passes_6 (f : Nat) (v0 : Nat) (v1 : Int32) (v2 : Int32) (v3 : Int32) (v4 : Int32) (w0 : Int32) (S : aS) : F_X13_passes (f + 1) 6 [.ref v0, .int v1, .int v2, .int v3, .int v4, .int w0] S = F_X13_passes_6 f (F_X13_passes f) v0 v1 v2 v3 v4 w0 S := rfl
theorem E_X13_passes_7 (f : Nat) (v0 : Nat) (v1 : Int32) (v2 : Int32) (v3 : Int32) (v4 : Int32) (w0 : Int32) (w1 : Int32) (w2 : Nat) (S : aS) : F_X13_passes (f + 1) 7 [.ref v0, .int v1, .int v2, .int v3, .int v4, .int w0, .int w1, .ref w2] S = F_X13_passes_7 f (F_X13_passes f) v0 v1 v2 v3 v4 w0 w1 w2 S := rfl
theorem E_X13_yard_0 (f : Nat) (v0 : Nat) (v1 : Int32) (v2 : Int32) (S : aS) : F_X13_yard (f + 1) 0 [.ref v0, .int v1, .int v2] S = F_X13_yard_0 f (F_X13_yard f) v0 v1 v2 S := rfl
theorem E_X13_yard_1 (f : Nat)  (S : aS) : F_X13_yard (f + 1) 1 [] S = F_X13_yard_1 f (F_X13_yard f)  S := rfl
theorem E_X13_yard_2 (f : Nat) (w0 : Int32) (S : aS) : F_X13_yard (f + 1) 2 [.int w0] S = F_X13_yard_2 f (F_X13_yard f) w0 S := rfl
theorem E_X13_lies_0 (f : Nat) (v0 : Nat) (S : aS) : F_X13_lies (f + 1) 0 [.ref v0] S = F_X13_lies_0 f (F_X13_lies f) v0 S := rfl
theorem E_X13_space_0 (f : Nat) (v0 : Nat) (S : aS) : F_X13_space (f + 1) 0 [.ref v0] S = F_X13_space_0 f (F_X13_space f) v0 S := rfl
theorem E_X13_space_1 (f : Nat) (v0 : Nat) (v1 : Int32) (v2 : Int32) (S : aS) : F_X13_space (f + 1) 1 [.ref v0, .int v1, .int v2] S = F_X13_space_1 f (F_X13_space f) v0 v1 v2 S := rfl
theorem E_X13_heaps_0 (f : Nat) (v0 : Nat) (v1 : Int32) (S : aS) : F_X13_heaps (f + 1) 0 [.ref v0, .int v1] S = F_X13_heaps_0 f (F_X13_heaps f) v0 v1 S := rfl
theorem E_X13_heaps_1 (f : Nat) (v0 : Nat) (v1 : Int32) (v2 : Int32) (v3 : Int32) (S : aS) : F_X13_heaps (f + 1) 1 [.ref v0, .int v1, .int v2, .int v3] S = F_X13_heaps_1 f (F_X13_heaps f) v0 v1 v2 v3 S := rfl
theorem E_X13_empty_0 (f : Nat) (v0 : Nat) (v1 : Int32) (S : aS) : F_X13_empty (f + 1) 0 [.ref v0, .int v1] S = F_X13_empty_0 f (F_X13_empty f) v0 v1 S := rfl
theorem E_X13_empty_1 (f : Nat)  (S : aS) : F_X13_empty (f + 1) 1 [] S = F_X13_empty_1 f (F_X13_empty f)  S := rfl
theorem E_X13_put_0 (f : Nat) (v0 : Nat) (v1 : Int32) (v2 : Int32) (S : aS) : F_X13_put (f + 1) 0 [.ref v0, .int v1, .int v2] S = F_X13_put_0 f (F_X13_put f) v0 v1 v2 S := rfl
theorem E_X13_put_1 (f : Nat)  (S : aS) : F_X13_put (f + 1) 1 [] S = F_X13_put_1 f (F_X13_put f)  S := rfl
theorem E_X13_offs_0 (f : Nat) (v0 : Nat) (v1 : Int32) (v2 : Int32) (S : aS) : F_X13_offs (f + 1) 0 [.ref v0, .int v1, .int v2] S = F_X13_offs_0 f (F_X13_offs f) v0 v1 v2 S := rfl
theorem E_X13_off_0 (f : Nat) (v0 : Nat) (v1 : Int32) (S : aS) : F_X13_off (f + 1) 0 [.ref v0, .int v1] S = F_X13_off_0 f (F_X13_off f) v0 v1 S := rfl
theorem E_X13_off_1 (f : Nat)  (S : aS) : F_X13_off (f + 1) 1 [] S = F_X13_off_1 f (F_X13_off f)  S := rfl
theorem E_X13_sweep_0 (f : Nat) (v0 : Nat) (v1 : Int32) (S : aS) : F_X13_sweep (f + 1) 0 [.ref v0, .int v1] S = F_X13_sweep_0 f (F_X13_sweep f) v0 v1 S := rfl
theorem E_X13_hour_0 (f : Nat) (v0 : Nat) (S : aS) : F_X13_hour (f + 1) 0 [.ref v0] S = F_X13_hour_0 f (F_X13_hour f) v0 S := rfl
theorem E_X13_undo_0 (f : Nat) (v0 : Nat) (S : aS) : F_X13_undo (f + 1) 0 [.ref v0] S = F_X13_undo_0 f (F_X13_undo f) v0 S := rfl
theorem E_X13_bits_0 (f : Nat) (v0 : Int32) (S : aS) : F_X13_bits (f + 1) 0 [.int v0] S = F_X13_bits_0 f (F_X13_bits f) v0 S := rfl
theorem E_X13_bits_1 (f : Nat) (v0 : Int32) (v1 : Int32) (v2 : Int32) (S : aS) : F_X13_bits (f + 1) 1 [.int v0, .int v1, .int v2] S = F_X13_bits_1 f (F_X13_bits f) v0 v1 v2 S := rfl
theorem E_X13_saves_0 (f : Nat) (v0 : Nat) (v1 : Int32) (S : aS) : F_X13_saves (f + 1) 0 [.ref v0, .int v1] S = F_X13_saves_0 f (F_X13_saves f) v0 v1 S := rfl
theorem E_X13_saves_1 (f : Nat) (v0 : Nat) (v1 : Int32) (v2 : Int32) (S : aS) : F_X13_saves (f + 1) 1 [.ref v0, .int v1, .int v2] S = F_X13_saves_1 f (F_X13_saves f) v0 v1 v2 S := rfl
theorem E_X13_loads_0 (f : Nat) (v0 : Nat) (v1 : Int32) (S : aS) : F_X13_loads (f + 1) 0 [.ref v0, .int v1] S = F_X13_loads_0 f (F_X13_loads f) v0 v1 S := rfl
theorem E_X13_loads_1 (f : Nat) (v0 : Nat) (v1 : Int32) (v2 : Int32) (S : aS) : F_X13_loads (f + 1) 1 [.ref v0, .int v1, .int v2] S = F_X13_loads_1 f (F_X13_loads f) v0 v1 v2 S := rfl
theorem E_X13_find_0 (f : Nat) (v0 : Nat) (v1 : Int32) (v2 : Int32) (S : aS) : F_X13_find (f + 1) 0 [.ref v0, .int v1, .int v2] S = F_X13_find_0 f (F_X13_find f) v0 v1 v2 S := rfl
theorem E_X13_find_1 (f : Nat)  (S : aS) : F_X13_find (f + 1) 1 [] S = F_X13_find_1 f (F_X13_find f)  S := rfl
theorem E_X13_getsBy_0 (f : Nat) (v0 : Int32) (v1 : Int32) (v2 : Int32) (v3 : Int32) (S : aS) : F_X13_getsBy (f + 1) 0 [.int v0, .int v1, .int v2, .int v3] S = F_X13_getsBy_0 f (F_X13_getsBy f) v0 v1 v2 v3 S := rfl
theorem E_X13_rests_0 (f : Nat) (v0 : Nat) (v1 : Int32) (v2 : Int32) (v3 : Int32) (S : aS) : F_X13_rests (f + 1) 0 [.ref v0, .int v1, .int v2, .int v3] S = F_X13_rests_0 f (F_X13_rests f) v0 v1 v2 v3 S := rfl
theorem E_X13_rests_1 (f : Nat) (v0 : Nat) (v1 : Int32) (v2 : Int32) (v3 : Int32) (S : aS) : F_X13_rests (f + 1) 1 [.ref v0, .int v1, .int v2, .int v3] S = F_X13_rests_1 f (F_X13_rests f) v0 v1 v2 v3 S := rfl
theorem E_X13_rests_2 (f : Nat) (v0 : Nat) (v1 : Int32) (v2 : Int32) (v3 : Int32) (v4 : Int32) (v5 : Int32) (v6 : Int32) (v7 : Int32) (S : aS) : F_X13_rests (f + 1) 2 [.ref v0, .int v1, .int v2, .int v3, .int v4, .int v5, .int v6, .int v7] S = F_X13_rests_2 f (F_X13_rests f) v0 v1 v2 v3 v4 v5 v6 v7 S := rfl
theorem E_X13_rests_3 (f : Nat) (v0 : Nat) (v1 : Int32) (v2 : Int32) (v3 : Int32) (w0 : Int32) (S : aS) : F_X13_rests (f + 1) 3 [.ref v0, .int v1, .int v2, .int v3, .int w0] S = F_X13_rests_3 f (F_X13_rests f) v0 v1 v2 v3 w0 S := rfl
theorem E_X13_rests_4 (f : Nat) (v0 : Nat) (v1 : Int32) (v2 : Int32) (v3 : Int32) (v4 : Int32) (S : aS) : F_X13_rests (f + 1) 4 [.ref v0, .int v1, .int v2, .int v3, .int v4] S = F_X13_rests_4 f (F_X13_rests f) v0 v1 v2 v3 v4 S := rfl
theorem E_X13_rests_5 (f : Nat) (v0 : Nat) (v1 : Int32) (v2 : Int32) (v3 : Int32) (v4 : Int32) (v5 : Int32) (v6 : Int32) (v7 : Int32) (S : aS) : F_X13_rests (f + 1) 5 [.ref v0, .int v1, .int v2, .int v3, .int v4, .int v5, .int v6, .int v7] S = F_X13_rests_5 f (F_X13_rests f) v0 v1 v2 v3 v4 v5 v6 v7 S := rfl
theorem E_X13_rests_6 (f : Nat) (v0 : Nat) (v1 : Int32) (v2 : Int32) (v3 : Int32) (v4 : Int32) (v5 : Int32) (v6 : Int32) (v7 : Int32) (w0 : Int32) (S : aS) : F_X13_rests (f + 1) 6 [.ref v0, .int v1, .int v2, .int v3, .int v4, .int v5, .int v6, .int v7, .int w0] S = F_X13_rests_6 f (F_X13_rests f) v0 v1 v2 v3 v4 v5 v6 v7 w0 S := rfl
theorem E_X13_draw_0 (f : Nat) (v0 : Nat) (v1 : Int32) (S : aS) : F_X13_draw (f + 1) 0 [.ref v0, .int v1] S = F_X13_draw_0 f (F_X13_draw f) v0 v1 S := rfl
theorem E_X13_mark_0 (f : Nat) (v0 : Nat) (v1 : Int32) (v2 : Int32) (S : aS) : F_X13_mark (f + 1) 0 [.ref v0, .int v1, .int v2] S = F_X13_mark_0 f (F_X13_mark f) v0 v1 v2 S := rfl
theorem E_X13_mark_1 (f : Nat)  (S : aS) : F_X13_mark (f + 1) 1 [] S = F_X13_mark_1 f (F_X13_mark f)  S := rfl
theorem E_X13_mark_2 (f : Nat) (v0 : Nat) (v1 : Int32) (v2 : Int32) (S : aS) : F_X13_mark (f + 1) 2 [.ref v0, .int v1, .int v2] S = F_X13_mark_2 f (F_X13_mark f) v0 v1 v2 S := rfl
theorem E_X13_manyOf_0 (f : Nat) (v0 : Nat) (v1 : Int32) (S : aS) : F_X13_manyOf (f + 1) 0 [.ref v0, .int v1] S = F_X13_manyOf_0 f (F_X13_manyOf f) v0 v1 S := rfl
theorem E_X13_manyOf_1 (f : Nat) (v0 : Nat) (v1 : Int32) (v2 : Int32) (v3 : Int32) (S : aS) : F_X13_manyOf (f + 1) 1 [.ref v0, .int v1, .int v2, .int v3] S = F_X13_manyOf_1 f (F_X13_manyOf f) v0 v1 v2 v3 S := rfl
theorem E_X13_count_0 (f : Nat) (v0 : Nat) (v1 : Int32) (S : aS) : F_X13_count (f + 1) 0 [.ref v0, .int v1] S = F_X13_count_0 f (F_X13_count f) v0 v1 S := rfl
theorem E_J6_bitCount_0f7a4_0 (f : Nat) (v0 : Int32) (S : aS) : F_J6_bitCount_0f7a4 (f + 1) 0 [.int v0] S = F_J6_bitCount_0f7a4_0 f (F_J6_bitCount_0f7a4 f) v0 S := rfl
theorem E_gExp_0 (f : Nat) (e : Nat) (v0 : Nat) (v1 : Int32) (S : aS) : F_gExp (f + 1) e 0 [.ref v0, .int v1] S = F_gExp_0 f (F_gExp f) e v0 v1 S := rfl
theorem E_gExp_1 (f : Nat) (e : Nat) (v0 : Nat) (v1 : Int32) (S : aS) : F_gExp (f + 1) e 1 [.ref v0, .int v1] S = F_gExp_1 f (F_gExp f) e v0 v1 S := rfl
theorem E_gExp_2 (f : Nat) (e : Nat) (v0 : Nat) (v1 : Int32) (S : aS) : F_gExp (f + 1) e 2 [.ref v0, .int v1] S = F_gExp_2 f (F_gExp f) e v0 v1 S := rfl
theorem E_gExp_3 (f : Nat) (e : Nat) (v0 : Nat) (v1 : Int32) (S : aS) : F_gExp (f + 1) e 3 [.ref v0, .int v1] S = F_gExp_3 f (F_gExp f) e v0 v1 S := rfl
theorem E_gExp_4 (f : Nat) (e : Nat) (v0 : Nat) (v1 : Int32) (S : aS) : F_gExp (f + 1) e 4 [.ref v0, .int v1] S = F_gExp_4 f (F_gExp f) e v0 v1 S := rfl
theorem E_gExp_5 (f : Nat) (e : Nat) (v0 : Nat) (v1 : Int32) (S : aS) : F_gExp (f + 1) e 5 [.ref v0, .int v1] S = F_gExp_5 f (F_gExp f) e v0 v1 S := rfl
theorem E_gExp_6 (f : Nat) (e : Nat) (v0 : Nat) (v1 : Int32) (S : aS) : F_gExp (f + 1) e 6 [.ref v0, .int v1] S = F_gExp_6 f (F_gExp f) e v0 v1 S := rfl
theorem E_gExp_7 (f : Nat) (e : Nat) (v0 : Nat) (v1 : Int32) (v2 : Int32) (S : aS) : F_gExp (f + 1) e 7 [.ref v0, .int v1, .int v2] S = F_gExp_7 f (F_gExp f) e v0 v1 v2 S := rfl
theorem E_gExp_8 (f : Nat) (e : Nat)  (S : aS) : F_gExp (f + 1) e 8 [] S = F_gExp_8 f (F_gExp f) e  S := rfl
theorem E_gExp_9 (f : Nat) (e : Nat) (v0 : Nat) (v1 : Int32) (S : aS) : F_gExp (f + 1) e 9 [.ref v0, .int v1] S = F_gExp_9 f (F_gExp f) e v0 v1 S := rfl
theorem E_gExp_10 (f : Nat) (e : Nat) (v0 : Nat) (v1 : Int32) (S : aS) : F_gExp (f + 1) e 10 [.ref v0, .int v1] S = F_gExp_10 f (F_gExp f) e v0 v1 S := rfl
theorem E_gExp_11 (f : Nat) (e : Nat) (v0 : Nat) (v1 : Int32) (S : aS) : F_gExp (f + 1) e 11 [.ref v0, .int v1] S = F_gExp_11 f (F_gExp f) e v0 v1 S := rfl
theorem E_gExp_12 (f : Nat) (e : Nat) (v0 : Nat) (v1 : Int32) (v2 : Int32) (v3 : Int32) (S : aS) : F_gExp (f + 1) e 12 [.ref v0, .int v1, .int v2, .int v3] S = F_gExp_12 f (F_gExp f) e v0 v1 v2 v3 S := rfl
theorem E_gExp_13 (f : Nat) (e : Nat) (v0 : Nat) (v1 : Int32) (v2 : Int32) (v3 : Int32) (S : aS) : F_gExp (f + 1) e 13 [.ref v0, .int v1, .int v2, .int v3] S = F_gExp_13 f (F_gExp f) e v0 v1 v2 v3 S := rfl
theorem E_gExp_14 (f : Nat) (e : Nat) (v0 : Nat) (w0 : Int32) (w1 : Int32) (w2 : Nat) (S : aS) : F_gExp (f + 1) e 14 [.ref v0, .int w0, .int w1, .ref w2] S = F_gExp_14 f (F_gExp f) e v0 w0 w1 w2 S := rfl
theorem E_gExp_15 (f : Nat) (e : Nat)  (S : aS) : F_gExp (f + 1) e 15 [] S = F_gExp_15 f (F_gExp f) e  S := rfl
theorem E_X3_push_0 (f : Nat) (v0 : Nat) (v1 : Nat) (S : aS) : F_X3_push (f + 1) 0 [.ref v0, .ref v1] S = F_X3_push_0 f (F_X3_push f) v0 v1 S := rfl
theorem E_X3_pop_0 (f : Nat) (v0 : Nat) (v1 : Nat) (S : aS) : F_X3_pop (f + 1) 0 [.ref v0, .ref v1] S = F_X3_pop_0 f (F_X3_pop f) v0 v1 S := rfl
theorem E_X4_binCount_0 (f : Nat) (v0 : Nat) (S : aS) : F_X4_binCount (f + 1) 0 [.ref v0] S = F_X4_binCount_0 f (F_X4_binCount f) v0 S := rfl
theorem E_X4_passHour_0 (f : Nat) (v0 : Nat) (v1 : Nat) (S : aS) : F_X4_passHour (f + 1) 0 [.ref v0, .ref v1] S = F_X4_passHour_0 f (F_X4_passHour f) v0 v1 S := rfl
theorem E_X4_passHour_1 (f : Nat) (v0 : Nat) (v1 : Int32) (S : aS) : F_X4_passHour (f + 1) 1 [.ref v0, .int v1] S = F_X4_passHour_1 f (F_X4_passHour f) v0 v1 S := rfl
theorem E_X5_valueOf_0 (f : Nat) (v0 : Nat) (v1 : Int32) (v2 : Int32) (v3 : Int32) (v4 : Int32) (S : aS) : F_X5_valueOf (f + 1) 0 [.ref v0, .int v1, .int v2, .int v3, .int v4] S = F_X5_valueOf_0 f (F_X5_valueOf f) v0 v1 v2 v3 v4 S := rfl
theorem E_X5_valueOf_1 (f : Nat) (v0 : Nat) (v1 : Int32) (v2 : Int32) (S : aS) : F_X5_valueOf (f + 1) 1 [.ref v0, .int v1, .int v2] S = F_X5_valueOf_1 f (F_X5_valueOf f) v0 v1 v2 S := rfl
theorem E_X5_valueOf_2 (f : Nat) (v0 : Nat) (v1 : Int32) (v2 : Int32) (S : aS) : F_X5_valueOf (f + 1) 2 [.ref v0, .int v1, .int v2] S = F_X5_valueOf_2 f (F_X5_valueOf f) v0 v1 v2 S := rfl
theorem E_X5_valueOf_3 (f : Nat) (v0 : Nat) (v1 : Int32) (v2 : Int32) (w0 : Int32) (w1 : Int32) (w2 : Nat) (S : aS) : F_X5_valueOf (f + 1) 3 [.ref v0, .int v1, .int v2, .int w0, .int w1, .ref w2] S = F_X5_valueOf_3 f (F_X5_valueOf f) v0 v1 v2 w0 w1 w2 S := rfl
theorem E_X6_takenBy_0 (f : Nat) (v0 : Nat) (v1 : Int32) (v2 : Nat) (S : aS) : F_X6_takenBy (f + 1) 0 [.ref v0, .int v1, .ref v2] S = F_X6_takenBy_0 f (F_X6_takenBy f) v0 v1 v2 S := rfl
theorem E_X6_droppedBy_0 (f : Nat) (v0 : Nat) (v1 : Int32) (v2 : Int32) (v3 : Int32) (v4 : Int32) (S : aS) : F_X6_droppedBy (f + 1) 0 [.ref v0, .int v1, .int v2, .int v3, .int v4] S = F_X6_droppedBy_0 f (F_X6_droppedBy f) v0 v1 v2 v3 v4 S := rfl
theorem E_X7_offerSet_0 (f : Nat) (v0 : Nat) (v1 : Int32) (v2 : Int32) (S : aS) : F_X7_offerSet (f + 1) 0 [.ref v0, .int v1, .int v2] S = F_X7_offerSet_0 f (F_X7_offerSet f) v0 v1 v2 S := rfl
theorem E_X7_offerSet_1 (f : Nat) (v0 : Nat) (v1 : Int32) (v2 : Int32) (S : aS) : F_X7_offerSet (f + 1) 1 [.ref v0, .int v1, .int v2] S = F_X7_offerSet_1 f (F_X7_offerSet f) v0 v1 v2 S := rfl
theorem E_X7_offerSet_2 (f : Nat)  (S : aS) : F_X7_offerSet (f + 1) 2 [] S = F_X7_offerSet_2 f (F_X7_offerSet f)  S := rfl
theorem E_X7_yardThatParts_0 (f : Nat) (v0 : Nat) (v1 : Int32) (S : aS) : F_X7_yardThatParts (f + 1) 0 [.ref v0, .int v1] S = F_X7_yardThatParts_0 f (F_X7_yardThatParts f) v0 v1 S := rfl
theorem E_X7_yardThatParts_1 (f : Nat) (v0 : Nat) (v1 : Int32) (v2 : Int32) (v3 : Int32) (v4 : Int32) (S : aS) : F_X7_yardThatParts (f + 1) 1 [.ref v0, .int v1, .int v2, .int v3, .int v4] S = F_X7_yardThatParts_1 f (F_X7_yardThatParts f) v0 v1 v2 v3 v4 S := rfl
theorem E_X8_add_0 (f : Nat) (v0 : Nat) (v1 : Int64) (S : aS) : F_X8_add (f + 1) 0 [.ref v0, .long v1] S = F_X8_add_0 f (F_X8_add f) v0 v1 S := rfl
theorem E_X8_add_1 (f : Nat) (v0 : Nat) (v1 : Int64) (v2 : Int32) (S : aS) : F_X8_add (f + 1) 1 [.ref v0, .long v1, .int v2] S = F_X8_add_1 f (F_X8_add f) v0 v1 v2 S := rfl
theorem E_X8_add_2 (f : Nat) (v0 : Nat) (v1 : Int64) (v2 : Int32) (v3 : Int32) (S : aS) : F_X8_add (f + 1) 2 [.ref v0, .long v1, .int v2, .int v3] S = F_X8_add_2 f (F_X8_add f) v0 v1 v2 v3 S := rfl
theorem E_X8_add_3 (f : Nat) (v0 : Nat) (v1 : Int64) (v2 : Int32) (S : aS) : F_X8_add (f + 1) 3 [.ref v0, .long v1, .int v2] S = F_X8_add_3 f (F_X8_add f) v0 v1 v2 S := rfl
theorem E_X8_readWord_0 (f : Nat) (v0 : Nat) (S : aS) : F_X8_readWord (f + 1) 0 [.ref v0] S = F_X8_readWord_0 f (F_X8_readWord f) v0 S := rfl
theorem E_X8_readWord_1 (f : Nat) (v0 : Nat) (S : aS) : F_X8_readWord (f + 1) 1 [.ref v0] S = F_X8_readWord_1 f (F_X8_readWord f) v0 S := rfl
theorem E_X8_readWord_2 (f : Nat) (v0 : Nat) (S : aS) : F_X8_readWord (f + 1) 2 [.ref v0] S = F_X8_readWord_2 f (F_X8_readWord f) v0 S := rfl
theorem E_X8_readWord_3 (f : Nat)  (S : aS) : F_X8_readWord (f + 1) 3 [] S = F_X8_readWord_3 f (F_X8_readWord f)  S := rfl
theorem E_X8_readNumber_0 (f : Nat) (v0 : Nat) (S : aS) : F_X8_readNumber (f + 1) 0 [.ref v0] S = F_X8_readNumber_0 f (F_X8_readNumber f) v0 S := rfl
theorem E_X8_readNumber_1 (f : Nat) (v0 : Nat) (v1 : Int32) (S : aS) : F_X8_readNumber (f + 1) 1 [.ref v0, .int v1] S = F_X8_readNumber_1 f (F_X8_readNumber f) v0 v1 S := rfl
theorem E_X8_readNumber_2 (f : Nat) (v0 : Nat) (v1 : Int32) (S : aS) : F_X8_readNumber (f + 1) 2 [.ref v0, .int v1] S = F_X8_readNumber_2 f (F_X8_readNumber f) v0 v1 S := rfl
theorem E_X8_readNumber_3 (f : Nat)  (S : aS) : F_X8_readNumber (f + 1) 3 [] S = F_X8_readNumber_3 f (F_X8_readNumber f)  S := rfl
theorem E_X8_isNumberWithin_0 (f : Nat) (v0 : Nat) (v1 : Int32) (v2 : Int32) (S : aS) : F_X8_isNumberWithin (f + 1) 0 [.ref v0, .int v1, .int v2] S = F_X8_isNumberWithin_0 f (F_X8_isNumberWithin f) v0 v1 v2 S := rfl
theorem E_X8_isNumberWithin_1 (f : Nat)  (S : aS) : F_X8_isNumberWithin (f + 1) 1 [] S = F_X8_isNumberWithin_1 f (F_X8_isNumberWithin f)  S := rfl
theorem E_X8_isNumberWithin_2 (f : Nat) (w0 : Int32) (S : aS) : F_X8_isNumberWithin (f + 1) 2 [.int w0] S = F_X8_isNumberWithin_2 f (F_X8_isNumberWithin f) w0 S := rfl
theorem E_X9_leastHeapThatDraws_0 (f : Nat) (v0 : Nat) (v1 : Int32) (v2 : Int32) (S : aS) : F_X9_leastHeapThatDraws (f + 1) 0 [.ref v0, .int v1, .int v2] S = F_X9_leastHeapThatDraws_0 f (F_X9_leastHeapThatDraws f) v0 v1 v2 S := rfl
theorem E_X9_leastHeapThatDraws_1 (f : Nat) (v0 : Nat) (v1 : Int32) (v2 : Int32) (v3 : Int32) (v4 : Int32) (S : aS) : F_X9_leastHeapThatDraws (f + 1) 1 [.ref v0, .int v1, .int v2, .int v3, .int v4] S = F_X9_leastHeapThatDraws_1 f (F_X9_leastHeapThatDraws f) v0 v1 v2 v3 v4 S := rfl
theorem E_X10_go_0 (f : Nat) (v0 : Nat) (v1 : Nat) (v2 : Nat) (v3 : Int32) (S : aS) : F_X10_go (f + 1) 0 [.ref v0, .ref v1, .ref v2, .int v3] S = F_X10_go_0 f (F_X10_go f) v0 v1 v2 v3 S := rfl
theorem E_X10_go_1 (f : Nat) (v0 : Nat) (v1 : Nat) (v2 : Nat) (v3 : Int32) (v4 : Int32) (v5 : Int32) (S : aS) : F_X10_go (f + 1) 1 [.ref v0, .ref v1, .ref v2, .int v3, .int v4, .int v5] S = F_X10_go_1 f (F_X10_go f) v0 v1 v2 v3 v4 v5 S := rfl
theorem E_X10_go_2 (f : Nat) (v0 : Nat) (v1 : Nat) (v2 : Nat) (v3 : Int32) (v4 : Int32) (v5 : Int32) (S : aS) : F_X10_go (f + 1) 2 [.ref v0, .ref v1, .ref v2, .int v3, .int v4, .int v5] S = F_X10_go_2 f (F_X10_go f) v0 v1 v2 v3 v4 v5 S := rfl
theorem E_X12_feed_0 (f : Nat) (v0 : Nat) (v1 : Int64) (v2 : Int64) (v3 : Int64) (S : aS) : F_X12_feed (f + 1) 0 [.ref v0, .long v1, .long v2, .long v3] S = F_X12_feed_0 f (F_X12_feed f) v0 v1 v2 v3 S := rfl
theorem E_X12_person_0 (f : Nat) (v0 : Nat) (v1 : Int32) (v2 : Int32) (S : aS) : F_X12_person (f + 1) 0 [.ref v0, .int v1, .int v2] S = F_X12_person_0 f (F_X12_person f) v0 v1 v2 S := rfl
theorem E_X12_empty_0 (f : Nat) (v0 : Nat) (v1 : Int32) (S : aS) : F_X12_empty (f + 1) 0 [.ref v0, .int v1] S = F_X12_empty_0 f (F_X12_empty f) v0 v1 S := rfl
theorem E_X12_put_0 (f : Nat) (v0 : Nat) (v1 : Int32) (v2 : Int32) (S : aS) : F_X12_put (f + 1) 0 [.ref v0, .int v1, .int v2] S = F_X12_put_0 f (F_X12_put f) v0 v1 v2 S := rfl
theorem E_X12_put_1 (f : Nat)  (S : aS) : F_X12_put (f + 1) 1 [] S = F_X12_put_1 f (F_X12_put f)  S := rfl
theorem E_X12_off_0 (f : Nat) (v0 : Nat) (v1 : Int32) (S : aS) : F_X12_off (f + 1) 0 [.ref v0, .int v1] S = F_X12_off_0 f (F_X12_off f) v0 v1 S := rfl
theorem E_X12_sweep_0 (f : Nat) (v0 : Nat) (v1 : Int32) (S : aS) : F_X12_sweep (f + 1) 0 [.ref v0, .int v1] S = F_X12_sweep_0 f (F_X12_sweep f) v0 v1 S := rfl
theorem E_X12_hour_0 (f : Nat) (v0 : Nat) (S : aS) : F_X12_hour (f + 1) 0 [.ref v0] S = F_X12_hour_0 f (F_X12_hour f) v0 S := rfl
theorem E_X12_undo_0 (f : Nat) (v0 : Nat) (S : aS) : F_X12_undo (f + 1) 0 [.ref v0] S = F_X12_undo_0 f (F_X12_undo f) v0 S := rfl
theorem E_X12_from_0 (f : Nat) (v0 : Nat) (v1 : Int32) (v2 : Int32) (S : aS) : F_X12_from (f + 1) 0 [.ref v0, .int v1, .int v2] S = F_X12_from_0 f (F_X12_from f) v0 v1 v2 S := rfl
theorem E_X12_from_1 (f : Nat)  (S : aS) : F_X12_from (f + 1) 1 [] S = F_X12_from_1 f (F_X12_from f)  S := rfl
theorem E_X12_find_0 (f : Nat) (v0 : Nat) (v1 : Int32) (v2 : Int32) (S : aS) : F_X12_find (f + 1) 0 [.ref v0, .int v1, .int v2] S = F_X12_find_0 f (F_X12_find f) v0 v1 v2 S := rfl
theorem E_X12_find_1 (f : Nat)  (S : aS) : F_X12_find (f + 1) 1 [] S = F_X12_find_1 f (F_X12_find f)  S := rfl
theorem E_X12_isAtRest_0 (f : Nat) (v0 : Int32) (v1 : Int32) (v2 : Int32) (v3 : Int32) (S : aS) : F_X12_isAtRest (f + 1) 0 [.int v0, .int v1, .int v2, .int v3] S = F_X12_isAtRest_0 f (F_X12_isAtRest f) v0 v1 v2 v3 S := rfl
theorem E_X12_isAtRest_1 (f : Nat)  (S : aS) : F_X12_isAtRest (f + 1) 1 [] S = F_X12_isAtRest_1 f (F_X12_isAtRest f)  S := rfl
theorem E_X12_isAtRest_2 (f : Nat) (w0 : Int32) (S : aS) : F_X12_isAtRest (f + 1) 2 [.int w0] S = F_X12_isAtRest_2 f (F_X12_isAtRest f) w0 S := rfl
theorem E_X12_mark_0 (f : Nat) (v0 : Nat) (v1 : Int32) (v2 : Int32) (S : aS) : F_X12_mark (f + 1) 0 [.ref v0, .int v1, .int v2] S = F_X12_mark_0 f (F_X12_mark f) v0 v1 v2 S := rfl
theorem E_X12_count_0 (f : Nat) (v0 : Nat) (v1 : Int32) (S : aS) : F_X12_count (f + 1) 0 [.ref v0, .int v1] S = F_X12_count_0 f (F_X12_count f) v0 v1 S := rfl
theorem E_X13_feed_0 (f : Nat) (v0 : Nat) (v1 : Int64) (v2 : Int64) (v3 : Int64) (S : aS) : F_X13_feed (f + 1) 0 [.ref v0, .long v1, .long v2, .long v3] S = F_X13_feed_0 f (F_X13_feed f) v0 v1 v2 v3 S := rfl
theorem E_X13_readOnce_0 (f : Nat) (v0 : Nat) (S : aS) : F_X13_readOnce (f + 1) 0 [.ref v0] S = F_X13_readOnce_0 f (F_X13_readOnce f) v0 S := rfl
theorem E_X13_readOnce_1 (f : Nat) (v0 : Nat) (w0 : Int32) (S : aS) : F_X13_readOnce (f + 1) 1 [.ref v0, .int w0] S = F_X13_readOnce_1 f (F_X13_readOnce f) v0 w0 S := rfl
theorem E_X13_readOnce_2 (f : Nat) (v0 : Nat) (v1 : Int32) (S : aS) : F_X13_readOnce (f + 1) 2 [.ref v0, .int v1] S = F_X13_readOnce_2 f (F_X13_readOnce f) v0 v1 S := rfl
theorem E_X13_readOnce_3 (f : Nat) (v0 : Nat) (v1 : Int32) (S : aS) : F_X13_readOnce (f + 1) 3 [.ref v0, .int v1] S = F_X13_readOnce_3 f (F_X13_readOnce f) v0 v1 S := rfl
theorem E_X13_readOnce_4 (f : Nat)  (S : aS) : F_X13_readOnce (f + 1) 4 [] S = F_X13_readOnce_4 f (F_X13_readOnce f)  S := rfl
theorem E_X13_day_0 (f : Nat) (v0 : Nat) (S : aS) : F_X13_day (f + 1) 0 [.ref v0] S = F_X13_day_0 f (F_X13_day f) v0 S := rfl
theorem E_X13_day_1 (f : Nat) (v0 : Nat) (v1 : Int32) (S : aS) : F_X13_day (f + 1) 1 [.ref v0, .int v1] S = F_X13_day_1 f (F_X13_day f) v0 v1 S := rfl
theorem E_X13_day_2 (f : Nat) (v0 : Nat) (v1 : Int32) (S : aS) : F_X13_day (f + 1) 2 [.ref v0, .int v1] S = F_X13_day_2 f (F_X13_day f) v0 v1 S := rfl
theorem E_X13_day_3 (f : Nat) (v0 : Nat) (v1 : Int32) (v2 : Int32) (w0 : Int32) (w1 : Int32) (w2 : Nat) (S : aS) : F_X13_day (f + 1) 3 [.ref v0, .int v1, .int v2, .int w0, .int w1, .ref w2] S = F_X13_day_3 f (F_X13_day f) v0 v1 v2 w0 w1 w2 S := rfl
theorem E_X13_day_4 (f : Nat) (v0 : Nat) (v1 : Int32) (S : aS) : F_X13_day (f + 1) 4 [.ref v0, .int v1] S = F_X13_day_4 f (F_X13_day f) v0 v1 S := rfl
theorem E_X13_day_5 (f : Nat) (v0 : Nat) (v1 : Int32) (v2 : Int32) (S : aS) : F_X13_day (f + 1) 5 [.ref v0, .int v1, .int v2] S = F_X13_day_5 f (F_X13_day f) v0 v1 v2 S := rfl
theorem E_X13_day_6 (f : Nat) (v0 : Nat) (v1 : Int32) (w0 : Int32) (w1 : Int32) (w2 : Nat) (S : aS) : F_X13_day (f + 1) 6 [.ref v0, .int v1, .int w0, .int w1, .ref w2] S = F_X13_day_6 f (F_X13_day f) v0 v1 w0 w1 w2 S := rfl
theorem E_X13_worthAt_0 (f : Nat) (v0 : Nat) (v1 : Int32) (S : aS) : F_X13_worthAt (f + 1) 0 [.ref v0, .int v1] S = F_X13_worthAt_0 f (F_X13_worthAt f) v0 v1 S := rfl
theorem E_X13_worthAt_1 (f : Nat) (v0 : Nat) (v1 : Int32) (v2 : Int32) (S : aS) : F_X13_worthAt (f + 1) 1 [.ref v0, .int v1, .int v2] S = F_X13_worthAt_1 f (F_X13_worthAt f) v0 v1 v2 S := rfl
theorem E_X13_worthAt_2 (f : Nat) (v0 : Nat) (v1 : Int32) (v2 : Int32) (v3 : Int32) (S : aS) : F_X13_worthAt (f + 1) 2 [.ref v0, .int v1, .int v2, .int v3] S = F_X13_worthAt_2 f (F_X13_worthAt f) v0 v1 v2 v3 S := rfl
theorem E_X13_worthAt_3 (f : Nat) (v0 : Nat) (v1 : Int32) (v2 : Int32) (S : aS) : F_X13_worthAt (f + 1) 3 [.ref v0, .int v1, .int v2] S = F_X13_worthAt_3 f (F_X13_worthAt f) v0 v1 v2 S := rfl
theorem E_X13_worthAt_4 (f : Nat) (v0 : Nat) (v1 : Int32) (v2 : Int32) (w0 : Int32) (w1 : Int32) (w2 : Nat) (S : aS) : F_X13_worthAt (f + 1) 4 [.ref v0, .int v1, .int v2, .int w0, .int w1, .ref w2] S = F_X13_worthAt_4 f (F_X13_worthAt f) v0 v1 v2 w0 w1 w2 S := rfl
theorem E_X13_starts_0 (f : Nat) (v0 : Nat) (v1 : Int32) (S : aS) : F_X13_starts (f + 1) 0 [.ref v0, .int v1] S = F_X13_starts_0 f (F_X13_starts f) v0 v1 S := rfl
theorem E_X13_starts_1 (f : Nat) (v0 : Nat) (v1 : Int32) (v2 : Int32) (S : aS) : F_X13_starts (f + 1) 1 [.ref v0, .int v1, .int v2] S = F_X13_starts_1 f (F_X13_starts f) v0 v1 v2 S := rfl
theorem E_X13_starts_2 (f : Nat) (v0 : Nat) (v1 : Int32) (v2 : Int32) (S : aS) : F_X13_starts (f + 1) 2 [.ref v0, .int v1, .int v2] S = F_X13_starts_2 f (F_X13_starts f) v0 v1 v2 S := rfl
theorem E_X13_starts_3 (f : Nat) (v0 : Nat) (v1 : Int32) (v2 : Int32) (w0 : Int32) (w1 : Int32) (w2 : Nat) (S : aS) : F_X13_starts (f + 1) 3 [.ref v0, .int v1, .int v2, .int w0, .int w1, .ref w2] S = F_X13_starts_3 f (F_X13_starts f) v0 v1 v2 w0 w1 w2 S := rfl
theorem E_X13_begins_0 (f : Nat) (v0 : Nat) (S : aS) : F_X13_begins (f + 1) 0 [.ref v0] S = F_X13_begins_0 f (F_X13_begins f) v0 S := rfl
theorem E_X13_begins_1 (f : Nat) (v0 : Nat) (v1 : Int32) (S : aS) : F_X13_begins (f + 1) 1 [.ref v0, .int v1] S = F_X13_begins_1 f (F_X13_begins f) v0 v1 S := rfl
theorem E_X13_begins_2 (f : Nat) (v0 : Nat) (v1 : Int32) (S : aS) : F_X13_begins (f + 1) 2 [.ref v0, .int v1] S = F_X13_begins_2 f (F_X13_begins f) v0 v1 S := rfl
theorem E_X13_takesOf_0 (f : Nat) (v0 : Nat) (v1 : Int32) (v2 : Int32) (S : aS) : F_X13_takesOf (f + 1) 0 [.ref v0, .int v1, .int v2] S = F_X13_takesOf_0 f (F_X13_takesOf f) v0 v1 v2 S := rfl
theorem E_X13_takesOf_1 (f : Nat) (w0 : Int32) (S : aS) : F_X13_takesOf (f + 1) 1 [.int w0] S = F_X13_takesOf_1 f (F_X13_takesOf f) w0 S := rfl
theorem E_X13_dropsOf_0 (f : Nat) (v0 : Nat) (v1 : Int32) (v2 : Int32) (v3 : Int32) (v4 : Int32) (v5 : Int32) (S : aS) : F_X13_dropsOf (f + 1) 0 [.ref v0, .int v1, .int v2, .int v3, .int v4, .int v5] S = F_X13_dropsOf_0 f (F_X13_dropsOf f) v0 v1 v2 v3 v4 v5 S := rfl
theorem E_X13_dropsOf_1 (f : Nat) (v0 : Int32) (v1 : Int32) (S : aS) : F_X13_dropsOf (f + 1) 1 [.int v0, .int v1] S = F_X13_dropsOf_1 f (F_X13_dropsOf f) v0 v1 S := rfl
theorem E_X13_walks_0 (f : Nat) (v0 : Nat) (v1 : Int32) (v2 : Int32) (S : aS) : F_X13_walks (f + 1) 0 [.ref v0, .int v1, .int v2] S = F_X13_walks_0 f (F_X13_walks f) v0 v1 v2 S := rfl
theorem E_X13_walks_1 (f : Nat) (v0 : Nat) (v1 : Int32) (v2 : Int32) (v3 : Int32) (v4 : Int32) (S : aS) : F_X13_walks (f + 1) 1 [.ref v0, .int v1, .int v2, .int v3, .int v4] S = F_X13_walks_1 f (F_X13_walks f) v0 v1 v2 v3 v4 S := rfl
theorem E_X13_walks_2 (f : Nat) (v0 : Nat) (v1 : Int32) (v2 : Int32) (v3 : Int32) (v4 : Int32) (w0 : Int32) (S : aS) : F_X13_walks (f + 1) 2 [.ref v0, .int v1, .int v2, .int v3, .int v4, .int w0] S = F_X13_walks_2 f (F_X13_walks f) v0 v1 v2 v3 v4 w0 S := rfl
theorem E_X13_walks_3 (f : Nat) (v0 : Nat) (v1 : Int32) (v2 : Int32) (v3 : Int32) (v4 : Int32) (w0 : Int32) (S : aS) : F_X13_walks (f + 1) 3 [.ref v0, .int v1, .int v2, .int v3, .int v4, .int w0] S = F_X13_walks_3 f (F_X13_walks f) v0 v1 v2 v3 v4 w0 S := rfl
theorem E_X13_walks_4 (f : Nat) (v0 : Nat) (v1 : Int32) (v2 : Int32) (v3 : Int32) (v4 : Int32) (v5 : Int32) (v6 : Int32) (w0 : Int32) (w1 : Int32) (w2 : Nat) (S : aS) : F_X13_walks (f + 1) 4 [.ref v0, .int v1, .int v2, .int v3, .int v4, .int v5, .int v6, .int w0, .int w1, .ref w2] S = F_X13_walks_4 f (F_X13_walks f) v0 v1 v2 v3 v4 v5 v6 w0 w1 w2 S := rfl
theorem E_X13_allWalk_0 (f : Nat) (v0 : Nat) (v1 : Int32) (v2 : Int32) (S : aS) : F_X13_allWalk (f + 1) 0 [.ref v0, .int v1, .int v2] S = F_X13_allWalk_0 f (F_X13_allWalk f) v0 v1 v2 S := rfl
theorem E_X13_allWalk_1 (f : Nat) (v0 : Nat) (v1 : Int32) (v2 : Int32) (v3 : Int32) (S : aS) : F_X13_allWalk (f + 1) 1 [.ref v0, .int v1, .int v2, .int v3] S = F_X13_allWalk_1 f (F_X13_allWalk f) v0 v1 v2 v3 S := rfl
theorem E_X13_allWalk_2 (f : Nat) (v0 : Nat) (v1 : Int32) (v2 : Int32) (v3 : Int32) (S : aS) : F_X13_allWalk (f + 1) 2 [.ref v0, .int v1, .int v2, .int v3] S = F_X13_allWalk_2 f (F_X13_allWalk f) v0 v1 v2 v3 S := rfl
theorem E_X13_person_0 (f : Nat) (v0 : Nat) (v1 : Int32) (v2 : Int32) (S : aS) : F_X13_person (f + 1) 0 [.ref v0, .int v1, .int v2] S = F_X13_person_0 f (F_X13_person f) v0 v1 v2 S := rfl
theorem E_X13_person_1 (f : Nat)  (S : aS) : F_X13_person (f + 1) 1 [] S = F_X13_person_1 f (F_X13_person f)  S := rfl
theorem E_X13_person_2 (f : Nat) (w0 : Int32) (S : aS) : F_X13_person (f + 1) 2 [.int w0] S = F_X13_person_2 f (F_X13_person f) w0 S := rfl
theorem E_X13_walk_0 (f : Nat) (v0 : Nat) (v1 : Int32) (S : aS) : F_X13_walk (f + 1) 0 [.ref v0, .int v1] S = F_X13_walk_0 f (F_X13_walk f) v0 v1 S := rfl
theorem E_X13_does_0 (f : Nat) (v0 : Nat) (v1 : Int32) (v2 : Int32) (v3 : Int32) (S : aS) : F_X13_does (f + 1) 0 [.ref v0, .int v1, .int v2, .int v3] S = F_X13_does_0 f (F_X13_does f) v0 v1 v2 v3 S := rfl
theorem E_X13_does_1 (f : Nat) (v0 : Nat) (v1 : Int32) (v2 : Int32) (v3 : Int32) (S : aS) : F_X13_does (f + 1) 1 [.ref v0, .int v1, .int v2, .int v3] S = F_X13_does_1 f (F_X13_does f) v0 v1 v2 v3 S := rfl
theorem E_X13_does_2 (f : Nat) (v0 : Nat) (v1 : Int32) (v2 : Int32) (v3 : Int32) (S : aS) : F_X13_does (f + 1) 2 [.ref v0, .int v1, .int v2, .int v3] S = F_X13_does_2 f (F_X13_does f) v0 v1 v2 v3 S := rfl
theorem E_X13_does_3 (f : Nat) (v0 : Nat) (v1 : Int32) (v2 : Int32) (v3 : Int32) (v4 : Int32) (S : aS) : F_X13_does (f + 1) 3 [.ref v0, .int v1, .int v2, .int v3, .int v4] S = F_X13_does_3 f (F_X13_does f) v0 v1 v2 v3 v4 S := rfl
theorem E_X13_does_4 (f : Nat) (v0 : Int32) (S : aS) : F_X13_does (f + 1) 4 [.int v0] S = F_X13_does_4 f (F_X13_does f) v0 S := rfl
theorem E_X13_does_5 (f : Nat) (v0 : Nat) (v1 : Int32) (v2 : Int32) (v3 : Int32) (w0 : Int32) (S : aS) : F_X13_does (f + 1) 5 [.ref v0, .int v1, .int v2, .int v3, .int w0] S = F_X13_does_5 f (F_X13_does f) v0 v1 v2 v3 w0 S := rfl
theorem E_X13_does_6 (f : Nat) (v0 : Nat) (v1 : Int32) (v2 : Int32) (v3 : Int32) (v4 : Int32) (S : aS) : F_X13_does (f + 1) 6 [.ref v0, .int v1, .int v2, .int v3, .int v4] S = F_X13_does_6 f (F_X13_does f) v0 v1 v2 v3 v4 S := rfl
theorem E_X13_does_7 (f : Nat) (v0 : Nat) (v1 : Int32) (v2 : Int32) (v3 : Int32) (S : aS) : F_X13_does (f + 1) 7 [.ref v0, .int v1, .int v2, .int v3] S = F_X13_does_7 f (F_X13_does f) v0 v1 v2 v3 S := rfl
theorem E_X13_does_8 (f : Nat) (v0 : Nat) (v1 : Int32) (v2 : Int32) (v3 : Int32) (S : aS) : F_X13_does (f + 1) 8 [.ref v0, .int v1, .int v2, .int v3] S = F_X13_does_8 f (F_X13_does f) v0 v1 v2 v3 S := rfl
theorem E_X13_does_9 (f : Nat) (v0 : Nat) (v1 : Int32) (S : aS) : F_X13_does (f + 1) 9 [.ref v0, .int v1] S = F_X13_does_9 f (F_X13_does f) v0 v1 S := rfl
theorem E_X13_judged_0 (f : Nat) (v0 : Nat) (v1 : Int32) (S : aS) : F_X13_judged (f + 1) 0 [.ref v0, .int v1] S = F_X13_judged_0 f (F_X13_judged f) v0 v1 S := rfl
theorem E_X13_judged_1 (f : Nat) (v0 : Nat) (v1 : Int32) (v2 : Int32) (v3 : Int32) (v4 : Int32) (S : aS) : F_X13_judged (f + 1) 1 [.ref v0, .int v1, .int v2, .int v3, .int v4] S = F_X13_judged_1 f (F_X13_judged f) v0 v1 v2 v3 v4 S := rfl
theorem E_X13_judged_2 (f : Nat) (w0 : Int32) (S : aS) : F_X13_judged (f + 1) 2 [.int w0] S = F_X13_judged_2 f (F_X13_judged f) w0 S := rfl
theorem E_X13_leaves_0 (f : Nat) (v0 : Nat) (v1 : Int32) (v2 : Int32) (S : aS) : F_X13_leaves (f + 1) 0 [.ref v0, .int v1, .int v2] S = F_X13_leaves_0 f (F_X13_leaves f) v0 v1 v2 S := rfl
theorem E_X13_leaves_1 (f : Nat)  (S : aS) : F_X13_leaves (f + 1) 1 [] S = F_X13_leaves_1 f (F_X13_leaves f)  S := rfl
theorem E_X13_leaves_2 (f : Nat) (w0 : Int32) (S : aS) : F_X13_leaves (f + 1) 2 [.int w0] S = F_X13_leaves_2 f (F_X13_leaves f) w0 S := rfl
theorem E_X13_leaves_3 (f : Nat) (w0 : Int32) (S : aS) : F_X13_leaves (f + 1) 3 [.int w0] S = F_X13_leaves_3 f (F_X13_leaves f) w0 S := rfl
theorem E_X13_all_0 (f : Nat) (v0 : Nat) (S : aS) : F_X13_all (f + 1) 0 [.ref v0] S = F_X13_all_0 f (F_X13_all f) v0 S := rfl
theorem E_X13_without_0 (f : Nat) (v0 : Nat) (v1 : Int32) (S : aS) : F_X13_without (f + 1) 0 [.ref v0, .int v1] S = F_X13_without_0 f (F_X13_without f) v0 v1 S := rfl
theorem E_X13_hands_0 (f : Nat) (v0 : Nat) (v1 : Int32) (S : aS) : F_X13_hands (f + 1) 0 [.ref v0, .int v1] S = F_X13_hands_0 f (F_X13_hands f) v0 v1 S := rfl
theorem E_X13_grows_0 (f : Nat) (v0 : Nat) (v1 : Int32) (v2 : Int32) (S : aS) : F_X13_grows (f + 1) 0 [.ref v0, .int v1, .int v2] S = F_X13_grows_0 f (F_X13_grows f) v0 v1 v2 S := rfl
theorem E_X13_grows_1 (f : Nat)  (S : aS) : F_X13_grows (f + 1) 1 [] S = F_X13_grows_1 f (F_X13_grows f)  S := rfl
theorem E_X13_place_0 (f : Nat) (v0 : Nat) (v1 : Int32) (v2 : Int32) (v3 : Int32) (S : aS) : F_X13_place (f + 1) 0 [.ref v0, .int v1, .int v2, .int v3] S = F_X13_place_0 f (F_X13_place f) v0 v1 v2 v3 S := rfl
theorem E_X13_place_1 (f : Nat)  (S : aS) : F_X13_place (f + 1) 1 [] S = F_X13_place_1 f (F_X13_place f)  S := rfl
theorem E_X13_place_2 (f : Nat) (v0 : Nat) (v1 : Int32) (v2 : Int32) (v3 : Int32) (v4 : Int32) (v5 : Int32) (v6 : Int32) (S : aS) : F_X13_place (f + 1) 2 [.ref v0, .int v1, .int v2, .int v3, .int v4, .int v5, .int v6] S = F_X13_place_2 f (F_X13_place f) v0 v1 v2 v3 v4 v5 v6 S := rfl
theorem E_X13_place_3 (f : Nat) (v0 : Nat) (v1 : Int32) (v2 : Int32) (v3 : Int32) (v4 : Int32) (v5 : Int32) (v6 : Int32) (v7 : Int32) (v8 : Int32) (S : aS) : F_X13_place (f + 1) 3 [.ref v0, .int v1, .int v2, .int v3, .int v4, .int v5, .int v6, .int v7, .int v8] S = F_X13_place_3 f (F_X13_place f) v0 v1 v2 v3 v4 v5 v6 v7 v8 S := rfl
theorem E_X13_place_4 (f : Nat) (v0 : Nat) (v1 : Int32) (v2 : Int32) (v3 : Int32) (v4 : Int32) (v5 : Int32) (v6 : Int32) (S : aS) : F_X13_place (f + 1) 4 [.ref v0, .int v1, .int v2, .int v3, .int v4, .int v5, .int v6] S = F_X13_place_4 f (F_X13_place f) v0 v1 v2 v3 v4 v5 v6 S := rfl
theorem E_X13_place_5 (f : Nat) (v0 : Nat) (v1 : Int32) (v2 : Int32) (v3 : Int32) (v4 : Int32) (v5 : Int32) (v6 : Int32) (v7 : Int32) (S : aS) : F_X13_place (f + 1) 5 [.ref v0, .int v1, .int v2, .int v3, .int v4, .int v5, .int v6, .int v7] S = F_X13_place_5 f (F_X13_place f) v0 v1 v2 v3 v4 v5 v6 v7 S := rfl
theorem E_X13_place_6 (f : Nat) (v0 : Nat) (v1 : Int32) (v2 : Int32) (v3 : Int32) (v4 : Int32) (v5 : Int32) (v6 : Int32) (v7 : Int32) (S : aS) : F_X13_place (f + 1) 6 [.ref v0, .int v1, .int v2, .int v3, .int v4, .int v5, .int v6, .int v7] S = F_X13_place_6 f (F_X13_place f) v0 v1 v2 v3 v4 v5 v6 v7 S := rfl
theorem E_X13_place_7 (f : Nat) (v0 : Nat) (v1 : Int32) (v2 : Int32) (v3 : Int32) (v4 : Int32) (v5 : Int32) (v6 : Int32) (v7 : Int32) (S : aS) : F_X13_place (f + 1) 7 [.ref v0, .int v1, .int v2, .int v3, .int v4, .int v5, .int v6, .int v7] S = F_X13_place_7 f (F_X13_place f) v0 v1 v2 v3 v4 v5 v6 v7 S := rfl
theorem E_X13_place_8 (f : Nat) (v0 : Nat) (v1 : Int32) (v2 : Int32) (v3 : Int32) (v4 : Int32) (v5 : Int32) (v6 : Int32) (v7 : Int32) (S : aS) : F_X13_place (f + 1) 8 [.ref v0, .int v1, .int v2, .int v3, .int v4, .int v5, .int v6, .int v7] S = F_X13_place_8 f (F_X13_place f) v0 v1 v2 v3 v4 v5 v6 v7 S := rfl
theorem E_X13_place_9 (f : Nat) (v0 : Nat) (v1 : Int32) (v2 : Int32) (v3 : Int32) (v4 : Int32) (v5 : Int32) (v6 : Int32) (v7 : Int32) (S : aS) : F_X13_place (f + 1) 9 [.ref v0, .int v1, .int v2, .int v3, .int v4, .int v5, .int v6, .int v7] S = F_X13_place_9 f (F_X13_place f) v0 v1 v2 v3 v4 v5 v6 v7 S := rfl
theorem E_X13_place_10 (f : Nat) (v0 : Nat) (v1 : Int32) (v2 : Int32) (v3 : Int32) (v4 : Int32) (v5 : Int32) (v6 : Int32) (v7 : Int32) (w0 : Int32) (w1 : Int32) (w2 : Nat) (S : aS) : F_X13_place (f + 1) 10 [.ref v0, .int v1, .int v2, .int v3, .int v4, .int v5, .int v6, .int v7, .int w0, .int w1, .ref w2] S = F_X13_place_10 f (F_X13_place f) v0 v1 v2 v3 v4 v5 v6 v7 w0 w1 w2 S := rfl
theorem E_X13_place_11 (f : Nat) (v0 : Nat) (v1 : Int32) (v2 : Int32) (v3 : Int32) (v4 : Int32) (v5 : Int32) (v6 : Int32) (v7 : Int32) (w0 : Int32) (S : aS) : F_X13_place (f + 1) 11 [.ref v0, .int v1, .int v2, .int v3, .int v4, .int v5, .int v6, .int v7, .int w0] S = F_X13_place_11 f (F_X13_place f) v0 v1 v2 v3 v4 v5 v6 v7 w0 S := rfl
theorem E_X13_place_12 (f : Nat) (v0 : Nat) (v1 : Int32) (v2 : Int32) (v3 : Int32) (v4 : Int32) (v5 : Int32) (v6 : Int32) (v7 : Int32) (w0 : Int32) (S : aS) : F_X13_place (f + 1) 12 [.ref v0, .int v1, .int v2, .int v3, .int v4, .int v5, .int v6, .int v7, .int w0] S = F_X13_place_12 f (F_X13_place f) v0 v1 v2 v3 v4 v5 v6 v7 w0 S := rfl
theorem E_X13_move_0 (f : Nat) (v0 : Nat) (S : aS) : F_X13_move (f + 1) 0 [.ref v0] S = F_X13_move_0 f (F_X13_move f) v0 S := rfl
theorem E_X13_move_1 (f : Nat) (v0 : Nat) (v1 : Int32) (v2 : Int32) (v3 : Int32) (S : aS) : F_X13_move (f + 1) 1 [.ref v0, .int v1, .int v2, .int v3] S = F_X13_move_1 f (F_X13_move f) v0 v1 v2 v3 S := rfl
theorem E_X13_move_2 (f : Nat) (v0 : Nat) (v1 : Int32) (v2 : Int32) (v3 : Int32) (v4 : Int32) (S : aS) : F_X13_move (f + 1) 2 [.ref v0, .int v1, .int v2, .int v3, .int v4] S = F_X13_move_2 f (F_X13_move f) v0 v1 v2 v3 v4 S := rfl
theorem E_X13_move_3 (f : Nat) (v0 : Nat) (v1 : Int32) (v2 : Int32) (v3 : Int32) (v4 : Int32) (S : aS) : F_X13_move (f + 1) 3 [.ref v0, .int v1, .int v2, .int v3, .int v4] S = F_X13_move_3 f (F_X13_move f) v0 v1 v2 v3 v4 S := rfl
theorem E_X13_full_0 (f : Nat) (v0 : Nat) (S : aS) : F_X13_full (f + 1) 0 [.ref v0] S = F_X13_full_0 f (F_X13_full f) v0 S := rfl
theorem E_X13_full_1 (f : Nat) (v0 : Nat) (v1 : Int32) (S : aS) : F_X13_full (f + 1) 1 [.ref v0, .int v1] S = F_X13_full_1 f (F_X13_full f) v0 v1 S := rfl
theorem E_X13_full_2 (f : Nat) (v0 : Nat) (v1 : Int32) (v2 : Int32) (v3 : Int32) (S : aS) : F_X13_full (f + 1) 2 [.ref v0, .int v1, .int v2, .int v3] S = F_X13_full_2 f (F_X13_full f) v0 v1 v2 v3 S := rfl
theorem E_X13_full_3 (f : Nat) (v0 : Nat) (v1 : Int32) (v2 : Int32) (S : aS) : F_X13_full (f + 1) 3 [.ref v0, .int v1, .int v2] S = F_X13_full_3 f (F_X13_full f) v0 v1 v2 S := rfl
theorem E_X13_full_4 (f : Nat) (v0 : Nat) (v1 : Int32) (v2 : Int32) (w0 : Int32) (S : aS) : F_X13_full (f + 1) 4 [.ref v0, .int v1, .int v2, .int w0] S = F_X13_full_4 f (F_X13_full f) v0 v1 v2 w0 S := rfl
theorem E_X13_lyingBehind_0 (f : Nat) (v0 : Nat) (v1 : Int32) (v2 : Int32) (S : aS) : F_X13_lyingBehind (f + 1) 0 [.ref v0, .int v1, .int v2] S = F_X13_lyingBehind_0 f (F_X13_lyingBehind f) v0 v1 v2 S := rfl
theorem E_X13_lyingBehind_1 (f : Nat) (v0 : Nat) (v1 : Int32) (v2 : Int32) (v3 : Int32) (S : aS) : F_X13_lyingBehind (f + 1) 1 [.ref v0, .int v1, .int v2, .int v3] S = F_X13_lyingBehind_1 f (F_X13_lyingBehind f) v0 v1 v2 v3 S := rfl
theorem E_X13_lyingBehind_2 (f : Nat) (v0 : Nat) (v1 : Int32) (v2 : Int32) (v3 : Int32) (v4 : Int32) (S : aS) : F_X13_lyingBehind (f + 1) 2 [.ref v0, .int v1, .int v2, .int v3, .int v4] S = F_X13_lyingBehind_2 f (F_X13_lyingBehind f) v0 v1 v2 v3 v4 S := rfl
theorem E_X13_lyingBehind_3 (f : Nat) (v0 : Nat) (v1 : Int32) (v2 : Int32) (v3 : Int32) (S : aS) : F_X13_lyingBehind (f + 1) 3 [.ref v0, .int v1, .int v2, .int v3] S = F_X13_lyingBehind_3 f (F_X13_lyingBehind f) v0 v1 v2 v3 S := rfl
theorem E_X13_rounds_0 (f : Nat) (v0 : Nat) (v1 : Int32) (v2 : Int32) (v3 : Int32) (S : aS) : F_X13_rounds (f + 1) 0 [.ref v0, .int v1, .int v2, .int v3] S = F_X13_rounds_0 f (F_X13_rounds f) v0 v1 v2 v3 S := rfl
theorem E_X13_rounds_1 (f : Nat)  (S : aS) : F_X13_rounds (f + 1) 1 [] S = F_X13_rounds_1 f (F_X13_rounds f)  S := rfl
theorem E_X13_rounds_2 (f : Nat) (v0 : Nat) (v1 : Int32) (v2 : Int32) (v3 : Int32) (v4 : Int32) (v5 : Int32) (v6 : Int32) (S : aS) : F_X13_rounds (f + 1) 2 [.ref v0, .int v1, .int v2, .int v3, .int v4, .int v5, .int v6] S = F_X13_rounds_2 f (F_X13_rounds f) v0 v1 v2 v3 v4 v5 v6 S := rfl
theorem E_X13_rounds_3 (f : Nat) (v0 : Nat) (v1 : Int32) (v2 : Int32) (v3 : Int32) (v4 : Int32) (v5 : Int32) (v6 : Int32) (S : aS) : F_X13_rounds (f + 1) 3 [.ref v0, .int v1, .int v2, .int v3, .int v4, .int v5, .int v6] S = F_X13_rounds_3 f (F_X13_rounds f) v0 v1 v2 v3 v4 v5 v6 S := rfl
theorem E_X13_rounds_4 (f : Nat) (v0 : Nat) (v1 : Int32) (v2 : Int32) (v3 : Int32) (v4 : Int32) (v5 : Int32) (v6 : Int32) (v7 : Int32) (S : aS) : F_X13_rounds (f + 1) 4 [.ref v0, .int v1, .int v2, .int v3, .int v4, .int v5, .int v6, .int v7] S = F_X13_rounds_4 f (F_X13_rounds f) v0 v1 v2 v3 v4 v5 v6 v7 S := rfl
theorem E_X13_rounds_5 (f : Nat) (v0 : Nat) (v1 : Int32) (v2 : Int32) (v3 : Int32) (v4 : Int32) (v5 : Int32) (v6 : Int32) (v7 : Int32) (S : aS) : F_X13_rounds (f + 1) 5 [.ref v0, .int v1, .int v2, .int v3, .int v4, .int v5, .int v6, .int v7] S = F_X13_rounds_5 f (F_X13_rounds f) v0 v1 v2 v3 v4 v5 v6 v7 S := rfl
theorem E_X13_rounds_6 (f : Nat) (v0 : Nat) (v1 : Int32) (v2 : Int32) (v3 : Int32) (v4 : Int32) (v5 : Int32) (v6 : Int32) (v7 : Int32) (w0 : Int32) (S : aS) : F_X13_rounds (f + 1) 6 [.ref v0, .int v1, .int v2, .int v3, .int v4, .int v5, .int v6, .int v7, .int w0] S = F_X13_rounds_6 f (F_X13_rounds f) v0 v1 v2 v3 v4 v5 v6 v7 w0 S := rfl
theorem E_X13_from_0 (f : Nat) (v0 : Nat) (v1 : Int32) (v2 : Int32) (S : aS) : F_X13_from (f + 1) 0 [.ref v0, .int v1, .int v2] S = F_X13_from_0 f (F_X13_from f) v0 v1 v2 S := rfl
theorem E_X13_from_1 (f : Nat)  (S : aS) : F_X13_from (f + 1) 1 [] S = F_X13_from_1 f (F_X13_from f)  S := rfl
theorem E_X13_from_2 (f : Nat) (v0 : Nat) (v1 : Int32) (v2 : Int32) (v3 : Int32) (v4 : Int32) (S : aS) : F_X13_from (f + 1) 2 [.ref v0, .int v1, .int v2, .int v3, .int v4] S = F_X13_from_2 f (F_X13_from f) v0 v1 v2 v3 v4 S := rfl
theorem E_X13_bare_0 (f : Nat) (v0 : Nat) (v1 : Int32) (S : aS) : F_X13_bare (f + 1) 0 [.ref v0, .int v1] S = F_X13_bare_0 f (F_X13_bare f) v0 v1 S := rfl
theorem E_X13_bare_1 (f : Nat)  (S : aS) : F_X13_bare (f + 1) 1 [] S = F_X13_bare_1 f (F_X13_bare f)  S := rfl
theorem E_X13_bare_2 (f : Nat) (v0 : Nat) (v1 : Int32) (v2 : Int32) (S : aS) : F_X13_bare (f + 1) 2 [.ref v0, .int v1, .int v2] S = F_X13_bare_2 f (F_X13_bare f) v0 v1 v2 S := rfl
theorem E_X13_deposit_0 (f : Nat) (v0 : Nat) (v1 : Int32) (S : aS) : F_X13_deposit (f + 1) 0 [.ref v0, .int v1] S = F_X13_deposit_0 f (F_X13_deposit f) v0 v1 S := rfl
theorem E_X13_deposit_1 (f : Nat) (v0 : Nat) (v1 : Int32) (v2 : Int32) (v3 : Int32) (S : aS) : F_X13_deposit (f + 1) 1 [.ref v0, .int v1, .int v2, .int v3] S = F_X13_deposit_1 f (F_X13_deposit f) v0 v1 v2 v3 S := rfl
theorem E_X13_whoNow_0 (f : Nat) (v0 : Nat) (S : aS) : F_X13_whoNow (f + 1) 0 [.ref v0] S = F_X13_whoNow_0 f (F_X13_whoNow f) v0 S := rfl
theorem E_X13_whoNow_1 (f : Nat) (v0 : Nat) (v1 : Int32) (v2 : Int32) (S : aS) : F_X13_whoNow (f + 1) 1 [.ref v0, .int v1, .int v2] S = F_X13_whoNow_1 f (F_X13_whoNow f) v0 v1 v2 S := rfl
theorem E_X13_whoNow_2 (f : Nat) (v0 : Nat) (v1 : Int32) (v2 : Int32) (v3 : Int32) (v4 : Int32) (S : aS) : F_X13_whoNow (f + 1) 2 [.ref v0, .int v1, .int v2, .int v3, .int v4] S = F_X13_whoNow_2 f (F_X13_whoNow f) v0 v1 v2 v3 v4 S := rfl
theorem E_X13_whoNow_3 (f : Nat) (v0 : Nat) (v1 : Int32) (v2 : Int32) (v3 : Int32) (S : aS) : F_X13_whoNow (f + 1) 3 [.ref v0, .int v1, .int v2, .int v3] S = F_X13_whoNow_3 f (F_X13_whoNow f) v0 v1 v2 v3 S := rfl
theorem E_X13_whoNow_4 (f : Nat) (v0 : Nat) (v1 : Int32) (v2 : Int32) (v3 : Int32) (S : aS) : F_X13_whoNow (f + 1) 4 [.ref v0, .int v1, .int v2, .int v3] S = F_X13_whoNow_4 f (F_X13_whoNow f) v0 v1 v2 v3 S := rfl
theorem E_X13_whoNow_5 (f : Nat) (v0 : Nat) (v1 : Int32) (v2 : Int32) (v3 : Int32) (w0 : Int32) (S : aS) : F_X13_whoNow (f + 1) 5 [.ref v0, .int v1, .int v2, .int v3, .int w0] S = F_X13_whoNow_5 f (F_X13_whoNow f) v0 v1 v2 v3 w0 S := rfl
theorem E_X13_who_0 (f : Nat) (v0 : Nat) (S : aS) : F_X13_who (f + 1) 0 [.ref v0] S = F_X13_who_0 f (F_X13_who f) v0 S := rfl
theorem E_X13_look_0 (f : Nat) (v0 : Nat) (S : aS) : F_X13_look (f + 1) 0 [.ref v0] S = F_X13_look_0 f (F_X13_look f) v0 S := rfl
theorem E_X13_look_1 (f : Nat) (v0 : Nat) (v1 : Int32) (v2 : Int32) (v3 : Int32) (v4 : Int32) (S : aS) : F_X13_look (f + 1) 1 [.ref v0, .int v1, .int v2, .int v3, .int v4] S = F_X13_look_1 f (F_X13_look f) v0 v1 v2 v3 v4 S := rfl
theorem E_X13_look_2 (f : Nat) (v0 : Nat) (v1 : Int32) (v2 : Int32) (v3 : Int32) (v4 : Int32) (v5 : Int32) (v6 : Int32) (S : aS) : F_X13_look (f + 1) 2 [.ref v0, .int v1, .int v2, .int v3, .int v4, .int v5, .int v6] S = F_X13_look_2 f (F_X13_look f) v0 v1 v2 v3 v4 v5 v6 S := rfl
theorem E_X13_look_3 (f : Nat) (v0 : Nat) (v1 : Int32) (v2 : Int32) (v3 : Int32) (v4 : Int32) (v5 : Int32) (v6 : Int32) (v7 : Int32) (v8 : Int32) (S : aS) : F_X13_look (f + 1) 3 [.ref v0, .int v1, .int v2, .int v3, .int v4, .int v5, .int v6, .int v7, .int v8] S = F_X13_look_3 f (F_X13_look f) v0 v1 v2 v3 v4 v5 v6 v7 v8 S := rfl
theorem E_X13_look_4 (f : Nat) (v0 : Nat) (v1 : Int32) (v2 : Int32) (v3 : Int32) (v4 : Int32) (v5 : Int32) (v6 : Int32) (v7 : Int32) (w0 : Int32) (S : aS) : F_X13_look (f + 1) 4 [.ref v0, .int v1, .int v2, .int v3, .int v4, .int v5, .int v6, .int v7, .int w0] S = F_X13_look_4 f (F_X13_look f) v0 v1 v2 v3 v4 v5 v6 v7 w0 S := rfl
theorem E_X13_look_5 (f : Nat) (v0 : Nat) (v1 : Int32) (v2 : Int32) (v3 : Int32) (v4 : Int32) (v5 : Int32) (v6 : Int32) (v7 : Int32) (w0 : Int32) (w1 : Int32) (S : aS) : F_X13_look (f + 1) 5 [.ref v0, .int v1, .int v2, .int v3, .int v4, .int v5, .int v6, .int v7, .int w0, .int w1] S = F_X13_look_5 f (F_X13_look f) v0 v1 v2 v3 v4 v5 v6 v7 w0 w1 S := rfl
theorem E_X13_mean_0 (f : Nat) (v0 : Nat) (v1 : Int32) (S : aS) : F_X13_mean (f + 1) 0 [.ref v0, .int v1] S = F_X13_mean_0 f (F_X13_mean f) v0 v1 S := rfl
theorem E_X13_mean_1 (f : Nat) (v0 : Nat) (v1 : Int32) (v2 : Int64) (v3 : Int64) (v4 : Int32) (S : aS) : F_X13_mean (f + 1) 1 [.ref v0, .int v1, .long v2, .long v3, .int v4] S = F_X13_mean_1 f (F_X13_mean f) v0 v1 v2 v3 v4 S := rfl
theorem E_X13_mean_2 (f : Nat) (v0 : Nat) (v1 : Int32) (v2 : Int64) (v3 : Int64) (v4 : Int32) (S : aS) : F_X13_mean (f + 1) 2 [.ref v0, .int v1, .long v2, .long v3, .int v4] S = F_X13_mean_2 f (F_X13_mean f) v0 v1 v2 v3 v4 S := rfl
theorem E_X13_mean_3 (f : Nat) (v0 : Nat) (v1 : Int32) (v2 : Int64) (v3 : Int64) (v4 : Int32) (v5 : Int64) (v6 : Int32) (S : aS) : F_X13_mean (f + 1) 3 [.ref v0, .int v1, .long v2, .long v3, .int v4, .long v5, .int v6] S = F_X13_mean_3 f (F_X13_mean f) v0 v1 v2 v3 v4 v5 v6 S := rfl
theorem E_X13_mean_4 (f : Nat) (v0 : Nat) (v1 : Int32) (v2 : Int64) (v3 : Int64) (v4 : Int32) (S : aS) : F_X13_mean (f + 1) 4 [.ref v0, .int v1, .long v2, .long v3, .int v4] S = F_X13_mean_4 f (F_X13_mean f) v0 v1 v2 v3 v4 S := rfl
theorem E_X13_weeks_0 (f : Nat) (v0 : Nat) (v1 : Int32) (v2 : Int32) (v3 : Int32) (S : aS) : F_X13_weeks (f + 1) 0 [.ref v0, .int v1, .int v2, .int v3] S = F_X13_weeks_0 f (F_X13_weeks f) v0 v1 v2 v3 S := rfl
theorem E_X13_weeks_1 (f : Nat)  (S : aS) : F_X13_weeks (f + 1) 1 [] S = F_X13_weeks_1 f (F_X13_weeks f)  S := rfl
theorem E_X13_weeks_2 (f : Nat) (v0 : Nat) (v1 : Int32) (v2 : Int32) (v3 : Int32) (S : aS) : F_X13_weeks (f + 1) 2 [.ref v0, .int v1, .int v2, .int v3] S = F_X13_weeks_2 f (F_X13_weeks f) v0 v1 v2 v3 S := rfl
theorem E_X13_weeks_3 (f : Nat) (w0 : Int32) (S : aS) : F_X13_weeks (f + 1) 3 [.int w0] S = F_X13_weeks_3 f (F_X13_weeks f) w0 S := rfl
theorem E_X13_weeks_4 (f : Nat) (v0 : Nat) (v1 : Int32) (v2 : Int32) (v3 : Int32) (v4 : Int32) (S : aS) : F_X13_weeks (f + 1) 4 [.ref v0, .int v1, .int v2, .int v3, .int v4] S = F_X13_weeks_4 f (F_X13_weeks f) v0 v1 v2 v3 v4 S := rfl
theorem E_X13_weeks_5 (f : Nat) (v0 : Nat) (v1 : Int32) (v2 : Int32) (v3 : Int32) (S : aS) : F_X13_weeks (f + 1) 5 [.ref v0, .int v1, .int v2, .int v3] S = F_X13_weeks_5 f (F_X13_weeks f) v0 v1 v2 v3 S := rfl
theorem E_X13_weeks_6 (f : Nat) (v0 : Nat) (v1 : Int32) (v2 : Int32) (v3 : Int32) (v4 : Int32) (v5 : Int32) (S : aS) : F_X13_weeks (f + 1) 6 [.ref v0, .int v1, .int v2, .int v3, .int v4, .int v5] S = F_X13_weeks_6 f (F_X13_weeks f) v0 v1 v2 v3 v4 v5 S := rfl
theorem E_X13_weeks_7 (f : Nat) (v0 : Nat) (v1 : Int32) (v2 : Int32) (v3 : Int32) (v4 : Int32) (v5 : Int32) (S : aS) : F_X13_weeks (f + 1) 7 [.ref v0, .int v1, .int v2, .int v3, .int v4, .int v5] S = F_X13_weeks_7 f (F_X13_weeks f) v0 v1 v2 v3 v4 v5 S := rfl
theorem E_gMod_0 (f : Nat) (e : Nat) (v0 : Nat) (v1 : Int32) (v2 : Int32) (S : aS) : F_gMod (f + 1) e 0 [.ref v0, .int v1, .int v2] S = F_gMod_0 f (F_gMod f) e v0 v1 v2 S := rfl
theorem E_gMod_1 (f : Nat) (e : Nat) (v0 : Nat) (v1 : Int32) (v2 : Int32) (v3 : Int32) (S : aS) : F_gMod (f + 1) e 1 [.ref v0, .int v1, .int v2, .int v3] S = F_gMod_1 f (F_gMod f) e v0 v1 v2 v3 S := rfl
theorem E_gMod_2 (f : Nat) (e : Nat) (v0 : Nat) (v1 : Int32) (v2 : Int32) (S : aS) : F_gMod (f + 1) e 2 [.ref v0, .int v1, .int v2] S = F_gMod_2 f (F_gMod f) e v0 v1 v2 S := rfl
theorem E_gMod_3 (f : Nat) (e : Nat)  (S : aS) : F_gMod (f + 1) e 3 [] S = F_gMod_3 f (F_gMod f) e  S := rfl
theorem E_gMod_4 (f : Nat) (e : Nat) (v0 : Nat) (v1 : Int32) (v2 : Int32) (v3 : Int32) (S : aS) : F_gMod (f + 1) e 4 [.ref v0, .int v1, .int v2, .int v3] S = F_gMod_4 f (F_gMod f) e v0 v1 v2 v3 S := rfl
theorem E_gMod_5 (f : Nat) (e : Nat) (v0 : Nat) (v1 : Int32) (v2 : Int32) (S : aS) : F_gMod (f + 1) e 5 [.ref v0, .int v1, .int v2] S = F_gMod_5 f (F_gMod f) e v0 v1 v2 S := rfl
theorem E_X8_advance_0 (f : Nat) (v0 : Nat) (S : aS) : F_X8_advance (f + 1) 0 [.ref v0] S = F_X8_advance_0 f (F_X8_advance f) v0 S := rfl
theorem E_X8_advance_1 (f : Nat) (v0 : Nat) (S : aS) : F_X8_advance (f + 1) 1 [.ref v0] S = F_X8_advance_1 f (F_X8_advance f) v0 S := rfl
theorem E_X8_advance_2 (f : Nat) (v0 : Nat) (S : aS) : F_X8_advance (f + 1) 2 [.ref v0] S = F_X8_advance_2 f (F_X8_advance f) v0 S := rfl
theorem E_X8_advance_3 (f : Nat) (v0 : Nat) (S : aS) : F_X8_advance (f + 1) 3 [.ref v0] S = F_X8_advance_3 f (F_X8_advance f) v0 S := rfl
theorem E_X8_advance_4 (f : Nat)  (S : aS) : F_X8_advance (f + 1) 4 [] S = F_X8_advance_4 f (F_X8_advance f)  S := rfl
theorem E_X8_pass_0 (f : Nat) (v0 : Nat) (v1 : Nat) (S : aS) : F_X8_pass (f + 1) 0 [.ref v0, .ref v1] S = F_X8_pass_0 f (F_X8_pass f) v0 v1 S := rfl
theorem E_X8_pass__0 (f : Nat) (v0 : Nat) (v1 : Int32) (S : aS) : F_X8_pass_ (f + 1) 0 [.ref v0, .int v1] S = F_X8_pass__0 f (F_X8_pass_ f) v0 v1 S := rfl
theorem E_X9_walkOf_0 (f : Nat) (v0 : Nat) (v1 : Int32) (v2 : Nat) (S : aS) : F_X9_walkOf (f + 1) 0 [.ref v0, .int v1, .ref v2] S = F_X9_walkOf_0 f (F_X9_walkOf f) v0 v1 v2 S := rfl
theorem E_X9_allWalkBut_0 (f : Nat) (v0 : Nat) (v1 : Int32) (v2 : Nat) (S : aS) : F_X9_allWalkBut (f + 1) 0 [.ref v0, .int v1, .ref v2] S = F_X9_allWalkBut_0 f (F_X9_allWalkBut f) v0 v1 v2 S := rfl
theorem E_X9_allWalkBut_1 (f : Nat) (v0 : Nat) (v1 : Int32) (v2 : Nat) (v3 : Int32) (S : aS) : F_X9_allWalkBut (f + 1) 1 [.ref v0, .int v1, .ref v2, .int v3] S = F_X9_allWalkBut_1 f (F_X9_allWalkBut f) v0 v1 v2 v3 S := rfl
theorem E_X9_allWalkBut_2 (f : Nat) (v0 : Nat) (v1 : Int32) (v2 : Nat) (v3 : Int32) (S : aS) : F_X9_allWalkBut (f + 1) 2 [.ref v0, .int v1, .ref v2, .int v3] S = F_X9_allWalkBut_2 f (F_X9_allWalkBut f) v0 v1 v2 v3 S := rfl
theorem E_X9_liesAfterAll_0 (f : Nat) (v0 : Nat) (v1 : Int32) (S : aS) : F_X9_liesAfterAll (f + 1) 0 [.ref v0, .int v1] S = F_X9_liesAfterAll_0 f (F_X9_liesAfterAll f) v0 v1 S := rfl
theorem E_X9_changeBy_0 (f : Nat) (v0 : Nat) (v1 : Int32) (v2 : Int32) (S : aS) : F_X9_changeBy (f + 1) 0 [.ref v0, .int v1, .int v2] S = F_X9_changeBy_0 f (F_X9_changeBy f) v0 v1 v2 S := rfl
theorem E_X9_changeBy_1 (f : Nat) (w0 : Int32) (S : aS) : F_X9_changeBy (f + 1) 1 [.int w0] S = F_X9_changeBy_1 f (F_X9_changeBy f) w0 S := rfl
theorem E_X9_yardsWithFullHands_0 (f : Nat) (v0 : Nat) (v1 : Int32) (S : aS) : F_X9_yardsWithFullHands (f + 1) 0 [.ref v0, .int v1] S = F_X9_yardsWithFullHands_0 f (F_X9_yardsWithFullHands f) v0 v1 S := rfl
theorem E_X9_growthOf_0 (f : Nat) (v0 : Nat) (v1 : Int32) (v2 : Int32) (S : aS) : F_X9_growthOf (f + 1) 0 [.ref v0, .int v1, .int v2] S = F_X9_growthOf_0 f (F_X9_growthOf f) v0 v1 v2 S := rfl
theorem E_X9_hoursTillFull_0 (f : Nat) (v0 : Nat) (S : aS) : F_X9_hoursTillFull (f + 1) 0 [.ref v0] S = F_X9_hoursTillFull_0 f (F_X9_hoursTillFull f) v0 S := rfl
theorem E_X9_hoursTillFull_1 (f : Nat) (v0 : Nat) (v1 : Int32) (S : aS) : F_X9_hoursTillFull (f + 1) 1 [.ref v0, .int v1] S = F_X9_hoursTillFull_1 f (F_X9_hoursTillFull f) v0 v1 S := rfl
theorem E_X9_hoursTillLittered_0 (f : Nat) (v0 : Nat) (v1 : Int32) (S : aS) : F_X9_hoursTillLittered (f + 1) 0 [.ref v0, .int v1] S = F_X9_hoursTillLittered_0 f (F_X9_hoursTillLittered f) v0 v1 S := rfl
theorem E_X9_hoursTillLittered_1 (f : Nat) (v0 : Nat) (v1 : Int32) (v2 : Int32) (S : aS) : F_X9_hoursTillLittered (f + 1) 1 [.ref v0, .int v1, .int v2] S = F_X9_hoursTillLittered_1 f (F_X9_hoursTillLittered f) v0 v1 v2 S := rfl
theorem E_X9_leastDeposit_0 (f : Nat) (v0 : Nat) (v1 : Int32) (S : aS) : F_X9_leastDeposit (f + 1) 0 [.ref v0, .int v1] S = F_X9_leastDeposit_0 f (F_X9_leastDeposit f) v0 v1 S := rfl
theorem E_X9_leastDeposit_1 (f : Nat) (v0 : Nat) (v1 : Int32) (v2 : Int32) (S : aS) : F_X9_leastDeposit (f + 1) 1 [.ref v0, .int v1, .int v2] S = F_X9_leastDeposit_1 f (F_X9_leastDeposit f) v0 v1 v2 S := rfl
theorem E_X9_act_0 (f : Nat) (v0 : Nat) (v1 : Nat) (v2 : Int32) (S : aS) : F_X9_act (f + 1) 0 [.ref v0, .ref v1, .int v2] S = F_X9_act_0 f (F_X9_act f) v0 v1 v2 S := rfl
theorem E_X9_act_1 (f : Nat)  (S : aS) : F_X9_act (f + 1) 1 [] S = F_X9_act_1 f (F_X9_act f)  S := rfl
theorem E_X9_afterWeeks_0 (f : Nat) (v0 : Nat) (v1 : Int32) (v2 : Int32) (S : aS) : F_X9_afterWeeks (f + 1) 0 [.ref v0, .int v1, .int v2] S = F_X9_afterWeeks_0 f (F_X9_afterWeeks f) v0 v1 v2 S := rfl
theorem E_X9_afterWeeks_1 (f : Nat) (v0 : Nat) (v1 : Int32) (v2 : Int32) (S : aS) : F_X9_afterWeeks (f + 1) 1 [.ref v0, .int v1, .int v2] S = F_X9_afterWeeks_1 f (F_X9_afterWeeks f) v0 v1 v2 S := rfl
theorem E_X9_afterWeeks_2 (f : Nat) (v0 : Nat) (v1 : Int32) (v2 : Int32) (S : aS) : F_X9_afterWeeks (f + 1) 2 [.ref v0, .int v1, .int v2] S = F_X9_afterWeeks_2 f (F_X9_afterWeeks f) v0 v1 v2 S := rfl
theorem E_X9_afterWeeks_3 (f : Nat) (v0 : Nat) (v1 : Int32) (v2 : Int32) (v3 : Int32) (S : aS) : F_X9_afterWeeks (f + 1) 3 [.ref v0, .int v1, .int v2, .int v3] S = F_X9_afterWeeks_3 f (F_X9_afterWeeks f) v0 v1 v2 v3 S := rfl
theorem E_X9_afterWeeks_4 (f : Nat) (v0 : Nat) (v1 : Int32) (v2 : Int32) (S : aS) : F_X9_afterWeeks (f + 1) 4 [.ref v0, .int v1, .int v2] S = F_X9_afterWeeks_4 f (F_X9_afterWeeks f) v0 v1 v2 S := rfl
theorem E_X12_walk_0 (f : Nat) (v0 : Nat) (v1 : Int32) (S : aS) : F_X12_walk (f + 1) 0 [.ref v0, .int v1] S = F_X12_walk_0 f (F_X12_walk f) v0 v1 S := rfl
theorem E_X12_leaves_0 (f : Nat) (v0 : Nat) (v1 : Int32) (v2 : Int32) (S : aS) : F_X12_leaves (f + 1) 0 [.ref v0, .int v1, .int v2] S = F_X12_leaves_0 f (F_X12_leaves f) v0 v1 v2 S := rfl
theorem E_X12_leaves_1 (f : Nat)  (S : aS) : F_X12_leaves (f + 1) 1 [] S = F_X12_leaves_1 f (F_X12_leaves f)  S := rfl
theorem E_X12_all_0 (f : Nat) (v0 : Nat) (S : aS) : F_X12_all (f + 1) 0 [.ref v0] S = F_X12_all_0 f (F_X12_all f) v0 S := rfl
theorem E_X12_full_0 (f : Nat) (v0 : Nat) (S : aS) : F_X12_full (f + 1) 0 [.ref v0] S = F_X12_full_0 f (F_X12_full f) v0 S := rfl
theorem E_X12_without_0 (f : Nat) (v0 : Nat) (v1 : Int32) (S : aS) : F_X12_without (f + 1) 0 [.ref v0, .int v1] S = F_X12_without_0 f (F_X12_without f) v0 v1 S := rfl
theorem E_X12_without_1 (f : Nat) (w0 : Int32) (S : aS) : F_X12_without (f + 1) 1 [.int w0] S = F_X12_without_1 f (F_X12_without f) w0 S := rfl
theorem E_X12_hands_0 (f : Nat) (v0 : Nat) (v1 : Int32) (S : aS) : F_X12_hands (f + 1) 0 [.ref v0, .int v1] S = F_X12_hands_0 f (F_X12_hands f) v0 v1 S := rfl
theorem E_X12_hands_1 (f : Nat) (w0 : Int32) (S : aS) : F_X12_hands (f + 1) 1 [.int w0] S = F_X12_hands_1 f (F_X12_hands f) w0 S := rfl
theorem E_X12_grows_0 (f : Nat) (v0 : Nat) (v1 : Int32) (v2 : Int32) (S : aS) : F_X12_grows (f + 1) 0 [.ref v0, .int v1, .int v2] S = F_X12_grows_0 f (F_X12_grows f) v0 v1 v2 S := rfl
theorem E_X12_grows_1 (f : Nat)  (S : aS) : F_X12_grows (f + 1) 1 [] S = F_X12_grows_1 f (F_X12_grows f)  S := rfl
theorem E_X12_bare_0 (f : Nat) (v0 : Nat) (v1 : Int32) (S : aS) : F_X12_bare (f + 1) 0 [.ref v0, .int v1] S = F_X12_bare_0 f (F_X12_bare f) v0 v1 S := rfl
theorem E_X12_bare_1 (f : Nat)  (S : aS) : F_X12_bare (f + 1) 1 [] S = F_X12_bare_1 f (F_X12_bare f)  S := rfl
theorem E_X12_deposit_0 (f : Nat) (v0 : Nat) (v1 : Int32) (S : aS) : F_X12_deposit (f + 1) 0 [.ref v0, .int v1] S = F_X12_deposit_0 f (F_X12_deposit f) v0 v1 S := rfl
theorem E_X12_deposit_1 (f : Nat) (w0 : Int32) (S : aS) : F_X12_deposit (f + 1) 1 [.int w0] S = F_X12_deposit_1 f (F_X12_deposit f) w0 S := rfl
theorem E_X12_weeks_0 (f : Nat) (v0 : Nat) (v1 : Int32) (v2 : Int32) (v3 : Int32) (S : aS) : F_X12_weeks (f + 1) 0 [.ref v0, .int v1, .int v2, .int v3] S = F_X12_weeks_0 f (F_X12_weeks f) v0 v1 v2 v3 S := rfl
theorem E_X12_weeks_1 (f : Nat)  (S : aS) : F_X12_weeks (f + 1) 1 [] S = F_X12_weeks_1 f (F_X12_weeks f)  S := rfl
theorem E_X13_readLine_0 (f : Nat) (v0 : Nat) (S : aS) : F_X13_readLine (f + 1) 0 [.ref v0] S = F_X13_readLine_0 f (F_X13_readLine f) v0 S := rfl
theorem E_X13_readLine_1 (f : Nat)  (S : aS) : F_X13_readLine (f + 1) 1 [] S = F_X13_readLine_1 f (F_X13_readLine f)  S := rfl
theorem E_X13_order_0 (f : Nat) (v0 : Nat) (v1 : Int32) (S : aS) : F_X13_order (f + 1) 0 [.ref v0, .int v1] S = F_X13_order_0 f (F_X13_order f) v0 v1 S := rfl
theorem E_X13_order_1 (f : Nat) (v0 : Nat) (v1 : Int32) (S : aS) : F_X13_order (f + 1) 1 [.ref v0, .int v1] S = F_X13_order_1 f (F_X13_order f) v0 v1 S := rfl
theorem E_X13_order_2 (f : Nat) (w0 : Int32) (S : aS) : F_X13_order (f + 1) 2 [.int w0] S = F_X13_order_2 f (F_X13_order f) w0 S := rfl
theorem E_gLaw_0 (f : Nat) (e : Nat) (v0 : Nat) (v1 : Nat) (v2 : Int32) (S : aS) : F_gLaw (f + 1) e 0 [.ref v0, .ref v1, .int v2] S = F_gLaw_0 f (F_gLaw f) e v0 v1 v2 S := rfl
theorem E_gLaw_1 (f : Nat) (e : Nat) (v0 : Nat) (v1 : Nat) (v2 : Int32) (S : aS) : F_gLaw (f + 1) e 1 [.ref v0, .ref v1, .int v2] S = F_gLaw_1 f (F_gLaw f) e v0 v1 v2 S := rfl
theorem E_gLaw_2 (f : Nat) (e : Nat) (v0 : Nat) (v1 : Nat) (v2 : Int32) (S : aS) : F_gLaw (f + 1) e 2 [.ref v0, .ref v1, .int v2] S = F_gLaw_2 f (F_gLaw f) e v0 v1 v2 S := rfl
theorem E_gLaw_3 (f : Nat) (e : Nat) (v0 : Nat) (v1 : Nat) (v2 : Int32) (S : aS) : F_gLaw (f + 1) e 3 [.ref v0, .ref v1, .int v2] S = F_gLaw_3 f (F_gLaw f) e v0 v1 v2 S := rfl
theorem E_gLaw_4 (f : Nat) (e : Nat) (v0 : Nat) (v1 : Nat) (v2 : Int32) (S : aS) : F_gLaw (f + 1) e 4 [.ref v0, .ref v1, .int v2] S = F_gLaw_4 f (F_gLaw f) e v0 v1 v2 S := rfl
theorem E_gLaw_5 (f : Nat) (e : Nat) (v0 : Nat) (v1 : Nat) (v2 : Int32) (v3 : Int32) (S : aS) : F_gLaw (f + 1) e 5 [.ref v0, .ref v1, .int v2, .int v3] S = F_gLaw_5 f (F_gLaw f) e v0 v1 v2 v3 S := rfl
theorem E_gLaw_6 (f : Nat) (e : Nat)  (S : aS) : F_gLaw (f + 1) e 6 [] S = F_gLaw_6 f (F_gLaw f) e  S := rfl
theorem E_gLaw_7 (f : Nat) (e : Nat) (v0 : Nat) (v1 : Nat) (v2 : Int32) (v3 : Int32) (S : aS) : F_gLaw (f + 1) e 7 [.ref v0, .ref v1, .int v2, .int v3] S = F_gLaw_7 f (F_gLaw f) e v0 v1 v2 v3 S := rfl
theorem E_gLaw_8 (f : Nat) (e : Nat) (v0 : Nat) (v1 : Nat) (v2 : Int32) (S : aS) : F_gLaw (f + 1) e 8 [.ref v0, .ref v1, .int v2] S = F_gLaw_8 f (F_gLaw f) e v0 v1 v2 S := rfl
theorem E_gLaw_9 (f : Nat) (e : Nat) (v0 : Nat) (v1 : Nat) (v2 : Int32) (v3 : Int32) (S : aS) : F_gLaw (f + 1) e 9 [.ref v0, .ref v1, .int v2, .int v3] S = F_gLaw_9 f (F_gLaw f) e v0 v1 v2 v3 S := rfl
theorem E_gLaw_10 (f : Nat) (e : Nat)  (S : aS) : F_gLaw (f + 1) e 10 [] S = F_gLaw_10 f (F_gLaw f) e  S := rfl
theorem E_gLaw_11 (f : Nat) (e : Nat) (v0 : Nat) (v1 : Nat) (v2 : Int32) (v3 : Int32) (S : aS) : F_gLaw (f + 1) e 11 [.ref v0, .ref v1, .int v2, .int v3] S = F_gLaw_11 f (F_gLaw f) e v0 v1 v2 v3 S := rfl
theorem E_gLaw_12 (f : Nat) (e : Nat) (v0 : Nat) (v1 : Nat) (v2 : Int32) (v3 : Int32) (S : aS) : F_gLaw (f + 1) e 12 [.ref v0, .ref v1, .int v2, .int v3] S = F_gLaw_12 f (F_gLaw f) e v0 v1 v2 v3 S := rfl
theorem E_gLaw_13 (f : Nat) (e : Nat)  (S : aS) : F_gLaw (f + 1) e 13 [] S = F_gLaw_13 f (F_gLaw f) e  S := rfl
theorem E_gLaw_14 (f : Nat) (e : Nat) (v0 : Nat) (v1 : Nat) (v2 : Int32) (S : aS) : F_gLaw (f + 1) e 14 [.ref v0, .ref v1, .int v2] S = F_gLaw_14 f (F_gLaw f) e v0 v1 v2 S := rfl
theorem E_gLaw_15 (f : Nat) (e : Nat) (v0 : Nat) (v1 : Nat) (v2 : Int32) (v3 : Int32) (S : aS) : F_gLaw (f + 1) e 15 [.ref v0, .ref v1, .int v2, .int v3] S = F_gLaw_15 f (F_gLaw f) e v0 v1 v2 v3 S := rfl
theorem E_gLaw_16 (f : Nat) (e : Nat) (v0 : Nat) (v1 : Nat) (v2 : Int32) (w0 : Int32) (S : aS) : F_gLaw (f + 1) e 16 [.ref v0, .ref v1, .int v2, .int w0] S = F_gLaw_16 f (F_gLaw f) e v0 v1 v2 w0 S := rfl
theorem E_gLaw_17 (f : Nat) (e : Nat)  (S : aS) : F_gLaw (f + 1) e 17 [] S = F_gLaw_17 f (F_gLaw f) e  S := rfl
theorem E_gLaw_18 (f : Nat) (e : Nat) (w0 : Int32) (S : aS) : F_gLaw (f + 1) e 18 [.int w0] S = F_gLaw_18 f (F_gLaw f) e w0 S := rfl
theorem E_gOrd_0 (f : Nat) (e : Nat) (v0 : Nat) (v1 : Int32) (v2 : Int32) (S : aS) : F_gOrd (f + 1) e 0 [.ref v0, .int v1, .int v2] S = F_gOrd_0 f (F_gOrd f) e v0 v1 v2 S := rfl
theorem E_gOrd_1 (f : Nat) (e : Nat) (v0 : Nat) (v1 : Int32) (S : aS) : F_gOrd (f + 1) e 1 [.ref v0, .int v1] S = F_gOrd_1 f (F_gOrd f) e v0 v1 S := rfl
theorem E_gOrd_2 (f : Nat) (e : Nat) (v0 : Nat) (v1 : Int32) (v2 : Int32) (v3 : Int32) (S : aS) : F_gOrd (f + 1) e 2 [.ref v0, .int v1, .int v2, .int v3] S = F_gOrd_2 f (F_gOrd f) e v0 v1 v2 v3 S := rfl
theorem E_gOrd_3 (f : Nat) (e : Nat) (v0 : Nat) (v1 : Int32) (v2 : Int32) (v3 : Int32) (S : aS) : F_gOrd (f + 1) e 3 [.ref v0, .int v1, .int v2, .int v3] S = F_gOrd_3 f (F_gOrd f) e v0 v1 v2 v3 S := rfl
theorem E_gWei_0 (f : Nat) (e : Nat) (v0 : Nat) (v1 : Int32) (v2 : Int32) (v3 : Int32) (S : aS) : F_gWei (f + 1) e 0 [.ref v0, .int v1, .int v2, .int v3] S = F_gWei_0 f (F_gWei f) e v0 v1 v2 v3 S := rfl
theorem E_gWei_1 (f : Nat) (e : Nat) (v0 : Nat) (v1 : Int32) (S : aS) : F_gWei (f + 1) e 1 [.ref v0, .int v1] S = F_gWei_1 f (F_gWei f) e v0 v1 S := rfl
theorem E_gWei_2 (f : Nat) (e : Nat) (v0 : Nat) (v1 : Int32) (v2 : Int32) (v3 : Int32) (v4 : Int64) (S : aS) : F_gWei (f + 1) e 2 [.ref v0, .int v1, .int v2, .int v3, .long v4] S = F_gWei_2 f (F_gWei f) e v0 v1 v2 v3 v4 S := rfl
theorem E_gWei_3 (f : Nat) (e : Nat) (v0 : Int64) (S : aS) : F_gWei (f + 1) e 3 [.long v0] S = F_gWei_3 f (F_gWei f) e v0 S := rfl
theorem E_X1_readWalker_0 (f : Nat) (v0 : Nat) (v1 : Nat) (v2 : Nat) (S : aS) : F_X1_readWalker (f + 1) 0 [.ref v0, .ref v1, .ref v2] S = F_X1_readWalker_0 f (F_X1_readWalker f) v0 v1 v2 S := rfl
theorem E_X1_readHolds_0 (f : Nat) (v0 : Nat) (v1 : Nat) (S : aS) : F_X1_readHolds (f + 1) 0 [.ref v0, .ref v1] S = F_X1_readHolds_0 f (F_X1_readHolds f) v0 v1 S := rfl
theorem E_X6_readYards_0 (f : Nat) (v0 : Nat) (v1 : Nat) (S : aS) : F_X6_readYards (f + 1) 0 [.ref v0, .ref v1] S = F_X6_readYards_0 f (F_X6_readYards f) v0 v1 S := rfl
theorem E_X6_readPence_0 (f : Nat) (v0 : Nat) (v1 : Nat) (S : aS) : F_X6_readPence (f + 1) 0 [.ref v0, .ref v1] S = F_X6_readPence_0 f (F_X6_readPence f) v0 v1 S := rfl
theorem E_X6_readDeposit_0 (f : Nat) (v0 : Nat) (v1 : Nat) (S : aS) : F_X6_readDeposit (f + 1) 0 [.ref v0, .ref v1] S = F_X6_readDeposit_0 f (F_X6_readDeposit f) v0 v1 S := rfl
theorem E_X6_readPerson_0 (f : Nat) (v0 : Nat) (v1 : Nat) (S : aS) : F_X6_readPerson (f + 1) 0 [.ref v0, .ref v1] S = F_X6_readPerson_0 f (F_X6_readPerson f) v0 v1 S := rfl
theorem E_X6_readPerson_1 (f : Nat)  (S : aS) : F_X6_readPerson (f + 1) 1 [] S = F_X6_readPerson_1 f (F_X6_readPerson f)  S := rfl
theorem E_X6_readPerson_2 (f : Nat)  (S : aS) : F_X6_readPerson (f + 1) 2 [] S = F_X6_readPerson_2 f (F_X6_readPerson f)  S := rfl
theorem E_X6_readBin_0 (f : Nat) (v0 : Nat) (v1 : Nat) (S : aS) : F_X6_readBin (f + 1) 0 [.ref v0, .ref v1] S = F_X6_readBin_0 f (F_X6_readBin f) v0 v1 S := rfl
theorem E_X6_readBin_1 (f : Nat)  (S : aS) : F_X6_readBin (f + 1) 1 [] S = F_X6_readBin_1 f (F_X6_readBin f)  S := rfl
theorem E_X6_readHeap_0 (f : Nat) (v0 : Nat) (v1 : Nat) (S : aS) : F_X6_readHeap (f + 1) 0 [.ref v0, .ref v1] S = F_X6_readHeap_0 f (F_X6_readHeap f) v0 v1 S := rfl
theorem E_X6_readWinds_0 (f : Nat) (v0 : Nat) (v1 : Nat) (S : aS) : F_X6_readWinds (f + 1) 0 [.ref v0, .ref v1] S = F_X6_readWinds_0 f (F_X6_readWinds f) v0 v1 S := rfl
theorem E_X6_readWinds_1 (f : Nat) (v0 : Nat) (v1 : Nat) (v2 : Int32) (S : aS) : F_X6_readWinds (f + 1) 1 [.ref v0, .ref v1, .int v2] S = F_X6_readWinds_1 f (F_X6_readWinds f) v0 v1 v2 S := rfl
theorem E_X6_readWinds_2 (f : Nat)  (S : aS) : F_X6_readWinds (f + 1) 2 [] S = F_X6_readWinds_2 f (F_X6_readWinds f)  S := rfl
theorem E_X6_readWinds_3 (f : Nat) (v0 : Nat) (v1 : Nat) (v2 : Int32) (S : aS) : F_X6_readWinds (f + 1) 3 [.ref v0, .ref v1, .int v2] S = F_X6_readWinds_3 f (F_X6_readWinds f) v0 v1 v2 S := rfl
theorem E_X7_liesWithBins_0 (f : Nat) (v0 : Nat) (v1 : Int32) (v2 : Int32) (S : aS) : F_X7_liesWithBins (f + 1) 0 [.ref v0, .int v1, .int v2] S = F_X7_liesWithBins_0 f (F_X7_liesWithBins f) v0 v1 v2 S := rfl
theorem E_X7_liesWithBins_1 (f : Nat) (v0 : Nat) (v1 : Int32) (v2 : Int32) (v3 : Nat) (v4 : Int32) (S : aS) : F_X7_liesWithBins (f + 1) 1 [.ref v0, .int v1, .int v2, .ref v3, .int v4] S = F_X7_liesWithBins_1 f (F_X7_liesWithBins f) v0 v1 v2 v3 v4 S := rfl
theorem E_X7_liesWithBins_2 (f : Nat) (v0 : Nat) (v1 : Int32) (v2 : Int32) (v3 : Nat) (v4 : Int32) (S : aS) : F_X7_liesWithBins (f + 1) 2 [.ref v0, .int v1, .int v2, .ref v3, .int v4] S = F_X7_liesWithBins_2 f (F_X7_liesWithBins f) v0 v1 v2 v3 v4 S := rfl
theorem E_X7_liesAfterMove_0 (f : Nat) (v0 : Nat) (v1 : Int32) (v2 : Int32) (S : aS) : F_X7_liesAfterMove (f + 1) 0 [.ref v0, .int v1, .int v2] S = F_X7_liesAfterMove_0 f (F_X7_liesAfterMove f) v0 v1 v2 S := rfl
theorem E_X7_passRound_0 (f : Nat) (v0 : Nat) (v1 : Int32) (v2 : Int32) (S : aS) : F_X7_passRound (f + 1) 0 [.ref v0, .int v1, .int v2] S = F_X7_passRound_0 f (F_X7_passRound f) v0 v1 v2 S := rfl
theorem E_X7_passRound_1 (f : Nat) (v0 : Nat) (v1 : Nat) (S : aS) : F_X7_passRound (f + 1) 1 [.ref v0, .ref v1] S = F_X7_passRound_1 f (F_X7_passRound f) v0 v1 S := rfl
theorem E_X7_meanThousandths_0 (f : Nat) (v0 : Nat) (v1 : Int32) (S : aS) : F_X7_meanThousandths (f + 1) 0 [.ref v0, .int v1] S = F_X7_meanThousandths_0 f (F_X7_meanThousandths f) v0 v1 S := rfl
theorem E_X7_meanThousandths_1 (f : Nat) (v0 : Nat) (v1 : Int32) (v2 : Int64) (v3 : Int32) (S : aS) : F_X7_meanThousandths (f + 1) 1 [.ref v0, .int v1, .long v2, .int v3] S = F_X7_meanThousandths_1 f (F_X7_meanThousandths f) v0 v1 v2 v3 S := rfl
theorem E_X7_tellChanges_0 (f : Nat) (v0 : Nat) (v1 : Int32) (S : aS) : F_X7_tellChanges (f + 1) 0 [.ref v0, .int v1] S = F_X7_tellChanges_0 f (F_X7_tellChanges f) v0 v1 S := rfl
theorem E_X7_tellChanges_1 (f : Nat) (v0 : Nat) (v1 : Int32) (v2 : Nat) (v3 : Int32) (S : aS) : F_X7_tellChanges (f + 1) 1 [.ref v0, .int v1, .ref v2, .int v3] S = F_X7_tellChanges_1 f (F_X7_tellChanges f) v0 v1 v2 v3 S := rfl
theorem E_X8_rewind_0 (f : Nat) (v0 : Nat) (S : aS) : F_X8_rewind (f + 1) 0 [.ref v0] S = F_X8_rewind_0 f (F_X8_rewind f) v0 S := rfl
theorem E_X9_judge_0 (f : Nat) (v0 : Nat) (v1 : Nat) (S : aS) : F_X9_judge (f + 1) 0 [.ref v0, .ref v1] S = F_X9_judge_0 f (F_X9_judge f) v0 v1 S := rfl
theorem E_X9_judge_1 (f : Nat) (v0 : Nat) (v1 : Nat) (v2 : Int32) (S : aS) : F_X9_judge (f + 1) 1 [.ref v0, .ref v1, .int v2] S = F_X9_judge_1 f (F_X9_judge f) v0 v1 v2 S := rfl
theorem E_X9_judge_2 (f : Nat) (v0 : Nat) (v1 : Nat) (v2 : Int32) (S : aS) : F_X9_judge (f + 1) 2 [.ref v0, .ref v1, .int v2] S = F_X9_judge_2 f (F_X9_judge f) v0 v1 v2 S := rfl
theorem E_X12_judged_0 (f : Nat) (v0 : Nat) (v1 : Int32) (S : aS) : F_X12_judged (f + 1) 0 [.ref v0, .int v1] S = F_X12_judged_0 f (F_X12_judged f) v0 v1 S := rfl
theorem E_X12_order_0 (f : Nat) (v0 : Nat) (v1 : Int32) (S : aS) : F_X12_order (f + 1) 0 [.ref v0, .int v1] S = F_X12_order_0 f (F_X12_order f) v0 v1 S := rfl
theorem E_X12_order_1 (f : Nat) (v0 : Nat) (v1 : Int32) (S : aS) : F_X12_order (f + 1) 1 [.ref v0, .int v1] S = F_X12_order_1 f (F_X12_order f) v0 v1 S := rfl
theorem E_X12_order_2 (f : Nat) (w0 : Int32) (S : aS) : F_X12_order (f + 1) 2 [.int w0] S = F_X12_order_2 f (F_X12_order f) w0 S := rfl
theorem E_X12_mean_0 (f : Nat) (v0 : Nat) (v1 : Int32) (S : aS) : F_X12_mean (f + 1) 0 [.ref v0, .int v1] S = F_X12_mean_0 f (F_X12_mean f) v0 v1 S := rfl
theorem E_X12_mean_1 (f : Nat) (w0 : Int32) (S : aS) : F_X12_mean (f + 1) 1 [.int w0] S = F_X12_mean_1 f (F_X12_mean f) w0 S := rfl
theorem E_X13_path_0 (f : Nat) (v0 : Nat) (S : aS) : F_X13_path (f + 1) 0 [.ref v0] S = F_X13_path_0 f (F_X13_path f) v0 S := rfl
theorem E_X13_path_1 (f : Nat) (v0 : Nat) (S : aS) : F_X13_path (f + 1) 1 [.ref v0] S = F_X13_path_1 f (F_X13_path f) v0 S := rfl
theorem E_X13_path_2 (f : Nat) (v0 : Nat) (S : aS) : F_X13_path (f + 1) 2 [.ref v0] S = F_X13_path_2 f (F_X13_path f) v0 S := rfl
theorem E_X13_path_3 (f : Nat) (v0 : Nat) (v1 : Int32) (S : aS) : F_X13_path (f + 1) 3 [.ref v0, .int v1] S = F_X13_path_3 f (F_X13_path f) v0 v1 S := rfl
theorem E_X13_path_4 (f : Nat) (v0 : Nat) (v1 : Int32) (S : aS) : F_X13_path (f + 1) 4 [.ref v0, .int v1] S = F_X13_path_4 f (F_X13_path f) v0 v1 S := rfl
theorem E_X13_path_5 (f : Nat) (v0 : Nat) (v1 : Int32) (S : aS) : F_X13_path (f + 1) 5 [.ref v0, .int v1] S = F_X13_path_5 f (F_X13_path f) v0 v1 S := rfl
theorem E_gRnd_0 (f : Nat) (e : Nat) (v0 : Nat) (v1 : Int32) (v2 : Int32) (v3 : Int32) (v4 : Int32) (S : aS) : F_gRnd (f + 1) e 0 [.ref v0, .int v1, .int v2, .int v3, .int v4] S = F_gRnd_0 f (F_gRnd f) e v0 v1 v2 v3 v4 S := rfl
theorem E_gRnd_1 (f : Nat) (e : Nat) (v0 : Nat) (v1 : Int32) (v2 : Int32) (S : aS) : F_gRnd (f + 1) e 1 [.ref v0, .int v1, .int v2] S = F_gRnd_1 f (F_gRnd f) e v0 v1 v2 S := rfl
theorem E_gRnd_2 (f : Nat) (e : Nat)  (S : aS) : F_gRnd (f + 1) e 2 [] S = F_gRnd_2 f (F_gRnd f) e  S := rfl
theorem E_X1_readBehind_0 (f : Nat) (v0 : Nat) (v1 : Int32) (v2 : Nat) (v3 : Nat) (S : aS) : F_X1_readBehind (f + 1) 0 [.ref v0, .int v1, .ref v2, .ref v3] S = F_X1_readBehind_0 f (F_X1_readBehind f) v0 v1 v2 v3 S := rfl
theorem E_X1_readBehind_1 (f : Nat)  (S : aS) : F_X1_readBehind (f + 1) 1 [] S = F_X1_readBehind_1 f (F_X1_readBehind f)  S := rfl
theorem E_X1_readBehind_2 (f : Nat) (w0 : Int32) (S : aS) : F_X1_readBehind (f + 1) 2 [.int w0] S = F_X1_readBehind_2 f (F_X1_readBehind f) w0 S := rfl
theorem E_X6_readBehind_0 (f : Nat) (v0 : Nat) (v1 : Nat) (v2 : Nat) (S : aS) : F_X6_readBehind (f + 1) 0 [.ref v0, .ref v1, .ref v2] S = F_X6_readBehind_0 f (F_X6_readBehind f) v0 v1 v2 S := rfl
theorem E_X7_placeBins_0 (f : Nat) (v0 : Nat) (v1 : Int32) (v2 : Int32) (S : aS) : F_X7_placeBins (f + 1) 0 [.ref v0, .int v1, .int v2] S = F_X7_placeBins_0 f (F_X7_placeBins f) v0 v1 v2 S := rfl
theorem E_X7_placeBins_1 (f : Nat) (v0 : Nat) (v1 : Int32) (v2 : Int32) (v3 : Int32) (v4 : Int32) (S : aS) : F_X7_placeBins (f + 1) 1 [.ref v0, .int v1, .int v2, .int v3, .int v4] S = F_X7_placeBins_1 f (F_X7_placeBins f) v0 v1 v2 v3 v4 S := rfl
theorem E_X7_placeBins_2 (f : Nat) (v0 : Nat) (v1 : Int32) (v2 : Int32) (v3 : Int32) (v4 : Int32) (S : aS) : F_X7_placeBins (f + 1) 2 [.ref v0, .int v1, .int v2, .int v3, .int v4] S = F_X7_placeBins_2 f (F_X7_placeBins f) v0 v1 v2 v3 v4 S := rfl
theorem E_X7_bestMove_0 (f : Nat) (v0 : Nat) (S : aS) : F_X7_bestMove (f + 1) 0 [.ref v0] S = F_X7_bestMove_0 f (F_X7_bestMove f) v0 S := rfl
theorem E_X7_bestMove_1 (f : Nat) (v0 : Nat) (v1 : Int32) (v2 : Int32) (S : aS) : F_X7_bestMove (f + 1) 1 [.ref v0, .int v1, .int v2] S = F_X7_bestMove_1 f (F_X7_bestMove f) v0 v1 v2 S := rfl
theorem E_X7_bestMove_2 (f : Nat) (v0 : Nat) (v1 : Int32) (v2 : Int32) (v3 : Int32) (S : aS) : F_X7_bestMove (f + 1) 2 [.ref v0, .int v1, .int v2, .int v3] S = F_X7_bestMove_2 f (F_X7_bestMove f) v0 v1 v2 v3 S := rfl
theorem E_X7_bestMove_3 (f : Nat) (v0 : Nat) (v1 : Int32) (v2 : Int32) (v3 : Int32) (S : aS) : F_X7_bestMove (f + 1) 3 [.ref v0, .int v1, .int v2, .int v3] S = F_X7_bestMove_3 f (F_X7_bestMove f) v0 v1 v2 v3 S := rfl
theorem E_X7_suspects_0 (f : Nat) (v0 : Nat) (v1 : Nat) (S : aS) : F_X7_suspects (f + 1) 0 [.ref v0, .ref v1] S = F_X7_suspects_0 f (F_X7_suspects f) v0 v1 S := rfl
theorem E_X7_suspects_1 (f : Nat) (v0 : Nat) (v1 : Nat) (v2 : Int32) (v3 : Int32) (S : aS) : F_X7_suspects (f + 1) 1 [.ref v0, .ref v1, .int v2, .int v3] S = F_X7_suspects_1 f (F_X7_suspects f) v0 v1 v2 v3 S := rfl
theorem E_X12_place_0 (f : Nat) (v0 : Nat) (v1 : Int32) (v2 : Int32) (v3 : Int32) (S : aS) : F_X12_place (f + 1) 0 [.ref v0, .int v1, .int v2, .int v3] S = F_X12_place_0 f (F_X12_place f) v0 v1 v2 v3 S := rfl
theorem E_X12_place_1 (f : Nat)  (S : aS) : F_X12_place (f + 1) 1 [] S = F_X12_place_1 f (F_X12_place f)  S := rfl
theorem E_X12_move_0 (f : Nat) (v0 : Nat) (S : aS) : F_X12_move (f + 1) 0 [.ref v0] S = F_X12_move_0 f (F_X12_move f) v0 S := rfl
theorem E_X12_rounds_0 (f : Nat) (v0 : Nat) (v1 : Int32) (v2 : Int32) (v3 : Int32) (S : aS) : F_X12_rounds (f + 1) 0 [.ref v0, .int v1, .int v2, .int v3] S = F_X12_rounds_0 f (F_X12_rounds f) v0 v1 v2 v3 S := rfl
theorem E_X12_rounds_1 (f : Nat)  (S : aS) : F_X12_rounds (f + 1) 1 [] S = F_X12_rounds_1 f (F_X12_rounds f)  S := rfl
theorem E_X12_who_0 (f : Nat) (v0 : Nat) (S : aS) : F_X12_who (f + 1) 0 [.ref v0] S = F_X12_who_0 f (F_X12_who f) v0 S := rfl
theorem E_X12_look_0 (f : Nat) (v0 : Nat) (S : aS) : F_X12_look (f + 1) 0 [.ref v0] S = F_X12_look_0 f (F_X12_look f) v0 S := rfl
theorem E_X1_readLine_0 (f : Nat) (v0 : Nat) (v1 : Nat) (v2 : Nat) (S : aS) : F_X1_readLine (f + 1) 0 [.ref v0, .ref v1, .ref v2] S = F_X1_readLine_0 f (F_X1_readLine f) v0 v1 v2 S := rfl
theorem E_X1_readLine_1 (f : Nat)  (S : aS) : F_X1_readLine (f + 1) 1 [] S = F_X1_readLine_1 f (F_X1_readLine f)  S := rfl
theorem E_X6_readLine_0 (f : Nat) (v0 : Nat) (v1 : Nat) (S : aS) : F_X6_readLine (f + 1) 0 [.ref v0, .ref v1] S = F_X6_readLine_0 f (F_X6_readLine f) v0 v1 S := rfl
theorem E_X6_readLine_1 (f : Nat) (v0 : Nat) (v1 : Nat) (v2 : Nat) (S : aS) : F_X6_readLine (f + 1) 1 [.ref v0, .ref v1, .ref v2] S = F_X6_readLine_1 f (F_X6_readLine f) v0 v1 v2 S := rfl
theorem E_X6_readLine_2 (f : Nat)  (S : aS) : F_X6_readLine (f + 1) 2 [] S = F_X6_readLine_2 f (F_X6_readLine f)  S := rfl
theorem E_X6_readLine_3 (f : Nat) (w0 : Int32) (S : aS) : F_X6_readLine (f + 1) 3 [.int w0] S = F_X6_readLine_3 f (F_X6_readLine f) w0 S := rfl
theorem E_X1_read_0 (f : Nat) (v0 : Nat) (v1 : Nat) (v2 : Nat) (S : aS) : F_X1_read (f + 1) 0 [.ref v0, .ref v1, .ref v2] S = F_X1_read_0 f (F_X1_read f) v0 v1 v2 S := rfl
theorem E_X1_read_1 (f : Nat) (v0 : Nat) (v1 : Nat) (v2 : Nat) (v3 : Int32) (S : aS) : F_X1_read (f + 1) 1 [.ref v0, .ref v1, .ref v2, .int v3] S = F_X1_read_1 f (F_X1_read f) v0 v1 v2 v3 S := rfl
theorem E_X1_read_2 (f : Nat)  (S : aS) : F_X1_read (f + 1) 2 [] S = F_X1_read_2 f (F_X1_read f)  S := rfl
theorem E_X6_read_0 (f : Nat) (v0 : Nat) (v1 : Nat) (S : aS) : F_X6_read (f + 1) 0 [.ref v0, .ref v1] S = F_X6_read_0 f (F_X6_read f) v0 v1 S := rfl
theorem E_X6_read_1 (f : Nat) (v0 : Nat) (v1 : Nat) (v2 : Int32) (S : aS) : F_X6_read (f + 1) 1 [.ref v0, .ref v1, .int v2] S = F_X6_read_1 f (F_X6_read f) v0 v1 v2 S := rfl
theorem E_X6_read_2 (f : Nat)  (S : aS) : F_X6_read (f + 1) 2 [] S = F_X6_read_2 f (F_X6_read f)  S := rfl
theorem E_X12_path_0 (f : Nat) (v0 : Nat) (S : aS) : F_X12_path (f + 1) 0 [.ref v0] S = F_X12_path_0 f (F_X12_path f) v0 S := rfl
theorem E_X12_path_1 (f : Nat) (v0 : Int32) (S : aS) : F_X12_path (f + 1) 1 [.int v0] S = F_X12_path_1 f (F_X12_path f) v0 S := rfl
theorem E_X12_day_0 (f : Nat) (v0 : Nat) (S : aS) : F_X12_day (f + 1) 0 [.ref v0] S = F_X12_day_0 f (F_X12_day f) v0 S := rfl
theorem E_X12_day_1 (f : Nat) (v0 : Int32) (S : aS) : F_X12_day (f + 1) 1 [.int v0] S = F_X12_day_1 f (F_X12_day f) v0 S := rfl
theorem E_X12_rests_0 (f : Nat) (v0 : Nat) (v1 : Int32) (v2 : Int32) (v3 : Int32) (S : aS) : F_X12_rests (f + 1) 0 [.ref v0, .int v1, .int v2, .int v3] S = F_X12_rests_0 f (F_X12_rests f) v0 v1 v2 v3 S := rfl
theorem E_X12_rests_1 (f : Nat)  (S : aS) : F_X12_rests (f + 1) 1 [] S = F_X12_rests_1 f (F_X12_rests f)  S := rfl
theorem E_X12_rests_2 (f : Nat) (v0 : Int32) (v1 : Int32) (v2 : Int32) (v3 : Int32) (v4 : Int32) (S : aS) : F_X12_rests (f + 1) 2 [.int v0, .int v1, .int v2, .int v3, .int v4] S = F_X12_rests_2 f (F_X12_rests f) v0 v1 v2 v3 v4 S := rfl
theorem E_X12_rests_3 (f : Nat)  (S : aS) : F_X12_rests (f + 1) 3 [] S = F_X12_rests_3 f (F_X12_rests f)  S := rfl
theorem E_X12_rests_4 (f : Nat) (v0 : Int32) (v1 : Int32) (v2 : Int32) (v3 : Int32) (v4 : Int32) (S : aS) : F_X12_rests (f + 1) 4 [.int v0, .int v1, .int v2, .int v3, .int v4] S = F_X12_rests_4 f (F_X12_rests f) v0 v1 v2 v3 v4 S := rfl

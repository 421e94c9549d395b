theorem dL_rests_0 : decode cL_rests 0 = .ok (.aload 4, 2) := by decide +kernel
theorem dL_rests_2 : decode cL_rests 2 = .ok (.iconst 0, 1) := by decide +kernel
theorem dL_rests_3 : decode cL_rests 3 = .ok (.aload_n 0, 1) := by decide +kernel
theorem dL_rests_4 : decode cL_rests 4 = .ok (.iload_n 1, 1) := by decide +kernel
theorem dL_rests_5 : decode cL_rests 5 = .ok (.iload_n 2, 1) := by decide +kernel
theorem dL_rests_6 : decode cL_rests 6 = .ok (.iload_n 3, 1) := by decide +kernel
theorem dL_rests_7 : decode cL_rests 7 = .ok (.invokevirtual 7, 3) := by decide +kernel
theorem dL_rests_10 : decode cL_rests 10 = .ok (.i2l, 1) := by decide +kernel
theorem dL_rests_11 : decode cL_rests 11 = .ok (.lastore, 1) := by decide +kernel
theorem dL_rests_12 : decode cL_rests 12 = .ok (.goto 7, 3) := by decide +kernel
theorem dL_rests_15 : decode cL_rests 15 = .ok (.astore 5, 2) := by decide +kernel
theorem dL_rests_17 : decode cL_rests 17 = .ok (.iconst 1, 1) := by decide +kernel
theorem dL_rests_18 : decode cL_rests 18 = .ok (.ireturn, 1) := by decide +kernel
theorem dL_rests_19 : decode cL_rests 19 = .ok (.iconst 0, 1) := by decide +kernel
theorem dL_rests_20 : decode cL_rests 20 = .ok (.ireturn, 1) := by decide +kernel
theorem clL13 : Cond.classLink RL 13 NSE ∈ ztb := tbm5 229 rfl rfl
theorem cwL : Cond.codeWith yL_rests cL_rests 6 (some .int) [(0, 12, 15, 13)] ∈ ztb := tbm5 228 rfl rfl
theorem stL : Cond.static yL_rests ∈ ztb := tbm5 227 rfl rfl
theorem lkL159 : Cond.methodLink RL 159 yL_rests ∈ ztb := tbm5 226 rfl rfl
theorem iniL : Cond.initialized RL ∈ ztb := tbm1 0 rfl rfl
section ZLR
variable {G : zG} {X : zX} {Q : State → Prop} {nL : Nat} {lv : zLv} {st : List Value} {kd : kD} {N0 : Nat} {S : aS} {pc k n d mc ms : Nat} {own : String} {cc : ByteArray} {res : Option Value × aS}
theorem zx_call {p : Nat} {As rest : List Value} (C : zCt G X d 1 6 RL cL_rests 6) (hE2 : zE2 G (zXs X)) (htab : (zXc X).exceptionTable.toList = tableOf [(0, 12, 15, 13)]) (hM : vx_Met (zXl X) yX12_rests (.code yX12_rests cX12_rests 6 (some .int) :: ztb) (zR 7 1 6) (va_Pc (.ref (zB G + p) :: As) (fun U => zW G (cn G kd N0 S) U.heap ∧ zK G U ∧ zE2 G U)) (zXQ G kd N0 res) (zXX G kd N0 res) 1 6 (fun q => zB G ≤ q)) (hp : p < N0) (hk : kd p = .inl 10) (hn : As.length = 3) (hd2 : 7 < d) (hw : (rest.map fun v => v.category).sum ≤ 8)
    (kk : ∀ v, res.1 = some v → zT0 kd N0 res.2 → zV G X Q 6 lv (v :: rest) (cn G kd N0 res.2) 10 1 6) (kx : res.1 = none → zT0 kd N0 res.2 → ∀ q, zV G X Q 6 lv [.ref q] (cn G kd N0 res.2) 15 1 6) : zV G X Q 6 lv (As.reverse ++ .ref (zB G + p) :: rest) (cn G kd N0 S) 7 0 0 := by
  intro H locs ls hW hL hl
  have hts := C.2.2.2.2.1
  have hr := vx_runV (e := X.2.2.1) (below := zXb X) (meth := zXh X) (H := H) (locs := locs) (cells := 0) (slots := 0) (g := F0 (zXm X) 7 ls (As.reverse ++ .ref (zB G + p) :: rest)) (As := As) (rest := rest) (C := RX12) (b := zB G + p) ⟨C.1, C.2.1, C.2.2.1, C.2.2.2.1, hts⟩ hM ⟨z_cb C zyX12_rests lkRL_7 hd2, hts _ zvX12_rests.1, hts _ zvX12_rests.2⟩ ⟨zPx.blind, z_recv C hW (cn_obj hp hk) rfl, fun U hU hWm => ⟨rfl, by rw [hU]; exact hW, C.2.2.2.2.2.1.warm hWm, hE2.warm hWm⟩⟩ rfl hn hl.1 rfl (lv_room hw) dL_rests_7 ⟨C.2.2.2.2.2.2.2.2.2.2.1, C.2.2.2.2.2.2.2.2.2.2.2⟩
  intro T hT Xs
  rcases hr T hT Xs with ⟨v, st₀, t, T', L, h0, X', hL', e1, e2, ⟨v', hv1, hv2, hw', hT'⟩, stp⟩ | ⟨q, st₀, t, T', L, E, ce, h0, X', hL', e1, e2, ⟨hn', rfl, hw', hT'⟩, hce, hcv, hcl, stp⟩
  · cases hv2
    obtain ⟨t2, a1, b1⟩ := kk v' hv1 hT' T'.heap (locs ++ L) ls (by rw [e1]; exact hw') (fun q hq => by
      rcases List.mem_append.mp hq with h | h
      · exact hL q h
      · exact hL' q h) hl T' rfl X'
    exact ⟨t2, stp t2 a1, b1⟩
  · have kw := kx hn' hT' q T'.heap (locs ++ L) ls (by rw [e1]; exact hw') (fun q hq => by
      rcases List.mem_append.mp hq with h | h
      · exact hL q h
      · exact hL' q h) hl
    obtain ⟨t2, a1, b1⟩ := vx_catch (pc := 7) (rest := rest) (E := NSE) (name := NSE) C.2.2.2.1 [] _ [] htab (fun z hz => nomatch hz) (by decide) (by decide) (hts _ clL13) (va_Nw.use rfl hE2.2.1) (by rw [e1]; exact hce) hcv hcl kw T' rfl X'
    exact ⟨t2, stp.trans a1, b1⟩
end ZLR
def zPL (G : zG) (kd : kD) (N0 p4 : Nat) (res : Option Value × aS) : Option Value → zH → Prop := fun r h => (∃ x, res.1 = some (.int x) ∧ r = some (.int 0) ∧ h = cn G kd N0 (sJ res.2 p4 0 x.toInt64) ∧ zT0 kd N0 (sJ res.2 p4 0 x.toInt64)) ∨ (res.1 = none ∧ r = some (.int 1) ∧ h = cn G kd N0 res.2 ∧ zT0 kd N0 res.2)
set_option maxHeartbeats 4000000 in
theorem K_L_rests {G : zG} {l : Launch} {kd : kD} {N0 f : Nat} {S : aS} {v0 p4 : Nat} {v1 v2 v3 : Int32} {res : Option Value × aS} (hst : l.stackTraces = false) (hT : zT0 kd N0 S) (hpv0 : v0 < N0) (hkv0 : kd v0 = .inl 10) (hp4 : p4 < N0) (hk4 : kd p4 = .inr (1, 1)) (hres : res.1 = none ∨ ∃ x, res.1 = some (.int x)) (hF : F_X12_rests f 0 [.ref v0, .int v1, .int v2, .int v3] S = some res) : Met l yL_rests (.codeWith yL_rests cL_rests 6 (some .int) [(0, 12, 15, 13)] :: ztb) (zR 8 1 6) (va_Pc [.ref (zB G + v0), .int v1, .int v2, .int v3, .ref (zB G + p4)] (fun U => zW G (cn G kd N0 S) U.heap ∧ zK G U ∧ zE2 G U)) (zQ G (zPL G kd N0 p4 res)) 1 6 (fun q => zB G ≤ q) := by
  refine va_MetW (cc := cL_rests) (maxL := 6) (ret := some .int) (by decide) rfl ?_
  intro p e s m args below meth c s₁ B hml hv
  obtain ⟨rfl, hW, hK, hE2⟩ := hv
  have hts := atoms_spec (ws := .codeWith yL_rests cL_rests 6 (some .int) [(0, 12, 15, 13)] :: ztb) B.pre
  have hown : s.vm.findClass RL = some m.cls := findClass_of_methodNamed B.named
  have htab := vx_table (x := yL_rests) B (hts _ List.mem_cons_self)
  have hl := lv_entry [Value.ref (zB G + v0), .int v1, .int v2, .int v3, .ref (zB G + p4)] (n := 6) (Nat.le_of_ble_eq_true rfl)
  rw [lg_entry_eq]
  have C : zCt G (p, l, e, zR 8 1 6, s, m, [Value.ref (zB G + v0), .int v1, .int v2, .int v3, .ref (zB G + p4)].toArray, below, meth, c) 8 1 6 RL cL_rests 6 := ⟨B.exec, B.bytes, hml, hown, fun w hw => hts w (List.mem_cons_of_mem _ hw), hK, B.notSynchronized, ⟨Nat.le_trans (Nat.le_add_right _ _) hW.1.1, hW.2.2⟩, ⟨Nat.le_refl _, Nat.le_refl _, Nat.le_refl _, Nat.le_refl _⟩⟩
  have hr : (zXh (p, l, e, zR 8 1 6, s, m, [Value.ref (zB G + v0), .int v1, .int v2, .int v3, .ref (zB G + p4)].toArray, below, meth, c)).sig.returnType = some .int := B.returns
  generalize hX : ((p, l, e, zR 8 1 6, s, m, [Value.ref (zB G + v0), .int v1, .int v2, .int v3, .ref (zB G + p4)].toArray, below, meth, c) : zX) = X at C hr
  have hXl : zXl X = l := by rw [← hX]
  have hXs : zXs X = s := by rw [← hX]
  have hXc : zXc X = c := by rw [← hX]
  have body : zV G X (zQX G X (zPL G kd N0 p4 res) 1 6) 6 [some (.ref (zB G + v0)), some (.int v1), some (.int v2), some (.int v3), some (.ref (zB G + p4)), none] [] (cn G kd N0 S) 0 0 0 := by
    refine z_aload C dL_rests_0 rfl ?_
    refine z_iconst (v := 0) C dL_rests_2 (by decide) ?_
    refine z_aload_n C dL_rests_3 rfl ?_
    refine z_iload_n C dL_rests_4 rfl ?_
    refine z_iload_n C dL_rests_5 rfl ?_
    refine z_iload_n C dL_rests_6 rfl ?_
    refine zx_call (As := [.int v1, .int v2, .int v3]) (rest := [.int 0, .ref (zB G + p4)]) C (by rw [hXs]; exact hE2) (by rw [hXc]; exact htab) (K_X12_rests (l := zXl X) (by rw [hXl]; exact hst) hT hpv0 hkv0 hF) hpv0 hkv0 rfl (by decide) (Nat.le_of_ble_eq_true rfl) (fun v hv hT2 => ?_) (fun hn hT2 q => ?_)
    · rcases hres with hn | ⟨x, hx⟩
      · rw [hn] at hv; cases hv
      · rw [hx] at hv
        cases hv
        refine z_i2l C dL_rests_10 ?_
        refine f_last C dL_rests_11 hp4 hk4 (by unfold vp_in; decide) ?_
        refine z_goto C 19 dL_rests_12 (by decide) ?_
        refine z_iconst (v := 0) C dL_rests_19 (by decide) ?_
        exact z_iret C hr dL_rests_20 (Or.inl ⟨x, hx, rfl, rfl, hT2⟩)
    · refine z_astore (lv2 := [some (.ref (zB G + v0)), some (.int v1), some (.int v2), some (.int v3), some (.ref (zB G + p4)), some (.ref q)]) C dL_rests_15 (by decide) rfl ?_
      refine z_iconst (v := 1) C dL_rests_17 (by decide) ?_
      exact z_iret C hr dL_rests_18 (Or.inr ⟨hn, rfl, rfl, hT2⟩)
  have hb := body s.heap [] hW (fun q hq => by cases hq) (ls := (lg_sl [Value.ref (zB G + v0), .int v1, .int v2, .int v3, .ref (zB G + p4)] ++ List.replicate (6 - (lg_sl [Value.ref (zB G + v0), .int v1, .int v2, .int v3, .ref (zB G + p4)]).length) Slot.unset).toArray) ⟨hl.1, hl.2.1, rfl, fun i v hi => hl.2.2 (i, v) ?_⟩
  · subst hX
    exact hb
  · match i, hi with
    | 0, hi => cases hi; exact List.mem_cons_self
    | 1, hi => cases hi; exact List.mem_cons_of_mem _ List.mem_cons_self
    | 2, hi => cases hi; exact List.mem_cons_of_mem _ (List.mem_cons_of_mem _ List.mem_cons_self)
    | 3, hi => cases hi; exact List.mem_cons_of_mem _ (List.mem_cons_of_mem _ (List.mem_cons_of_mem _ List.mem_cons_self))
    | 4, hi => cases hi; exact List.mem_cons_of_mem _ (List.mem_cons_of_mem _ (List.mem_cons_of_mem _ (List.mem_cons_of_mem _ List.mem_cons_self)))
    | 5, hi => cases hi
    | i + 6, hi => cases hi

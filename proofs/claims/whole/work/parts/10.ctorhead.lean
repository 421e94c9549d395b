/-! constructors -/
def zhp (h : zH) (j : Nat) (c : va_E) (L : zH) : zH := h.set j c ++ L
def zE (G : zG) (U : State) : Prop := zC G 40 = 0 ∧ va_AO "LakeBins$Lake" U ∧ va_AO "LakeBins$Found" U ∧ zAOA U
theorem zAOA.moved {u U : State} (hvm : u.vm.Alike U.vm) (h : zAOA u) : zAOA U := by
  have h1 : (Cond.arrayOver (.array .int)).before #[] (u.setVm U.vm) = true := by rw [Cond.arrayOver_setVmC hvm]; exact h
  exact h1
theorem zE.moved {G : zG} {u U : State} (hvm : u.vm.Alike U.vm) (h : zE G u) : zE G U := ⟨h.1, h.2.1.moved hvm, h.2.2.1.moved hvm, h.2.2.2.moved hvm⟩
theorem zhp_0 {h : zH} {j : Nat} {c : va_E} (hj : h[j]? = some c) : h = zhp h j c [] := by
  unfold zhp
  rw [List.append_nil]
  apply List.ext_getElem?
  intro q
  by_cases e : q = j
  · subst e
    rw [List.getElem?_set_self (List.getElem?_eq_some_iff.mp hj).1, hj]
  · rw [List.getElem?_set_ne (Ne.symm e)]
theorem zhp_len {h : zH} {j m : Nat} {c : va_E} {L : zH} (hm : L.length = m) : (zhp h j c L).length = h.length + m := by simp [zhp, hm]
theorem zh_t {h : zH} {j : Nat} {c : va_E} {L : zH} (hj : j < h.length) : (zhp h j c L)[j]? = some c := by
  unfold zhp
  rw [List.getElem?_append_left (by rw [List.length_set]; exact hj), List.getElem?_set_self hj]
theorem zh_n {h : zH} {j k : Nat} {c e : va_E} {L : zH} (hk : L[k]? = some e) : (zhp h j c L)[h.length + k]? = some e := by
  unfold zhp
  rw [List.getElem?_append_right (by rw [List.length_set]; omega), List.length_set, show h.length + k - h.length = k by omega, hk]
theorem zh_st {h : zH} {j : Nat} {c c2 : va_E} {L : zH} (hj : j < h.length) : (zhp h j c L).set j c2 = zhp h j c2 L := by
  unfold zhp
  rw [List.set_append_left _ _ (by rw [List.length_set]; exact hj), List.set_set]
theorem zh_sn {h : zH} {j k : Nat} {c e : va_E} {L L2 : zH} (hL : L.set k e = L2) : (zhp h j c L).set (h.length + k) e = zhp h j c L2 := by
  unfold zhp
  rw [List.set_append_right _ _ (by rw [List.length_set]; omega), List.length_set, show h.length + k - h.length = k by omega, hL]
theorem zh_z {h : zH} {j k m : Nat} {c c2 : va_E} {L L2 L3 : zH} (hL : L.set k c2 ++ L2 = L3) : zhp (zhp h j c L) (h.length + k) c2 L2 = zhp h j c L3 := by
  rw [← hL]
  unfold zhp
  rw [List.set_append_right _ _ (by rw [List.length_set]; omega), List.length_set, show h.length + k - h.length = k by omega, List.append_assoc]
section ZCT
variable {G : zG} {X : zX} {Q : State → Prop} {nL : Nat} {lv : zLv} {st : List Value} {h : zH} {pc k n d mc ms : Nat} {own : String} {cc : ByteArray}
theorem zc_push {j m k2 n2 : Nat} {c e : va_E} {L L2 : zH} (hm : L.length = m) (hL : L ++ [e] = L2) (hk : k = k2) (hn : n = n2) (kk : zV G X Q nL lv (.ref (zB G + (h.length + m)) :: st) (zhp h j c L2) pc k2 n2) : zV G X Q nL lv (.ref (zB G + (zhp h j c L).length) :: st) (zhp h j c L ++ [e]) pc k n := by
  subst hk; subst hn
  rw [zhp_len hm]
  have : zhp h j c L ++ [e] = zhp h j c L2 := by unfold zhp; rw [List.append_assoc, hL]
  rw [this]
  exact kk
theorem zc_push2 {j m k2 n2 : Nat} {c e : va_E} {L L2 E : zH} (hm : L.length = m) (hL : L ++ e :: E = L2) (hk : k = k2) (hn : n = n2) (kk : zV G X Q nL lv (.ref (zB G + (h.length + m)) :: st) (zhp h j c L2) pc k2 n2) : zV G X Q nL lv (.ref (zB G + (zhp h j c L).length) :: st) (zhp h j c L ++ e :: E) pc k n := by
  subst hk; subst hn
  rw [zhp_len hm]
  have : zhp h j c L ++ e :: E = zhp h j c L2 := by unfold zhp; rw [List.append_assoc, hL]
  rw [this]
  exact kk
def zM2 (G : zG) (l : Launch) (d mc ms : Nat) (y : MethodName) (cc : ByteArray) (maxL : Nat) (ret : Option FieldType) (av : List Value) (h : zH) (Post : Option Value → zH → Prop) : Prop :=
  Met l y (.code y cc maxL ret :: ztb) (zR d mc ms) (va_Pc av (fun U => zW G h U.heap ∧ zK G U ∧ zE G U)) (zQ G Post) mc ms (fun q => zB G ≤ q)
theorem zM2.of {l : Launch} {y : MethodName} {maxL : Nat} {ret : Option FieldType} {av : List Value} {Post : Option Value → zH → Prop} (hy : plainName y.cls = true) {lv : zLv} (hlv : zlo av ++ List.replicate (maxL - (zlo av).length) none = lv) (hlen : (zlo av).length ≤ maxL)
    (body : ∀ X : zX, zXl X = l → zCt G X d mc ms y.cls cc maxL → zE G (zXs X) → (zXh X).sig.returnType = ret → (zXh X).name = y.name → zV G X (zQX G X Post mc ms) maxL lv [] h 0 0 0) : zM2 G l d mc ms y cc maxL ret av h Post := by
  refine Met.ofW (cc := cc) (maxL := maxL) (ret := ret) hy rfl ?_
  intro p e s m args below meth c s₁ B hml hv
  obtain ⟨rfl, hW, hK, hE⟩ := hv
  have hts := atoms_spec (ws := .code y cc maxL ret :: ztb) B.pre
  have hown : s.vm.findClass y.cls = some m.cls := findClass_of_methodNamed B.named
  have hl := lv_entry av (n := maxL) (by rw [← zlo_len]; exact hlen)
  rw [lg_entry_eq]
  refine body (p, l, e, zR d mc ms, s, m, av.toArray, below, meth, c) rfl ⟨B.exec, B.bytes, hml, hown, fun w hw => hts w (List.mem_cons_of_mem _ hw), hK, B.notSynchronized, ⟨Nat.le_trans (Nat.le_add_right _ _) hW.1.1, hW.2.2⟩, ⟨Nat.le_refl _, Nat.le_refl _, Nat.le_refl _, Nat.le_refl _⟩⟩ hE B.returns (name_of_methodNamed B.named B.method).1 s.heap [] _ hW (fun q hq => by cases hq) ⟨hl.1, hl.2.1, ?_, fun i v hi => ?_⟩
  · rw [← hlv, List.length_append, List.length_replicate]; omega
  · rw [← hlv] at hi
    by_cases hi2 : i < (zlo av).length
    · rw [List.getElem?_append_left hi2] at hi
      have := zlo_mem av 0 i v hi
      rw [Nat.zero_add] at this
      exact hl.2.2 (i, v) this
    · rw [List.getElem?_append_right (by omega)] at hi
      have := List.eq_of_mem_replicate (List.mem_of_getElem? hi)
      cases this
theorem zP2.blind {av : List Value} {h0 : zH} : FrameBlind (va_Pc av (fun U => zW G h0 U.heap ∧ zK G U ∧ zE G U)) := fun a U g mk q => ⟨q.1, q.2.1, q.2.2.1.same rfl, q.2.2.2.moved (Vm.Alike.refl _)⟩
section ZCI
variable {Post : Option Value → zH → Prop} {y : MethodName} {cy : ByteArray} {maxL na d2 mc2 ms2 i j : Nat} {As rest : List Value} {host : String}
theorem z_cI2 (C : zCt G X d mc ms own cc nL) (hE : zE G (zXs X)) (hd : decode cc pc = .ok (.invokespecial i, 3)) (hy : zY y cy maxL none na) (hv : Cond.instanceMethod y ∈ ztb) (hi : y.name = "<init>") (hlink : Cond.methodLink own i y ∈ ztb) (hM : zM2 G (zXl X) d2 mc2 ms2 y cy maxL none (.ref (zB G + j) :: As) h Post) (hd2 : d2 < d) (hn : As.length = na) (hst : As.reverse ++ .ref (zB G + j) :: rest = st) (hw : (rest.map fun v => v.category).sum ≤ 8) (hf : k + mc2 ≤ mc ∧ n + ms2 ≤ ms) (kk : ∀ r h2, Post r h2 → zV G X Q nL lv (r.toList ++ rest) h2 (pc + 3) (k + mc2) (n + ms2)) : zV G X Q nL lv st h pc k n := by
  subst hst
  intro H locs ls hW hL hl
  refine z_run (va_runI (As := As) (rest := rest) ⟨C.1, C.2.1, C.2.2.1, C.2.2.2.1, C.2.2.2.2.1⟩ hM ⟨z_cb C hy hlink hd2, hi, C.2.2.2.2.1 _ hv⟩ ⟨zP2.blind, fun U hU hWm => ⟨rfl, by rw [hU]; exact hW, C.2.2.2.2.2.1.warm hWm, hE.moved hWm.alike⟩⟩ rfl hn hl.1 rfl (lv_room hw) hd ⟨Nat.le_trans hf.1 C.2.2.2.2.2.2.2.2.2.2.1, Nat.le_trans hf.2 C.2.2.2.2.2.2.2.2.2.2.2⟩) hL hl kk
theorem z_cIN2 (C : zCt G X d mc ms own cc nL) (hE : zE G (zXs X)) (hd : decode cc pc = .ok (.invokespecial i, 3)) (hy : zY y cy maxL none na) (hv : Cond.instanceMethod y ∈ ztb) (hi : y.name = "<init>") (hlink : Cond.methodLinkNest own i y host ∈ tables_1) (hM : zM2 G (zXl X) d2 mc2 ms2 y cy maxL none (.ref (zB G + j) :: As) h Post) (hd2 : d2 < d) (hn : As.length = na) (hst : As.reverse ++ .ref (zB G + j) :: rest = st) (hw : (rest.map fun v => v.category).sum ≤ 8) (hf : k + mc2 ≤ mc ∧ n + ms2 ≤ ms) (kk : ∀ r h2, Post r h2 → zV G X Q nL lv (r.toList ++ rest) h2 (pc + 3) (k + mc2) (n + ms2)) : zV G X Q nL lv st h pc k n := by
  subst hst
  intro H locs ls hW hL hl
  refine z_run (va_runIN (As := As) (rest := rest) ⟨C.1, C.2.1, C.2.2.1, C.2.2.2.1, C.2.2.2.2.1⟩ hM ⟨z_cn C hy hlink hd2, hi, C.2.2.2.2.1 _ hv⟩ ⟨zP2.blind, fun U hU hWm => ⟨rfl, by rw [hU]; exact hW, C.2.2.2.2.2.1.warm hWm, hE.moved hWm.alike⟩⟩ rfl hn hl.1 rfl (lv_room hw) hd ⟨Nat.le_trans hf.1 C.2.2.2.2.2.2.2.2.2.2.1, Nat.le_trans hf.2 C.2.2.2.2.2.2.2.2.2.2.2⟩) hL hl kk
theorem zc_call {mm kk0 k2 n2 : Nat} {jj : Nat} {c : va_E} {L L3 : zH} {c2f : Nat → va_E} {L2f : Nat → zH} (hm : L.length = mm) (hL : L.set kk0 (c2f (h.length + mm)) ++ L2f (h.length + mm) = L3) (hk : k = k2) (hn : n = n2) (kk : zV G X Q nL lv st (zhp h jj c L3) pc k2 n2) : zV G X Q nL lv st (zhp (zhp h jj c L) (h.length + kk0) (c2f (zhp h jj c L).length) (L2f (zhp h jj c L).length)) pc k n := by
  subst hk; subst hn
  rw [zhp_len hm, zh_z (m := 0) hL]
  exact kk
end ZCI
end ZCT

theorem obInst : Cond.instanceMethod objectInit ∈ ztb := tbm1 28 rfl rfl
theorem obCode : Cond.code objectInit ⟨#[0xb1]⟩ 1 none ∈ ztb := tbm1 29 rfl rfl
theorem obRX12_1 : Cond.methodLink RX12 1 objectInit ∈ ztb := tbm1 27 rfl rfl
theorem obRX8_3 : Cond.methodLink RX8 3 objectInit ∈ ztb := tbm1 35 rfl rfl
theorem obRX6_3 : Cond.methodLink RX6 3 objectInit ∈ ztb := tbm1 87 rfl rfl
theorem obRX5_3 : Cond.methodLink RX5 3 objectInit ∈ ztb := tbm1 93 rfl rfl
theorem obRX1_3 : Cond.methodLink RX1 3 objectInit ∈ ztb := tbm1 179 rfl rfl
theorem obRX4_3 : Cond.methodLink RX4 3 objectInit ∈ ztb := tbm1 203 rfl rfl
theorem obRX2_3 : Cond.methodLink RX2 3 objectInit ∈ ztb := tbm2 16 rfl rfl
theorem obRX3_1 : Cond.methodLink RX3 1 objectInit ∈ ztb := tbm2 30 rfl rfl
theorem obRX9_3 : Cond.methodLink RX9 3 objectInit ∈ ztb := tbm2 51 rfl rfl
theorem obRX10_1 : Cond.methodLink RX10 1 objectInit ∈ ztb := tbm2 59 rfl rfl
theorem obRX7_3 : Cond.methodLink RX7 3 objectInit ∈ ztb := tbm2 114 rfl rfl
theorem obRX13_18 : Cond.methodLink RX13 18 objectInit ∈ ztb := tbm6 78 rfl rfl
theorem clRL_8 : Cond.classLink RL 8 RX12 ∈ ztb := tbm1 22 rfl rfl
theorem clRX12_7 : Cond.classLink RX12 7 RX8 ∈ ztb := tbm1 30 rfl rfl
theorem clRX12_16 : Cond.classLink RX12 16 RX6 ∈ ztb := tbm1 82 rfl rfl
theorem clRX6_41 : Cond.classLink RX6 41 RX5 ∈ ztb := tbm1 88 rfl rfl
theorem clRX12_26 : Cond.classLink RX12 26 RX1 ∈ ztb := tbm1 174 rfl rfl
theorem clRX12_36 : Cond.classLink RX12 36 RX4 ∈ ztb := tbm1 198 rfl rfl
theorem clRX12_43 : Cond.classLink RX12 43 RX2 ∈ ztb := tbm2 11 rfl rfl
theorem clRX12_50 : Cond.classLink RX12 50 RX3 ∈ ztb := tbm2 25 rfl rfl
theorem clRX3_9 : Cond.classLink RX3 9 RX4 ∈ ztb := tbm2 31 rfl rfl
theorem clRX12_65 : Cond.classLink RX12 65 RX9 ∈ ztb := tbm2 46 rfl rfl
theorem clRX9_9 : Cond.classLink RX9 9 RX4 ∈ ztb := tbm2 52 rfl rfl
theorem clRX9_18 : Cond.classLink RX9 18 RX10 ∈ ztb := tbm2 54 rfl rfl
theorem clRX12_74 : Cond.classLink RX12 74 RX7 ∈ ztb := tbm2 109 rfl rfl
theorem clRX7_11 : Cond.classLink RX7 11 RX4 ∈ ztb := tbm2 115 rfl rfl
theorem clRX7_24 : Cond.classLink RX7 24 "[[I" ∈ ztb := tbm2 116 rfl rfl
theorem clRL_13 : Cond.classLink RL 13 "java/util/NoSuchElementException" ∈ ztb := tbm5 229 rfl rfl
theorem clRX12_275 : Cond.classLink RX12 275 "java/util/NoSuchElementException" ∈ ztb := tbm5 234 rfl rfl
theorem clRL_16 : Cond.classLink RL 16 RX13 ∈ ztb := tbm6 74 rfl rfl
theorem in0 : Cond.instantiable RX1 4 ∈ ztb := tbm1 175 rfl rfl
theorem ini0 : Cond.initialized RX1 ∈ ztb := tbm1 7 rfl rfl
theorem in1 : Cond.instantiable RX2 2 ∈ ztb := tbm2 12 rfl rfl
theorem ini1 : Cond.initialized RX2 ∈ ztb := tbm1 9 rfl rfl
theorem in2 : Cond.instantiable RX3 3 ∈ ztb := tbm2 26 rfl rfl
theorem ini2 : Cond.initialized RX3 ∈ ztb := tbm1 10 rfl rfl
theorem in3 : Cond.instantiable RX4 9 ∈ ztb := tbm1 199 rfl rfl
theorem ini3 : Cond.initialized RX4 ∈ ztb := tbm1 8 rfl rfl
theorem in4 : Cond.instantiable RX5 4 ∈ ztb := tbm1 89 rfl rfl
theorem ini4 : Cond.initialized RX5 ∈ ztb := tbm1 6 rfl rfl
theorem in5 : Cond.instantiable RX6 16 ∈ ztb := tbm1 83 rfl rfl
theorem ini5 : Cond.initialized RX6 ∈ ztb := tbm1 5 rfl rfl
theorem in6 : Cond.instantiable RX7 9 ∈ ztb := tbm2 110 rfl rfl
theorem ini6 : Cond.initialized RX7 ∈ ztb := tbm1 13 rfl rfl
theorem in7 : Cond.instantiable RX8 10 ∈ ztb := tbm1 31 rfl rfl
theorem ini7 : Cond.initialized RX8 ∈ ztb := tbm1 2 rfl rfl
theorem in8 : Cond.instantiable RX9 8 ∈ ztb := tbm2 47 rfl rfl
theorem ini8 : Cond.initialized RX9 ∈ ztb := tbm1 11 rfl rfl
theorem in9 : Cond.instantiable RX10 5 ∈ ztb := tbm2 55 rfl rfl
theorem ini9 : Cond.initialized RX10 ∈ ztb := tbm1 12 rfl rfl
theorem in10 : Cond.instantiable RX12 13 ∈ ztb := tbm1 23 rfl rfl
theorem ini10 : Cond.initialized RX12 ∈ ztb := tbm1 1 rfl rfl
theorem in11 : Cond.instantiable RX13 36 ∈ ztb := tbm6 72 rfl rfl
theorem ini11 : Cond.initialized RX13 ∈ ztb := tbm1 14 rfl rfl
theorem ac2 : Cond.arrayClass .char ∈ ztb := tbm1 81 rfl rfl
theorem ac1 : Cond.arrayClass .long ∈ ztb := tbm1 107 rfl rfl
theorem ac0 : Cond.arrayClass .int ∈ ztb := tbm1 108 rfl rfl
theorem ao4 : Cond.arrayOver (.object "LakeBins$Lake") ∈ tables_1 := List.mem_of_getElem? (i := 272) (by decide +kernel)
theorem ao5 : Cond.arrayOver (.object "LakeBins$Found") ∈ tables_1 := List.mem_of_getElem? (i := 285) (by decide +kernel)
theorem ac3 : Cond.arrayClass .boolean ∈ ztb := tbm6 233 rfl rfl
section ZCX
variable {G : zG} {X : zX} {Q : State → Prop} {nL : Nat} {lv : zLv} {st : List Value} {h : zH} {pc k n d mc ms : Nat} {own : String} {cc : ByteArray}
theorem zc_push3 {j m k2 n2 : Nat} {c e : va_E} {L L2 E : zH} (hL : L ++ e :: E = L2) (hk : k = k2) (hn : n = n2) (kk : zV G X Q nL lv (.ref (zB G + (h.length + m)) :: st) (zhp h j c L2) pc k2 n2) : zV G X Q nL lv (.ref (zB G + (h.length + m)) :: st) (zhp h j c L ++ e :: E) pc k n := by
  subst hk; subst hn
  have : zhp h j c L ++ e :: E = zhp h j c L2 := by unfold zhp; rw [List.append_assoc, hL]
  rw [this]
  exact kk
theorem h_gets (C : zCt G X d mc ms own cc nL) {i : Nat} {o nm ds : String} {v : Value} (hd : decode cc pc = .ok (.getstatic i, 3)) (hl0 : Cond.fieldLink own i o nm ds ∈ ztb) (hZ : va_Z o nm ds v (zA G) (zXs X) (zN G)) (kk : zV G X Q nL lv (v :: st) h (pc + 3) k n) : zV G X Q nL lv st h pc k n := by
  intro H locs ls hW hL hl
  obtain ⟨cf, kf, fi, f, a, cell, h1, h2, h3, h4, h5, h6, h7, h8⟩ := hZ
  have ha : a < zB G := Nat.not_le.mp h8
  exact W.gets C.1 C.2.1 C.2.2.2.1 (C.2.2.2.2.1 _ hl0) h1 h2 h3 h4 (by rw [hW.2.2 a ha]; exact h5) (fun e => by rw [e] at h6; cases h6) h7 rfl hd (kk H locs ls hW hL hl)
end ZCX

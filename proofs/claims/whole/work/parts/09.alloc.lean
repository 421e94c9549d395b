/-! making cells -/
def zAOA (U : State) : Prop := (Cond.arrayOver (.array .int)).before #[] U = true
section ZAL
variable {G : zG} {X : zX} {Q : State → Prop} {nL : Nat} {lv : zLv} {st : List Value} {h : zH} {pc k n d mc ms : Nat} {own : String} {cc : ByteArray}
theorem z_new (hx : zC G 40 = 0) (C : zCt G X d mc ms own cc nL) {i ci N : Nat} {C0 : String} {T : u_T} {fs : List Value} (ty : Nat → FieldType) (hd : decode cc pc = .ok (.new i, 3)) (hcl : Cond.classLink own i C0 ∈ ztb) (hin : Cond.instantiable C0 N ∈ ztb) (hini : Cond.initialized C0 ∈ ztb) (hws : ∀ w ∈ u_ws C0 T N, w ∈ ztb) (hty : ∀ k, k < N → parseFieldDescriptor (T k).2.2.1 = some (ty k)) (hc : zcl[ci]? = some (C0, T, N)) (hfs : ∀ j, j < N → defaultValue (ty j) = vp_V fs j) (hm : k + 1 ≤ mc ∧ n + N ≤ ms) (kk : zV G X Q nL lv (.ref (zB G + h.length) :: st) (h ++ [.inr (ci, fs)]) (pc + 3) (k + 1) (n + N)) : zV G X Q nL lv st h pc k n := by
  intro H locs ls hW hL hl
  have hts := C.2.2.2.2.1
  have hKn := C.2.2.2.2.2.1.1.1 ci _ hc
  refine W.newcK C.1 C.2.1 C.2.2.2.1 (hts _ hcl) (hts _ hin) (hts _ hini) rfl hd (Nat.le_trans hm.1 C.2.2.2.2.2.2.2.2.2.2.1) (Nat.le_trans hm.2 C.2.2.2.2.2.2.2.2.2.2.2) hKn.2.1 (hW.1.2 hx) fun H1 kC hkC e1 z1 o1 => ?_
  exact kk H1 locs ls (hW.push hx (by rw [z1, hW.1.2 hx]) (fun q hq => o1 q (by rw [← hW.1.2 hx]; exact hq)) ⟨_, hc, (u_born ty hts hws hKn hkC e1 hty).to hfs⟩) hL hl
theorem z_objI (C : zCt G X d mc ms own cc nL) {i a : Nat} (hd : decode cc pc = .ok (.invokespecial i, 3)) (hlk : Cond.methodLink own i objectInit ∈ ztb) (hi : Cond.instanceMethod objectInit ∈ ztb) (hco : Cond.code objectInit ⟨#[0xb1]⟩ 1 none ∈ ztb) (h1 : 0 < d) (hw : (st.map fun v => v.category).sum ≤ 8) (kk : zV G X Q nL lv st h (pc + 3) k n) : zV G X Q nL lv (.ref a :: st) h pc k n := by
  intro H locs ls hW hL hl
  have hts := C.2.2.2.2.1
  have hr := lv_room (m := zXm X) (pc := pc) (ls := ls) (rest := .ref a :: st) hw
  exact W.objInit C.1 C.2.1 C.2.2.2.1 (hts _ hlk) (hts _ hi) (hts _ hco) rfl (by rw [C.2.2.1]; exact hl.1) rfl hd (Nat.le_trans h1 C.2.2.2.2.2.2.2.2.1) (by have hR := C.2.2.2.2.2.2.2.2.2.1; have : 2 * (F0 (zXm X) pc ls (.ref a :: st)).monitorRoom + (st.map fun v => v.category).sum ≤ 8 := hr; show 2 * (F0 (zXm X) pc ls (.ref a :: st)).monitorRoom + (st.map fun v => v.category).sum + 12 ≤ (zXR X).locals; omega) (kk H locs ls hW hL hl)
theorem z_newaI (hx : zC G 40 = 0) (C : zCt G X d mc ms own cc nL) {v : Int32} {N : Nat} (hd : decode cc pc = .ok (.newarray .int, 2)) (hcl : Cond.arrayClass .int ∈ ztb) (hn : ¬ v < 0) (hN : v.toNatClampNeg = N) (hbt : N * componentBytes .int ≤ 536870912) (hm : k + 1 ≤ mc ∧ n + N ≤ ms) (kk : zV G X Q nL lv (.ref (zB G + h.length) :: st) (h ++ [.inl (zT G 0, N, .inl (fun _ => 0))]) (pc + 2) (k + 1) (n + N)) : zV G X Q nL lv (.int v :: st) h pc k n := by
  intro H locs ls hW hL hl
  refine va_newaK (atype := .int) C.1 C.2.1 (C.2.2.2.2.1 _ hcl) rfl hd rfl hn hN hbt (Nat.le_trans hm.1 C.2.2.2.2.2.2.2.2.2.2.1) (Nat.le_trans hm.2 C.2.2.2.2.2.2.2.2.2.2.2) (hW.1.2 hx) fun H1 cA e1 z1 o1 hAr hNm => ?_
  have hT := (C.2.2.2.2.2.1.1.2 0 (zT G 0, .int) rfl).2
  have hcA : cA = zT G 0 := Option.some.inj (hNm.symm.trans hT)
  subst hcA
  exact kk H1 locs ls (hW.push hx (by rw [z1, hW.1.2 hx]) (fun q hq => o1 q (by rw [← hW.1.2 hx]; exact hq)) e1) hL hl
theorem z_newaJ (hx : zC G 40 = 0) (C : zCt G X d mc ms own cc nL) {v : Int32} {N : Nat} (hd : decode cc pc = .ok (.newarray .long, 2)) (hcl : Cond.arrayClass .long ∈ ztb) (hn : ¬ v < 0) (hN : v.toNatClampNeg = N) (hbt : N * componentBytes .long ≤ 536870912) (hm : k + 1 ≤ mc ∧ n + N ≤ ms) (kk : zV G X Q nL lv (.ref (zB G + h.length) :: st) (h ++ [.inl (zT G 1, N, .inr (.inl (fun _ => 0)))]) (pc + 2) (k + 1) (n + N)) : zV G X Q nL lv (.int v :: st) h pc k n := by
  intro H locs ls hW hL hl
  refine va_newaK (atype := .long) C.1 C.2.1 (C.2.2.2.2.1 _ hcl) rfl hd rfl hn hN hbt (Nat.le_trans hm.1 C.2.2.2.2.2.2.2.2.2.2.1) (Nat.le_trans hm.2 C.2.2.2.2.2.2.2.2.2.2.2) (hW.1.2 hx) fun H1 cA e1 z1 o1 hAr hNm => ?_
  have hT := (C.2.2.2.2.2.1.1.2 1 (zT G 1, .long) rfl).2
  have hcA : cA = zT G 1 := Option.some.inj (hNm.symm.trans hT)
  subst hcA
  exact kk H1 locs ls (hW.push hx (by rw [z1, hW.1.2 hx]) (fun q hq => o1 q (by rw [← hW.1.2 hx]; exact hq)) e1) hL hl
theorem z_newaC (hx : zC G 40 = 0) (C : zCt G X d mc ms own cc nL) {v : Int32} {N : Nat} (hd : decode cc pc = .ok (.newarray .char, 2)) (hcl : Cond.arrayClass .char ∈ ztb) (hn : ¬ v < 0) (hN : v.toNatClampNeg = N) (hbt : N * componentBytes .char ≤ 536870912) (hm : k + 1 ≤ mc ∧ n + N ≤ ms) (kk : zV G X Q nL lv (.ref (zB G + h.length) :: st) (h ++ [.inl (zT G 2, N, .inl (fun _ => 0))]) (pc + 2) (k + 1) (n + N)) : zV G X Q nL lv (.int v :: st) h pc k n := by
  intro H locs ls hW hL hl
  refine va_newaK (atype := .char) C.1 C.2.1 (C.2.2.2.2.1 _ hcl) rfl hd rfl hn hN hbt (Nat.le_trans hm.1 C.2.2.2.2.2.2.2.2.2.2.1) (Nat.le_trans hm.2 C.2.2.2.2.2.2.2.2.2.2.2) (hW.1.2 hx) fun H1 cA e1 z1 o1 hAr hNm => ?_
  have hT := (C.2.2.2.2.2.1.1.2 2 (zT G 2, .char) rfl).2
  have hcA : cA = zT G 2 := Option.some.inj (hNm.symm.trans hT)
  subst hcA
  exact kk H1 locs ls (hW.push hx (by rw [z1, hW.1.2 hx]) (fun q hq => o1 q (by rw [← hW.1.2 hx]; exact hq)) e1) hL hl
theorem z_newaZ (hx : zC G 40 = 0) (C : zCt G X d mc ms own cc nL) {v : Int32} {N : Nat} (hd : decode cc pc = .ok (.newarray .boolean, 2)) (hcl : Cond.arrayClass .boolean ∈ ztb) (hn : ¬ v < 0) (hN : v.toNatClampNeg = N) (hbt : N * componentBytes .boolean ≤ 536870912) (hm : k + 1 ≤ mc ∧ n + N ≤ ms) (kk : zV G X Q nL lv (.ref (zB G + h.length) :: st) (h ++ [.inl (zT G 3, N, .inl (fun _ => 0))]) (pc + 2) (k + 1) (n + N)) : zV G X Q nL lv (.int v :: st) h pc k n := by
  intro H locs ls hW hL hl
  refine va_newaK (atype := .boolean) C.1 C.2.1 (C.2.2.2.2.1 _ hcl) rfl hd rfl hn hN hbt (Nat.le_trans hm.1 C.2.2.2.2.2.2.2.2.2.2.1) (Nat.le_trans hm.2 C.2.2.2.2.2.2.2.2.2.2.2) (hW.1.2 hx) fun H1 cA e1 z1 o1 hAr hNm => ?_
  have hT := (C.2.2.2.2.2.1.1.2 3 (zT G 3, .boolean) rfl).2
  have hcA : cA = zT G 3 := Option.some.inj (hNm.symm.trans hT)
  subst hcA
  exact kk H1 locs ls (hW.push hx (by rw [z1, hW.1.2 hx]) (fun q hq => o1 q (by rw [← hW.1.2 hx]; exact hq)) e1) hL hl
theorem z_anewLake (hx : zC G 40 = 0) (C : zCt G X d mc ms own cc nL) {i : Nat} {v : Int32} {N : Nat} (hd : decode cc pc = .ok (.anewarray i, 3)) (hcl : Cond.classLink own i "LakeBins$Lake" ∈ ztb) (hov : Cond.arrayOver (.object "LakeBins$Lake") ∈ tables_1) (hov2 : (Cond.arrayOver (.object "LakeBins$Lake")).before (zXa X) (zXs X) = true) (hn : ¬ v < 0) (hN : v.toNatClampNeg = N) (hbt : N * 4 ≤ 536870912) (hm : k + 1 ≤ mc ∧ n + N ≤ ms) (kk : zV G X Q nL lv (.ref (zB G + h.length) :: st) (h ++ [.inl (zT G 4, N, .inr (.inr (.inr (.inr (fun _ => none)))))]) (pc + 3) (k + 1) (n + N)) : zV G X Q nL lv (.int v :: st) h pc k n := by
  intro H locs ls hW hL hl
  subst hN
  refine W.anew C.1 C.2.1 C.2.2.2.1 (C.2.2.2.2.1 _ hcl) hov2 rfl hd rfl hn hbt (Nat.le_trans hm.1 C.2.2.2.2.2.2.2.2.2.2.1) (Nat.le_trans hm.2 C.2.2.2.2.2.2.2.2.2.2.2) fun cA kA comp h1 h2 h3 h4 => ?_
  obtain ⟨kA', comp', -, -, -, hT⟩ := (C.2.2.2.2.2.1.1.2 4 (zT G 4, .object "LakeBins$Lake") rfl).2
  have hcA : cA = zT G 4 := Option.some.inj (h1.symm.trans hT)
  subst hcA
  rw [hW.1.2 hx]
  refine kk _ locs ls (hW.push hx (by simp) (fun q hq => by rw [Array.getElem?_push, if_neg (Nat.ne_of_lt hq)]) ?_) hL hl
  show (H.push _)[zB G + h.length]? = some (vp_cell _ _)
  rw [← hW.1.2 hx, vp_cell_q, show (fun j => va_rf ((fun _ => none : Nat → Option Nat) j)) = (fun _ => Value.null) from rfl, ← arrV_new]
  simp
theorem z_anewFound (hx : zC G 40 = 0) (C : zCt G X d mc ms own cc nL) {i : Nat} {v : Int32} {N : Nat} (hd : decode cc pc = .ok (.anewarray i, 3)) (hcl : Cond.classLink own i "LakeBins$Found" ∈ ztb) (hov : Cond.arrayOver (.object "LakeBins$Found") ∈ tables_1) (hov2 : (Cond.arrayOver (.object "LakeBins$Found")).before (zXa X) (zXs X) = true) (hn : ¬ v < 0) (hN : v.toNatClampNeg = N) (hbt : N * 4 ≤ 536870912) (hm : k + 1 ≤ mc ∧ n + N ≤ ms) (kk : zV G X Q nL lv (.ref (zB G + h.length) :: st) (h ++ [.inl (zT G 5, N, .inr (.inr (.inr (.inr (fun _ => none)))))]) (pc + 3) (k + 1) (n + N)) : zV G X Q nL lv (.int v :: st) h pc k n := by
  intro H locs ls hW hL hl
  subst hN
  refine W.anew C.1 C.2.1 C.2.2.2.1 (C.2.2.2.2.1 _ hcl) hov2 rfl hd rfl hn hbt (Nat.le_trans hm.1 C.2.2.2.2.2.2.2.2.2.2.1) (Nat.le_trans hm.2 C.2.2.2.2.2.2.2.2.2.2.2) fun cA kA comp h1 h2 h3 h4 => ?_
  obtain ⟨kA', comp', -, -, -, hT⟩ := (C.2.2.2.2.2.1.1.2 5 (zT G 5, .object "LakeBins$Found") rfl).2
  have hcA : cA = zT G 5 := Option.some.inj (h1.symm.trans hT)
  subst hcA
  rw [hW.1.2 hx]
  refine kk _ locs ls (hW.push hx (by simp) (fun q hq => by rw [Array.getElem?_push, if_neg (Nat.ne_of_lt hq)]) ?_) hL hl
  show (H.push _)[zB G + h.length]? = some (vp_cell _ _)
  rw [← hW.1.2 hx, vp_cell_q, show (fun j => va_rf ((fun _ => none : Nat → Option Nat) j)) = (fun _ => Value.null) from rfl, ← arrV_new]
  simp
theorem z_aast (C : zCt G X d mc ms own cc nL) {j N t a ci : Nat} {f f2 : Nat → Option Nat} {i : Int32} {h2 : zH} {C0 : String} {T0 : u_T} {N0 : Nat} {vs : List Value} (hd : decode cc pc = .ok (.aastore, 1)) (hj : h[j]? = some (.inl (zT G t, N, .inr (.inr (.inr (.inr f)))))) (ht : (ztys G)[t]? = some (zT G t, .object C0)) (ha : h[a]? = some (.inr (ci, vs))) (hc : zcl[ci]? = some (C0, T0, N0)) (hin : vp_in i N) (e1 : va_up f i.toNatClampNeg (some (zB G + a)) = f2) (e2 : h.set j (.inl (zT G t, N, .inr (.inr (.inr (.inr f2))))) = h2) (kk : zV G X Q nL lv st h2 (pc + 1) k n) : zV G X Q nL lv (.ref (zB G + a) :: .int i :: .ref (zB G + j) :: st) h pc k n := by
  intro H locs ls hW hL hl
  have hK := C.2.2.2.2.2.1.1
  have hlt : i.toNatClampNeg < N := Nat.not_le.mp fun q => hin (Or.inr q)
  have h0 : ¬ i < 0 := fun q => hin (Or.inl q)
  obtain ⟨r', hr', cellV, g1, g2, g3, -⟩ := hW.2.1 a _ ha
  have hcls := (hK.1 ci _ hc).2
  obtain ⟨kA, comp, k1, k2, k3, -⟩ := (hK.2 t _ ht).2
  have hcomp : comp = G.1.1 ci := Option.some.inj (k3.symm.trans hcls.1)
  subst hcomp
  obtain ⟨kC, hkC, -⟩ := hcls.2
  refine W.aast C.1 C.2.1 (hW.2.1 j _ hj) (fun q h => by cases h) (fun h => by cases h) k1 k2 rfl hkC ⟨h0, by show _ < (arrV _ _ _).slots.size; rw [arrV_size]; exact hlt⟩ g1 (fun q h => by rw [g3] at h; cases h) (by rw [g2]; exact hkC) (by rw [g2]; exact va_assign hcls) rfl rfl hd fun H1 e z oq => ?_
  have hlj : j < h.length := (List.getElem?_eq_some_iff.mp hj).1
  refine kk H1 _ ls ?_ (fun q hq => ?_) hl
  · rw [← e2, ← e1]
    refine hW.set z oq hlj ?_
    show H1[zB G + j]? = some (vp_cell _ _)
    rw [e, vp_cell_q, vp_cell_q, arrV_store]
    congr 2
    funext q
    by_cases hq : q = i.toNatClampNeg
    · subst hq
      simp [updV, va_up, va_rf]
    · simp [updV, va_up, va_rf, hq]
  · rcases List.mem_append.mp hq with h | h
    · exact hL q h
    · rw [List.mem_singleton.mp h]; exact Nat.le_add_right _ _
theorem z_mna (hx : zC G 40 = 0) (C : zCt G X d mc ms own cc nL) {i : Nat} {a b : Int32} {N M : Nat} (hd : decode cc pc = .ok (.multianewarray i 2, 4)) (hcl : Cond.classLink own i "[[I" ∈ ztb) (hov : zAOA (zXs X)) (har : Cond.arrayClass .int ∈ ztb) (hn : ¬ a < 0) (hk : ¬ b < 0) (hN : a.toNatClampNeg = N) (hM : b.toNatClampNeg = M) (hb1 : N * 4 ≤ 536870912) (hb2 : M * componentBytes .int ≤ 536870912) (hb3 : M ≤ 536870912) (hm : k + (1 + N) ≤ mc ∧ n + (N + N * M) ≤ ms) (kk : zV G X Q nL lv (.ref (zB G + h.length) :: st) (h ++ .inl (zT G 6, N, .inr (.inr (.inr (.inr (fun i => if i < N then some (zB G + (h.length + 1 + i)) else none))))) :: List.replicate N (.inl (zT G 0, M, .inl (fun _ => 0)))) (pc + 4) (k + 1 + N) (n + N + N * M)) : zV G X Q nL lv (.int b :: .int a :: st) h pc k n := by
  intro H locs ls hW hL hl
  intro T hT Xs
  subst hN; subst hM
  have hcy := (C.2.2.2.2.2.1.1.2 0 (zT G 0, .int) rfl).2
  have hcA6 := (C.2.2.2.2.2.1.1.2 6 (zT G 6, .array .int) rfl).2
  obtain ⟨vm₁, cA, comp, -, fA, fC, hO, -, X', step⟩ := Xs.multianewarray2F C.1 C.2.2.2.1 (C.2.2.2.2.1 _ hcl) hov (C.2.2.2.2.1 _ har) (g := F0 (zXm X) pc ls (.int b :: .int a :: st)) rfl (by rw [C.2.1]; exact hd) rfl hn hk hb1 hb2 hb3 rfl rfl (Nat.le_trans hm.1 C.2.2.2.2.2.2.2.2.2.2.1) (Nat.le_trans hm.2 C.2.2.2.2.2.2.2.2.2.2.2)
  have ec : some (zT G 0) = some comp := hcy.symm.trans fC
  cases ec
  have eA : some (zT G 6) = some cA := hcA6.symm.trans fA
  cases eA
  generalize hF : Jvm.Free.Multi.fill (T.setVm vm₁) (zT G 6) (zT G 0) a.toNatClampNeg b.toNatClampNeg (defaultValue .int) a.toNatClampNeg = F at X' step
  have hTh : (T.setVm vm₁).heap = H := hT
  obtain ⟨f1, f2, -, -⟩ := Jvm.Free.Multi.fill_facts (T.setVm vm₁) (zT G 6) (zT G 0) a.toNatClampNeg b.toNatClampNeg (defaultValue .int) a.toNatClampNeg
  rw [hF, hTh] at f1 f2
  have hold : ∀ x : Nat, x < H.size → F.heap[x]? = H[x]? := fun x hx => by
    have := Jvm.Free.Multi.fill_old (T.setVm vm₁) (zT G 6) (zT G 0) a.toNatClampNeg b.toNatClampNeg (defaultValue .int) (a := x) (by rw [hTh]; exact hx) a.toNatClampNeg
    rw [hF, hTh] at this
    exact this
  have hrow : ∀ j : Nat, j < a.toNatClampNeg → F.heap[H.size + 1 + j]? = some (vp_cell (zT G 0) (b.toNatClampNeg, .inl (fun _ => 0))) := fun j hj => by
    have := Jvm.Free.Multi.fill_inner (T.setVm vm₁) (zT G 6) (zT G 0) a.toNatClampNeg b.toNatClampNeg (defaultValue .int) a.toNatClampNeg j hj
    rw [hF, hTh] at this
    rw [this, vp_cell_i, ← arrV_new]
    rfl
  have hout : F.heap[H.size]? = some (vp_cell (zT G 6) (a.toNatClampNeg, .inr (.inr (.inr (.inr (fun i => if i < a.toNatClampNeg then some (H.size + 1 + i) else none)))))) := by
    rw [f2, vp_cell_q]
    exact congrArg some (vr_outer (zT G 6) a.toNatClampNeg H.size a.toNatClampNeg)
  have hs : H.size = zB G + h.length := hW.1.2 hx
  have hW2 : zW G (h ++ .inl (zT G 6, a.toNatClampNeg, .inr (.inr (.inr (.inr (fun i => if i < a.toNatClampNeg then some (zB G + (h.length + 1 + i)) else none))))) :: List.replicate a.toNatClampNeg (.inl (zT G 0, b.toNatClampNeg, .inl (fun _ => 0)))) F.heap := by
    have hs2 : F.heap.size = zB G + (h ++ .inl (zT G 6, a.toNatClampNeg, .inr (.inr (.inr (.inr (fun i => if i < a.toNatClampNeg then some (zB G + (h.length + 1 + i)) else none))))) :: List.replicate a.toNatClampNeg (.inl (zT G 0, b.toNatClampNeg, .inl (fun _ => 0))) : zH).length := by rw [f1, hs]; simp; omega
    refine ⟨⟨Nat.le_of_eq hs2.symm, fun _ => hs2⟩, fun k9 x hx => ?_, fun q hq => by rw [hold q (by omega)]; exact hW.2.2 q hq⟩
    by_cases h1 : k9 < h.length
    · rw [List.getElem?_append_left h1] at hx
      exact (hW.2.1 k9 x hx).kept (hold _ (by show zB G + k9 < H.size; omega))
    · rw [List.getElem?_append_right (by omega)] at hx
      by_cases h2 : k9 = h.length
      · subst h2
        rw [Nat.sub_self] at hx
        cases hx
        show F.heap[zB G + h.length]? = some (vp_cell _ _)
        rw [← hs, hout, hs]
        simp only [Nat.add_assoc]
      · obtain ⟨q, hq⟩ : ∃ q, k9 = h.length + 1 + q := ⟨k9 - h.length - 1, by omega⟩
        subst hq
        rw [show h.length + 1 + q - h.length = q + 1 by omega, List.getElem?_cons_succ] at hx
        have hlt : q < a.toNatClampNeg := by have := (List.getElem?_eq_some_iff.mp hx).1; simpa using this
        have hxe := List.eq_of_mem_replicate (List.mem_of_getElem? hx)
        subst hxe
        show F.heap[zB G + (h.length + 1 + q)]? = some (vp_cell _ _)
        rw [show zB G + (h.length + 1 + q) = H.size + 1 + q by omega]
        exact hrow q hlt
  obtain ⟨t, a1, b1⟩ := kk F.heap locs ls hW2 hL hl F rfl X'
  refine ⟨t, step t ?_, b1⟩
  rw [hT, hs]
  exact a1
end ZAL

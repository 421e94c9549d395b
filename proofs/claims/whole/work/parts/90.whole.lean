/-! the claim -/
set_option maxRecDepth 100000 in
theorem whole_start {p : Program} {e : Env} {s : State} {m : MethodId} {below : List Frame} {meth : Method} {c : Code} (l : Launch) (hflags : l.flags = flags0) {b L : Nat} {xs : Nat → Int32} (hL : L ≤ 3584) (C0 : lw_At p s m meth c b L xs) : W p l e room_1 s m #[Value.ref b] below meth c s.heap [] 0 0 (lw_Z below #[Value.ref b] s) (entryFrame m ([Value.ref b] : List Value).toArray 7) := by
  obtain ⟨hx, hb9, hr9, hml, hown, hts, hX, hbl, hlocks, hgv⟩ := C0
  have hst : l.stackTraces = false := by
    unfold Launch.stackTraces
    rw [hflags]
    decide +kernel
  obtain ⟨D, t, ad, hK⟩ := zK_ex hts hgv
  obtain ⟨S1, S2, S3, f1, f2, f3, e1, e2, e3, hC, hM⟩ := start_ex
  have htz : ∀ w ∈ ztb, w.before #[Value.ref b] s = true := fun w hw => hts w (List.mem_filter.mp hw).1
  obtain ⟨X, eX⟩ : ∃ X : zX, X = (p, l, e, room_1, s, m, #[Value.ref b], below, meth, c) := ⟨_, rfl⟩
  have rm : zle room_1 1300 601024 7293034 := ⟨Nat.le_of_ble_eq_true rfl, Nat.le_of_ble_eq_true rfl, Nat.le_of_ble_eq_true rfl, Nat.le_of_ble_eq_true rfl⟩
  have Cz : ∀ z, zCt (gZ D t s.heap.size s.heap ad z) X 1300 601024 7293034 RL code 7 := fun z => by
    rw [eX]
    exact ⟨hx, hb9, hml, hown, htz, hK z, hlocks, ⟨Nat.le_refl _, fun q hq => rfl⟩, rm⟩
  have C := Cz 0
  have hE : zE (gZ D t s.heap.size s.heap ad 0) (zXs X) := by rw [eX]; exact zE_ex hts (show (if (40 : Nat) = 40 then 0 else ad 40) = 0 from if_pos rfl)
  -- the loop
  have hT4 : zT0 kdF 207 S3 → zT0 kdF 208 (mix 207 S3 S0) := fun h => zT_mix (n := 207) (m := 1) h (by decide +kernel)
  obtain ⟨v, T, eL, x, hv, hx1⟩ := T_loop (xs := xs) hL 512 0 45236 (mix 207 S3 S0) (paA Q0) rfl (Nat.le_of_ble_eq_true rfl) hC hM (AI.pa Q0_i)
  have lp : zT0 kdF 207 S3 → zV (gZ D t s.heap.size s.heap ad 0) X (lw_Z below #[Value.ref b] s) 7 [some (.ref b), some (.ref (s.heap.size + 0)), some (.ref (s.heap.size + 186)), some (.ref (s.heap.size + 207)), some (.int 0), none, none] [] (cn (gZ D t s.heap.size s.heap ad 0) kdF 208 (mix 207 S3 S0)) 23 208 17826 := by
    intro hT3
    refine zV_gZ (hT4 hT3) ?_
    have Cl := Cz 1
    rw [eX] at Cl ⊢
    refine (B_L_law (kd := kdF) (N0 := 208) Cl (zE2_ex hts hgv (by show ¬ (if (40 : Nat) = 40 then 1 else ad 40) = 0; rw [if_pos rfl]; omega) rfl rfl) hst hX hbl rfl hlocks hb9 hx hr9 45236).1 208 17826 ⟨Nat.le_of_ble_eq_true rfl, Nat.le_of_ble_eq_true rfl⟩ (mix 207 S3 S0) 0 186 207 0 (v, T) (hT4 hT3) (by decide) rfl (by decide) rfl (by decide) rfl eL ?_
    rw [hx1] at hv
    exact hv
  have go : zV (gZ D t s.heap.size s.heap ad 0) X (lw_Z below #[Value.ref b] s) 7 [some (.ref b), none, none, none, none, none, none] [] [] 0 0 0 := by
    refine z_new (ci := 10) (fs := [.null, .null, .null, .null, .null, .null, .null, .null, .null, .null, .int 0, .null, .null]) hE.1 C tyX12 dL_law_0 clRL_8 in10 ini10 wsRX12 tyX12_ok rfl (by decide) ⟨by decide, by decide⟩ ?_
    refine z_dup C dL_law_3 rfl ?_
    refine z_cI2 (j := 0) (As := []) (rest := [.ref (s.heap.size + 0)]) C hE dL_law_4 zyX12_init ziX12_init rfl lkRL_15 (K_X12_init (l := zXl X) e1) (by decide) rfl rfl (Nat.le_of_ble_eq_true rfl) ⟨Nat.le_of_ble_eq_true rfl, Nat.le_of_ble_eq_true rfl⟩ (fun r h2 hP => ?_)
    obtain ⟨rfl, rfl, hT1⟩ := hP
    refine z_astore_n C dL_law_7 (by decide) rfl ?_
    refine z_new (ci := 11) (fs := [.int 0, .null, .int 0, .int 0, .null, .null, .null, .int 0, .int 0, .null, .null, .null, .null, .int 0, .null, .null, .int 0, .int 0, .int 0, .null, .null, .null, .null, .int 0, .null, .int 0, .int 0, .int 0, .int 0, .null, .null, .null, .null, .int 0, .null, .long 0]) hE.1 C tyX13 dL_law_8 clRL_16 in11 ini11 wsRX13 tyX13_ok rfl (by decide) ⟨by decide, by decide⟩ ?_
    rw [cn_len]
    refine z_dup C dL_law_11 rfl ?_
    refine z_cI2 (j := 186) (As := []) (rest := [.ref (s.heap.size + 186)]) C hE dL_law_12 zyX13_init ziX13_init rfl lkRL_18 (K_X13_init (l := zXl X) hT1 e2 e3) (by decide) rfl rfl (Nat.le_of_ble_eq_true rfl) ⟨Nat.le_of_ble_eq_true rfl, Nat.le_of_ble_eq_true rfl⟩ (fun r h2 hP => ?_)
    obtain ⟨rfl, rfl, hT3⟩ := hP
    refine z_astore_n C dL_law_15 (by decide) rfl ?_
    refine z_iconst (v := 1) C dL_law_16 (by decide) ?_
    refine z_newaJ (N := 1) hE.1 C dL_law_17 ac1 (by decide) rfl (by decide) ⟨by decide, by decide⟩ ?_
    rw [cn_len]
    refine z_astore_n C dL_law_19 (by decide) rfl ?_
    refine z_iconst (v := 0) C dL_law_20 (by decide) ?_
    refine z_istore C dL_law_21 (by decide) rfl ?_
    have hc := cn_mix (gZ D t s.heap.size s.heap ad 0) kdF 207 1 S3 S0
    have hlp := lp hT3
    rw [hc] at hlp
    exact hlp
  have hl := lv_entry [Value.ref b] (n := 7) (Nat.le_of_ble_eq_true rfl)
  rw [lg_entry_eq]
  rw [eX] at go
  refine go s.heap [] _ ⟨⟨Nat.le_refl _, fun _ => rfl⟩, fun k e h => by simp at h, fun q hq => rfl⟩ (fun q hq => by cases hq) ⟨hl.1, hl.2.1, rfl, fun i v hi => ?_⟩
  rcases i with _ | i
  · have e0 : some (some (Value.ref b)) = some (some v) := hi
    cases e0
    exact hl.2.2 (0, _) (List.mem_cons_self ..)
  · exfalso
    rcases i with _ | _ | _ | _ | _ | _ | i <;> simp at hi

/-! both constructors, whole -/
theorem rkd_lt {ci k : Nat} {q : Nat ⊕ (Nat × Nat)} (h : rkd ci k = some q) : k < 36 := by
  unfold rkd at h
  split at h <;> first | omega | cases h
def okT (n : Nat) (R : Nat → Nat → Nat) : Bool := (List.range n).all (fun p => match kdF p with
  | .inl ci => (List.range 36).all (fun k => match rkd ci k with
    | some q => decide (R p k < n) && decide (kdF (R p k) = q)
    | none => true) && (!decide (ci = 7) || decide (R p 6 < 31))
  | .inr (t, N) => match akd t with
    | some q => (List.range N).all (fun i => decide (R p i < n) && decide (kdF (R p i) = q))
    | none => true)
theorem okT_T {n : Nat} {S : aS} (h : okT n S.2.2 = true) : zT0 kdF n S := by
  unfold okT at h
  rw [List.all_eq_true] at h
  refine ⟨fun p ci k q hp hk hr => ?_, fun p t N q i hp hk hr hi => ?_, fun p hp hk => ?_⟩
  · have h1 := h p (List.mem_range.mpr hp)
    rw [hk] at h1
    simp only [Bool.and_eq_true, List.all_eq_true] at h1
    have h2 := h1.1 k (List.mem_range.mpr (rkd_lt hr))
    rw [hr] at h2
    simp only [Bool.and_eq_true, decide_eq_true_eq] at h2
    exact h2
  · have h1 := h p (List.mem_range.mpr hp)
    rw [hk] at h1
    simp only [hr, List.all_eq_true, Bool.and_eq_true, decide_eq_true_eq] at h1
    exact h1 i (List.mem_range.mpr hi)
  · have h1 := h p (List.mem_range.mpr hp)
    rw [hk] at h1
    simp only [Bool.and_eq_true, Bool.or_eq_true, Bool.not_eq_true', decide_eq_false_iff_not, decide_eq_true_eq] at h1
    rcases h1.2 with z | z
    · exact absurd trivial z
    · exact z
theorem zT_S0 : zT0 kdF 186 S0 := okT_T (by decide +kernel)
set_option maxHeartbeats 4000000 in
set_option maxRecDepth 100000 in
theorem K_X12_init {G : zG} {l : Launch} {f : Nat} {S1 : aS} (hF : F_X12_begin f 0 [.ref 0] S0 = some (none, S1)) : zM2 G l 3 185 6683 yX12_init cX12_init 2 none [.ref (zB G + 0)] [.inr (10, [.null, .null, .null, .null, .null, .null, .null, .null, .null, .null, .int 0, .null, .null])] (fun r h' => r = none ∧ h' = cn G kdF 186 S1 ∧ zT0 kdF 186 S1) := by
  refine zM2.of (lv := [some (.ref (zB G + 0)), none]) (by decide) rfl (Nat.le_of_ble_eq_true rfl) (fun X _ C hE hr hnm => ?_)
  refine P_X12_init (j := 0) C hE hnm (Nat.le_refl _) (Nat.le_refl _) (Nat.le_refl _) rfl ?_
  refine zV_eqv (fun H => zW_S0) ?_
  refine z_callV (j := 0) C dX12_init_190 zyX12_begin zvX12_begin lkRX12_83 (K_X12_begin (l := zXl X) zT_S0 (by decide) rfl hF) (cn_obj (by decide) rfl) rfl (by decide) rfl rfl (Nat.le_of_ble_eq_true rfl) ⟨Nat.le_refl _, Nat.le_refl _⟩ (fun r h2 hP => ?_)
  obtain ⟨rfl, rfl, hT⟩ := hP
  exact z_vret C hr dX12_init_193 ⟨rfl, rfl, hT⟩
def mix (n : Nat) (S T : aS) : aS := (fun p => if p < n then S.1 p else T.1 p, fun p => if p < n then S.2.1 p else T.2.1 p, fun p => if p < n then S.2.2 p else T.2.2 p)
theorem cn_mix (G : zG) (kd : kD) (n m : Nat) (S T : aS) : cn G kd (n + m) (mix n S T) = cn G kd n S ++ (List.range m).map (fun i => cC G kd T (n + i)) := by
  unfold cn
  rw [List.range_add, List.map_append, List.map_map]
  congr 1
  · apply List.map_congr_left
    intro p hp
    have := List.mem_range.mp hp
    exact cC_ne (by simp [mix, this]) (by simp [mix, this]) (by simp [mix, this])
  · apply List.map_congr_left
    intro i _
    have : ¬ n + i < n := by omega
    exact cC_ne (if_neg this) (if_neg this) (if_neg this)
theorem zhp_snoc {h : zH} {b c : va_E} {L : zH} : zhp (h ++ [b]) h.length c L = h ++ c :: L := by
  unfold zhp
  rw [List.set_append_right _ _ (Nat.le_refl _), Nat.sub_self, List.append_assoc]
  rfl
theorem zT_mix {n m : Nat} {S T : aS} (h : zT0 kdF n S) (hb : (List.range m).all (fun i => match kdF (n + i) with
  | .inl ci => (List.range 36).all (fun k => match rkd ci k with
    | some q => decide (T.2.2 (n + i) k < n + m) && decide (kdF (T.2.2 (n + i) k) = q)
    | none => true) && !decide (ci = 7)
  | .inr (t, _) => (akd t).isNone) = true) : zT0 kdF (n + m) (mix n S T) := by
  rw [List.all_eq_true] at hb
  have lo : ∀ p k, p < n → gR (mix n S T) p k = gR S p k := fun p k hp => by simp [gR, mix, hp]
  have hi : ∀ p k, ¬ p < n → gR (mix n S T) p k = T.2.2 p k := fun p k hp => by simp [gR, mix, hp]
  refine ⟨fun p ci k q hp hk hr => ?_, fun p t N q i hp hk hr hi2 => ?_, fun p hp hk => ?_⟩
  · by_cases hn : p < n
    · rw [lo p k hn]
      have := h.1 p ci k q hn hk hr
      exact ⟨by omega, this.2⟩
    · rw [hi p k hn]
      have h1 := hb (p - n) (List.mem_range.mpr (by omega))
      rw [show n + (p - n) = p by omega, hk] at h1
      simp only [Bool.and_eq_true, List.all_eq_true] at h1
      have h2 := h1.1 k (List.mem_range.mpr (rkd_lt hr))
      rw [hr] at h2
      simp only [Bool.and_eq_true, decide_eq_true_eq] at h2
      exact h2
  · by_cases hn : p < n
    · rw [lo p i hn]
      have := h.2.1 p t N q i hn hk hr hi2
      exact ⟨by omega, this.2⟩
    · have h1 := hb (p - n) (List.mem_range.mpr (by omega))
      rw [show n + (p - n) = p by omega, hk] at h1
      simp [hr] at h1
  · by_cases hn : p < n
    · rw [lo p 6 hn]
      exact h.2.2 p hn hk
    · have h1 := hb (p - n) (List.mem_range.mpr (by omega))
      rw [show n + (p - n) = p by omega, hk] at h1
      simp at h1
set_option maxHeartbeats 4000000 in
set_option maxRecDepth 100000 in
theorem cn_M0 (G : zG) (S1 : aS) (b : va_E) : zhp (cn G kdF 186 S1 ++ [b]) 186 (c_X13_init G 187) (n_X13_init G 187) = cn G kdF 207 (mix 186 S1 S0) := by
  have h1 := cn_mix G kdF 186 21 S1 S0
  have h2 : (186 : Nat) = (cn G kdF 186 S1).length := (cn_len G kdF 186 S1).symm
  rw [show (207 : Nat) = 186 + 21 from rfl, h1]
  have h3 : zhp (cn G kdF 186 S1 ++ [b]) 186 (c_X13_init G 187) (n_X13_init G 187) = zhp (cn G kdF 186 S1 ++ [b]) (cn G kdF 186 S1).length (c_X13_init G 187) (n_X13_init G 187) := by rw [cn_len]
  rw [h3, zhp_snoc]
  rfl
set_option maxHeartbeats 4000000 in
set_option maxRecDepth 100000 in
theorem K_X13_init {G : zG} {l : Launch} {f1 f2 : Nat} {S1 S2 S3 : aS} (hT1 : zT0 kdF 186 S1) (hF1 : F_X13_standsAsAlways f1 0 [.ref 186, .int 0] (mix 186 S1 S0) = some (none, S2)) (hF2 : F_X13_begins f2 0 [.ref 186] S2 = some (none, S3)) : zM2 G l 3 20 11093 yX13_init cX13_init 1 none [.ref (zB G + 186)] (cn G kdF 186 S1 ++ [.inr (11, [.int 0, .null, .int 0, .int 0, .null, .null, .null, .int 0, .int 0, .null, .null, .null, .null, .int 0, .null, .null, .int 0, .int 0, .int 0, .null, .null, .null, .null, .int 0, .null, .int 0, .int 0, .int 0, .int 0, .null, .null, .null, .null, .int 0, .null, .long 0])]) (fun r h' => r = none ∧ h' = cn G kdF 207 S3 ∧ zT0 kdF 207 S3) := by
  refine zM2.of (lv := [some (.ref (zB G + 186))]) (by decide) rfl (Nat.le_of_ble_eq_true rfl) (fun X _ C hE hr hnm => ?_)
  have hlen : (cn G kdF 186 S1 ++ [.inr (11, [.int 0, .null, .int 0, .int 0, .null, .null, .null, .int 0, .int 0, .null, .null, .null, .null, .int 0, .null, .null, .int 0, .int 0, .int 0, .null, .null, .null, .null, .int 0, .null, .int 0, .int 0, .int 0, .int 0, .null, .null, .null, .null, .int 0, .null, .long 0])] : zH).length = 187 := by rw [List.length_append, cn_len]; rfl
  refine P_X13_init (j := 186) C hE hnm (by decide) (Nat.le_refl _) (Nat.le_refl _) (by rw [List.getElem?_append_right (by rw [cn_len]; exact Nat.le_refl _), cn_len]; rfl) ?_
  rw [hlen, cn_M0]
  have hT2 : zT0 kdF 207 (mix 186 S1 S0) := zT_mix (n := 186) (m := 21) hT1 (by decide +kernel)
  refine z_callV (j := 186) C dX13_init_377 zyX13_standsAsAlways zvX13_standsAsAlways lkRX13_144 (K_X13_standsAsAlways (l := zXl X) hT2 (by decide) rfl hF1) (cn_obj (by decide) rfl) rfl (by decide) rfl rfl (Nat.le_of_ble_eq_true rfl) ⟨Nat.le_refl _, Nat.le_refl _⟩ (fun r h2 hP => ?_)
  obtain ⟨rfl, rfl, hT3⟩ := hP
  refine zV.at (st2 := []) ?_ rfl rfl rfl rfl
  refine z_aload_n C dX13_init_380 rfl ?_
  refine z_callV (j := 186) C dX13_init_381 zyX13_begins zvX13_begins lkRX13_148 (K_X13_begins (l := zXl X) hT3 (by decide) rfl hF2) (cn_obj (by decide) rfl) rfl (by decide) rfl rfl (Nat.le_of_ble_eq_true rfl) ⟨Nat.le_refl _, Nat.le_refl _⟩ (fun r h2 hP => ?_)
  obtain ⟨rfl, rfl, hT4⟩ := hP
  exact z_vret C hr dX13_init_384 ⟨rfl, rfl, hT4⟩

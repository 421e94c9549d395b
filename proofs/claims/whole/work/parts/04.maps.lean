/-! THE HEAP AS THREE MAPS: ints, longs, references (places), by place and slot (or index) -/
abbrev aS : Type := (Nat → Nat → Int32) × (Nat → Nat → Int64) × (Nat → Nat → Nat)
abbrev kD : Type := Nat → Nat ⊕ (Nat × Nat)
def up1 {α : Type} (f : Nat → α) (k : Nat) (v : α) : Nat → α := fun j => if j = k then v else f j
def up2 {α : Type} (f : Nat → Nat → α) (p k : Nat) (v : α) : Nat → Nat → α := up1 f p (up1 (f p) k v)
def gI (S : aS) (p k : Nat) : Int32 := S.1 p k
def gJ (S : aS) (p k : Nat) : Int64 := S.2.1 p k
def gR (S : aS) (p k : Nat) : Nat := S.2.2 p k
def sI (S : aS) (p k : Nat) (v : Int32) : aS := (up2 S.1 p k v, S.2.1, S.2.2)
def sJ (S : aS) (p k : Nat) (v : Int64) : aS := (S.1, up2 S.2.1 p k v, S.2.2)
def sR (S : aS) (p k : Nat) (v : Nat) : aS := (S.1, S.2.1, up2 S.2.2 p k v)
/-- what each field is: 0 an int, 1 a long, 2 a place, 3 a constant -/
def fcs (ci : Nat) : List Nat := match ci with
  | 0 => [2, 2, 2, 0]
  | 1 => [2, 0]
  | 2 => [2, 0, 0]
  | 3 => [0, 2, 2, 2, 0, 0, 0, 0, 0]
  | 4 => [2, 0, 2, 2]
  | 5 => [0, 0, 2, 2, 2, 2, 2, 2, 2, 0, 0, 0, 2, 2, 0, 0]
  | 6 => [2, 2, 2, 2, 2, 2, 2, 0, 0]
  | 7 => [2, 0, 0, 0, 0, 0, 3, 1, 0, 0]
  | 8 => [2, 2, 2, 2, 1, 0, 0, 0]
  | 9 => [0, 0, 0, 0, 0]
  | 10 => [2, 2, 2, 2, 2, 2, 2, 2, 2, 2, 0, 2, 2]
  | 11 => [0, 2, 0, 0, 2, 2, 2, 0, 0, 2, 2, 2, 2, 0, 2, 2, 0, 0, 0, 2, 2, 2, 2, 0, 2, 0, 0, 0, 0, 2, 2, 2, 2, 0, 2, 1]
  | _ => []
/-- what a field of references points at -/
def rkd (ci k : Nat) : Option (Nat ⊕ (Nat × Nat)) := match ci, k with
  | 0, 0 => some (.inr (0, 40))
  | 0, 1 => some (.inr (0, 40))
  | 0, 2 => some (.inr (0, 40))
  | 1, 0 => some (.inr (0, 8))
  | 2, 0 => some (.inr (4, 16))
  | 3, 1 => some (.inr (0, 8))
  | 3, 2 => some (.inr (0, 8))
  | 3, 3 => some (.inr (0, 8))
  | 4, 0 => some (.inr (0, 1000))
  | 4, 2 => some (.inr (0, 32))
  | 4, 3 => some (.inr (0, 4))
  | 5, 2 => some (.inr (1, 6))
  | 5, 3 => some (.inr (0, 6))
  | 5, 4 => some (.inr (0, 6))
  | 5, 5 => some (.inr (0, 6))
  | 5, 6 => some (.inr (0, 8))
  | 5, 7 => some (.inr (0, 8))
  | 5, 8 => some (.inr (0, 12))
  | 5, 12 => some (.inl 4)
  | 5, 13 => some (.inl 4)
  | 6, 0 => some (.inl 3)
  | 6, 1 => some (.inl 8)
  | 6, 2 => some (.inl 5)
  | 6, 3 => some (.inr (4, 7))
  | 6, 4 => some (.inr (0, 6))
  | 6, 5 => some (.inr (0, 6))
  | 6, 6 => some (.inr (6, 6))
  | 7, 0 => some (.inr (2, 1000))
  | 8, 0 => some (.inl 3)
  | 8, 1 => some (.inl 3)
  | 8, 2 => some (.inl 9)
  | 8, 3 => some (.inl 5)
  | 10, 0 => some (.inl 7)
  | 10, 1 => some (.inl 5)
  | 10, 2 => some (.inl 5)
  | 10, 3 => some (.inl 0)
  | 10, 4 => some (.inl 0)
  | 10, 5 => some (.inl 3)
  | 10, 6 => some (.inl 1)
  | 10, 7 => some (.inl 2)
  | 10, 8 => some (.inr (4, 4))
  | 10, 9 => some (.inr (5, 4))
  | 10, 11 => some (.inl 8)
  | 10, 12 => some (.inl 6)
  | 11, 1 => some (.inr (0, 1000))
  | 11, 4 => some (.inr (0, 1002))
  | 11, 5 => some (.inr (0, 1002))
  | 11, 6 => some (.inr (1, 1002))
  | 11, 9 => some (.inr (1, 29))
  | 11, 10 => some (.inr (0, 140))
  | 11, 11 => some (.inr (0, 2200))
  | 11, 12 => some (.inr (0, 2200))
  | 11, 14 => some (.inr (1, 6))
  | 11, 15 => some (.inr (1, 6))
  | 11, 19 => some (.inr (0, 250))
  | 11, 20 => some (.inr (0, 4))
  | 11, 21 => some (.inr (0, 1100))
  | 11, 22 => some (.inr (0, 828))
  | 11, 24 => some (.inr (3, 4))
  | 11, 29 => some (.inr (0, 8))
  | 11, 30 => some (.inr (0, 252))
  | 11, 31 => some (.inr (0, 6))
  | 11, 32 => some (.inr (0, 6))
  | 11, 34 => some (.inr (0, 48))
  | _, _ => none
def akd (t : Nat) : Option (Nat ⊕ (Nat × Nat)) := match t with
  | 4 => some (.inl 3)
  | 5 => some (.inl 1)
  | 6 => some (.inr (0, 8))
  | _ => none
def cV (G : zG) (S : aS) (p k c : Nat) : Value := match c with
  | 0 => .int (gI S p k)
  | 1 => .long (gJ S p k)
  | 2 => .ref (zB G + gR S p k)
  | _ => .ref (zC G (gR S p k))
def cO (G : zG) (S : aS) (p : Nat) (cs : List Nat) : List Value := (List.range cs.length).map (fun k => cV G S p k (cs.getD k 0))
def cA (G : zG) (S : aS) (p t : Nat) : (Nat → Int32) ⊕ (Nat → Int64) ⊕ (Nat → UInt32) ⊕ (Nat → UInt64) ⊕ (Nat → Option Nat) := match t with
  | 1 => .inr (.inl (S.2.1 p))
  | 4 => .inr (.inr (.inr (.inr (fun i => some (zB G + S.2.2 p i)))))
  | 5 => .inr (.inr (.inr (.inr (fun i => some (zB G + S.2.2 p i)))))
  | 6 => .inr (.inr (.inr (.inr (fun i => some (zB G + S.2.2 p i)))))
  | _ => .inl (S.1 p)
def cC (G : zG) (kd : kD) (S : aS) (p : Nat) : va_E := match kd p with
  | .inl ci => .inr (ci, cO G S p (fcs ci))
  | .inr (t, N) => .inl (zT G t, N, cA G S p t)
def cn (G : zG) (kd : kD) (n : Nat) (S : aS) : zH := (List.range n).map (cC G kd S)
/-- places are of the kinds that the fields say -/
def zT0 (kd : kD) (n : Nat) (S : aS) : Prop := (∀ p ci k q, p < n → kd p = .inl ci → rkd ci k = some q → gR S p k < n ∧ kd (gR S p k) = q) ∧ (∀ p t N q i, p < n → kd p = .inr (t, N) → akd t = some q → i < N → gR S p i < n ∧ kd (gR S p i) = q) ∧ (∀ p, p < n → kd p = .inl 7 → gR S p 6 < 31)
theorem up1_s {α : Type} (f : Nat → α) (k : Nat) (v : α) : up1 f k v k = v := if_pos rfl
theorem up1_n {α : Type} (f : Nat → α) {k j : Nat} (v : α) (h : j ≠ k) : up1 f k v j = f j := if_neg h
theorem up2_s {α : Type} (f : Nat → Nat → α) (p k : Nat) (v : α) : up2 f p k v p = up1 (f p) k v := if_pos rfl
theorem up2_n {α : Type} (f : Nat → Nat → α) {p q : Nat} (k : Nat) (v : α) (h : q ≠ p) : up2 f p k v q = f q := if_neg h
theorem cn_len (G : zG) (kd : kD) (n : Nat) (S : aS) : (cn G kd n S).length = n := by simp [cn]
theorem cn_get (G : zG) (kd : kD) {n p : Nat} (S : aS) (h : p < n) : (cn G kd n S)[p]? = some (cC G kd S p) := by simp [cn, h]
theorem cn_obj {G : zG} {kd : kD} {n p ci : Nat} {S : aS} (h : p < n) (hk : kd p = .inl ci) : (cn G kd n S)[p]? = some (.inr (ci, cO G S p (fcs ci))) := by rw [cn_get G kd S h]; simp [cC, hk]
theorem cn_arr {G : zG} {kd : kD} {n p t N : Nat} {S : aS} (h : p < n) (hk : kd p = .inr (t, N)) : (cn G kd n S)[p]? = some (.inl (zT G t, N, cA G S p t)) := by rw [cn_get G kd S h]; simp [cC, hk]
theorem cO_get {G : zG} {S : aS} {p k c : Nat} {cs : List Nat} (h : cs[k]? = some c) : (cO G S p cs)[k]? = some (cV G S p k c) := by
  have hl : k < cs.length := (List.getElem?_eq_some_iff.mp h).1
  simp [cO, hl, List.getD_eq_getElem?_getD, h]
  have := (List.getElem?_eq_some_iff.mp h).2
  rw [this]
theorem cn_set {G : zG} {kd : kD} {n p : Nat} {S S2 : aS} {e : va_E} (hp : p < n) (ho : ∀ q, q ≠ p → cC G kd S2 q = cC G kd S q) (he : cC G kd S2 p = e) : (cn G kd n S).set p e = cn G kd n S2 := by
  apply List.ext_getElem?
  intro q
  by_cases hq : q = p
  · subst hq
    rw [List.getElem?_set_self (by rw [cn_len]; exact hp), cn_get G kd S2 hp, he]
  · rw [List.getElem?_set_ne (Ne.symm hq)]
    by_cases hl : q < n
    · rw [cn_get G kd S hl, cn_get G kd S2 hl, ho q hq]
    · rw [List.getElem?_eq_none (by rw [cn_len]; omega), List.getElem?_eq_none (by rw [cn_len]; omega)]
theorem cC_ne {G : zG} {kd : kD} {S S2 : aS} {q : Nat} (h1 : S2.1 q = S.1 q) (h2 : S2.2.1 q = S.2.1 q) (h3 : S2.2.2 q = S.2.2 q) : cC G kd S2 q = cC G kd S q := by
  have hv : ∀ k c, cV G S2 q k c = cV G S q k c := fun k c => by
    unfold cV gI gJ gR
    rw [h1, h2, h3]
  have ho : ∀ cs, cO G S2 q cs = cO G S q cs := fun cs => by
    unfold cO
    simp only [hv]
  have ha : ∀ t, cA G S2 q t = cA G S q t := fun t => by
    unfold cA
    rw [h1, h2, h3]
  unfold cC
  simp only [ho, ha]
theorem cO_set {G : zG} {S S2 : aS} {p k : Nat} {v : Value} {cs : List Nat} (hk : k < cs.length) (hv : cV G S2 p k (cs.getD k 0) = v) (ho : ∀ j, j ≠ k → ∀ c, cs[j]? = some c → cV G S2 p j c = cV G S p j c) : cO G S2 p cs = (cO G S p cs).set k v := by
  apply List.ext_getElem?
  intro j
  by_cases hj : j = k
  · subst hj
    rw [List.getElem?_set_self (by simp [cO]; exact hk)]
    simp [cO, hk]
    simpa [List.getD_eq_getElem?_getD, hk] using hv
  · rw [List.getElem?_set_ne (Ne.symm hj)]
    by_cases hl : j < cs.length
    · have h1 : cs[j]? = some cs[j] := List.getElem?_eq_getElem hl
      rw [cO_get h1, cO_get h1, ho j hj _ h1]
    · rw [List.getElem?_eq_none (by simp [cO]; omega), List.getElem?_eq_none (by simp [cO]; omega)]
theorem gI_sI (S : aS) (p k : Nat) (v : Int32) (q j : Nat) : gI (sI S p k v) q j = if q = p ∧ j = k then v else gI S q j := by
  unfold gI sI up2 up1
  by_cases h : q = p
  · subst h
    simp
  · simp [h]
theorem gJ_sJ (S : aS) (p k : Nat) (v : Int64) (q j : Nat) : gJ (sJ S p k v) q j = if q = p ∧ j = k then v else gJ S q j := by
  unfold gJ sJ up2 up1
  by_cases h : q = p
  · subst h
    simp
  · simp [h]
theorem gR_sR (S : aS) (p k v q j : Nat) : gR (sR S p k v) q j = if q = p ∧ j = k then v else gR S q j := by
  unfold gR sR up2 up1
  by_cases h : q = p
  · subst h
    simp
  · simp [h]
theorem gI_sJ (S : aS) (p k : Nat) (v : Int64) (q j : Nat) : gI (sJ S p k v) q j = gI S q j := rfl
theorem gI_sR (S : aS) (p k v q j : Nat) : gI (sR S p k v) q j = gI S q j := rfl
theorem gJ_sI (S : aS) (p k : Nat) (v : Int32) (q j : Nat) : gJ (sI S p k v) q j = gJ S q j := rfl
theorem gJ_sR (S : aS) (p k v q j : Nat) : gJ (sR S p k v) q j = gJ S q j := rfl
theorem gR_sI (S : aS) (p k : Nat) (v : Int32) (q j : Nat) : gR (sI S p k v) q j = gR S q j := rfl
theorem gR_sJ (S : aS) (p k : Nat) (v : Int64) (q j : Nat) : gR (sJ S p k v) q j = gR S q j := rfl
theorem zT0_sI {kd : kD} {n : Nat} {S : aS} {p k : Nat} {v : Int32} (h : zT0 kd n S) : zT0 kd n (sI S p k v) := h
theorem zT0_sJ {kd : kD} {n : Nat} {S : aS} {p k : Nat} {v : Int64} (h : zT0 kd n S) : zT0 kd n (sJ S p k v) := h
theorem zT0_sR {kd : kD} {n : Nat} {S : aS} {p k v : Nat} {ci : Nat} (h : zT0 kd n S) (hk : kd p = .inl ci) (hv : ∀ q, rkd ci k = some q → v < n ∧ kd v = q) (hw : ci = 7 → k = 6 → v < 31) : zT0 kd n (sR S p k v) := by
  obtain ⟨h1, h2, h3⟩ := h
  refine ⟨fun p2 ci2 k2 q2 a b c => ?_, fun p2 t N q i a b c d => ?_, fun p2 a b => ?_⟩
  · rw [gR_sR]
    by_cases e : p2 = p ∧ k2 = k
    · obtain ⟨rfl, rfl⟩ := e
      rw [if_pos ⟨rfl, rfl⟩]
      cases hk.symm.trans b
      exact hv _ c
    · rw [if_neg e]
      exact h1 p2 ci2 k2 q2 a b c
  · rw [gR_sR, if_neg (fun e => by rw [e.1, hk] at b; cases b)]
    exact h2 p2 t N q i a b c d
  · rw [gR_sR]
    by_cases e : p2 = p ∧ 6 = k
    · obtain ⟨rfl, rfl⟩ := e
      rw [if_pos ⟨rfl, rfl⟩]
      cases hk.symm.trans b
      exact hw rfl rfl
    · rw [if_neg e]
      exact h3 p2 a b
section ZF
variable {G : zG} {X : zX} {Q : State → Prop} {nL : Nat} {lv : zLv} {st : List Value} {kd : kD} {N0 : Nat} {S : aS} {pc k n d mc ms : Nat} {own : String} {cc : ByteArray}

theorem f_geti (C : zCt G X d mc ms own cc nL) {i p ci j : Nat} (hd : decode cc pc = .ok (.getfield i, 3)) (hf : zF own i ci j) (hp : p < N0) (hk : kd p = .inl ci) (hc : (fcs ci)[j]? = some 0) (kk : zV G X Q nL lv (.int (gI S p j) :: st) (cn G kd N0 S) (pc + 3) k n) : zV G X Q nL lv (.ref (zB G + p) :: st) (cn G kd N0 S) pc k n := z_get C hd hf (cn_obj hp hk) (cO_get hc) kk
theorem f_getj (C : zCt G X d mc ms own cc nL) {i p ci j : Nat} (hd : decode cc pc = .ok (.getfield i, 3)) (hf : zF own i ci j) (hp : p < N0) (hk : kd p = .inl ci) (hc : (fcs ci)[j]? = some 1) (kk : zV G X Q nL lv (.long (gJ S p j) :: st) (cn G kd N0 S) (pc + 3) k n) : zV G X Q nL lv (.ref (zB G + p) :: st) (cn G kd N0 S) pc k n := z_get C hd hf (cn_obj hp hk) (cO_get hc) kk
theorem f_getr (C : zCt G X d mc ms own cc nL) {i p ci j : Nat} (hd : decode cc pc = .ok (.getfield i, 3)) (hf : zF own i ci j) (hp : p < N0) (hk : kd p = .inl ci) (hc : (fcs ci)[j]? = some 2) (kk : zV G X Q nL lv (.ref (zB G + gR S p j) :: st) (cn G kd N0 S) (pc + 3) k n) : zV G X Q nL lv (.ref (zB G + p) :: st) (cn G kd N0 S) pc k n := z_get C hd hf (cn_obj hp hk) (cO_get hc) kk
theorem f_getw (C : zCt G X d mc ms own cc nL) {i p ci j : Nat} (hd : decode cc pc = .ok (.getfield i, 3)) (hf : zF own i ci j) (hp : p < N0) (hk : kd p = .inl ci) (hc : (fcs ci)[j]? = some 3) (kk : zV G X Q nL lv (.ref (zC G (gR S p j)) :: st) (cn G kd N0 S) (pc + 3) k n) : zV G X Q nL lv (.ref (zB G + p) :: st) (cn G kd N0 S) pc k n := z_get C hd hf (cn_obj hp hk) (cO_get hc) kk
theorem cC_obj {ci p : Nat} (hk : kd p = .inl ci) : cC G kd S p = .inr (ci, cO G S p (fcs ci)) := by simp [cC, hk]
theorem cC_arr {t N p : Nat} (hk : kd p = .inr (t, N)) : cC G kd S p = .inl (zT G t, N, cA G S p t) := by simp [cC, hk]
theorem fcs_lt {ci j c : Nat} (h : (fcs ci)[j]? = some c) : j < (fcs ci).length := (List.getElem?_eq_some_iff.mp h).1
theorem fcs_D {ci j c : Nat} (h : (fcs ci)[j]? = some c) : (fcs ci).getD j 0 = c := by rw [List.getD_eq_getElem?_getD, h]; rfl
theorem f_puti (C : zCt G X d mc ms own cc nL) {i p ci j : Nat} {v : Int32} {ty : FieldType} (hd : decode cc pc = .ok (.putfield i, 3)) (hf : zF own i ci j) (hw : zFw ci j false ty) (hp : p < N0) (hk : kd p = .inl ci) (hc : (fcs ci)[j]? = some 0) (hn : narrow ty (.int v) = .int v) (hfit : fits ty (.int v) = true) (kk : zV G X Q nL lv st (cn G kd N0 (sI S p j v)) (pc + 3) k n) : zV G X Q nL lv (.int v :: .ref (zB G + p) :: st) (cn G kd N0 S) pc k n := by
  refine z_put C hd hf hw (cn_obj hp hk) hn hfit (by unfold cO; rw [List.length_map, List.length_range]; exact fcs_lt hc) rfl (cn_set (S := S) (S2 := sI S p j v) hp (fun q hq => cC_ne (up2_n _ _ _ hq) (rfl) (rfl)) ?_) kk
  rw [cC_obj hk, cO_set (S := S) (S2 := sI S p j v) (fcs_lt hc) (v := .int v)]
  · rw [fcs_D hc]
    simp [cV, gI_sI]
  · intro j2 hj2 c2 hc2
    unfold cV
    split <;> simp [gI_sI, gJ_sJ, gR_sR, gI_sJ, gI_sR, gJ_sI, gJ_sR, gR_sI, gR_sJ, hj2]
theorem f_putj (C : zCt G X d mc ms own cc nL) {i p ci j : Nat} {v : Int64} {ty : FieldType} (hd : decode cc pc = .ok (.putfield i, 3)) (hf : zF own i ci j) (hw : zFw ci j false ty) (hp : p < N0) (hk : kd p = .inl ci) (hc : (fcs ci)[j]? = some 1) (hn : narrow ty (.long v) = .long v) (hfit : fits ty (.long v) = true) (kk : zV G X Q nL lv st (cn G kd N0 (sJ S p j v)) (pc + 3) k n) : zV G X Q nL lv (.long v :: .ref (zB G + p) :: st) (cn G kd N0 S) pc k n := by
  refine z_put C hd hf hw (cn_obj hp hk) hn hfit (by unfold cO; rw [List.length_map, List.length_range]; exact fcs_lt hc) rfl (cn_set (S := S) (S2 := sJ S p j v) hp (fun q hq => cC_ne (rfl) (up2_n _ _ _ hq) (rfl)) ?_) kk
  rw [cC_obj hk, cO_set (S := S) (S2 := sJ S p j v) (fcs_lt hc) (v := .long v)]
  · rw [fcs_D hc]
    simp [cV, gJ_sJ]
  · intro j2 hj2 c2 hc2
    unfold cV
    split <;> simp [gI_sI, gJ_sJ, gR_sR, gI_sJ, gI_sR, gJ_sI, gJ_sR, gR_sI, gR_sJ, hj2]
theorem f_putr (C : zCt G X d mc ms own cc nL) {i p ci j : Nat} {v : Nat} {ty : FieldType} (hd : decode cc pc = .ok (.putfield i, 3)) (hf : zF own i ci j) (hw : zFw ci j false ty) (hp : p < N0) (hk : kd p = .inl ci) (hc : (fcs ci)[j]? = some 2) (hn : narrow ty (.ref (zB G + v)) = .ref (zB G + v)) (hfit : fits ty (.ref (zB G + v)) = true) (kk : zV G X Q nL lv st (cn G kd N0 (sR S p j v)) (pc + 3) k n) : zV G X Q nL lv (.ref (zB G + v) :: .ref (zB G + p) :: st) (cn G kd N0 S) pc k n := by
  refine z_put C hd hf hw (cn_obj hp hk) hn hfit (by unfold cO; rw [List.length_map, List.length_range]; exact fcs_lt hc) rfl (cn_set (S := S) (S2 := sR S p j v) hp (fun q hq => cC_ne (rfl) (rfl) (up2_n _ _ _ hq)) ?_) kk
  rw [cC_obj hk, cO_set (S := S) (S2 := sR S p j v) (fcs_lt hc) (v := .ref (zB G + v))]
  · rw [fcs_D hc]
    simp [cV, gR_sR]
  · intro j2 hj2 c2 hc2
    unfold cV
    split <;> simp [gI_sI, gJ_sJ, gR_sR, gI_sJ, gI_sR, gJ_sI, gJ_sR, gR_sI, gR_sJ, hj2]
theorem f_putw (C : zCt G X d mc ms own cc nL) {i p ci j : Nat} {v : Nat} {ty : FieldType} (hd : decode cc pc = .ok (.putfield i, 3)) (hf : zF own i ci j) (hw : zFw ci j false ty) (hp : p < N0) (hk : kd p = .inl ci) (hc : (fcs ci)[j]? = some 3) (hn : narrow ty (.ref (zC G v)) = .ref (zC G v)) (hfit : fits ty (.ref (zC G v)) = true) (kk : zV G X Q nL lv st (cn G kd N0 (sR S p j v)) (pc + 3) k n) : zV G X Q nL lv (.ref (zC G v) :: .ref (zB G + p) :: st) (cn G kd N0 S) pc k n := by
  refine z_put C hd hf hw (cn_obj hp hk) hn hfit (by unfold cO; rw [List.length_map, List.length_range]; exact fcs_lt hc) rfl (cn_set (S := S) (S2 := sR S p j v) hp (fun q hq => cC_ne (rfl) (rfl) (up2_n _ _ _ hq)) ?_) kk
  rw [cC_obj hk, cO_set (S := S) (S2 := sR S p j v) (fcs_lt hc) (v := .ref (zC G v))]
  · rw [fcs_D hc]
    simp [cV, gR_sR]
  · intro j2 hj2 c2 hc2
    unfold cV
    split <;> simp [gI_sI, gJ_sJ, gR_sR, gI_sJ, gI_sR, gJ_sI, gJ_sR, gR_sI, gR_sJ, hj2]
theorem f_iald (C : zCt G X d mc ms own cc nL) {p N : Nat} {i : Int32} (hd : decode cc pc = .ok (.iaload, 1)) (hp : p < N0) (hk : kd p = .inr (0, N)) (hin : vp_in i N) (kk : zV G X Q nL lv (.int (gI S p i.toNatClampNeg) :: st) (cn G kd N0 S) (pc + 1) k n) : zV G X Q nL lv (.int i :: .ref (zB G + p) :: st) (cn G kd N0 S) pc k n := z_iald C hd (cn_arr hp hk) hin kk
theorem f_cald (C : zCt G X d mc ms own cc nL) {p N : Nat} {i : Int32} (hd : decode cc pc = .ok (.caload, 1)) (hp : p < N0) (hk : kd p = .inr (2, N)) (hin : vp_in i N) (kk : zV G X Q nL lv (.int (gI S p i.toNatClampNeg) :: st) (cn G kd N0 S) (pc + 1) k n) : zV G X Q nL lv (.int i :: .ref (zB G + p) :: st) (cn G kd N0 S) pc k n := z_cald C hd (cn_arr hp hk) hin kk
theorem f_zald (C : zCt G X d mc ms own cc nL) {p N : Nat} {i : Int32} (hd : decode cc pc = .ok (.baload, 1)) (hp : p < N0) (hk : kd p = .inr (3, N)) (hin : vp_in i N) (kk : zV G X Q nL lv (.int (gI S p i.toNatClampNeg) :: st) (cn G kd N0 S) (pc + 1) k n) : zV G X Q nL lv (.int i :: .ref (zB G + p) :: st) (cn G kd N0 S) pc k n := z_zald C hd (cn_arr hp hk) hin kk
theorem f_lald (C : zCt G X d mc ms own cc nL) {p N : Nat} {i : Int32} (hd : decode cc pc = .ok (.laload, 1)) (hp : p < N0) (hk : kd p = .inr (1, N)) (hin : vp_in i N) (kk : zV G X Q nL lv (.long (gJ S p i.toNatClampNeg) :: st) (cn G kd N0 S) (pc + 1) k n) : zV G X Q nL lv (.int i :: .ref (zB G + p) :: st) (cn G kd N0 S) pc k n := z_lald C hd (cn_arr hp hk) hin kk
theorem f_aald (C : zCt G X d mc ms own cc nL) {p t N : Nat} {i : Int32} {ty : FieldType} (hd : decode cc pc = .ok (.aaload, 1)) (hp : p < N0) (hk : kd p = .inr (t, N)) (ht : (ztys G)[t]? = some (zT G t, ty)) (hr : ty.isReference = true) (hA : cA G S p t = .inr (.inr (.inr (.inr (fun i => some (zB G + S.2.2 p i)))))) (hin : vp_in i N) (kk : zV G X Q nL lv (.ref (zB G + gR S p i.toNatClampNeg) :: st) (cn G kd N0 S) (pc + 1) k n) : zV G X Q nL lv (.int i :: .ref (zB G + p) :: st) (cn G kd N0 S) pc k n := z_aald (f := fun i => some (zB G + S.2.2 p i)) C hd (by rw [cn_arr hp hk, hA]) ht hr hin rfl kk
theorem f_alen (C : zCt G X d mc ms own cc nL) {p t N : Nat} {v : Int32} {ty : FieldType} (hd : decode cc pc = .ok (.arraylength, 1)) (hp : p < N0) (hk : kd p = .inr (t, N)) (ht : (ztys G)[t]? = some (zT G t, ty)) (hv : Int32.ofNat N = v) (kk : zV G X Q nL lv (.int v :: st) (cn G kd N0 S) (pc + 1) k n) : zV G X Q nL lv (.ref (zB G + p) :: st) (cn G kd N0 S) pc k n := z_alen C hd (cn_arr hp hk) ht hv kk
theorem f_iast (C : zCt G X d mc ms own cc nL) {p N : Nat} {i : Int32} {x : Int32} (hd : decode cc pc = .ok (.iastore, 1)) (hp : p < N0) (hk : kd p = .inr (0, N)) (hin : vp_in i N) (kk : zV G X Q nL lv st (cn G kd N0 (sI S p i.toNatClampNeg x)) (pc + 1) k n) : zV G X Q nL lv (.int x :: .int i :: .ref (zB G + p) :: st) (cn G kd N0 S) pc k n := by
  refine z_iast C hd (cn_arr hp hk) hin rfl (cn_set (S := S) (S2 := sI S p i.toNatClampNeg x) hp (fun q hq => cC_ne (up2_n _ _ _ hq) (rfl) rfl) ?_) kk
  rw [cC_arr hk]
  show Sum.inl (zT G 0, N, Sum.inl (up2 S.1 p i.toNatClampNeg x p)) = Sum.inl (zT G 0, N, Sum.inl (upd (S.1 p) i.toNatClampNeg x))
  rw [up2_s]
  rfl
theorem f_cast (C : zCt G X d mc ms own cc nL) {p N : Nat} {i : Int32} {x : Int32} (hd : decode cc pc = .ok (.castore, 1)) (hp : p < N0) (hk : kd p = .inr (2, N)) (hin : vp_in i N) (kk : zV G X Q nL lv st (cn G kd N0 (sI S p i.toNatClampNeg (vp_nar .char x))) (pc + 1) k n) : zV G X Q nL lv (.int x :: .int i :: .ref (zB G + p) :: st) (cn G kd N0 S) pc k n := by
  refine z_cast C hd (cn_arr hp hk) hin rfl (cn_set (S := S) (S2 := sI S p i.toNatClampNeg (vp_nar .char x)) hp (fun q hq => cC_ne (up2_n _ _ _ hq) (rfl) rfl) ?_) kk
  rw [cC_arr hk]
  show Sum.inl (zT G 2, N, Sum.inl (up2 S.1 p i.toNatClampNeg (vp_nar .char x) p)) = Sum.inl (zT G 2, N, Sum.inl (upd (S.1 p) i.toNatClampNeg (vp_nar .char x)))
  rw [up2_s]
  rfl
theorem f_zast (C : zCt G X d mc ms own cc nL) {p N : Nat} {i : Int32} {x : Int32} (hd : decode cc pc = .ok (.bastore, 1)) (hp : p < N0) (hk : kd p = .inr (3, N)) (hin : vp_in i N) (kk : zV G X Q nL lv st (cn G kd N0 (sI S p i.toNatClampNeg (vp_nar .boolean x))) (pc + 1) k n) : zV G X Q nL lv (.int x :: .int i :: .ref (zB G + p) :: st) (cn G kd N0 S) pc k n := by
  refine z_zast C hd (cn_arr hp hk) hin rfl (cn_set (S := S) (S2 := sI S p i.toNatClampNeg (vp_nar .boolean x)) hp (fun q hq => cC_ne (up2_n _ _ _ hq) (rfl) rfl) ?_) kk
  rw [cC_arr hk]
  show Sum.inl (zT G 3, N, Sum.inl (up2 S.1 p i.toNatClampNeg (vp_nar .boolean x) p)) = Sum.inl (zT G 3, N, Sum.inl (upd (S.1 p) i.toNatClampNeg (vp_nar .boolean x)))
  rw [up2_s]
  rfl
theorem f_last (C : zCt G X d mc ms own cc nL) {p N : Nat} {i : Int32} {x : Int64} (hd : decode cc pc = .ok (.lastore, 1)) (hp : p < N0) (hk : kd p = .inr (1, N)) (hin : vp_in i N) (kk : zV G X Q nL lv st (cn G kd N0 (sJ S p i.toNatClampNeg x)) (pc + 1) k n) : zV G X Q nL lv (.long x :: .int i :: .ref (zB G + p) :: st) (cn G kd N0 S) pc k n := by
  refine z_last C hd (cn_arr hp hk) hin rfl (cn_set (S := S) (S2 := sJ S p i.toNatClampNeg x) hp (fun q hq => cC_ne (rfl) (up2_n _ _ _ hq) rfl) ?_) kk
  rw [cC_arr hk]
  show Sum.inl (zT G 1, N, Sum.inr (Sum.inl (up2 S.2.1 p i.toNatClampNeg x p))) = Sum.inl (zT G 1, N, Sum.inr (Sum.inl (vp_updL (S.2.1 p) i.toNatClampNeg x)))
  rw [up2_s]
  rfl
/-- what a method that makes nothing says of its end -/
def zPo (G : zG) (kd : kD) (N0 : Nat) (res : Option Value × aS) : Option Value → zH → Prop := fun r h => r = res.1 ∧ h = cn G kd N0 res.2 ∧ zT0 kd N0 res.2
def zPr (G : zG) (kd : kD) (N0 : Nat) (q : Nat ⊕ (Nat × Nat)) (res : Option Value × aS) : Option Value → zH → Prop := fun r h => ∃ p, res.1 = some (.ref p) ∧ p < N0 ∧ kd p = q ∧ r = some (.ref (zB G + p)) ∧ h = cn G kd N0 res.2 ∧ zT0 kd N0 res.2
def zPw (G : zG) (kd : kD) (N0 : Nat) (res : Option Value × aS) : Option Value → zH → Prop := fun r h => ∃ p, res.1 = some (.ref p) ∧ p < 31 ∧ r = some (.ref (zC G p)) ∧ h = cn G kd N0 res.2 ∧ zT0 kd N0 res.2
abbrev aR : Type := Option (Option Value × aS)
def bI (r : aR) (k : Int32 → aS → aR) : aR := match r with
  | some (some (.int x), S) => k x S
  | _ => none
def bJ (r : aR) (k : Int64 → aS → aR) : aR := match r with
  | some (some (.long x), S) => k x S
  | _ => none
def bR (r : aR) (k : Nat → aS → aR) : aR := match r with
  | some (some (.ref x), S) => k x S
  | _ => none
def bV (r : aR) (k : aS → aR) : aR := match r with
  | some (none, S) => k S
  | _ => none
def bX (i : Int32) (N : Nat) (k : Nat → aR) : aR := if i < 0 ∨ N ≤ i.toNatClampNeg then none else k i.toNatClampNeg
def bN (y : Int32) (k : aR) : aR := if y = 0 then none else k
def bNL (y : Int64) (k : aR) : aR := if y = 0 then none else k
def bZ (y : Int32) (k : aR) : aR := if y = 0 ∨ y = 1 then k else none
def fS (S : aS) (k : aS → aR) : aR := k S
def lI (v : Int32) (k : Int32 → aR) : aR := k v
def lJ (v : Int64) (k : Int64 → aR) : aR := k v
def vI (vs : List Value) (k : Nat) : Int32 := match vs[k]? with
  | some (.int x) => x
  | _ => 0
def vJ (vs : List Value) (k : Nat) : Int64 := match vs[k]? with
  | some (.long x) => x
  | _ => 0
def vR (vs : List Value) (k : Nat) : Nat := match vs[k]? with
  | some (.ref x) => x
  | _ => 0
theorem bI_some {r : aR} {k : Int32 → aS → aR} {res : Option Value × aS} (h : bI r k = some res) : ∃ x S, r = some (some (.int x), S) ∧ k x S = some res := by
  unfold bI at h
  split at h
  · exact ⟨_, _, rfl, h⟩
  · cases h
theorem bJ_some {r : aR} {k : Int64 → aS → aR} {res : Option Value × aS} (h : bJ r k = some res) : ∃ x S, r = some (some (.long x), S) ∧ k x S = some res := by
  unfold bJ at h
  split at h
  · exact ⟨_, _, rfl, h⟩
  · cases h
theorem bR_some {r : aR} {k : Nat → aS → aR} {res : Option Value × aS} (h : bR r k = some res) : ∃ x S, r = some (some (.ref x), S) ∧ k x S = some res := by
  unfold bR at h
  split at h
  · exact ⟨_, _, rfl, h⟩
  · cases h
theorem bV_some {r : aR} {k : aS → aR} {res : Option Value × aS} (h : bV r k = some res) : ∃ S, r = some (none, S) ∧ k S = some res := by
  unfold bV at h
  split at h
  · exact ⟨_, rfl, h⟩
  · cases h
theorem bX_some {i : Int32} {N : Nat} {k : Nat → aR} {res : Option Value × aS} (h : bX i N k = some res) : vp_in i N ∧ k i.toNatClampNeg = some res := by
  unfold bX at h
  split at h
  · cases h
  · exact ⟨‹_›, h⟩
theorem bN_some {y : Int32} {k : aR} {res : Option Value × aS} (h : bN y k = some res) : ¬ y = 0 ∧ k = some res := by
  unfold bN at h
  split at h
  · cases h
  · exact ⟨‹_›, h⟩
theorem bNL_some {y : Int64} {k : aR} {res : Option Value × aS} (h : bNL y k = some res) : ¬ y = 0 ∧ k = some res := by
  unfold bNL at h
  split at h
  · cases h
  · exact ⟨‹_›, h⟩
theorem bZ_some {y : Int32} {k : aR} {res : Option Value × aS} (h : bZ y k = some res) : (narrow .boolean (.int y) = .int y ∧ fits .boolean (.int y) = true) ∧ k = some res := by
  unfold bZ at h
  split at h
  · refine ⟨?_, h⟩
    rcases ‹y = 0 ∨ y = 1› with e | e <;> subst e <;> exact ⟨rfl, rfl⟩
  · cases h
theorem z_mask (m : List Bool) (kk : zV G X Q nL (lv.zipWith (fun o b => if b then o else none) m) st (cn G kd N0 S) pc k n) (hm : m.length = lv.length) : zV G X Q nL lv st (cn G kd N0 S) pc k n := by
  intro H locs ls hW hL hl
  refine kk H locs ls hW hL ⟨hl.1, hl.2.1, by rw [List.length_zipWith, hm, Nat.min_self]; exact hl.2.2.1, fun i v hi => hl.2.2.2 i v ?_⟩
  rw [List.getElem?_zipWith] at hi
  split at hi
  · rename_i a b h1 h2
    rw [h1]
    by_cases hb : b = true
    · rw [if_pos hb] at hi; exact hi
    · rw [if_neg hb] at hi; cases hi
  · cases hi
theorem zV_lv {lv2 : zLv} {h : zH} (e : lv = lv2) (kk : zV G X Q nL lv2 st h pc k n) : zV G X Q nL lv st h pc k n := e ▸ kk
section ZFC
variable {y : MethodName} {cy : ByteArray} {maxL na d2 i p ci : Nat} {ret : Option FieldType} {As rest st2 : List Value} {T0 : u_T} {M0 : Nat} {host : String} {res : Option Value × aS}
theorem f_cV (C : zCt G X d 0 0 own cc nL) (hd : decode cc pc = .ok (.invokevirtual i, 3)) (hy : zY y cy maxL ret na) (hv : zYv y) (hlink : Cond.methodLink own i y ∈ ztb) (hM : zM G (zXl X) d2 0 0 y cy maxL ret (.ref (zB G + p) :: As) (cn G kd N0 S) (zPo G kd N0 res)) (hp : p < N0) (hk : kd p = .inl ci) (hc : zcl[ci]? = some (y.cls, T0, M0)) (hd2 : d2 < d) (hn : As.length = na) (hst : As.reverse ++ .ref (zB G + p) :: rest = st) (hw : (rest.map fun v => v.category).sum ≤ 8) (hrs : res.1.toList ++ rest = st2) (kk : zT0 kd N0 res.2 → zV G X Q nL lv st2 (cn G kd N0 res.2) (pc + 3) 0 0) : zV G X Q nL lv st (cn G kd N0 S) pc 0 0 := z_callV C hd hy hv hlink hM (cn_obj hp hk) hc hd2 hn hst hw ⟨Nat.le_refl _, Nat.le_refl _⟩ (fun r h2 hP => by obtain ⟨rfl, rfl, hT⟩ := hP; rw [hrs]; exact kk hT)
theorem f_cVN (C : zCt G X d 0 0 own cc nL) (hd : decode cc pc = .ok (.invokevirtual i, 3)) (hy : zY y cy maxL ret na) (hv : zYv y) (hlink : Cond.methodLinkNest own i y host ∈ tables_1) (hM : zM G (zXl X) d2 0 0 y cy maxL ret (.ref (zB G + p) :: As) (cn G kd N0 S) (zPo G kd N0 res)) (hp : p < N0) (hk : kd p = .inl ci) (hc : zcl[ci]? = some (y.cls, T0, M0)) (hd2 : d2 < d) (hn : As.length = na) (hst : As.reverse ++ .ref (zB G + p) :: rest = st) (hw : (rest.map fun v => v.category).sum ≤ 8) (hrs : res.1.toList ++ rest = st2) (kk : zT0 kd N0 res.2 → zV G X Q nL lv st2 (cn G kd N0 res.2) (pc + 3) 0 0) : zV G X Q nL lv st (cn G kd N0 S) pc 0 0 := z_callVN C hd hy hv hlink hM (cn_obj hp hk) hc hd2 hn hst hw ⟨Nat.le_refl _, Nat.le_refl _⟩ (fun r h2 hP => by obtain ⟨rfl, rfl, hT⟩ := hP; rw [hrs]; exact kk hT)
theorem f_cS (C : zCt G X d 0 0 own cc nL) (hd : decode cc pc = .ok (.invokestatic i, 3)) (hy : zY y cy maxL ret na) (hv : Cond.static y ∈ ztb) (hlink : Cond.methodLink own i y ∈ ztb) (hM : zM G (zXl X) d2 0 0 y cy maxL ret As (cn G kd N0 S) (zPo G kd N0 res)) (hd2 : d2 < d) (hn : As.length = na) (hst : As.reverse ++ rest = st) (hw : (rest.map fun v => v.category).sum ≤ 8) (hrs : res.1.toList ++ rest = st2) (kk : zT0 kd N0 res.2 → zV G X Q nL lv st2 (cn G kd N0 res.2) (pc + 3) 0 0) : zV G X Q nL lv st (cn G kd N0 S) pc 0 0 := z_callS C hd hy hv hlink hM hd2 hn hst hw ⟨Nat.le_refl _, Nat.le_refl _⟩ (fun r h2 hP => by obtain ⟨rfl, rfl, hT⟩ := hP; rw [hrs]; exact kk hT)
theorem f_cSN (C : zCt G X d 0 0 own cc nL) (hd : decode cc pc = .ok (.invokestatic i, 3)) (hy : zY y cy maxL ret na) (hv : Cond.static y ∈ ztb) (hlink : Cond.methodLinkNest own i y host ∈ tables_1) (hM : zM G (zXl X) d2 0 0 y cy maxL ret As (cn G kd N0 S) (zPo G kd N0 res)) (hd2 : d2 < d) (hn : As.length = na) (hst : As.reverse ++ rest = st) (hw : (rest.map fun v => v.category).sum ≤ 8) (hrs : res.1.toList ++ rest = st2) (kk : zT0 kd N0 res.2 → zV G X Q nL lv st2 (cn G kd N0 res.2) (pc + 3) 0 0) : zV G X Q nL lv st (cn G kd N0 S) pc 0 0 := z_callSN C hd hy hv hlink hM hd2 hn hst hw ⟨Nat.le_refl _, Nat.le_refl _⟩ (fun r h2 hP => by obtain ⟨rfl, rfl, hT⟩ := hP; rw [hrs]; exact kk hT)
end ZFC
theorem f_gets (C : zCt G X d mc ms own cc nL) {i : Nat} {o nm ds : String} {v : Value} (hd : decode cc pc = .ok (.getstatic i, 3)) (hl0 : Cond.fieldLink own i o nm ds ∈ ztb) (hZ : va_Z o nm ds v (zA G) (zXs X) (zN G)) (kk : zV G X Q nL lv (v :: st) (cn G kd N0 S) (pc + 3) k n) : zV G X Q nL lv st (cn G kd N0 S) pc k n := by
  intro H locs ls hW hL hl
  obtain ⟨cf, kf, fi, f, a, cell, h1, h2, h3, h4, h5, h6, h7, h8⟩ := hZ
  have ha : a < zB G := Nat.not_le.mp h8
  exact W.gets C.1 C.2.1 C.2.2.2.1 (C.2.2.2.2.1 _ hl0) h1 h2 h3 h4 (by rw [hW.2.2 a ha]; exact h5) (fun e => by rw [e] at h6; cases h6) h7 rfl hd (kk H locs ls hW hL hl)
theorem f_getK (C : zCt G X d mc ms own cc nL) {i t : Nat} {o nm ds : String} {v : Value} (hd : decode cc pc = .ok (.getfield i, 3)) (hl0 : Cond.fieldLink own i o nm ds ∈ ztb) (hO : va_OF o nm ds v t (zA G) (zXs X) (zN G)) (kk : zV G X Q nL lv (v :: st) (cn G kd N0 S) (pc + 3) k n) : zV G X Q nL lv (.ref t :: st) (cn G kd N0 S) pc k n := by
  intro H locs ls hW hL hl
  obtain ⟨cf, k0, fi, f, cell, h1, h2, h3, h4, h5, h6⟩ := hO
  have ha : t < zB G := Nat.not_le.mp h6
  exact W.getf C.1 C.2.1 C.2.2.2.1 (C.2.2.2.2.1 _ hl0) h1 h2 (by rw [hW.2.2 t ha]; exact h3) h4 h5 rfl rfl hd (kk H locs ls hW hL hl)
theorem f_ialdK (C : zCt G X d mc ms own cc nL) {t N : Nat} {i : Int32} {f : Nat → Value} (hd : decode cc pc = .ok (.iaload, 1)) (hT : va_T .int t N f (zA G) (zXs X) (zN G)) (hin : vp_in i N) (kk : zV G X Q nL lv (f i.toNatClampNeg :: st) (cn G kd N0 S) (pc + 1) k n) : zV G X Q nL lv (.int i :: .ref t :: st) (cn G kd N0 S) pc k n := by
  intro H locs ls hW hL hl
  obtain ⟨cell, h1, h2, h3, h4, h5, h6, h7⟩ := hT
  have ha : t < zB G := Nat.not_le.mp h7
  have hlt : i.toNatClampNeg < N := Nat.not_le.mp fun q => hin (Or.inr q)
  exact W.iald C.1 C.2.1 (by rw [hW.2.2 t ha]; exact h1) h2 h3 (fun q => by rcases q with q | q; exact hin (Or.inl q); omega) (h6 _ hlt) rfl rfl hd (kk H locs ls hW hL hl)
theorem f_aaldK (C : zCt G X d mc ms own cc nL) {t N : Nat} {i : Int32} {f : Nat → Value} {ty : FieldType} (hd : decode cc pc = .ok (.aaload, 1)) (hT : va_T ty t N f (zA G) (zXs X) (zN G)) (hr : ty.isReference = true) (hin : vp_in i N) (kk : zV G X Q nL lv (f i.toNatClampNeg :: st) (cn G kd N0 S) (pc + 1) k n) : zV G X Q nL lv (.int i :: .ref t :: st) (cn G kd N0 S) pc k n := by
  intro H locs ls hW hL hl
  obtain ⟨cell, h1, h2, h3, h4, h5, h6, h7⟩ := hT
  have ha : t < zB G := Nat.not_le.mp h7
  have hlt : i.toNatClampNeg < N := Nat.not_le.mp fun q => hin (Or.inr q)
  exact W.aald C.1 C.2.1 (by rw [hW.2.2 t ha]; exact h1) h2 hr h3 (fun q => by rcases q with q | q; exact hin (Or.inl q); omega) (h6 _ hlt) rfl rfl hd (kk H locs ls hW hL hl)
theorem f_alenK (C : zCt G X d mc ms own cc nL) {t N : Nat} {f : Nat → Value} {ty : FieldType} (hd : decode cc pc = .ok (.arraylength, 1)) (hT : va_T ty t N f (zA G) (zXs X) (zN G)) (kk : zV G X Q nL lv (.int (Int32.ofNat N) :: st) (cn G kd N0 S) (pc + 1) k n) : zV G X Q nL lv (.ref t :: st) (cn G kd N0 S) pc k n := by
  intro H locs ls hW hL hl
  obtain ⟨cell, h1, h2, h3, h4, h5, h6, h7⟩ := hT
  have ha : t < zB G := Nat.not_le.mp h7
  exact W.alen C.1 C.2.1 (by rw [hW.2.2 t ha]; exact h1) h2 h5 rfl rfl hd (kk H locs ls hW hL hl)
theorem f_tabOut {x : Int32} {lo hi : Int} (h : ∀ v : Int, lo ≤ v → v ≤ hi → ¬ x.toInt = v) : x.toInt < lo ∨ hi < x.toInt := by
  by_cases a : x.toInt < lo
  · exact Or.inl a
  · by_cases b : hi < x.toInt
    · exact Or.inr b
    · exact absurd rfl (h x.toInt (by omega) (by omega))
end ZF

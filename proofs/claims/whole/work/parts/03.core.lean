/-! THE ABSTRACT MACHINE: a heap is a row of cells by their places; zV says that from a point of a method its end is reached. -/
/-- what stays the same over the whole run: classes and slots, array classes, the first new address, the heap ahead of it, the constants' addresses -/
abbrev zG : Type := va_G × (Nat → ClassId) × Nat × Heap × (Nat → Nat)
abbrev zT (G : zG) (t : Nat) : ClassId := G.2.1 t
abbrev zB (G : zG) : Nat := G.2.2.1
abbrev zN (G : zG) : Heap := G.2.2.2.1
abbrev zC (G : zG) (k : Nat) : Nat := G.2.2.2.2 k
abbrev zH : Type := List va_E
abbrev zLv : Type := List (Option Value)
def RNS : String := "java/util/NoSuchElementException"
def TNS : u_T := fun _ => ("", "", "", false)
abbrev zcl : List vw_C := [(RX1, TX1, 4), (RX2, TX2, 2), (RX3, TX3, 3), (RX4, TX4, 9), (RX5, TX5, 4), (RX6, TX6, 16), (RX7, TX7, 9), (RX8, TX8, 10), (RX9, TX9, 8), (RX10, TX10, 5), (RX12, TX12, 13), (RX13, TX13, 36), (RNS, TNS, 0)]
abbrev ztys (G : zG) : List (ClassId × FieldType) := [(zT G 0, .int), (zT G 1, .long), (zT G 2, .char), (zT G 3, .boolean), (zT G 4, .object "LakeBins$Lake"), (zT G 5, .object "LakeBins$Found"), (zT G 6, .array .int)]
def ztb : List Cond := lw_tbl.filter goodWord
theorem ztb_good : ∀ w ∈ ztb, (w.onTables && w.keeps) = true ∨ ∃ ty, w = .arrayClass ty := fun _ h => good_of_word (List.mem_filter.mp h).2
theorem ztb_in {w : Cond} (h : w ∈ tables_1) (hg : goodWord w = true) : w ∈ ztb := List.mem_filter.mpr ⟨List.mem_append_right _ h, hg⟩
/-- the words of a class's fields -/
def znm : List String := ["NO_WORD", "NAME", "YARDS", "WINDS", "PENCE", "DEPOSIT", "DROPS", "TAKES", "PERSON", "CARRIES", "BRINGS", "BIN", "HOLDS", "LIES", "WALK", "EMPTY", "PUT", "OFF", "SWEEP", "HOUR", "PLAIN", "TIDY", "DOG", "CHILD", "NOT", "AND", "OR", "HEAP", "NEAR", "HAS", "FAR"]
def zA (G : zG) : Nat → Prop := fun q => zB G ≤ q
/-- the constants -/
def zS (G : zG) (key : Nat → Int64) (val may sw : Nat → Int32) (U : State) : Prop :=
  (∀ i, i < 31 → va_Z "LakeBins$Word" (znm.getD i "") "LLakeBins$Word;" (.ref (zC G i)) (zA G) U (zN G) ∧ va_O "LakeBins$Word" (zC G i) (zA G) U (zN G) ∧ va_OF "LakeBins$Word" "key" "J" (.long (key i)) (zC G i) (zA G) U (zN G) ∧ va_OF "LakeBins$Word" "value" "I" (.int (val i)) (zC G i) (zA G) U (zN G) ∧ va_OF "LakeBins$Word" "mayName" "Z" (.int (may i)) (zC G i) (zA G) U (zN G) ∧ va_OF "java/lang/Enum" "ordinal" "I" (.int (nI i)) (zC G i) (zA G) U (zN G)) ∧
  (∀ i j, i < 31 → j < 31 → zC G i = zC G j → i = j) ∧
  va_Z "LakeBins$Word" "WORDS" "[LLakeBins$Word;" (.ref (zC G 31)) (zA G) U (zN G) ∧ va_T (.object "LakeBins$Word") (zC G 31) 31 (fun j => .ref (zC G j)) (zA G) U (zN G) ∧
  va_Z "LakeBins$1" "$SwitchMap$LakeBins$Word" "[I" (.ref (zC G 32)) (zA G) U (zN G) ∧ va_T .int (zC G 32) 31 (fun j => .int (sw j)) (zA G) U (zN G)
theorem zS.moved {G : zG} {key : Nat → Int64} {val may sw : Nat → Int32} {u U : State} (hvm : u.vm.Alike U.vm) (h : zS G key val may sw u) : zS G key val may sw U := by
  obtain ⟨h1, h2, h3, h4, h5, h6⟩ := h
  refine ⟨fun i hi => ?_, h2, h3.moved hvm, h4.moved hvm, h5.moved hvm, h6.moved hvm⟩
  obtain ⟨a, b, c, d, e, f⟩ := h1 i hi
  exact ⟨a.moved hvm, b.moved hvm, c.moved hvm, d.moved hvm, e.moved hvm, f.moved hvm⟩
def zkey (i : Nat) : Int64 := ([0, 0, 26265747, 24426643, 16955493, 4480027956, 4800019, 21015731, 542723566, 3274253491, 86292723, 2350, 8892563, 402611, 755083, 5685913, 17076, 15558, 20681904, 278194, 17171758, 664729, 4583, 3417476, 14836, 1476, 498, 267312, 463922, 8243, 6194] : List Int64).getD i 0
def zval (i : Nat) : Int32 := ([0, 0, 1, 2, 4, 8, 16, 32, 0, 0, 0, 0, 0, 0, 0, 1, 2, 3, 4, 5, 0, 1, 2, 3, -5, -6, -7, -1, -2, -3, -4] : List Int32).getD i 0
def zmay (i : Nat) : Int32 := ([0, 1, 0, 0, 0, 0, 0, 0, 0, 0, 0, 0, 0, 0, 0, 0, 0, 0, 0, 0, 0, 0, 0, 0, 0, 0, 0, 1, 1, 1, 1] : List Int32).getD i 0
def zsw (i : Nat) : Int32 := ([0, 0, 1, 5, 6, 7, 8, 0, 2, 0, 0, 3, 0, 4, 0, 0, 0, 0, 0, 0, 0, 0, 0, 0, 0, 0, 0, 0, 0, 0, 0] : List Int32).getD i 0
abbrev zSs (G : zG) (U : State) : Prop := zS G zkey zval zmay zsw U
def zK (G : zG) (U : State) : Prop := va_K G.1 zcl (ztys G) U ∧ (∀ a i x b, Cond.methodLinkNest a i x b ∈ tables_1 → va_Nw (.methodLinkNest a i x b) U) ∧ zSs G U
theorem zK.warm {G : zG} {s U : State} (hW : s.WarmedH U.vm) (h : zK G s) : zK G U := ⟨h.1.moved hW.alike, fun a i x b hm => va_Nw.warmM hW (h.2.1 a i x b hm), h.2.2.moved hW.alike⟩
theorem zK.same {G : zG} {s U : State} (hv : s.vm = U.vm) (h : zK G s) : zK G U := ⟨h.1.moved (by rw [hv]; exact Vm.Alike.refl _), fun a i x b hm => va_Nw.same rfl hv (h.2.1 a i x b hm), h.2.2.moved (by rw [hv]; exact Vm.Alike.refl _)⟩
/-- the heap holds the row of cells, and what stood ahead of it is as it was -/
def zW (G : zG) (h : zH) (H : Heap) : Prop := (zB G + h.length ≤ H.size ∧ (zC G 40 = 0 → H.size = zB G + h.length)) ∧ (∀ (k : Nat) (e : va_E), h[k]? = some e → va_at G.1 zcl (zB G + k, e) H) ∧ ∀ q, q < zB G → H[q]? = (zN G)[q]?
theorem zW.set {G : zG} {h : zH} {H H1 : Heap} {j : Nat} {e : va_E} (hW : zW G h H) (hz : H1.size = H.size) (ho : ∀ q, q ≠ zB G + j → H1[q]? = H[q]?) (hj : j < h.length) (he : va_at G.1 zcl (zB G + j, e) H1) : zW G (h.set j e) H1 := by
  obtain ⟨h1, h2, h3⟩ := hW
  refine ⟨by rw [hz, List.length_set]; exact h1, fun k x hk => ?_, fun q hq => by rw [ho q (by omega)]; exact h3 q hq⟩
  by_cases hkj : k = j
  · subst hkj
    rw [List.getElem?_set_self hj] at hk
    cases hk
    exact he
  · rw [List.getElem?_set_ne (Ne.symm hkj)] at hk
    exact (h2 k x hk).kept (ho _ (by show zB G + k ≠ zB G + j; omega))
theorem zW.push {G : zG} {h : zH} {H H1 : Heap} {e : va_E} (hx : zC G 40 = 0) (hW : zW G h H) (hz : H1.size = H.size + 1) (ho : ∀ q, q < H.size → H1[q]? = H[q]?) (he : va_at G.1 zcl (zB G + h.length, e) H1) : zW G (h ++ [e]) H1 := by
  obtain ⟨h1, h2, h3⟩ := hW
  replace h1 := h1.2 hx
  have hs : H1.size = zB G + (h ++ [e]).length := by rw [hz, h1, List.length_append]; simp; omega
  refine ⟨⟨by omega, fun _ => hs⟩, fun k x hk => ?_, fun q hq => by rw [ho q (by omega)]; exact h3 q hq⟩
  by_cases hl : k < h.length
  · rw [List.getElem?_append_left hl] at hk
    exact (h2 k x hk).kept (ho _ (by show zB G + k < H.size; omega))
  · rw [List.getElem?_append_right (by omega)] at hk
    have hz2 : k - h.length < 1 := (List.getElem?_eq_some_iff.mp hk).1
    have e0 : k = h.length := by omega
    subst e0
    rw [Nat.sub_self] at hk
    cases hk
    exact he
/-! locals -/
def zL (ls : Array Slot) (nL : Nat) (lv : zLv) : Prop := ls.size = nL ∧ lv_wf ls ∧ lv.length = nL ∧ ∀ (i : Nat) (v : Value), lv[i]? = some (some v) → ls[i]? = some (Slot.val v)
def zp (lv : zLv) : List (Nat × Value) := (List.range lv.length).filterMap (fun j => (lv.getD j none).map (fun w => (j, w)))
theorem zp_mem {lv : zLv} {j : Nat} {v : Value} : (j, v) ∈ zp lv ↔ lv[j]? = some (some v) := by
  unfold zp
  rw [List.mem_filterMap]
  constructor
  · rintro ⟨a, ha, h⟩
    rw [Option.map_eq_some_iff] at h
    obtain ⟨w, hw, e⟩ := h
    cases e
    have hl : j < lv.length := List.mem_range.mp ha
    rw [List.getD_eq_getElem?_getD, List.getElem?_eq_getElem hl] at hw
    rw [List.getElem?_eq_getElem hl]
    exact congrArg some hw
  · intro h
    have hl : j < lv.length := (List.getElem?_eq_some_iff.mp h).1
    refine ⟨j, List.mem_range.mpr hl, ?_⟩
    rw [List.getD_eq_getElem?_getD, h]
    rfl
theorem zL.has {ls : Array Slot} {nL : Nat} {lv : zLv} (h : zL ls nL lv) : lv_has ls nL (zp lv) := ⟨h.1, h.2.1, fun q hq => h.2.2.2 q.1 q.2 (zp_mem.mp hq)⟩
/-- a store takes away the long whose second half it hits -/
def zkl (lv : zLv) (i : Nat) : zLv := match i with
  | 0 => lv
  | i + 1 => match lv[i]? with
    | some (some (.long _)) => lv.set i none
    | some (some (.double _)) => lv.set i none
    | _ => lv
def zs1 (lv : zLv) (i : Nat) (v : Value) : zLv := (zkl lv i).set i (some v)
def zs2 (lv : zLv) (i : Nat) (v : Value) : zLv := ((zkl lv i).set i (some v)).set (i + 1) none
theorem zkl_len (lv : zLv) (i : Nat) : (zkl lv i).length = lv.length := by
  unfold zkl
  split
  · rfl
  · split <;> simp
theorem zkl_get {lv : zLv} {i j : Nat} {w : Value} (h : (zkl lv i)[j]? = some (some w)) : lv[j]? = some (some w) ∧ ¬ (j + 1 = i ∧ w.category = 2) := by
  unfold zkl at h
  split at h
  · exact ⟨h, fun q => by omega⟩
  · rename_i i
    split at h
    · by_cases e : j = i
      · subst e
        rw [List.getElem?_set] at h
        split at h
        · split at h <;> cases h
        · exact absurd rfl ‹_›
      · rw [List.getElem?_set_ne (Ne.symm e)] at h
        exact ⟨h, fun q => by omega⟩
    · by_cases e : j = i
      · subst e
        rw [List.getElem?_set] at h
        split at h
        · split at h <;> cases h
        · exact absurd rfl ‹_›
      · rw [List.getElem?_set_ne (Ne.symm e)] at h
        exact ⟨h, fun q => by omega⟩
    · rename_i n1 n2
      refine ⟨h, fun q => ?_⟩
      have e : j = i := by omega
      subst e
      cases w with
      | long x => exact n1 x h
      | double x => exact n2 x h
      | _ => simp [Value.category] at q
theorem zL.s1 {ls ls' : Array Slot} {nL i : Nat} {lv : zLv} {v : Value} (h : zL ls nL lv) (hl : lv_has ls' nL ((i, v) :: (zp lv).filter (fun q => !(q.1 == i) && !(q.1 + 1 == i && q.2.category == 2)))) : zL ls' nL (zs1 lv i v) := by
  refine ⟨hl.1, hl.2.1, by unfold zs1; rw [List.length_set, zkl_len]; exact h.2.2.1, fun j w hj => ?_⟩
  unfold zs1 at hj
  by_cases e : j = i
  · subst e
    rw [List.getElem?_set] at hj
    split at hj
    · split at hj
      · cases hj
        exact hl.2.2 (j, v) List.mem_cons_self
      · cases hj
    · exact absurd rfl ‹_›
  · rw [List.getElem?_set_ne (Ne.symm e)] at hj
    obtain ⟨h1, h2⟩ := zkl_get hj
    refine hl.2.2 (j, w) (List.mem_cons_of_mem _ (List.mem_filter.mpr ⟨zp_mem.mpr h1, ?_⟩))
    simp only [Bool.and_eq_true, Bool.not_eq_true', beq_eq_false_iff_ne, ne_eq, Bool.and_eq_false_iff]
    refine ⟨e, ?_⟩
    by_cases e1 : j + 1 = i
    · exact Or.inr (fun z => h2 ⟨e1, z⟩)
    · exact Or.inl e1
theorem zL.s2 {ls ls' : Array Slot} {nL i : Nat} {lv : zLv} {v : Value} (h : zL ls nL lv) (hl : lv_has ls' nL ((i, v) :: (zp lv).filter (fun q => !(q.1 == i) && (!(q.1 == i + 1) && !(q.1 + 1 == i && q.2.category == 2))))) : zL ls' nL (zs2 lv i v) := by
  refine ⟨hl.1, hl.2.1, by unfold zs2; rw [List.length_set, List.length_set, zkl_len]; exact h.2.2.1, fun j w hj => ?_⟩
  unfold zs2 at hj
  by_cases e2 : j = i + 1
  · subst e2
    rw [List.getElem?_set] at hj
    split at hj
    · split at hj <;> cases hj
    · exact absurd rfl ‹_›
  rw [List.getElem?_set_ne (Ne.symm e2)] at hj
  by_cases e : j = i
  · subst e
    rw [List.getElem?_set] at hj
    split at hj
    · split at hj
      · cases hj
        exact hl.2.2 (j, v) List.mem_cons_self
      · cases hj
    · exact absurd rfl ‹_›
  · rw [List.getElem?_set_ne (Ne.symm e)] at hj
    obtain ⟨h1, h2⟩ := zkl_get hj
    refine hl.2.2 (j, w) (List.mem_cons_of_mem _ (List.mem_filter.mpr ⟨zp_mem.mpr h1, ?_⟩))
    simp only [Bool.and_eq_true, Bool.not_eq_true', beq_eq_false_iff_ne, ne_eq, Bool.and_eq_false_iff]
    refine ⟨e, e2, ?_⟩
    by_cases e1 : j + 1 = i
    · exact Or.inr (fun z => h2 ⟨e1, z⟩)
    · exact Or.inl e1
/-- the locals at a method's entry -/
def zlo : List Value → zLv
  | [] => []
  | .long x :: vs => some (.long x) :: none :: zlo vs
  | .double x :: vs => some (.double x) :: none :: zlo vs
  | v :: vs => some v :: zlo vs
theorem zlo_mem : ∀ (vs : List Value) (o i : Nat) (v : Value), (zlo vs)[i]? = some (some v) → (o + i, v) ∈ lv_args o vs := by
  intro vs
  induction vs with
  | nil => intro o i v h; simp [zlo] at h
  | cons w vs ih =>
    intro o i v h
    have two : w.category = 2 → (zlo (w :: vs)) = some w :: none :: zlo vs := by
      intro hc
      cases w <;> first | rfl | (simp [Value.category] at hc)
    have one : w.category = 1 → (zlo (w :: vs)) = some w :: zlo vs := by
      intro hc
      cases w <;> first | rfl | (simp [Value.category] at hc)
    unfold lv_args
    rcases lv_cat w with hc | hc
    · rw [one hc] at h
      rw [if_neg (by omega)]
      cases i with
      | zero => simp at h; subst h; exact List.mem_cons_self
      | succ i =>
        rw [List.getElem?_cons_succ] at h
        have := ih (o + 1) i v h
        rw [show o + 1 + i = o + (i + 1) by omega] at this
        exact List.mem_cons_of_mem _ this
    · rw [two hc] at h
      rw [if_pos hc]
      match i, h with
      | 0, h => simp at h; subst h; exact List.mem_cons_self
      | 1, h => simp at h
      | i + 2, h =>
        rw [List.getElem?_cons_succ, List.getElem?_cons_succ] at h
        have := ih (o + 2) i v h
        rw [show o + 2 + i = o + (i + 2) by omega] at this
        exact List.mem_cons_of_mem _ this
theorem zlo_len : ∀ vs : List Value, (zlo vs).length = (lg_sl vs).length := by
  intro vs
  induction vs with
  | nil => simp [zlo, lg_sl]
  | cons w vs ih =>
    have e : (lg_sl (w :: vs)).length = (if w.category = 2 then 2 else 1) + (lg_sl vs).length := by
      unfold lg_sl
      rw [List.flatMap_cons, List.length_append]
      congr 1
      split <;> rfl
    rw [e]
    cases w <;> simp [zlo, ih, Value.category] <;> omega
/-! the judgement -/
abbrev zX : Type := Program × Launch × Env × Room × State × MethodId × Array Value × List Frame × Method × Code
abbrev zXl (X : zX) : Launch := X.2.1
abbrev zXR (X : zX) : Room := X.2.2.2.1
abbrev zXs (X : zX) : State := X.2.2.2.2.1
abbrev zXm (X : zX) : MethodId := X.2.2.2.2.2.1
abbrev zXa (X : zX) : Array Value := X.2.2.2.2.2.2.1
abbrev zXb (X : zX) : List Frame := X.2.2.2.2.2.2.2.1
abbrev zXh (X : zX) : Method := X.2.2.2.2.2.2.2.2.1
abbrev zXc (X : zX) : Code := X.2.2.2.2.2.2.2.2.2
abbrev zWW (X : zX) (H : Heap) (locs : List Loc) (k n : Nat) (Q : State → Prop) (g : JFrame) : Prop := W X.1 (zXl X) X.2.2.1 (zXR X) (zXs X) (zXm X) (zXa X) (zXb X) (zXh X) (zXc X) H locs k n Q g
def zV (G : zG) (X : zX) (Q : State → Prop) (nL : Nat) (lv : zLv) (st : List Value) (h : zH) (pc k n : Nat) : Prop :=
  ∀ (H : Heap) (locs : List Loc) (ls : Array Slot), zW G h H → (∀ q ∈ locs, zB G ≤ q.base) → zL ls nL lv → zWW X H locs k n Q (F0 (zXm X) pc ls st)
abbrev zR (d mc ms : Nat) : Room := { frames := d, cells := mc, slots := ms, locals := 64 * d }
def zle (R : Room) (d mc ms : Nat) : Prop := d ≤ R.frames ∧ 64 * d ≤ R.locals ∧ mc ≤ R.cells ∧ ms ≤ R.slots
/-- what a method's walk stands on -/
def zCt (G : zG) (X : zX) (d mc ms : Nat) (own : String) (cc : ByteArray) (nL : Nat) : Prop :=
  X.1.tables.exec = Jvm.exec ∧ (zXc X).code = cc ∧ (zXc X).maxLocals = nL ∧ (zXs X).vm.findClass own = some (zXm X).cls ∧ (∀ w ∈ ztb, w.before (zXa X) (zXs X) = true) ∧ zK G (zXs X) ∧ (zXh X).locks = false ∧ (zB G ≤ (zXs X).heap.size ∧ ∀ q, q < zB G → (zXs X).heap[q]? = (zN G)[q]?) ∧ zle (zXR X) d mc ms
abbrev zP (G : zG) (av : List Value) (h : zH) : Array Value → State → Prop := va_Pc av (fun U => zW G h U.heap ∧ zK G U)
abbrev zQ (G : zG) (Post : Option Value → zH → Prop) : Array Value → State → Outcome → State → Prop := fun _ _ o t => ∃ (r : Option Value) (h' : zH), o = .returned r ∧ Post r h' ∧ zW G h' t.heap
abbrev zQX (G : zG) (X : zX) (Post : Option Value → zH → Prop) (mc ms : Nat) : State → Prop := MQ (zXb X) (zQ G Post) (zXa X) (zXs X) mc ms (fun q => zB G ≤ q)
/-- a contract: from the heap h, with the arguments av, the method returns, and Post holds of its answer and of the heap behind it -/
def zM (G : zG) (l : Launch) (d mc ms : Nat) (y : MethodName) (cc : ByteArray) (maxL : Nat) (ret : Option FieldType) (av : List Value) (h : zH) (Post : Option Value → zH → Prop) : Prop :=
  Met l y (.code y cc maxL ret :: ztb) (zR d mc ms) (zP G av h) (zQ G Post) mc ms (fun q => zB G ≤ q)
theorem zM.of {G : zG} {l : Launch} {d mc ms : Nat} {y : MethodName} {cc : ByteArray} {maxL : Nat} {ret : Option FieldType} {av : List Value} {h : zH} {Post : Option Value → zH → Prop} (hy : plainName y.cls = true) {lv : zLv} (hlv : zlo av ++ List.replicate (maxL - (zlo av).length) none = lv) (hlen : (zlo av).length ≤ maxL)
    (body : ∀ X : zX, zXl X = l → zCt G X d mc ms y.cls cc maxL → (zXh X).sig.returnType = ret → (zXh X).name = y.name → zV G X (zQX G X Post mc ms) maxL lv [] h 0 0 0) : zM G l d mc ms y cc maxL ret av h Post := by
  refine Met.ofW (cc := cc) (maxL := maxL) (ret := ret) hy rfl ?_
  intro p e s m args below meth c s₁ B hml hv
  obtain ⟨rfl, hW, hK⟩ := hv
  have hts := atoms_spec (ws := .code y cc maxL ret :: ztb) B.pre
  have hown : s.vm.findClass y.cls = some m.cls := findClass_of_methodNamed B.named
  have hl := lv_entry av (n := maxL) (by rw [← zlo_len]; exact hlen)
  rw [lg_entry_eq]
  refine body (p, l, e, zR d mc ms, s, m, av.toArray, below, meth, c) rfl ⟨B.exec, B.bytes, hml, hown, fun w hw => hts w (List.mem_cons_of_mem _ hw), hK, B.notSynchronized, ⟨Nat.le_trans (Nat.le_add_right _ _) hW.1.1, hW.2.2⟩, ⟨Nat.le_refl _, Nat.le_refl _, Nat.le_refl _, Nat.le_refl _⟩⟩ B.returns (name_of_methodNamed B.named B.method).1 s.heap [] _ hW (fun q hq => by cases hq) ⟨hl.1, hl.2.1, ?_, fun i v hi => ?_⟩
  · rw [← hlv, List.length_append, List.length_replicate]; omega
  · rw [← hlv] at hi
    by_cases hi2 : i < (zlo av).length
    · rw [List.getElem?_append_left hi2] at hi
      have := zlo_mem av 0 i v hi
      rw [Nat.zero_add] at this
      exact hl.2.2 (i, v) this
    · rw [List.getElem?_append_right (by omega)] at hi
      have := List.eq_of_mem_replicate (List.mem_of_getElem? hi)
      cases this
theorem zM.mono {G : zG} {l : Launch} {d mc ms : Nat} {y : MethodName} {cc : ByteArray} {maxL : Nat} {ret : Option FieldType} {av : List Value} {h : zH} {Post Post2 : Option Value → zH → Prop} (hM : zM G l d mc ms y cc maxL ret av h Post) (hp : ∀ r h', Post r h' → Post2 r h') : zM G l d mc ms y cc maxL ret av h Post2 := by
  unfold zM Met at *
  exact MetFree.mono hM (fun _ _ h => h) (fun _ _ _ _ _ h => h) (fun a s o t _ h => ⟨by obtain ⟨⟨r, h', e, p, w⟩, -⟩ := h; exact ⟨r, h', e, hp r h' p, w⟩, h.2⟩)
section ZR
variable {G : zG} {X : zX} {Q : State → Prop} {nL : Nat} {lv : zLv} {st : List Value} {h : zH} {pc k n d mc ms : Nat} {own : String} {cc : ByteArray}
theorem zV.at {lv2 : zLv} {st2 : List Value} {h2 : zH} {pc2 : Nat} (hk : zV G X Q nL lv2 st2 h2 pc2 k n) (e1 : lv = lv2) (e2 : st = st2) (e3 : h = h2) (e4 : pc = pc2) : zV G X Q nL lv st h pc k n := by
  subst e1; subst e2; subst e3; subst e4; exact hk
theorem zV.wd {k2 n2 : Nat} (hk : k ≤ k2) (hn : n ≤ n2) (kk : zV G X Q nL lv st h pc k2 n2) : zV G X Q nL lv st h pc k n := fun H locs ls hW hL hl => W.widen hk hn (kk H locs ls hW hL hl)

theorem z_iconst (C : zCt G X d mc ms own cc nL) {i : Int} {v : Int32} (hd : decode cc pc = .ok (.iconst i, 1)) (hv : Int32.ofInt i = v) (kk : zV G X Q nL lv (.int v :: st) h (pc + 1) k n) : zV G X Q nL lv st h pc k n := fun H locs ls hW hL hl => lv_iconst C.1 C.2.1 hd hv (kk H locs ls hW hL hl)
theorem z_bipush (C : zCt G X d mc ms own cc nL) {i : Int} {v : Int32} (hd : decode cc pc = .ok (.bipush i, 2)) (hv : (Int8.ofInt i).toInt32 = v) (kk : zV G X Q nL lv (.int v :: st) h (pc + 2) k n) : zV G X Q nL lv st h pc k n := fun H locs ls hW hL hl => lv_bipush C.1 C.2.1 hd hv (kk H locs ls hW hL hl)
theorem z_sipush (C : zCt G X d mc ms own cc nL) {i : Int} {v : Int32} (hd : decode cc pc = .ok (.sipush i, 3)) (hv : (Int16.ofInt i).toInt32 = v) (kk : zV G X Q nL lv (.int v :: st) h (pc + 3) k n) : zV G X Q nL lv st h pc k n := fun H locs ls hW hL hl => lv_sipush C.1 C.2.1 hd hv (kk H locs ls hW hL hl)
theorem z_lconst (C : zCt G X d mc ms own cc nL) {i : Fin 2} {v : Int64} (hd : decode cc pc = .ok (.lconst i, 1)) (hv : Int64.ofNat (i : Nat) = v) (kk : zV G X Q nL lv (.long v :: st) h (pc + 1) k n) : zV G X Q nL lv st h pc k n := fun H locs ls hW hL hl => lv_lconst C.1 C.2.1 hd hv (kk H locs ls hW hL hl)
theorem z_ldc2 (C : zCt G X d mc ms own cc nL) {i : Nat} {v : Int64} (hd : decode cc pc = .ok (.ldc2_w i, 3)) (hv : Cond.constantLong own i v ∈ ztb) (kk : zV G X Q nL lv (.long v :: st) h (pc + 3) k n) : zV G X Q nL lv st h pc k n := fun H locs ls hW hL hl => lv_ldc2 C.1 C.2.1 C.2.2.2.1 (C.2.2.2.2.1 _ hv) hd (kk H locs ls hW hL hl)
theorem z_ldcw (C : zCt G X d mc ms own cc nL) {i : Nat} {v : Int32} (hd : decode cc pc = .ok (.ldc_w i, 3)) (hv : Cond.constant own i v ∈ ztb) (kk : zV G X Q nL lv (.int v :: st) h (pc + 3) k n) : zV G X Q nL lv st h pc k n := fun H locs ls hW hL hl => lv_ldcw C.1 C.2.1 C.2.2.2.1 (C.2.2.2.2.1 _ hv) hd (kk H locs ls hW hL hl)
theorem z_iload (C : zCt G X d mc ms own cc nL) {i : Nat} {x : Int32} (hd : decode cc pc = .ok (.iload i, 2)) (hv : lv[i]? = some (some (.int x))) (kk : zV G X Q nL lv (.int x :: st) h (pc + 2) k n) : zV G X Q nL lv st h pc k n := fun H locs ls hW hL hl => lv_iload C.1 C.2.1 hd (hl.2.2.2 _ _ hv) (kk H locs ls hW hL hl)
theorem z_iload_n (C : zCt G X d mc ms own cc nL) {i : Fin 4} {x : Int32} (hd : decode cc pc = .ok (.iload_n i, 1)) (hv : lv[(i : Nat)]? = some (some (.int x))) (kk : zV G X Q nL lv (.int x :: st) h (pc + 1) k n) : zV G X Q nL lv st h pc k n := fun H locs ls hW hL hl => lv_iload_n C.1 C.2.1 hd rfl (hl.2.2.2 _ _ hv) (kk H locs ls hW hL hl)
theorem z_istore (C : zCt G X d mc ms own cc nL) {i : Nat} {x : Int32} {lv2 : zLv} (hd : decode cc pc = .ok (.istore i, 2)) (hn : i < nL) (hs : zs1 lv i (.int x) = lv2) (kk : zV G X Q nL lv2 st h (pc + 2) k n) : zV G X Q nL lv (.int x :: st) h pc k n := fun H locs ls hW hL hl => lv_istore C.1 C.2.1 hd hl.has hn rfl (fun ls2 h2 => kk H locs ls2 hW hL (hs ▸ hl.s1 h2))
theorem z_istore_n (C : zCt G X d mc ms own cc nL) {i : Fin 4} {x : Int32} {lv2 : zLv} (hd : decode cc pc = .ok (.istore_n i, 1)) (hn : (i : Nat) < nL) (hs : zs1 lv (i : Nat) (.int x) = lv2) (kk : zV G X Q nL lv2 st h (pc + 1) k n) : zV G X Q nL lv (.int x :: st) h pc k n := fun H locs ls hW hL hl => lv_istore_n C.1 C.2.1 hd rfl hl.has hn rfl (fun ls2 h2 => kk H locs ls2 hW hL (hs ▸ hl.s1 h2))
theorem z_lload (C : zCt G X d mc ms own cc nL) {i : Nat} {x : Int64} (hd : decode cc pc = .ok (.lload i, 2)) (hv : lv[i]? = some (some (.long x))) (kk : zV G X Q nL lv (.long x :: st) h (pc + 2) k n) : zV G X Q nL lv st h pc k n := fun H locs ls hW hL hl => lv_lload C.1 C.2.1 hd (hl.2.2.2 _ _ hv) (kk H locs ls hW hL hl)
theorem z_lload_n (C : zCt G X d mc ms own cc nL) {i : Fin 4} {x : Int64} (hd : decode cc pc = .ok (.lload_n i, 1)) (hv : lv[(i : Nat)]? = some (some (.long x))) (kk : zV G X Q nL lv (.long x :: st) h (pc + 1) k n) : zV G X Q nL lv st h pc k n := fun H locs ls hW hL hl => lv_lload_n C.1 C.2.1 hd rfl (hl.2.2.2 _ _ hv) (kk H locs ls hW hL hl)
theorem z_lstore (C : zCt G X d mc ms own cc nL) {i : Nat} {x : Int64} {lv2 : zLv} (hd : decode cc pc = .ok (.lstore i, 2)) (hn : i + 1 < nL) (hs : zs2 lv i (.long x) = lv2) (kk : zV G X Q nL lv2 st h (pc + 2) k n) : zV G X Q nL lv (.long x :: st) h pc k n := fun H locs ls hW hL hl => lv_lstore C.1 C.2.1 hd hl.has hn rfl (fun ls2 h2 => kk H locs ls2 hW hL (hs ▸ hl.s2 h2))
theorem z_lstore_n (C : zCt G X d mc ms own cc nL) {i : Fin 4} {x : Int64} {lv2 : zLv} (hd : decode cc pc = .ok (.lstore_n i, 1)) (hn : (i : Nat) + 1 < nL) (hs : zs2 lv (i : Nat) (.long x) = lv2) (kk : zV G X Q nL lv2 st h (pc + 1) k n) : zV G X Q nL lv (.long x :: st) h pc k n := fun H locs ls hW hL hl => lv_lstore_n C.1 C.2.1 hd rfl hl.has hn rfl (fun ls2 h2 => kk H locs ls2 hW hL (hs ▸ hl.s2 h2))
theorem z_aload (C : zCt G X d mc ms own cc nL) {i : Nat} {x : Nat} (hd : decode cc pc = .ok (.aload i, 2)) (hv : lv[i]? = some (some (.ref x))) (kk : zV G X Q nL lv (.ref x :: st) h (pc + 2) k n) : zV G X Q nL lv st h pc k n := fun H locs ls hW hL hl => lv_aload C.1 C.2.1 hd (hl.2.2.2 _ _ hv) (kk H locs ls hW hL hl)
theorem z_aload_n (C : zCt G X d mc ms own cc nL) {i : Fin 4} {x : Nat} (hd : decode cc pc = .ok (.aload_n i, 1)) (hv : lv[(i : Nat)]? = some (some (.ref x))) (kk : zV G X Q nL lv (.ref x :: st) h (pc + 1) k n) : zV G X Q nL lv st h pc k n := fun H locs ls hW hL hl => lv_aload_n C.1 C.2.1 hd rfl (hl.2.2.2 _ _ hv) (kk H locs ls hW hL hl)
theorem z_astore (C : zCt G X d mc ms own cc nL) {i : Nat} {x : Nat} {lv2 : zLv} (hd : decode cc pc = .ok (.astore i, 2)) (hn : i < nL) (hs : zs1 lv i (.ref x) = lv2) (kk : zV G X Q nL lv2 st h (pc + 2) k n) : zV G X Q nL lv (.ref x :: st) h pc k n := fun H locs ls hW hL hl => lv_astore C.1 C.2.1 hd hl.has hn rfl (fun ls2 h2 => kk H locs ls2 hW hL (hs ▸ hl.s1 h2))
theorem z_astore_n (C : zCt G X d mc ms own cc nL) {i : Fin 4} {x : Nat} {lv2 : zLv} (hd : decode cc pc = .ok (.astore_n i, 1)) (hn : (i : Nat) < nL) (hs : zs1 lv (i : Nat) (.ref x) = lv2) (kk : zV G X Q nL lv2 st h (pc + 1) k n) : zV G X Q nL lv (.ref x :: st) h pc k n := fun H locs ls hW hL hl => lv_astore_n C.1 C.2.1 hd rfl hl.has hn rfl (fun ls2 h2 => kk H locs ls2 hW hL (hs ▸ hl.s1 h2))
theorem z_iinc (C : zCt G X d mc ms own cc nL) {i : Nat} {a : Int} {x v : Int32} {lv2 : zLv} (hd : decode cc pc = .ok (.iinc i a, 3)) (hx : lv[i]? = some (some (.int x))) (hv : x + Int32.ofInt a = v) (hs : zs1 lv i (.int v) = lv2) (kk : zV G X Q nL lv2 st h (pc + 3) k n) : zV G X Q nL lv st h pc k n := fun H locs ls hW hL hl => by
  have hm : (i, Value.int x) ∈ zp lv := zp_mem.mpr hx
  obtain ⟨j, hj⟩ := List.getElem?_of_mem hm
  have hn : i < nL := by rw [← hl.2.2.1]; exact (List.getElem?_eq_some_iff.mp hx).1
  exact lv_iinc (k := j) C.1 C.2.1 hd hl.has hj hv hn rfl (fun ls2 h2 => kk H locs ls2 hW hL (hs ▸ hl.s1 h2))
theorem z_iadd (C : zCt G X d mc ms own cc nL) {x y : Int32} (hd : decode cc pc = .ok (.iadd, 1)) (kk : zV G X Q nL lv (.int (x + y) :: st) h (pc + 1) k n) : zV G X Q nL lv (.int y :: .int x :: st) h pc k n := fun H locs ls hW hL hl => lv_iadd C.1 C.2.1 hd (kk H locs ls hW hL hl)
theorem z_isub (C : zCt G X d mc ms own cc nL) {x y : Int32} (hd : decode cc pc = .ok (.isub, 1)) (kk : zV G X Q nL lv (.int (x - y) :: st) h (pc + 1) k n) : zV G X Q nL lv (.int y :: .int x :: st) h pc k n := fun H locs ls hW hL hl => lv_isub C.1 C.2.1 hd (kk H locs ls hW hL hl)
theorem z_imul (C : zCt G X d mc ms own cc nL) {x y : Int32} (hd : decode cc pc = .ok (.imul, 1)) (kk : zV G X Q nL lv (.int (x * y) :: st) h (pc + 1) k n) : zV G X Q nL lv (.int y :: .int x :: st) h pc k n := fun H locs ls hW hL hl => lv_imul C.1 C.2.1 hd (kk H locs ls hW hL hl)
theorem z_iand (C : zCt G X d mc ms own cc nL) {x y : Int32} (hd : decode cc pc = .ok (.iand, 1)) (kk : zV G X Q nL lv (.int (x &&& y) :: st) h (pc + 1) k n) : zV G X Q nL lv (.int y :: .int x :: st) h pc k n := fun H locs ls hW hL hl => lv_iand C.1 C.2.1 hd (kk H locs ls hW hL hl)
theorem z_ior (C : zCt G X d mc ms own cc nL) {x y : Int32} (hd : decode cc pc = .ok (.ior, 1)) (kk : zV G X Q nL lv (.int (x ||| y) :: st) h (pc + 1) k n) : zV G X Q nL lv (.int y :: .int x :: st) h pc k n := fun H locs ls hW hL hl => lv_ior C.1 C.2.1 hd (kk H locs ls hW hL hl)
theorem z_ishl (C : zCt G X d mc ms own cc nL) {x y : Int32} (hd : decode cc pc = .ok (.ishl, 1)) (kk : zV G X Q nL lv (.int (x <<< (y &&& 31)) :: st) h (pc + 1) k n) : zV G X Q nL lv (.int y :: .int x :: st) h pc k n := fun H locs ls hW hL hl => lv_ishl C.1 C.2.1 hd (kk H locs ls hW hL hl)
theorem z_ishr (C : zCt G X d mc ms own cc nL) {x y : Int32} (hd : decode cc pc = .ok (.ishr, 1)) (kk : zV G X Q nL lv (.int (x >>> (y &&& 31)) :: st) h (pc + 1) k n) : zV G X Q nL lv (.int y :: .int x :: st) h pc k n := fun H locs ls hW hL hl => lv_ishr C.1 C.2.1 hd (kk H locs ls hW hL hl)
theorem z_idiv (C : zCt G X d mc ms own cc nL) {x y : Int32} (hd : decode cc pc = .ok (.idiv, 1)) (hne : ¬ y = 0) (kk : zV G X Q nL lv (.int (x / y) :: st) h (pc + 1) k n) : zV G X Q nL lv (.int y :: .int x :: st) h pc k n := fun H locs ls hW hL hl => lv_idiv C.1 C.2.1 hd hne (kk H locs ls hW hL hl)
theorem z_irem (C : zCt G X d mc ms own cc nL) {x y : Int32} (hd : decode cc pc = .ok (.irem, 1)) (hne : ¬ y = 0) (kk : zV G X Q nL lv (.int (x - x / y * y) :: st) h (pc + 1) k n) : zV G X Q nL lv (.int y :: .int x :: st) h pc k n := fun H locs ls hW hL hl => lv_irem C.1 C.2.1 hd hne (kk H locs ls hW hL hl)
theorem z_ladd (C : zCt G X d mc ms own cc nL) {x y : Int64} (hd : decode cc pc = .ok (.ladd, 1)) (kk : zV G X Q nL lv (.long (x + y) :: st) h (pc + 1) k n) : zV G X Q nL lv (.long y :: .long x :: st) h pc k n := fun H locs ls hW hL hl => lv_ladd C.1 C.2.1 hd (kk H locs ls hW hL hl)
theorem z_lsub (C : zCt G X d mc ms own cc nL) {x y : Int64} (hd : decode cc pc = .ok (.lsub, 1)) (kk : zV G X Q nL lv (.long (x - y) :: st) h (pc + 1) k n) : zV G X Q nL lv (.long y :: .long x :: st) h pc k n := fun H locs ls hW hL hl => lv_lsub C.1 C.2.1 hd (kk H locs ls hW hL hl)
theorem z_lmul (C : zCt G X d mc ms own cc nL) {x y : Int64} (hd : decode cc pc = .ok (.lmul, 1)) (kk : zV G X Q nL lv (.long (x * y) :: st) h (pc + 1) k n) : zV G X Q nL lv (.long y :: .long x :: st) h pc k n := fun H locs ls hW hL hl => lv_lmul C.1 C.2.1 hd (kk H locs ls hW hL hl)
theorem z_land (C : zCt G X d mc ms own cc nL) {x y : Int64} (hd : decode cc pc = .ok (.land, 1)) (kk : zV G X Q nL lv (.long (x &&& y) :: st) h (pc + 1) k n) : zV G X Q nL lv (.long y :: .long x :: st) h pc k n := fun H locs ls hW hL hl => lv_land C.1 C.2.1 hd (kk H locs ls hW hL hl)
theorem z_lor (C : zCt G X d mc ms own cc nL) {x y : Int64} (hd : decode cc pc = .ok (.lor, 1)) (kk : zV G X Q nL lv (.long (x ||| y) :: st) h (pc + 1) k n) : zV G X Q nL lv (.long y :: .long x :: st) h pc k n := fun H locs ls hW hL hl => lv_lor C.1 C.2.1 hd (kk H locs ls hW hL hl)
theorem z_ldiv (C : zCt G X d mc ms own cc nL) {x y : Int64} (hd : decode cc pc = .ok (.ldiv, 1)) (hne : ¬ y = 0) (kk : zV G X Q nL lv (.long (x / y) :: st) h (pc + 1) k n) : zV G X Q nL lv (.long y :: .long x :: st) h pc k n := fun H locs ls hW hL hl => lv_ldiv C.1 C.2.1 hd hne (kk H locs ls hW hL hl)
theorem z_lrem (C : zCt G X d mc ms own cc nL) {x y : Int64} (hd : decode cc pc = .ok (.lrem, 1)) (hne : ¬ y = 0) (kk : zV G X Q nL lv (.long (x - x / y * y) :: st) h (pc + 1) k n) : zV G X Q nL lv (.long y :: .long x :: st) h pc k n := fun H locs ls hW hL hl => lv_lrem C.1 C.2.1 hd hne (kk H locs ls hW hL hl)
theorem z_iushr (C : zCt G X d mc ms own cc nL) {x y : Int32} (hd : decode cc pc = .ok (.iushr, 1)) (kk : zV G X Q nL lv (.int (x.toUInt32 >>> (y.toUInt32 &&& Int32.toUInt32 31)).toInt32 :: st) h (pc + 1) k n) : zV G X Q nL lv (.int y :: .int x :: st) h pc k n := fun H locs ls hW hL hl => lv_iushr C.1 C.2.1 hd rfl (kk H locs ls hW hL hl)
theorem z_lushr (C : zCt G X d mc ms own cc nL) {x : Int64} {y : Int32} (hd : decode cc pc = .ok (.lushr, 1)) (kk : zV G X Q nL lv (.long (x.toUInt64 >>> (y.toInt64.toUInt64 &&& Int64.toUInt64 63)).toInt64 :: st) h (pc + 1) k n) : zV G X Q nL lv (.int y :: .long x :: st) h pc k n := fun H locs ls hW hL hl => lv_lushr C.1 C.2.1 hd rfl (kk H locs ls hW hL hl)
theorem z_lshl (C : zCt G X d mc ms own cc nL) {x : Int64} {y : Int32} (hd : decode cc pc = .ok (.lshl, 1)) (kk : zV G X Q nL lv (.long (x <<< (y.toInt64 &&& 63)) :: st) h (pc + 1) k n) : zV G X Q nL lv (.int y :: .long x :: st) h pc k n := fun H locs ls hW hL hl => lv_lshl C.1 C.2.1 hd rfl (kk H locs ls hW hL hl)
theorem z_lshr (C : zCt G X d mc ms own cc nL) {x : Int64} {y : Int32} (hd : decode cc pc = .ok (.lshr, 1)) (kk : zV G X Q nL lv (.long (x >>> (y.toInt64 &&& 63)) :: st) h (pc + 1) k n) : zV G X Q nL lv (.int y :: .long x :: st) h pc k n := fun H locs ls hW hL hl => lv_lshr C.1 C.2.1 hd rfl (kk H locs ls hW hL hl)
theorem z_i2l (C : zCt G X d mc ms own cc nL) {x : Int32} (hd : decode cc pc = .ok (.i2l, 1)) (kk : zV G X Q nL lv (.long x.toInt64 :: st) h (pc + 1) k n) : zV G X Q nL lv (.int x :: st) h pc k n := fun H locs ls hW hL hl => lv_i2l C.1 C.2.1 hd rfl (kk H locs ls hW hL hl)
theorem z_l2i (C : zCt G X d mc ms own cc nL) {x : Int64} (hd : decode cc pc = .ok (.l2i, 1)) (kk : zV G X Q nL lv (.int x.toInt32 :: st) h (pc + 1) k n) : zV G X Q nL lv (.long x :: st) h pc k n := fun H locs ls hW hL hl => lv_l2i C.1 C.2.1 hd rfl (kk H locs ls hW hL hl)
theorem z_i2c (C : zCt G X d mc ms own cc nL) {x : Int32} (hd : decode cc pc = .ok (.i2c, 1)) (kk : zV G X Q nL lv (.int (x.toUInt32 % 65536).toInt32 :: st) h (pc + 1) k n) : zV G X Q nL lv (.int x :: st) h pc k n := fun H locs ls hW hL hl => lv_i2c C.1 C.2.1 hd rfl (kk H locs ls hW hL hl)
theorem z_lcmp (C : zCt G X d mc ms own cc nL) {x y : Int64} (hd : decode cc pc = .ok (.lcmp, 1)) (kk : zV G X Q nL lv (.int (lg_cmp x y) :: st) h (pc + 1) k n) : zV G X Q nL lv (.long y :: .long x :: st) h pc k n := fun H locs ls hW hL hl => W.lcmp C.1 C.2.1 hd (kk H locs ls hW hL hl)
theorem z_dup (C : zCt G X d mc ms own cc nL) {va : Value} (hd : decode cc pc = .ok (.dup, 1)) (hc : va.category = 1) (kk : zV G X Q nL lv (va :: va :: st) h (pc + 1) k n) : zV G X Q nL lv (va :: st) h pc k n := fun H locs ls hW hL hl => lv_dup C.1 C.2.1 hd hc (kk H locs ls hW hL hl)
theorem z_pop (C : zCt G X d mc ms own cc nL) {va : Value} (hd : decode cc pc = .ok (.pop, 1)) (hc : va.category = 1) (kk : zV G X Q nL lv st h (pc + 1) k n) : zV G X Q nL lv (va :: st) h pc k n := fun H locs ls hW hL hl => lv_pop C.1 C.2.1 hd hc (kk H locs ls hW hL hl)
theorem z_dup2 (C : zCt G X d mc ms own cc nL) {va vb : Value} (hd : decode cc pc = .ok (.dup2, 1)) (hc : va.category = 1) (hc2 : vb.category = 1) (kk : zV G X Q nL lv (va :: vb :: va :: vb :: st) h (pc + 1) k n) : zV G X Q nL lv (va :: vb :: st) h pc k n := fun H locs ls hW hL hl => lv_dup2_11 C.1 C.2.1 hd hc hc2 (kk H locs ls hW hL hl)
theorem z_goto (C : zCt G X d mc ms own cc nL) {off : Int} (tgt : Nat) (hd : decode cc pc = .ok (.goto off, 3)) (ht : (pc : Int) + off = (tgt : Int)) (kk : zV G X Q nL lv st h tgt k n) : zV G X Q nL lv st h pc k n := fun H locs ls hW hL hl => lv_goto C.1 C.2.1 hd ht (kk H locs ls hW hL hl)
theorem z_if_eq (C : zCt G X d mc ms own cc nL) {x : Int32} {off : Int} (tgt : Nat) (hd : decode cc pc = .ok (.ifCond .eq off, 3)) (ht : (pc : Int) + off = (tgt : Int)) (kt : x = 0 → zV G X Q nL lv st h tgt k n) (kf : ¬ x = 0 → zV G X Q nL lv st h (pc + 3) k n) : zV G X Q nL lv (.int x :: st) h pc k n := fun H locs ls hW hL hl => lv_if_eq C.1 C.2.1 hd ht (fun c => kt c H locs ls hW hL hl) (fun c => kf c H locs ls hW hL hl)
theorem z_icmp_eq (C : zCt G X d mc ms own cc nL) {x y : Int32} {off : Int} (tgt : Nat) (hd : decode cc pc = .ok (.if_icmp .eq off, 3)) (ht : (pc : Int) + off = (tgt : Int)) (kt : x = y → zV G X Q nL lv st h tgt k n) (kf : ¬ x = y → zV G X Q nL lv st h (pc + 3) k n) : zV G X Q nL lv (.int y :: .int x :: st) h pc k n := fun H locs ls hW hL hl => lv_icmp_eq C.1 C.2.1 hd ht (fun c => kt c H locs ls hW hL hl) (fun c => kf c H locs ls hW hL hl)
theorem z_if_ne (C : zCt G X d mc ms own cc nL) {x : Int32} {off : Int} (tgt : Nat) (hd : decode cc pc = .ok (.ifCond .ne off, 3)) (ht : (pc : Int) + off = (tgt : Int)) (kt : ¬ x = 0 → zV G X Q nL lv st h tgt k n) (kf : x = 0 → zV G X Q nL lv st h (pc + 3) k n) : zV G X Q nL lv (.int x :: st) h pc k n := fun H locs ls hW hL hl => lv_if_ne C.1 C.2.1 hd ht (fun c => kt c H locs ls hW hL hl) (fun c => kf c H locs ls hW hL hl)
theorem z_icmp_ne (C : zCt G X d mc ms own cc nL) {x y : Int32} {off : Int} (tgt : Nat) (hd : decode cc pc = .ok (.if_icmp .ne off, 3)) (ht : (pc : Int) + off = (tgt : Int)) (kt : ¬ x = y → zV G X Q nL lv st h tgt k n) (kf : x = y → zV G X Q nL lv st h (pc + 3) k n) : zV G X Q nL lv (.int y :: .int x :: st) h pc k n := fun H locs ls hW hL hl => lv_icmp_ne C.1 C.2.1 hd ht (fun c => kt c H locs ls hW hL hl) (fun c => kf c H locs ls hW hL hl)
theorem z_if_lt (C : zCt G X d mc ms own cc nL) {x : Int32} {off : Int} (tgt : Nat) (hd : decode cc pc = .ok (.ifCond .lt off, 3)) (ht : (pc : Int) + off = (tgt : Int)) (kt : x < 0 → zV G X Q nL lv st h tgt k n) (kf : ¬ x < 0 → zV G X Q nL lv st h (pc + 3) k n) : zV G X Q nL lv (.int x :: st) h pc k n := fun H locs ls hW hL hl => lv_if_lt C.1 C.2.1 hd ht (fun c => kt c H locs ls hW hL hl) (fun c => kf c H locs ls hW hL hl)
theorem z_icmp_lt (C : zCt G X d mc ms own cc nL) {x y : Int32} {off : Int} (tgt : Nat) (hd : decode cc pc = .ok (.if_icmp .lt off, 3)) (ht : (pc : Int) + off = (tgt : Int)) (kt : x < y → zV G X Q nL lv st h tgt k n) (kf : ¬ x < y → zV G X Q nL lv st h (pc + 3) k n) : zV G X Q nL lv (.int y :: .int x :: st) h pc k n := fun H locs ls hW hL hl => lv_icmp_lt C.1 C.2.1 hd ht (fun c => kt c H locs ls hW hL hl) (fun c => kf c H locs ls hW hL hl)
theorem z_if_ge (C : zCt G X d mc ms own cc nL) {x : Int32} {off : Int} (tgt : Nat) (hd : decode cc pc = .ok (.ifCond .ge off, 3)) (ht : (pc : Int) + off = (tgt : Int)) (kt : 0 ≤ x → zV G X Q nL lv st h tgt k n) (kf : ¬ 0 ≤ x → zV G X Q nL lv st h (pc + 3) k n) : zV G X Q nL lv (.int x :: st) h pc k n := fun H locs ls hW hL hl => lv_if_ge C.1 C.2.1 hd ht (fun c => kt c H locs ls hW hL hl) (fun c => kf c H locs ls hW hL hl)
theorem z_icmp_ge (C : zCt G X d mc ms own cc nL) {x y : Int32} {off : Int} (tgt : Nat) (hd : decode cc pc = .ok (.if_icmp .ge off, 3)) (ht : (pc : Int) + off = (tgt : Int)) (kt : y ≤ x → zV G X Q nL lv st h tgt k n) (kf : ¬ y ≤ x → zV G X Q nL lv st h (pc + 3) k n) : zV G X Q nL lv (.int y :: .int x :: st) h pc k n := fun H locs ls hW hL hl => lv_icmp_ge C.1 C.2.1 hd ht (fun c => kt c H locs ls hW hL hl) (fun c => kf c H locs ls hW hL hl)
theorem z_if_gt (C : zCt G X d mc ms own cc nL) {x : Int32} {off : Int} (tgt : Nat) (hd : decode cc pc = .ok (.ifCond .gt off, 3)) (ht : (pc : Int) + off = (tgt : Int)) (kt : 0 < x → zV G X Q nL lv st h tgt k n) (kf : ¬ 0 < x → zV G X Q nL lv st h (pc + 3) k n) : zV G X Q nL lv (.int x :: st) h pc k n := fun H locs ls hW hL hl => lv_if_gt C.1 C.2.1 hd ht (fun c => kt c H locs ls hW hL hl) (fun c => kf c H locs ls hW hL hl)
theorem z_icmp_gt (C : zCt G X d mc ms own cc nL) {x y : Int32} {off : Int} (tgt : Nat) (hd : decode cc pc = .ok (.if_icmp .gt off, 3)) (ht : (pc : Int) + off = (tgt : Int)) (kt : y < x → zV G X Q nL lv st h tgt k n) (kf : ¬ y < x → zV G X Q nL lv st h (pc + 3) k n) : zV G X Q nL lv (.int y :: .int x :: st) h pc k n := fun H locs ls hW hL hl => lv_icmp_gt C.1 C.2.1 hd ht (fun c => kt c H locs ls hW hL hl) (fun c => kf c H locs ls hW hL hl)
theorem z_if_le (C : zCt G X d mc ms own cc nL) {x : Int32} {off : Int} (tgt : Nat) (hd : decode cc pc = .ok (.ifCond .le off, 3)) (ht : (pc : Int) + off = (tgt : Int)) (kt : x ≤ 0 → zV G X Q nL lv st h tgt k n) (kf : ¬ x ≤ 0 → zV G X Q nL lv st h (pc + 3) k n) : zV G X Q nL lv (.int x :: st) h pc k n := fun H locs ls hW hL hl => lv_if_le C.1 C.2.1 hd ht (fun c => kt c H locs ls hW hL hl) (fun c => kf c H locs ls hW hL hl)
theorem z_icmp_le (C : zCt G X d mc ms own cc nL) {x y : Int32} {off : Int} (tgt : Nat) (hd : decode cc pc = .ok (.if_icmp .le off, 3)) (ht : (pc : Int) + off = (tgt : Int)) (kt : x ≤ y → zV G X Q nL lv st h tgt k n) (kf : ¬ x ≤ y → zV G X Q nL lv st h (pc + 3) k n) : zV G X Q nL lv (.int y :: .int x :: st) h pc k n := fun H locs ls hW hL hl => lv_icmp_le C.1 C.2.1 hd ht (fun c => kt c H locs ls hW hL hl) (fun c => kf c H locs ls hW hL hl)
theorem z_acmp_eq (C : zCt G X d mc ms own cc nL) {x y : Nat} {off : Int} (tgt : Nat) (hd : decode cc pc = .ok (.if_acmp .eq off, 3)) (ht : (pc : Int) + off = (tgt : Int)) (kt : x = y → zV G X Q nL lv st h tgt k n) (kf : ¬ x = y → zV G X Q nL lv st h (pc + 3) k n) : zV G X Q nL lv (.ref y :: .ref x :: st) h pc k n := fun H locs ls hW hL hl => lv_acmp_eq (rx := some x) (ry := some y) C.1 C.2.1 hd ht (fun c => kt (Option.some.inj c) H locs ls hW hL hl) (fun c => kf (fun e => c (congrArg some e)) H locs ls hW hL hl)
theorem z_acmp_ne (C : zCt G X d mc ms own cc nL) {x y : Nat} {off : Int} (tgt : Nat) (hd : decode cc pc = .ok (.if_acmp .ne off, 3)) (ht : (pc : Int) + off = (tgt : Int)) (kt : ¬ x = y → zV G X Q nL lv st h tgt k n) (kf : x = y → zV G X Q nL lv st h (pc + 3) k n) : zV G X Q nL lv (.ref y :: .ref x :: st) h pc k n := fun H locs ls hW hL hl => lv_acmp_ne (rx := some x) (ry := some y) C.1 C.2.1 hd ht (fun c => kt (fun e => c (congrArg some e)) H locs ls hW hL hl) (fun c => kf (Option.some.inj c) H locs ls hW hL hl)
theorem z_tabIn (C : zCt G X d mc ms own cc nL) {dflt lo hi : Int} {offs : Array Int} {len : Nat} {x : Int32} {off : Int} (tgt : Nat) (hd : decode cc pc = .ok (.tableswitch dflt lo hi offs, len)) (h1 : ¬ x.toInt < lo) (h2 : ¬ hi < x.toInt) (ho : offs[(x.toInt - lo).toNat]? = some off) (ht : (pc : Int) + off = (tgt : Int)) (kk : zV G X Q nL lv st h tgt k n) : zV G X Q nL lv (.int x :: st) h pc k n := fun H locs ls hW hL hl => lv_tableIn C.1 C.2.1 hd h1 h2 ho ht (kk H locs ls hW hL hl)
theorem z_tabOut (C : zCt G X d mc ms own cc nL) {dflt lo hi : Int} {offs : Array Int} {len : Nat} {x : Int32} (tgt : Nat) (hd : decode cc pc = .ok (.tableswitch dflt lo hi offs, len)) (hx : x.toInt < lo ∨ hi < x.toInt) (ht : (pc : Int) + dflt = (tgt : Int)) (kk : zV G X Q nL lv st h tgt k n) : zV G X Q nL lv (.int x :: st) h pc k n := fun H locs ls hW hL hl => lv_tableOut C.1 C.2.1 hd hx ht (kk H locs ls hW hL hl)
/-- a field of our own classes: class ci of zcl, field kf, named by the entry i of own's pool -/
def zF (own : String) (i ci kf : Nat) : Prop := ∃ (C : String) (T : u_T) (N : Nat), zcl[ci]? = some (C, T, N) ∧ kf < N ∧ (∀ w ∈ u_ws C T N, w ∈ ztb) ∧ Cond.fieldLink own i (T kf).1 (T kf).2.1 (T kf).2.2.1 ∈ ztb
/-- what a write needs of a class -/
def zFw (ci kf : Nat) (fin : Bool) (ty : FieldType) : Prop := ∃ (C : String) (T : u_T) (N : Nat) (ty0 : Nat → FieldType), zcl[ci]? = some (C, T, N) ∧ (∀ k, k < N → parseFieldDescriptor (T k).2.2.1 = some (ty0 k)) ∧ (∀ a, a < N → ∀ b, b < N → a ≠ b → (T a).2.1 ≠ (T b).2.1) ∧ (T kf).2.2.2 = fin ∧ parseFieldDescriptor (T kf).2.2.1 = some ty
theorem z_get (C : zCt G X d mc ms own cc nL) {i j ci kf : Nat} {fs : List Value} {v : Value} (hd : decode cc pc = .ok (.getfield i, 3)) (hf : zF own i ci kf) (hj : h[j]? = some (.inr (ci, fs))) (hv : fs[kf]? = some v) (kk : zV G X Q nL lv (v :: st) h (pc + 3) k n) : zV G X Q nL lv (.ref (zB G + j) :: st) h pc k n := by
  intro H locs ls hW hL hl
  obtain ⟨C0, T, N, hc, hk, hin, hlink⟩ := hf
  obtain ⟨r, h1, cell, q1, q2, q3, q4⟩ := hW.2.1 j _ hj
  have hr : r = (C0, T, N) := Option.some.inj (h1.symm.trans hc)
  subst hr
  obtain ⟨hS, hfc, kC, hkC, hkind⟩ := C.2.2.2.2.2.1.1.1 ci _ hc
  obtain ⟨cf, kf2, fi, f, hi, hsl⟩ := hS kf hk
  refine W.getf C.1 C.2.1 C.2.2.2.1 (C.2.2.2.2.1 _ hlink) hi (u_facts hfc hkC (u_lays C.2.2.2.2.1 hin hk) hi).1 q1 (by rw [q3]; exact fun h => by cases h) (v := v) ?_ rfl rfl hd (kk H locs ls hW hL hl)
  rw [hsl, q4 kf hk]
  simp [vp_V, hv]
theorem z_put (C : zCt G X d mc ms own cc nL) {i j ci kf : Nat} {fs fs2 : List Value} {v : Value} {ty : FieldType} {h2 : zH} (hd : decode cc pc = .ok (.putfield i, 3)) (hf : zF own i ci kf) (hw : zFw ci kf false ty) (hj : h[j]? = some (.inr (ci, fs))) (hn : narrow ty v = v) (hfit : fits ty v = true) (hl2 : kf < fs.length) (e1 : fs.set kf v = fs2) (e2 : h.set j (.inr (ci, fs2)) = h2) (kk : zV G X Q nL lv st h2 (pc + 3) k n) : zV G X Q nL lv (v :: .ref (zB G + j) :: st) h pc k n := by
  intro H locs ls hW hL hl
  obtain ⟨C0, T, N, hc, hk, hin, hlink⟩ := hf
  obtain ⟨C1, T1, N1, ty0, hc1, hty, hnm, hfin, hd0⟩ := hw
  cases hc.symm.trans hc1
  have hts := C.2.2.2.2.1
  have hK := C.2.2.2.2.2.1.1
  have hap := va_apart (own := own) hts hin ty0 hty hnm hK hc
  obtain ⟨r, h1, cell, q1, q2, q3, q4⟩ := hW.2.1 j _ hj
  have hr : r = (C0, T, N) := Option.some.inj (h1.symm.trans hc)
  subst hr
  obtain ⟨hS, hfc, kC, hkC, hkind⟩ := hK.1 ci _ hc
  obtain ⟨cf, kf2, fi, f, hi, hsl⟩ := hS kf hk
  have hlay := hts _ (hin _ (u_in_lay hk))
  unfold u_lay at hlay
  rw [if_neg (by rw [hfin]; decide)] at hlay
  have hst := (u_facts hfc hkC (u_lays hts hin hk) hi).1
  have h6 := u_store hfc hkC hkind hlay hi hd0 hn hfit
  refine W.putK C.1 C.2.1 (f := f) ⟨C.2.2.2.1, hts _ hlink, ⟨_, _, _, hi⟩, hst⟩ (by rw [q2]; exact h6) q1 q3 (by rw [hsl]; exact k2_hasslot (q4 kf hk)) rfl rfl hd fun H' g1 g2 g3 => ?_
  rw [hsl] at g1 ⊢
  have hlt : j < h.length := (List.getElem?_eq_some_iff.mp hj).1
  refine kk H' _ ls ?_ (fun q hq => ?_) hl
  · rw [← e2, ← e1]
    exact hW.set g2 g3 hlt ⟨_, hc, t_OB.to (V := updV (vp_V fs) kf v) ⟨_, g1, q2, q3, t_set q4 hap hk v⟩ (fun j _ => vp_updV_set hl2 v j)⟩
  · rcases List.mem_append.mp hq with h | h
    · exact hL q h
    · rw [List.mem_singleton.mp h]; exact Nat.le_add_right _ _
theorem z_putF (C : zCt G X d mc ms own cc nL) {i j ci kf : Nat} {fs fs2 : List Value} {v : Value} {ty : FieldType} {h2 : zH} (hnm0 : (zXh X).name = "<init>") (hd : decode cc pc = .ok (.putfield i, 3)) (hf : zF own i ci kf) (hw : zFw ci kf true ty) (hown : ∃ (C : String) (T : u_T) (N : Nat), zcl[ci]? = some (C, T, N) ∧ (T kf).1 = own) (hj : h[j]? = some (.inr (ci, fs))) (hn : narrow ty v = v) (hfit : fits ty v = true) (hl2 : kf < fs.length) (e1 : fs.set kf v = fs2) (e2 : h.set j (.inr (ci, fs2)) = h2) (kk : zV G X Q nL lv st h2 (pc + 3) k n) : zV G X Q nL lv (v :: .ref (zB G + j) :: st) h pc k n := by
  intro H locs ls hW hL hl
  obtain ⟨C0, T, N, hc, hk, hin, hlink⟩ := hf
  obtain ⟨C1, T1, N1, ty0, hc1, hty, hnm, hfin, hd0⟩ := hw
  cases hc.symm.trans hc1
  obtain ⟨C1, T1, N1, hc1, hdecl⟩ := hown
  cases hc.symm.trans hc1
  have hts := C.2.2.2.2.1
  have hK := C.2.2.2.2.2.1.1
  have hap := va_apart (own := own) hts hin ty0 hty hnm hK hc
  obtain ⟨r, h1, cell, q1, q2, q3, q4⟩ := hW.2.1 j _ hj
  have hr : r = (C0, T, N) := Option.some.inj (h1.symm.trans hc)
  subst hr
  obtain ⟨hS, hfc, kC, hkC, hkind⟩ := hK.1 ci _ hc
  obtain ⟨cf, kf2, fi, f, hi, hsl⟩ := hS kf hk
  have hlay := hts _ (hin _ (u_in_lay hk))
  unfold u_lay at hlay
  rw [if_pos hfin] at hlay
  have hst := (u_facts hfc hkC (u_lays hts hin hk) hi).1
  have hcf : (zXm X).cls = cf := by
    obtain ⟨_, _, c', _, _, _, -, -, hf', -, -, -, hown2, -⟩ := Cond.laysFinal_spec hlay
    have e1 : c' = cf := by have := hi.symm.trans hf'; simp at this; exact this.1.symm
    rw [hdecl] at hown2
    rw [← e1]; exact Option.some.inj (C.2.2.2.1.symm.trans hown2)
  have h6 := u_fits hfc hkC hkind (Or.inr hlay) hi hd0 hn hfit
  refine W.putFinK C.1 C.2.1 C.2.2.2.1 (hts _ hlink) hi hst hcf hnm0 (by rw [q2]; exact h6) q1 q3 (by rw [hsl]; exact k2_hasslot (q4 kf hk)) rfl rfl hd fun H' g1 g2 g3 => ?_
  rw [hsl] at g1 ⊢
  have hlt : j < h.length := (List.getElem?_eq_some_iff.mp hj).1
  refine kk H' _ ls ?_ (fun q hq => ?_) hl
  · rw [← e2, ← e1]
    exact hW.set g2 g3 hlt ⟨_, hc, t_OB.to (V := updV (vp_V fs) kf v) ⟨_, g1, q2, q3, t_set q4 hap hk v⟩ (fun j _ => vp_updV_set hl2 v j)⟩
  · rcases List.mem_append.mp hq with h | h
    · exact hL q h
    · rw [List.mem_singleton.mp h]; exact Nat.le_add_right _ _
theorem z_iald (C : zCt G X d mc ms own cc nL) {j N : Nat} {f : Nat → Int32} {i : Int32} (hd : decode cc pc = .ok (.iaload, 1)) (hj : h[j]? = some (.inl (zT G 0, N, .inl f))) (hin : vp_in i N) (kk : zV G X Q nL lv (.int (f i.toNatClampNeg) :: st) h (pc + 1) k n) : zV G X Q nL lv (.int i :: .ref (zB G + j) :: st) h pc k n := by
  intro H locs ls hW hL hl
  have hlt : i.toNatClampNeg < N := Nat.not_le.mp fun q => hin (Or.inr q)
  exact W.iald (v := .int (f i.toNatClampNeg)) C.1 C.2.1 (hW.2.1 j _ hj) ((C.2.2.2.2.2.1.1.2 0 (zT G 0, .int) rfl).1 N (fun j => .int (f j))) (fun q => by cases q) (by show ¬ (i < 0 ∨ (arrV _ _ _).slots.size ≤ _); rw [arrV_size]; exact hin) (by show (arrV _ _ _).slots[_]? = _; rw [arrV_read _ _ hlt]) rfl rfl hd (kk H locs ls hW hL hl)
theorem z_cald (C : zCt G X d mc ms own cc nL) {j N : Nat} {f : Nat → Int32} {i : Int32} (hd : decode cc pc = .ok (.caload, 1)) (hj : h[j]? = some (.inl (zT G 2, N, .inl f))) (hin : vp_in i N) (kk : zV G X Q nL lv (.int (f i.toNatClampNeg) :: st) h (pc + 1) k n) : zV G X Q nL lv (.int i :: .ref (zB G + j) :: st) h pc k n := by
  intro H locs ls hW hL hl
  have hlt : i.toNatClampNeg < N := Nat.not_le.mp fun q => hin (Or.inr q)
  exact W.cald (v := .int (f i.toNatClampNeg)) C.1 C.2.1 (hW.2.1 j _ hj) ((C.2.2.2.2.2.1.1.2 2 (zT G 2, .char) rfl).1 N (fun j => .int (f j))) (fun q => by cases q) (by show ¬ (i < 0 ∨ (arrV _ _ _).slots.size ≤ _); rw [arrV_size]; exact hin) (by show (arrV _ _ _).slots[_]? = _; rw [arrV_read _ _ hlt]) rfl rfl hd (kk H locs ls hW hL hl)
theorem z_zald (C : zCt G X d mc ms own cc nL) {j N : Nat} {f : Nat → Int32} {i : Int32} (hd : decode cc pc = .ok (.baload, 1)) (hj : h[j]? = some (.inl (zT G 3, N, .inl f))) (hin : vp_in i N) (kk : zV G X Q nL lv (.int (f i.toNatClampNeg) :: st) h (pc + 1) k n) : zV G X Q nL lv (.int i :: .ref (zB G + j) :: st) h pc k n := by
  intro H locs ls hW hL hl
  have hlt : i.toNatClampNeg < N := Nat.not_le.mp fun q => hin (Or.inr q)
  exact W.zald (v := .int (f i.toNatClampNeg)) C.1 C.2.1 (hW.2.1 j _ hj) ((C.2.2.2.2.2.1.1.2 3 (zT G 3, .boolean) rfl).1 N (fun j => .int (f j))) (fun q => by cases q) (by show ¬ (i < 0 ∨ (arrV _ _ _).slots.size ≤ _); rw [arrV_size]; exact hin) (by show (arrV _ _ _).slots[_]? = _; rw [arrV_read _ _ hlt]) rfl rfl hd (kk H locs ls hW hL hl)
theorem z_lald (C : zCt G X d mc ms own cc nL) {j N : Nat} {f : Nat → Int64} {i : Int32} (hd : decode cc pc = .ok (.laload, 1)) (hj : h[j]? = some (.inl (zT G 1, N, .inr (.inl f)))) (hin : vp_in i N) (kk : zV G X Q nL lv (.long (f i.toNatClampNeg) :: st) h (pc + 1) k n) : zV G X Q nL lv (.int i :: .ref (zB G + j) :: st) h pc k n := by
  intro H locs ls hW hL hl
  have hlt : i.toNatClampNeg < N := Nat.not_le.mp fun q => hin (Or.inr q)
  exact W.lald (v := .long (f i.toNatClampNeg)) C.1 C.2.1 (hW.2.1 j _ hj) ((C.2.2.2.2.2.1.1.2 1 (zT G 1, .long) rfl).1 N (fun j => .long (f j))) (fun q => by cases q) (by show ¬ (i < 0 ∨ (arrV _ _ _).slots.size ≤ _); rw [arrV_size]; exact hin) (by show (arrV _ _ _).slots[_]? = _; rw [arrV_read _ _ hlt]) rfl rfl hd (kk H locs ls hW hL hl)
theorem z_iast (C : zCt G X d mc ms own cc nL) {j N : Nat} {f f2 : Nat → Int32} {i : Int32} {x : Int32} {h2 : zH} (hd : decode cc pc = .ok (.iastore, 1)) (hj : h[j]? = some (.inl (zT G 0, N, .inl f))) (hin : vp_in i N) (e1 : upd f i.toNatClampNeg x = f2) (e2 : h.set j (.inl (zT G 0, N, .inl f2)) = h2) (kk : zV G X Q nL lv st h2 (pc + 1) k n) : zV G X Q nL lv (.int x :: .int i :: .ref (zB G + j) :: st) h pc k n := by
  intro H locs ls hW hL hl
  refine W.iast C.1 C.2.1 (hW.2.1 j _ hj) ((C.2.2.2.2.2.1.1.2 0 (zT G 0, .int) rfl).1 N (fun j => .int (f j))) (fun q => by cases q) (by show ¬ (i < 0 ∨ (arrV _ _ _).slots.size ≤ _); rw [arrV_size]; exact hin) rfl rfl hd fun H1 e z oq => ?_
  have hlt : j < h.length := (List.getElem?_eq_some_iff.mp hj).1
  refine kk H1 _ ls ?_ (fun q hq => ?_) hl
  · rw [← e2, ← e1]
    refine hW.set z oq hlt ?_
    show H1[zB G + j]? = some (vp_cell _ _)
    rw [e, vp_cell_i, vp_cell_i, arrV_store]
    congr 2
    funext q
    by_cases hq : q = i.toNatClampNeg
    · subst hq
      simp [updV, upd]
    · simp [updV, upd, hq]
  · rcases List.mem_append.mp hq with h | h
    · exact hL q h
    · rw [List.mem_singleton.mp h]; exact Nat.le_add_right _ _
theorem z_cast (C : zCt G X d mc ms own cc nL) {j N : Nat} {f f2 : Nat → Int32} {i : Int32} {x : Int32} {h2 : zH} (hd : decode cc pc = .ok (.castore, 1)) (hj : h[j]? = some (.inl (zT G 2, N, .inl f))) (hin : vp_in i N) (e1 : upd f i.toNatClampNeg (vp_nar .char x) = f2) (e2 : h.set j (.inl (zT G 2, N, .inl f2)) = h2) (kk : zV G X Q nL lv st h2 (pc + 1) k n) : zV G X Q nL lv (.int x :: .int i :: .ref (zB G + j) :: st) h pc k n := by
  intro H locs ls hW hL hl
  refine W.cast C.1 C.2.1 (hW.2.1 j _ hj) ((C.2.2.2.2.2.1.1.2 2 (zT G 2, .char) rfl).1 N (fun j => .int (f j))) (fun q => by cases q) (by show ¬ (i < 0 ∨ (arrV _ _ _).slots.size ≤ _); rw [arrV_size]; exact hin) rfl rfl hd fun H1 e z oq => ?_
  have hlt : j < h.length := (List.getElem?_eq_some_iff.mp hj).1
  refine kk H1 _ ls ?_ (fun q hq => ?_) hl
  · rw [← e2, ← e1]
    refine hW.set z oq hlt ?_
    show H1[zB G + j]? = some (vp_cell _ _)
    rw [e, vp_cell_i, vp_cell_i, arrV_store]
    congr 2
    funext q
    by_cases hq : q = i.toNatClampNeg
    · subst hq
      simp [updV, upd, vp_nar, narrow]
    · simp [updV, upd, vp_nar, narrow, hq]
  · rcases List.mem_append.mp hq with h | h
    · exact hL q h
    · rw [List.mem_singleton.mp h]; exact Nat.le_add_right _ _
theorem z_zast (C : zCt G X d mc ms own cc nL) {j N : Nat} {f f2 : Nat → Int32} {i : Int32} {x : Int32} {h2 : zH} (hd : decode cc pc = .ok (.bastore, 1)) (hj : h[j]? = some (.inl (zT G 3, N, .inl f))) (hin : vp_in i N) (e1 : upd f i.toNatClampNeg (vp_nar .boolean x) = f2) (e2 : h.set j (.inl (zT G 3, N, .inl f2)) = h2) (kk : zV G X Q nL lv st h2 (pc + 1) k n) : zV G X Q nL lv (.int x :: .int i :: .ref (zB G + j) :: st) h pc k n := by
  intro H locs ls hW hL hl
  refine W.zast C.1 C.2.1 (hW.2.1 j _ hj) ((C.2.2.2.2.2.1.1.2 3 (zT G 3, .boolean) rfl).1 N (fun j => .int (f j))) (fun q => by cases q) (by show ¬ (i < 0 ∨ (arrV _ _ _).slots.size ≤ _); rw [arrV_size]; exact hin) rfl rfl hd fun H1 e z oq => ?_
  have hlt : j < h.length := (List.getElem?_eq_some_iff.mp hj).1
  refine kk H1 _ ls ?_ (fun q hq => ?_) hl
  · rw [← e2, ← e1]
    refine hW.set z oq hlt ?_
    show H1[zB G + j]? = some (vp_cell _ _)
    rw [e, vp_cell_i, vp_cell_i, arrV_store]
    congr 2
    funext q
    by_cases hq : q = i.toNatClampNeg
    · subst hq
      simp [updV, upd, vp_nar, narrow]
    · simp [updV, upd, vp_nar, narrow, hq]
  · rcases List.mem_append.mp hq with h | h
    · exact hL q h
    · rw [List.mem_singleton.mp h]; exact Nat.le_add_right _ _
theorem z_last (C : zCt G X d mc ms own cc nL) {j N : Nat} {f f2 : Nat → Int64} {i : Int32} {x : Int64} {h2 : zH} (hd : decode cc pc = .ok (.lastore, 1)) (hj : h[j]? = some (.inl (zT G 1, N, .inr (.inl f)))) (hin : vp_in i N) (e1 : vp_updL f i.toNatClampNeg x = f2) (e2 : h.set j (.inl (zT G 1, N, .inr (.inl f2))) = h2) (kk : zV G X Q nL lv st h2 (pc + 1) k n) : zV G X Q nL lv (.long x :: .int i :: .ref (zB G + j) :: st) h pc k n := by
  intro H locs ls hW hL hl
  refine W.last C.1 C.2.1 (hW.2.1 j _ hj) ((C.2.2.2.2.2.1.1.2 1 (zT G 1, .long) rfl).1 N (fun j => .long (f j))) (fun q => by cases q) (by show ¬ (i < 0 ∨ (arrV _ _ _).slots.size ≤ _); rw [arrV_size]; exact hin) rfl rfl hd fun H1 e z oq => ?_
  have hlt : j < h.length := (List.getElem?_eq_some_iff.mp hj).1
  refine kk H1 _ ls ?_ (fun q hq => ?_) hl
  · rw [← e2, ← e1]
    refine hW.set z oq hlt ?_
    show H1[zB G + j]? = some (vp_cell _ _)
    rw [e, vp_cell_l, vp_cell_l, arrV_store]
    congr 2
    funext q
    by_cases hq : q = i.toNatClampNeg
    · subst hq
      simp [updV, vp_updL]
    · simp [updV, vp_updL, hq]
  · rcases List.mem_append.mp hq with h | h
    · exact hL q h
    · rw [List.mem_singleton.mp h]; exact Nat.le_add_right _ _
theorem z_aald (C : zCt G X d mc ms own cc nL) {j N t a : Nat} {ty : FieldType} {f : Nat → Option Nat} {i : Int32} (hd : decode cc pc = .ok (.aaload, 1)) (hj : h[j]? = some (.inl (zT G t, N, .inr (.inr (.inr (.inr f)))))) (ht : (ztys G)[t]? = some (zT G t, ty)) (hr : ty.isReference = true) (hin : vp_in i N) (hv : f i.toNatClampNeg = some a) (kk : zV G X Q nL lv (.ref a :: st) h (pc + 1) k n) : zV G X Q nL lv (.int i :: .ref (zB G + j) :: st) h pc k n := by
  intro H locs ls hW hL hl
  have hlt : i.toNatClampNeg < N := Nat.not_le.mp fun q => hin (Or.inr q)
  exact W.aald (v := .ref a) C.1 C.2.1 (hW.2.1 j _ hj) ((C.2.2.2.2.2.1.1.2 t (zT G t, ty) ht).1 N (fun j => va_rf (f j))) hr (fun q => by cases q) (by show ¬ (i < 0 ∨ (arrV _ _ _).slots.size ≤ _); rw [arrV_size]; exact hin) (by show (arrV _ _ _).slots[_]? = _; rw [arrV_read _ _ hlt, hv]; rfl) rfl rfl hd (kk H locs ls hW hL hl)
theorem z_alen (C : zCt G X d mc ms own cc nL) {j t : Nat} {ty : FieldType} {x : vp_A} {v : Int32} (hd : decode cc pc = .ok (.arraylength, 1)) (hj : h[j]? = some (.inl (zT G t, x))) (ht : (ztys G)[t]? = some (zT G t, ty)) (hv : Int32.ofNat x.1 = v) (kk : zV G X Q nL lv (.int v :: st) h (pc + 1) k n) : zV G X Q nL lv (.ref (zB G + j) :: st) h pc k n := by
  intro H locs ls hW hL hl
  subst hv
  obtain ⟨n, f | f | f | f | f⟩ := x
  · exact W.alen (n := Int32.ofNat n) C.1 C.2.1 (hW.2.1 j _ hj) ((C.2.2.2.2.2.1.1.2 t _ ht).1 n (fun j => .int (f j))) (by rw [vp_cell_i, arrV_size] <;> rfl) rfl rfl hd (kk H locs ls hW hL hl)
  · exact W.alen (n := Int32.ofNat n) C.1 C.2.1 (hW.2.1 j _ hj) ((C.2.2.2.2.2.1.1.2 t _ ht).1 n (fun j => .long (f j))) (by rw [vp_cell_l, arrV_size] <;> rfl) rfl rfl hd (kk H locs ls hW hL hl)
  · exact W.alen (n := Int32.ofNat n) C.1 C.2.1 (hW.2.1 j _ hj) ((C.2.2.2.2.2.1.1.2 t _ ht).1 n (fun j => .float (f j))) (by rw [vp_cell_f, arrV_size] <;> rfl) rfl rfl hd (kk H locs ls hW hL hl)
  · exact W.alen (n := Int32.ofNat n) C.1 C.2.1 (hW.2.1 j _ hj) ((C.2.2.2.2.2.1.1.2 t _ ht).1 n (fun j => .double (f j))) (by rw [vp_cell_d, arrV_size] <;> rfl) rfl rfl hd (kk H locs ls hW hL hl)
  · exact W.alen (n := Int32.ofNat n) C.1 C.2.1 (hW.2.1 j _ hj) ((C.2.2.2.2.2.1.1.2 t _ ht).1 n (fun j => va_rf (f j))) (by rw [vp_cell_q, arrV_size] <;> rfl) rfl rfl hd (kk H locs ls hW hL hl)
theorem z_iret {Post : Option Value → zH → Prop} (C : zCt G X d mc ms own cc nL) {v : Int32} (hr : (zXh X).sig.returnType = some .int) (hd : decode cc pc = .ok (.ireturn, 1)) (hp : Post (some (.int v)) h) : zV G X (zQX G X Post k n) nL lv [.int v] h pc k n := fun H locs ls hW hL hl => W.iret C.1 C.2.1 hr (fun t ht _ => ⟨_, h, rfl, hp, by rw [ht]; exact hW⟩) hL hd C.2.2.2.2.2.2.1
theorem z_zret {Post : Option Value → zH → Prop} (C : zCt G X d mc ms own cc nL) {v : Int32} (hr : (zXh X).sig.returnType = some .boolean) (hn : narrow .boolean (.int v) = .int v) (hd : decode cc pc = .ok (.ireturn, 1)) (hp : Post (some (.int v)) h) : zV G X (zQX G X Post k n) nL lv [.int v] h pc k n := fun H locs ls hW hL hl => W.zret C.1 C.2.1 hr hn (fun t ht _ => ⟨_, h, rfl, hp, by rw [ht]; exact hW⟩) hL hd C.2.2.2.2.2.2.1
theorem z_lret {Post : Option Value → zH → Prop} (C : zCt G X d mc ms own cc nL) {v : Int64} (hr : (zXh X).sig.returnType = some .long) (hd : decode cc pc = .ok (.lreturn, 1)) (hp : Post (some (.long v)) h) : zV G X (zQX G X Post k n) nL lv [.long v] h pc k n := fun H locs ls hW hL hl => W.lret C.1 C.2.1 hr (fun t ht _ => ⟨_, h, rfl, hp, by rw [ht]; exact hW⟩) hL hd C.2.2.2.2.2.2.1
theorem z_vret {Post : Option Value → zH → Prop} (C : zCt G X d mc ms own cc nL)  (hr : (zXh X).sig.returnType = none) (hd : decode cc pc = .ok (.return_, 1)) (hp : Post none h) : zV G X (zQX G X Post k n) nL lv [] h pc k n := fun H locs ls hW hL hl => W.vret C.1 C.2.1 hr (fun t ht _ => ⟨_, h, rfl, hp, by rw [ht]; exact hW⟩) hL hd C.2.2.2.2.2.2.1
theorem z_aret {Post : Option Value → zH → Prop} (C : zCt G X d mc ms own cc nL) {a : Nat} {rt : FieldType} (hr : (zXh X).sig.returnType = some rt) (hrt : (∃ n, rt = .object n) ∨ ∃ t, rt = .array t) (hd : decode cc pc = .ok (.areturn, 1)) (hp : Post (some (.ref a)) h) : zV G X (zQX G X Post k n) nL lv [.ref a] h pc k n := fun H locs ls hW hL hl => W.aret C.1 C.2.1 hr hrt (Or.inr ⟨a, rfl⟩) (fun t ht _ => ⟨_, h, rfl, hp, by rw [ht]; exact hW⟩) hL hd C.2.2.2.2.2.2.1
/-- a method of ours, as the tables have it -/
def zY (y : MethodName) (cy : ByteArray) (maxL : Nat) (ret : Option FieldType) (na : Nat) : Prop := (y.cls ≠ "java/lang/invoke/MethodHandle" ∧ y.cls ≠ "java/lang/invoke/VarHandle" ∧ (parseMethodDescriptor y.desc).map (fun d => d.parameters.length) = some na) ∧ Cond.code y cy maxL ret ∈ ztb ∧ Cond.initialized y.cls ∈ ztb ∧ maxL ≤ 45
def zYv (y : MethodName) : Prop := Cond.instanceMethod y ∈ ztb ∧ Cond.selects y.cls y y ∈ ztb
theorem z_gi {y : MethodName} {cy : ByteArray} {maxL : Nat} {ret : Option FieldType} (hc : Cond.code y cy maxL ret ∈ ztb) : GoodIn ztb (.code y cy maxL ret :: ztb) := fun w hw => by
  rcases List.mem_cons.mp hw with rfl | hw
  · exact ⟨hc, ztb_good _ hc⟩
  · exact ⟨hw, ztb_good _ hw⟩
theorem z_cb (C : zCt G X d mc ms own cc nL) {y : MethodName} {cy : ByteArray} {maxL na d2 mc2 ms2 i : Nat} {ret : Option FieldType} (hy : zY y cy maxL ret na) (hlink : Cond.methodLink own i y ∈ ztb) (hd2 : d2 < d) : CallB (zXR X) (zXs X) (zXa X) own i y cy maxL ret (.code y cy maxL ret :: ztb) (zR d2 mc2 ms2) mc2 ms2 na := by
  obtain ⟨hd, hc, hi, hm⟩ := hy
  refine callB_of na C.2.2.2.2.1 (z_gi hc) rfl rfl rfl (C.2.2.2.2.1 _ hi) (C.2.2.2.2.1 _ hlink) hd ?_
  have hR := C.2.2.2.2.2.2.2.2
  exact ⟨Nat.le_trans hd2 hR.1, by have := hR.2.1; show 8 + (maxL + 11) + 64 * d2 ≤ (zXR X).locals; omega⟩
theorem z_cn (C : zCt G X d mc ms own cc nL) {y : MethodName} {cy : ByteArray} {maxL na d2 mc2 ms2 i : Nat} {ret : Option FieldType} {host : String} (hy : zY y cy maxL ret na) (hlink : Cond.methodLinkNest own i y host ∈ tables_1) (hd2 : d2 < d) : va_CN (zXR X) (zXs X) (zXa X) own i y host cy maxL ret (.code y cy maxL ret :: ztb) (zR d2 mc2 ms2) mc2 ms2 na := by
  obtain ⟨hd, hc, hi, hm⟩ := hy
  refine va_cnB na C.2.2.2.2.1 (z_gi hc) rfl rfl rfl (C.2.2.2.2.2.1.2.1 _ _ _ _ hlink) (C.2.2.2.2.1 _ hi) hd ?_
  have hR := C.2.2.2.2.2.2.2.2
  exact ⟨Nat.le_trans hd2 hR.1, by have := hR.2.1; show 8 + (maxL + 11) + 64 * d2 ≤ (zXR X).locals; omega⟩
theorem zP.blind {av : List Value} {h0 : zH} : FrameBlind (zP G av h0) := fun a U g mk q => ⟨q.1, q.2.1, q.2.2.same rfl⟩
theorem z_run {Post : Option Value → zH → Prop} {H : Heap} {locs : List Loc} {ls : Array Slot} {st0 rest : List Value} {a : Array Value} {mc2 ms2 : Nat} (hr : va_Run X.1 (zXl X) X.2.2.1 (zXR X) (zXs X) (zXm X) (zXa X) (zXb X) (zXh X) (zXc X) H locs k n mc2 ms2 (F0 (zXm X) pc ls st0) rest (zQ G Post a) (fun q => zB G ≤ q)) (hL : ∀ q ∈ locs, zB G ≤ q.base) (hl : zL ls nL lv)
    (kk : ∀ r h2, Post r h2 → zV G X Q nL lv (r.toList ++ rest) h2 (pc + 3) (k + mc2) (n + ms2)) : zWW X H locs k n Q (F0 (zXm X) pc ls st0) := by
  intro T hT Xs
  obtain ⟨v, st₀, t, T', L, h0, X', hL', e1, e2, ⟨r, h2, hv, hp, hw⟩, st⟩ := hr T hT Xs
  cases hv
  obtain ⟨t2, a1, b1⟩ := kk v h2 hp T'.heap (locs ++ L) ls (by rw [e1]; exact hw) (fun q hq => by
    rcases List.mem_append.mp hq with h | h
    · exact hL q h
    · exact hL' q h) hl T' rfl X'
  exact ⟨t2, st t2 a1, b1⟩
theorem z_recv (C : zCt G X d mc ms own cc nL) {H : Heap} {j ci : Nat} {fs : List Value} {C0 : String} {T0 : u_T} {N0 : Nat} (hW : zW G h H) (hj : h[j]? = some (.inr (ci, fs))) (hc : zcl[ci]? = some (C0, T0, N0)) : ∃ cell : Cell, H[zB G + j]? = some cell ∧ cell.vm.isStatics = false ∧ (zXs X).vm.findClass C0 = some cell.cls := by
  obtain ⟨q', h1, cell, g1, g2, g3, -⟩ := hW.2.1 j _ hj
  exact ⟨cell, g1, by rw [g3]; rfl, by rw [g2]; exact (C.2.2.2.2.2.1.1.1 ci _ hc).2.1⟩
section ZCALL
variable {Post : Option Value → zH → Prop} {y : MethodName} {cy : ByteArray} {maxL na d2 mc2 ms2 i j ci : Nat} {ret : Option FieldType} {As rest : List Value} {fs : List Value} {T0 : u_T} {N0 : Nat} {host : String}
theorem z_callV (C : zCt G X d mc ms own cc nL) (hd : decode cc pc = .ok (.invokevirtual i, 3)) (hy : zY y cy maxL ret na) (hv : zYv y) (hlink : Cond.methodLink own i y ∈ ztb) (hM : zM G (zXl X) d2 mc2 ms2 y cy maxL ret (.ref (zB G + j) :: As) h Post) (hj : h[j]? = some (.inr (ci, fs))) (hc : zcl[ci]? = some (y.cls, T0, N0)) (hd2 : d2 < d) (hn : As.length = na) (hst : As.reverse ++ .ref (zB G + j) :: rest = st) (hw : (rest.map fun v => v.category).sum ≤ 8) (hf : k + mc2 ≤ mc ∧ n + ms2 ≤ ms) (kk : ∀ r h2, Post r h2 → zV G X Q nL lv (r.toList ++ rest) h2 (pc + 3) (k + mc2) (n + ms2)) : zV G X Q nL lv st h pc k n := by
  subst hst
  intro H locs ls hW hL hl
  refine z_run (va_runV (As := As) (rest := rest) (C := y.cls) ⟨C.1, C.2.1, C.2.2.1, C.2.2.2.1, C.2.2.2.2.1⟩ hM ⟨z_cb C hy hlink hd2, C.2.2.2.2.1 _ hv.1, C.2.2.2.2.1 _ hv.2⟩ ⟨zP.blind, z_recv C hW hj hc, fun U hU hWm => ⟨rfl, by rw [hU]; exact hW, C.2.2.2.2.2.1.warm hWm⟩⟩ rfl hn hl.1 rfl (lv_room hw) hd ⟨Nat.le_trans hf.1 C.2.2.2.2.2.2.2.2.2.2.1, Nat.le_trans hf.2 C.2.2.2.2.2.2.2.2.2.2.2⟩) hL hl kk
theorem z_callVN (C : zCt G X d mc ms own cc nL) (hd : decode cc pc = .ok (.invokevirtual i, 3)) (hy : zY y cy maxL ret na) (hv : zYv y) (hlink : Cond.methodLinkNest own i y host ∈ tables_1) (hM : zM G (zXl X) d2 mc2 ms2 y cy maxL ret (.ref (zB G + j) :: As) h Post) (hj : h[j]? = some (.inr (ci, fs))) (hc : zcl[ci]? = some (y.cls, T0, N0)) (hd2 : d2 < d) (hn : As.length = na) (hst : As.reverse ++ .ref (zB G + j) :: rest = st) (hw : (rest.map fun v => v.category).sum ≤ 8) (hf : k + mc2 ≤ mc ∧ n + ms2 ≤ ms) (kk : ∀ r h2, Post r h2 → zV G X Q nL lv (r.toList ++ rest) h2 (pc + 3) (k + mc2) (n + ms2)) : zV G X Q nL lv st h pc k n := by
  subst hst
  intro H locs ls hW hL hl
  refine z_run (va_runVN (As := As) (rest := rest) (C := y.cls) ⟨C.1, C.2.1, C.2.2.1, C.2.2.2.1, C.2.2.2.2.1⟩ hM ⟨z_cn C hy hlink hd2, C.2.2.2.2.1 _ hv.1, C.2.2.2.2.1 _ hv.2⟩ ⟨zP.blind, z_recv C hW hj hc, fun U hU hWm => ⟨rfl, by rw [hU]; exact hW, C.2.2.2.2.2.1.warm hWm⟩⟩ rfl hn hl.1 rfl (lv_room hw) hd ⟨Nat.le_trans hf.1 C.2.2.2.2.2.2.2.2.2.2.1, Nat.le_trans hf.2 C.2.2.2.2.2.2.2.2.2.2.2⟩) hL hl kk
theorem z_callS (C : zCt G X d mc ms own cc nL) (hd : decode cc pc = .ok (.invokestatic i, 3)) (hy : zY y cy maxL ret na) (hv : Cond.static y ∈ ztb) (hlink : Cond.methodLink own i y ∈ ztb) (hM : zM G (zXl X) d2 mc2 ms2 y cy maxL ret As h Post) (hd2 : d2 < d) (hn : As.length = na) (hst : As.reverse ++ rest = st) (hw : (rest.map fun v => v.category).sum ≤ 8) (hf : k + mc2 ≤ mc ∧ n + ms2 ≤ ms) (kk : ∀ r h2, Post r h2 → zV G X Q nL lv (r.toList ++ rest) h2 (pc + 3) (k + mc2) (n + ms2)) : zV G X Q nL lv st h pc k n := by
  subst hst
  intro H locs ls hW hL hl
  refine z_run (va_runS (As := As) (rest := rest) ⟨C.1, C.2.1, C.2.2.1, C.2.2.2.1, C.2.2.2.2.1⟩ hM ⟨z_cb C hy hlink hd2, C.2.2.2.2.1 _ hv⟩ ⟨zP.blind, fun U hU hWm => ⟨rfl, by rw [hU]; exact hW, C.2.2.2.2.2.1.warm hWm⟩⟩ rfl hn hl.1 rfl (lv_room hw) hd ⟨Nat.le_trans hf.1 C.2.2.2.2.2.2.2.2.2.2.1, Nat.le_trans hf.2 C.2.2.2.2.2.2.2.2.2.2.2⟩) hL hl kk
theorem z_callSN (C : zCt G X d mc ms own cc nL) (hd : decode cc pc = .ok (.invokestatic i, 3)) (hy : zY y cy maxL ret na) (hv : Cond.static y ∈ ztb) (hlink : Cond.methodLinkNest own i y host ∈ tables_1) (hM : zM G (zXl X) d2 mc2 ms2 y cy maxL ret As h Post) (hd2 : d2 < d) (hn : As.length = na) (hst : As.reverse ++ rest = st) (hw : (rest.map fun v => v.category).sum ≤ 8) (hf : k + mc2 ≤ mc ∧ n + ms2 ≤ ms) (kk : ∀ r h2, Post r h2 → zV G X Q nL lv (r.toList ++ rest) h2 (pc + 3) (k + mc2) (n + ms2)) : zV G X Q nL lv st h pc k n := by
  subst hst
  intro H locs ls hW hL hl
  refine z_run (va_runSN (As := As) (rest := rest) ⟨C.1, C.2.1, C.2.2.1, C.2.2.2.1, C.2.2.2.2.1⟩ hM ⟨z_cn C hy hlink hd2, C.2.2.2.2.1 _ hv, trivial⟩ ⟨zP.blind, fun U hU hWm => ⟨rfl, by rw [hU]; exact hW, C.2.2.2.2.2.1.warm hWm⟩⟩ rfl hn hl.1 rfl (lv_room hw) hd ⟨Nat.le_trans hf.1 C.2.2.2.2.2.2.2.2.2.2.1, Nat.le_trans hf.2 C.2.2.2.2.2.2.2.2.2.2.2⟩) hL hl kk
theorem z_callI (C : zCt G X d mc ms own cc nL) (hd : decode cc pc = .ok (.invokespecial i, 3)) (hy : zY y cy maxL none na) (hv : Cond.instanceMethod y ∈ ztb) (hi : y.name = "<init>") (hlink : Cond.methodLink own i y ∈ ztb) (hM : zM G (zXl X) d2 mc2 ms2 y cy maxL none (.ref (zB G + j) :: As) h Post) (hd2 : d2 < d) (hn : As.length = na) (hst : As.reverse ++ .ref (zB G + j) :: rest = st) (hw : (rest.map fun v => v.category).sum ≤ 8) (hf : k + mc2 ≤ mc ∧ n + ms2 ≤ ms) (kk : ∀ r h2, Post r h2 → zV G X Q nL lv (r.toList ++ rest) h2 (pc + 3) (k + mc2) (n + ms2)) : zV G X Q nL lv st h pc k n := by
  subst hst
  intro H locs ls hW hL hl
  refine z_run (va_runI (As := As) (rest := rest) ⟨C.1, C.2.1, C.2.2.1, C.2.2.2.1, C.2.2.2.2.1⟩ hM ⟨z_cb C hy hlink hd2, hi, C.2.2.2.2.1 _ hv⟩ ⟨zP.blind, fun U hU hWm => ⟨rfl, by rw [hU]; exact hW, C.2.2.2.2.2.1.warm hWm⟩⟩ rfl hn hl.1 rfl (lv_room hw) hd ⟨Nat.le_trans hf.1 C.2.2.2.2.2.2.2.2.2.2.1, Nat.le_trans hf.2 C.2.2.2.2.2.2.2.2.2.2.2⟩) hL hl kk
theorem z_callIN (C : zCt G X d mc ms own cc nL) (hd : decode cc pc = .ok (.invokespecial i, 3)) (hy : zY y cy maxL none na) (hv : Cond.instanceMethod y ∈ ztb) (hi : y.name = "<init>") (hlink : Cond.methodLinkNest own i y host ∈ tables_1) (hM : zM G (zXl X) d2 mc2 ms2 y cy maxL none (.ref (zB G + j) :: As) h Post) (hd2 : d2 < d) (hn : As.length = na) (hst : As.reverse ++ .ref (zB G + j) :: rest = st) (hw : (rest.map fun v => v.category).sum ≤ 8) (hf : k + mc2 ≤ mc ∧ n + ms2 ≤ ms) (kk : ∀ r h2, Post r h2 → zV G X Q nL lv (r.toList ++ rest) h2 (pc + 3) (k + mc2) (n + ms2)) : zV G X Q nL lv st h pc k n := by
  subst hst
  intro H locs ls hW hL hl
  refine z_run (va_runIN (As := As) (rest := rest) ⟨C.1, C.2.1, C.2.2.1, C.2.2.2.1, C.2.2.2.2.1⟩ hM ⟨z_cn C hy hlink hd2, hi, C.2.2.2.2.1 _ hv⟩ ⟨zP.blind, fun U hU hWm => ⟨rfl, by rw [hU]; exact hW, C.2.2.2.2.2.1.warm hWm⟩⟩ rfl hn hl.1 rfl (lv_room hw) hd ⟨Nat.le_trans hf.1 C.2.2.2.2.2.2.2.2.2.2.1, Nat.le_trans hf.2 C.2.2.2.2.2.2.2.2.2.2.2⟩) hL hl kk
end ZCALL
end ZR

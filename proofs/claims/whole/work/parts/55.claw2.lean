/-! the class reads an E: the walk -/
def lrk (lab : Nat) : Nat := if lab ≤ 4 then 5 - lab else 0
def lew (lab w : Nat) : Nat := 5 * (5 - w) + (if lab ≤ 4 then 5 - lab else if lab = 5 then 5 else if lab = 9 then 3 else 2)
def lar (l lab w v : Nat) : List Value := if lab ≤ 4 then [.ref l, .ref 1, .int (nI w)] else [.ref l, .ref 1, .int (nI w), .int (nI v)]
section CY
variable {l N : Nat} {tp : List Nat}
theorem pE_ok {r : pR} {c : List Int32} {m : Nat} {E : Nat → Nat → Prop} {K : List Int32 → Nat → Prop} (h : pE r E K) (e : r = .ok (c, m)) : K c m := by
  subst e; exact h
theorem T_gLaw (hN : nT tp N) (ho : okTp tp) (hl : 10 ≤ l) : ∀ (φ lab n w v e f : Nat) (S : aS) (cs : List Int32), okLb lab → 8 * (1001 - n) + lrk lab + 1 ≤ φ → 6300 + 4 * φ ≤ f → lew lab w ≤ e → n ≤ N → w ≤ 5 → v ≤ n → cs.length ≤ n → CTk S tp (tP tp n) → LwS S l cs → zI (F_gLaw f e lab (lar l lab w v) S) (CQ l tp S cs (pL tp φ lab n w)) := by
  intro φ
  induction φ with
  | zero => intro lab n w v e f S cs _ h; omega
  | succ φ ih =>
    intro lab n w v e f S cs hlb hφ hf he hn hw hv hcs hT hL
    have hN1 := hN.1
    have o : ∀ a, a ≤ 4 → okLb a := fun a h => Or.inl (by omega)
    obtain ⟨g, rfl, hg⟩ := g1 (n := 6303 + 4 * φ) (f := f) (by omega)
    rcases (show lab = 0 ∨ lab = 1 ∨ lab = 2 ∨ lab = 3 ∨ lab = 4 ∨ lab = 5 ∨ lab = 9 ∨ lab = 12 by unfold okLb at hlb; omega) with rfl | rfl | rfl | rfl | rfl | rfl | rfl | rfl
    · show zI (F_gLaw (g + 1) e 0 [.ref l, .ref 1, .int (nI w)] S) _
      rw [E_gLaw_0, pL_0]; unfold F_gLaw_0
      simp [lrk, lew] at hφ he
      obtain ⟨e1, rfl⟩ : ∃ e1, e = e1 + 1 := ⟨e - 1, by omega⟩
      refine o_dE rfl ?_
      refine CQ.b (ih 1 n w 0 e1 g S cs (o _ (by omega)) (by simp [lrk]; omega) (by omega) (by simp [lew]; omega) hn hw (by omega) hcs hT hL) (fun T => if_pos rfl) (fun c m T hr t1 t2 t3 => ?_)
      have hm := pE_ok (pL_len hN φ 1 n w (o _ (by omega)) hn) hr
      have := hm.2.2 (by omega)
      refine o_f (by decide) ?_
      refine CQ.a (ih 5 m w 0 (e1 + 1) g T (cs ++ c) (Or.inl (by omega)) (by simp [lrk]; omega) (by omega) (by simp [lew]; omega) hm.2.1 hw (by omega) (by rw [List.length_append]; omega) t1 t2) t3 (fun y m => rfl)
    · show zI (F_gLaw (g + 1) e 1 [.ref l, .ref 1, .int (nI w)] S) _
      rw [E_gLaw_1, pL_1]; unfold F_gLaw_1
      simp [lrk, lew] at hφ he
      obtain ⟨e1, rfl⟩ : ∃ e1, e = e1 + 1 := ⟨e - 1, by omega⟩
      refine o_dE rfl ?_
      refine CQ.b (ih 2 n w 0 e1 g S cs (o _ (by omega)) (by simp [lrk]; omega) (by omega) (by simp [lew]; omega) hn hw (by omega) hcs hT hL) (fun T => if_pos rfl) (fun c m T hr t1 t2 t3 => ?_)
      have hm := pE_ok (pL_len hN φ 2 n w (o _ (by omega)) hn) hr
      have := hm.2.2 (by omega)
      refine o_f (by decide) ?_
      have two : qS tp m 60 = true ∨ qS tp m 61 = true → zI (F_gLaw g (e1 + 1) 8 [.ref l, .ref 1, .int (nI w)] T) (CQ l tp S cs (pb (pL tp φ 2 (m + 1) w) fun y => .ok (c ++ (y.1 ++ [if qS tp m 60 = true then -8 else -9]), y.2))) := by
        intro hq
        have hm1 : m + 1 ≤ N := by rcases hq with h | h <;> exact qS.s hN hm.2.1 h
        obtain ⟨g, rfl, hg2⟩ := g1 (n := 6302 + 4 * φ) (f := g) (by omega)
        rw [E_gLaw_8]; unfold F_gLaw_8
        refine o_dE rfl ?_
        have ey : (if gI T 1 9 = (60 : Int32) then (-8 : Int32) else (-9 : Int32)) = (if qS tp m 60 = true then -8 else -9) := by
          have := t1.s (c := 60) rfl
          by_cases c : qS tp m 60 = true
          · rw [if_pos c, if_pos (this.mpr c)]
          · rw [if_neg c, if_neg (fun h => c (this.mp h))]
        rw [ey]
        refine o_lI ?_
        refine o_V (T_next ho t1 (by omega)) ?_
        rintro T1 ⟨v1, v2⟩
        have lT1 := t2.t v2 hl
        have f1 : Fx (dLw l) S T1 := t3.tr v2.law
        refine CQ.a (k := fun y => .ok (c ++ (y.1 ++ [if qS tp m 60 = true then -8 else -9]), y.2)) (c := c) (T := T1) (r := pb (pL tp φ 2 (m + 1) w) fun y => .ok (y.1 ++ [if qS tp m 60 = true then -8 else -9], y.2)) ?_ f1 (fun y m => rfl) |> fun h => ?_
        all_goals sorry
      sorry
    · sorry
    · sorry
    · sorry
    · sorry
    · sorry
    · sorry
end CY

theorem ip {c : Prop} [Decidable c] {α : Type} {A B r : α} (h : (if c then A else B) = r) (hc : c) : A = r := by rw [if_pos hc] at h; exact h
theorem im {c : Prop} [Decidable c] {α : Type} {A B r : α} (h : (if c then A else B) = r) (hc : ¬ c) : B = r := by rw [if_neg hc] at h; exact h
theorem fS_e {S : aS} {k : aS → aR} {r : aR} (h : fS S k = r) : k S = r := h

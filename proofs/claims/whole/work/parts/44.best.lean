/-! the best turn -/
def isB (m : Nat) (K : Nat → Nat) (pc sp n T : Nat) : Prop := (qL n ≠ 0 → T = 0) ∧ (qL n = 0 → 1 ≤ T ∧ T ≤ 5 ∧ posT pc n T ∧ bt m K sp (Wo m K pc sp) n T = Wo m K pc sp n ∧ ∀ t, 1 ≤ t → t < T → posT pc n t → bt m K sp (Wo m K pc sp) n t ≠ Wo m K pc sp n)
theorem isB_uniq {m : Nat} {K : Nat → Nat} {pc sp n T T' : Nat} (h : isB m K pc sp n T) (h' : isB m K pc sp n T') : T = T' := by
  by_cases c : qL n = 0
  · obtain ⟨a1, a2, a3, a4, a5⟩ := h.2 c
    obtain ⟨b1, b2, b3, b4, b5⟩ := h'.2 c
    rcases Nat.lt_trichotomy T T' with q | q | q
    · exact absurd a4 (b5 T a1 q a3)
    · exact q
    · exact absurd b4 (a5 T' b1 q b3)
  · rw [h.1 c, h'.1 c]
theorem bm_at {m : Nat} {K : Nat → Nat} {pc sp n : Nat} {W : Nat → Int} : ∀ k, bm m K pc sp W n k = -500 ∨ ∃ t, 1 ≤ t ∧ t ≤ k ∧ posT pc n t ∧ bt m K sp W n t = bm m K pc sp W n k := by
  intro k
  induction k with
  | zero => exact Or.inl rfl
  | succ k ih =>
    rw [bm]
    by_cases c : posT pc n (k + 1)
    · rw [if_pos c]
      by_cases q : bt m K sp W n (k + 1) ≤ bm m K pc sp W n k
      · rw [Int.max_eq_left q]
        rcases ih with e | ⟨t, a, b, d, e⟩
        · exact Or.inl e
        · exact Or.inr ⟨t, a, by omega, d, e⟩
      · rw [Int.max_eq_right (by omega)]
        exact Or.inr ⟨k + 1, by omega, Nat.le_refl _, c, rfl⟩
    · rw [if_neg c]
      rcases ih with e | ⟨t, a, b, d, e⟩
      · exact Or.inl e
      · exact Or.inr ⟨t, a, by omega, d, e⟩

/-! the best turn -/
def isB (m : Nat) (K : Nat → Nat) (pc sp n T : Nat) : Prop := (qL n ≠ 0 → T = 0) ∧ (qL n = 0 → 1 ≤ T ∧ T ≤ 5 ∧ posT pc n T ∧ bt m K sp (Wo m K pc sp) n T = Wo m K pc sp n ∧ ∀ t, 1 ≤ t → t < T → posT pc n t → bt m K sp (Wo m K pc sp) n t ≠ Wo m K pc sp n)
theorem isB_uniq {m : Nat} {K : Nat → Nat} {pc sp n T T' : Nat} (h : isB m K pc sp n T) (h' : isB m K pc sp n T') : T = T' := by
  by_cases c : qL n = 0
  · obtain ⟨a1, a2, a3, a4, a5⟩ := h.2 c
    obtain ⟨b1, b2, b3, b4, b5⟩ := h'.2 c
    rcases Nat.lt_trichotomy T T' with q | q | q
    · exact absurd a4 (b5 T a1 q a3)
    · exact q
    · exact absurd b4 (a5 T' b1 q b3)
  · rw [h.1 c, h'.1 c]
theorem bm_at {m : Nat} {K : Nat → Nat} {pc sp n : Nat} {W : Nat → Int} : ∀ k, bm m K pc sp W n k = -500 ∨ ∃ t, 1 ≤ t ∧ t ≤ k ∧ posT pc n t ∧ bt m K sp W n t = bm m K pc sp W n k := by
  intro k
  induction k with
  | zero => exact Or.inl rfl
  | succ k ih =>
    rw [bm]
    by_cases c : posT pc n (k + 1)
    · rw [if_pos c]
      by_cases q : bt m K sp W n (k + 1) ≤ bm m K pc sp W n k
      · rw [Int.max_eq_left q]
        rcases ih with e | ⟨t, a, b, d, e⟩
        · exact Or.inl e
        · exact Or.inr ⟨t, a, by omega, d, e⟩
      · rw [Int.max_eq_right (by omega)]
        exact Or.inr ⟨k + 1, by omega, Nat.le_refl _, c, rfl⟩
    · rw [if_neg c]
      rcases ih with e | ⟨t, a, b, d, e⟩
      · exact Or.inl e
      · exact Or.inr ⟨t, a, by omega, d, e⟩
section BE
variable {m : Nat} {K : Nat → Nat} {pc sp : Nat}
theorem gw_b {w : Int} (g : gw 464 w) : -999 ≤ w ∧ w ≤ 999 ∧ w ≠ 0 := by
  rcases g with ⟨a, b⟩ | ⟨a, b⟩ <;> omega
theorem nI_m1 {n : Nat} (h : n < 16384) : ¬ nI n = (-1 : Int32) := fun q => by
  have q1 := congrArg Int32.toInt q
  rw [nI_toInt (by omega)] at q1
  have : (-1 : Int32).toInt = -1 := by decide
  omega
theorem by_told {v : tX5} (h : TI v m K pc sp) {n t : Nat} (hv : vld m n) (hp : posT pc n t) (ht : t ≤ 5) (hc : ∀ n', nxt m K sp n t = some n' → tTO v n' ≠ 0) : f_X5_worthBy_told v (nI n) (nI t) = some (nZ (bt m K sp (Wo m K pc sp) n t)) := by
  unfold f_X5_worthBy_told f_X5_worthBy_told_J26 bt
  rw [after_eq h.1 hv hp ht, Option.bind_some]
  rcases e : nxt m K sp n t with _ | n'
  · refine ift rfl ?_
    exact bnd (show f_X5_oneTurnBefore (-500) = some (nZ 499) by decide) rfl
  · have hv' := TI_child h.1 hv hp e
    have hn' : n' < 16384 := hv'.1
    have g := gw_b (Wo_b h.1 hv')
    refine iff' (nI_m1 hn') ?_
    refine bnd (at_in (tTO v) hn' (by omega)) ?_
    rw [h.at hv' (hc n' e)]
    exact bnd (before_eq g.1 g.2.1) rfl
end BE

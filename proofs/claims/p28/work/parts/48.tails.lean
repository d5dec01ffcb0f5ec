/-! the order of tails: tokens and lost turns of both -/
def ordL : List Nat := [0, 1, 4, 2, 5, 8, 3, 6, 9, 12, 7, 10, 13, 11, 14, 15, 16, 32, 17, 20, 33, 36, 18, 21, 24, 34, 37, 40, 19, 22, 25, 28, 35, 38, 41, 44, 23, 26, 29, 39, 42, 45, 27, 30, 43, 46, 31, 47, 48, 49, 52, 50, 53, 56, 51, 54, 57, 60, 55, 58, 61, 59, 62, 63]
def ordJ : List Nat := [0, 1, 3, 6, 2, 4, 7, 10, 5, 8, 11, 13, 9, 12, 14, 15, 16, 18, 22, 28, 19, 23, 29, 36, 24, 30, 37, 42, 31, 38, 43, 46, 17, 20, 25, 32, 21, 26, 33, 39, 27, 34, 40, 44, 35, 41, 45, 47, 48, 49, 51, 54, 50, 52, 55, 58, 53, 56, 59, 61, 57, 60, 62, 63]
def ordT (i : Nat) : Nat := ordL.getD i 0
def jT (t : Nat) : Nat := ordJ.getD t 0
theorem ordT_ok : ∀ i, i < 64 → ordT i < 64 ∧ jT (ordT i) = i := by decide +kernel
theorem jT_ok : ∀ t, t < 64 → jT t < 64 ∧ ordT (jT t) = t := by decide +kernel
theorem jT_lt : ∀ a, a < 64 → ∀ b, b < 64 → (a / 32 % 2 + a / 16 % 2 < b / 32 % 2 + b / 16 % 2 ∨ (a / 32 % 2 + a / 16 % 2 = b / 32 % 2 + b / 16 % 2 ∧ a / 4 % 4 + a % 4 < b / 4 % 4 + b % 4)) → jT a < jT b := by decide +kernel
theorem tails_dec : (f_X5_init.map fun v => (List.range 64).all fun i => decide (v.2.2.1 i = nI (ordT i))) = some true := by decide +kernel
/-- only the tails are written -/
def onlyTA (v : tX5) (o : Option tX5) : Prop := ∀ r, o = some r → ∃ ta, r = (v.1, v.2.1, ta, v.2.2.2)
theorem onlyTA_L20 {k4 : Int32 → Int32 → tX5 → Option tX5} {k11 : Int32 → Int32 → Int32 → tX5 → Option tX5} (h : ∀ a b c v, onlyTA v (k11 a b c v)) : ∀ f a b c d v, onlyTA v (f_X5_orderTails_L20 k4 k11 f a b c d v) := by
  intro f
  induction f with
  | zero => intro a b c d v r e; rw [f_X5_orderTails_L20] at e; exact absurd e (by simp)
  | succ f ih =>
    intro a b c d v r e
    rw [f_X5_orderTails_L20] at e
    by_cases c1 : (64 : Int32) ≤ d
    · rw [if_pos c1] at e; exact h _ _ _ _ r e
    · rw [if_neg c1] at e
      rcases e1 : f_J6_bitCount_0f7a4 (d >>> ((4 : Int32) &&& 31)) with _ | x0
      · rw [e1] at e; exact absurd e (by simp)
      · rw [e1, Option.bind_some] at e
        by_cases c2 : x0 = b
        · rw [if_pos c2] at e
          rcases e2 : f_X5_ownLoses d with _ | x1
          · rw [e2] at e; exact absurd e (by simp)
          · rw [e2, Option.bind_some] at e
            rcases e3 : f_X5_otherLoses d with _ | x2
            · rw [e3] at e; exact absurd e (by simp)
            · rw [e3, Option.bind_some] at e
              by_cases c3 : x1 + x2 = c
              · rw [if_pos c3] at e
                rcases e4 : f_X6_put 64 v.2.2.1 a d with _ | x3
                · rw [e4] at e; exact absurd e (by simp)
                · rw [e4, Option.bind_some] at e
                  obtain ⟨ta, t1⟩ := ih _ _ _ _ _ r e
                  exact ⟨ta, t1⟩
              · rw [if_neg c3] at e; exact ih _ _ _ _ _ r e
        · rw [if_neg c2] at e; exact ih _ _ _ _ _ r e
theorem onlyTA_L11 {k4 : Int32 → Int32 → tX5 → Option tX5} (h : ∀ a b v, onlyTA v (k4 a b v)) : ∀ f a b c v, onlyTA v (f_X5_orderTails_L11 k4 f a b c v) := by
  intro f
  induction f with
  | zero => intro a b c v r e; rw [f_X5_orderTails_L11] at e; exact absurd e (by simp)
  | succ f ih =>
    intro a b c v r e
    rw [f_X5_orderTails_L11] at e
    by_cases c1 : (6 : Int32) < c
    · rw [if_pos c1] at e; exact h _ _ _ r e
    · rw [if_neg c1] at e; exact onlyTA_L20 ih _ _ _ _ _ _ r e
theorem onlyTA_L4 : ∀ f a b v, onlyTA v (f_X5_orderTails_L4 f a b v) := by
  intro f
  induction f with
  | zero => intro a b v r e; rw [f_X5_orderTails_L4] at e; exact absurd e (by simp)
  | succ f ih =>
    intro a b v r e
    rw [f_X5_orderTails_L4] at e
    by_cases c1 : (2 : Int32) < b
    · rw [if_pos c1] at e; exact ⟨v.2.2.1, (Option.some.inj e).symm⟩
    · rw [if_neg c1] at e; exact onlyTA_L11 ih _ _ _ _ _ r e
def TT (v : tX5) : Prop := ∀ i, i < 64 → v.2.2.1 i = nI (ordT i)
theorem init5 : ∃ x ta, f_X3_init = some x ∧ f_X5_init = some (x, (fun _ => 0), ta, (fun _ => 0), (fun _ => 0), (fun _ => 0), 0, 0, 0) ∧ ∀ i, i < 64 → ta i = nI (ordT i) := by
  have d := tails_dec
  rcases e : f_X5_init with _ | v
  · rw [e] at d; exact absurd d (by simp)
  · rw [e] at d
    have d1 := Option.some.inj d
    have d2 : ∀ i, i < 64 → v.2.2.1 i = nI (ordT i) := by
      intro i hi
      have := List.all_eq_true.mp d1 i (List.mem_range.mpr hi)
      exact of_decide_eq_true this
    unfold f_X5_init at e
    rcases e1 : f_X3_init with _ | x
    · rw [e1] at e; exact absurd e (by simp)
    · rw [e1, Option.bind_some] at e
      rcases e2 : f_X5_orderTails (x, (fun _ => 0), (fun _ => 0), (fun _ => 0), (fun _ => 0), (fun _ => 0), (0 : Int32), (0 : Int32), (0 : Int32)) with _ | y
      · rw [e2] at e; exact absurd e (by simp)
      · rw [e2, Option.bind_some] at e
        have e3 := Option.some.inj e
        obtain ⟨ta, t1⟩ := onlyTA_L4 gas 0 0 _ y e2
        rw [e3] at t1
        refine ⟨x, ta, rfl, by rw [t1], ?_⟩
        intro i hi
        have := d2 i hi
        rw [t1] at this
        exact this

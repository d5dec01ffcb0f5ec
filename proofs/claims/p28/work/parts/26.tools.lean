/-! tools for chains of binds and tests -/
theorem bnd {α β : Type} {x : Option α} {f : α → Option β} {y : α} {z : Option β} (h : x = some y) (h2 : f y = z) : x.bind f = z := by subst h; exact h2
theorem bndE {α β : Type} {x : Option α} {f : α → Option β} {y : α} {P : β → Prop} (h : x = some y) (h2 : ∃ z, f y = some z ∧ P z) : ∃ z, x.bind f = some z ∧ P z := by subst h; exact h2
theorem ifE_t {β : Type} {c : Prop} [Decidable c] {a b : Option β} {P : β → Prop} (h : c) (h2 : ∃ z, a = some z ∧ P z) : ∃ z, (if c then a else b) = some z ∧ P z := by rw [if_pos h]; exact h2
theorem ifE_f {β : Type} {c : Prop} [Decidable c] {a b : Option β} {P : β → Prop} (h : ¬ c) (h2 : ∃ z, b = some z ∧ P z) : ∃ z, (if c then a else b) = some z ∧ P z := by rw [if_neg h]; exact h2
theorem ift {β : Type} {c : Prop} [Decidable c] {a b z : β} (h : c) (h2 : a = z) : (if c then a else b) = z := by rw [if_pos h]; exact h2
theorem iff' {β : Type} {c : Prop} [Decidable c] {a b z : β} (h : ¬ c) (h2 : b = z) : (if c then a else b) = z := by rw [if_neg h]; exact h2
theorem nI_1m {j : Nat} (hj : j ≤ 1) : (1 : Int32) - nI j = nI (1 - j) := by
  show nI 1 - nI j = _
  exact nI_sub hj
theorem ok_pl {r : RcS} (ok : okR r) (hw : rWi r = -4) : gPl (rW r (rOt r)) ≤ rM r ∧ gPl (rW r (1 - rOt r)) ≤ rM r ∧ (gPl (rW r (rOt r)) ≠ gPl (rW r (1 - rOt r)) ∨ gPl (rW r (rOt r)) = 0) := by
  obtain ⟨h1, h2, h3, h4, h5, h6, h7, h8, h9, h10⟩ := ok
  have h10 : gPl (rW r 0) ≤ rM r ∧ gPl (rW r 1) ≤ rM r ∧ (gPl (rW r 0) ≠ gPl (rW r 1) ∨ gPl (rW r 0) = 0) := by
    rcases h10 with ⟨-, q⟩ | q | q
    · exact q
    · rw [hw] at q; exact absurd q (by decide)
    · rw [hw] at q; exact absurd q (by decide)
  rcases (show rOt r = 0 ∨ rOt r = 1 by omega) with e | e
  · rw [e]; exact h10
  · rw [e]; exact ⟨h10.2.1, h10.1, by show gPl (rW r 1) ≠ gPl (rW r 0) ∨ gPl (rW r 1) = 0; omega⟩
theorem ref_over {r : RcS} {t : Nat} (hp : sRef r t = 0) : rWi r = -4 := by
  unfold sRef at hp
  by_cases c : rWi r ≠ -4
  · rw [if_pos c] at hp; omega
  · exact Classical.not_not.mp c
theorem ref_drive {r : RcS} {t : Nat} (hp : sRef r t = 0) (h0 : t ≠ 0) (h5 : t ≠ 5) : t ≤ rPc r ∧ gLs (rW r (rOt r)) = 0 := by
  have hw := ref_over hp
  unfold sRef at hp
  rw [if_neg (fun e => e hw)] at hp
  by_cases c : gLs (rW r (rOt r)) ≠ 0
  · rw [if_pos c, if_neg h0] at hp; omega
  · rw [if_neg c, if_neg h0, if_neg h5] at hp
    by_cases c2 : t ≤ rPc r
    · exact ⟨c2, Classical.not_not.mp c⟩
    · rw [if_neg c2] at hp; omega

/-! the pad: a text that is a road -/
def vk (x : Int32) : Prop := x = 46 ∨ x = 105 ∨ x = 109 ∨ x = 115
def kdn (x : Int32) : Nat := if x = 46 then 0 else if x = 105 then 3 else if x = 109 then 1 else if x = 115 then 2 else 0
theorem kdn_le (x : Int32) : kdn x ≤ 3 := by
  unfold kdn
  by_cases a : x = 46
  · rw [if_pos a]; omega
  · rw [if_neg a]
    by_cases b : x = 105
    · rw [if_pos b]; omega
    · rw [if_neg b]
      by_cases c : x = 109
      · rw [if_pos c]; omega
      · rw [if_neg c]
        by_cases d : x = 115
        · rw [if_pos d]; omega
        · rw [if_neg d]; omega
theorem kind_good {x : Int32} (h : vk x) : f_X1_kindMeant x = some (nI (kdn x)) := by
  rcases h with rfl | rfl | rfl | rfl <;> rfl
theorem fault_L {v : tX1} {L : Nat} (hL1 : 1 ≤ L) (hL : L ≤ 14) (h1 : v.2 = nI L) (hg : ∀ j, j < L → vk (v.1 j)) : ∀ (n i : Nat), i ≤ L → L < i + n → f_X1_firstFault_L2 v n 0 (nI i) = some (-4) := by
  intro n
  induction n with
  | zero => intro i a b; omega
  | succ n ih =>
    intro i a b
    rw [f_X1_firstFault_L2]
    by_cases c : L ≤ i
    · have e : i = L := by omega
      subst e
      exact ift (by rw [h1]; exact nI_le (Nat.le_refl _) (by omega)) (iff' (by rw [h1]; rw [nI_z (by omega)]; omega) rfl)
    · have hs : f_X1_signAt v (nI i) = some (v.1 i) := by
        unfold f_X1_signAt
        rw [at_in v.1 (show i < 60 by omega) (by omega)]; rfl
      have c1 : ¬ v.2 ≤ nI i := by rw [h1]; exact nI_ge (by omega) (by omega)
      refine iff' c1 (bnd hs (ift rfl (iff' (nI_ge (b := 14) (by omega) (by omega)) (bnd (kind_good (hg i (by omega))) (iff' ?_ ?_)))))
      · intro e
        have := kdn_le (v.1 i)
        exact nI_nm1 (n := kdn (v.1 i)) (by omega) (by rw [e]; decide)
      · unfold f_X1_firstFault_J46
        refine iff' (by decide) ?_
        rw [nI_1]; exact ih (i + 1) (by omega) (by omega)
theorem fault_ok {v : tX1} {L : Nat} (hL1 : 1 ≤ L) (hL : L ≤ 14) (h1 : v.2 = nI L) (hg : ∀ j, j < L → vk (v.1 j)) : f_X1_firstFault v 0 = some (-4) := fault_L hL1 hL h1 hg gas 0 (by omega) (by show L < 0 + 1000000; omega)

/-! the pads -/
abbrev w_pd (v : tX7) : Nat → Int32 := v.2.2.2.2.2.2.2.1
abbrev w_ln (v : tX7) : Int32 := v.2.2.2.2.2.2.2.2.1
def PR (v : tX1) (w : tX7) : Prop := ∃ L, L ≤ 60 ∧ v.2 = nI L ∧ w_ln w = nI L ∧ ∀ i, i < L → v.1 i = w_pd w i
def vk (x : Int32) : Prop := x = 46 ∨ x = 105 ∨ x = 109 ∨ x = 115
def kdn (x : Int32) : Nat := if x = 46 then 0 else if x = 105 then 3 else if x = 109 then 1 else if x = 115 then 2 else 0
theorem kdn_le (x : Int32) : kdn x ≤ 3 := by
  unfold kdn
  by_cases a : x = 46
  · rw [if_pos a]; omega
  · rw [if_neg a]
    by_cases b : x = 105
    · rw [if_pos b]; omega
    · rw [if_neg b]
      by_cases c : x = 109
      · rw [if_pos c]; omega
      · rw [if_neg c]
        by_cases d : x = 115
        · rw [if_pos d]; omega
        · rw [if_neg d]; omega
theorem kind_good {x : Int32} (h : vk x) : f_X1_kindMeant x = some (nI (kdn x)) ∧ f_X7_kindOf x = some (nI (kdn x)) := by
  rcases h with rfl | rfl | rfl | rfl <;> exact ⟨rfl, rfl⟩
theorem kind_bad {x : Int32} (h : ¬ vk x) : f_X1_kindMeant x = some (-1) ∧ f_X7_kindOf x = some (-4) := by
  have a : ¬ x = 46 := fun e => h (Or.inl e)
  have b : ¬ x = 105 := fun e => h (Or.inr (Or.inl e))
  have c : ¬ x = 109 := fun e => h (Or.inr (Or.inr (Or.inl e)))
  have d : ¬ x = 115 := fun e => h (Or.inr (Or.inr (Or.inr e)))
  unfold f_X1_kindMeant f_X7_kindOf
  exact ⟨by rw [if_neg a, if_neg b, if_neg c, if_neg d], by rw [if_neg a, if_neg c, if_neg d, if_neg b]⟩
def vt (x : Int32) : Prop := (¬ x < 49 ∧ ¬ 52 < x) ∨ x = 116 ∨ x = 98 ∨ x = 103 ∨ x = 45
theorem turn_good {x : Int32} (h : vt x) : f_X1_isTurn x = some 1 ∧ f_X7_isTurn x = some 1 := by
  rcases h with ⟨a, b⟩ | rfl | rfl | rfl | rfl
  · unfold f_X1_isTurn f_X7_isTurn f_X7_in
    rw [if_neg a, if_neg a, if_neg b]
    refine ⟨ift (Int32.not_lt.mp b) rfl, rfl⟩
  all_goals exact ⟨rfl, rfl⟩
theorem turn_bad {x : Int32} (h : ¬ vt x) : f_X1_isTurn x = some 0 ∧ f_X7_isTurn x = some 0 := by
  have b : ¬ x = 116 := fun e => h (Or.inr (Or.inl e))
  have c : ¬ x = 98 := fun e => h (Or.inr (Or.inr (Or.inl e)))
  have d : ¬ x = 103 := fun e => h (Or.inr (Or.inr (Or.inr (Or.inl e))))
  have e : ¬ x = 45 := fun e => h (Or.inr (Or.inr (Or.inr (Or.inr e))))
  have J : f_X1_isTurn_J12 x = some 0 := by unfold f_X1_isTurn_J12; rw [if_neg b, if_neg c, if_neg d, if_neg e]
  unfold f_X1_isTurn f_X7_isTurn f_X7_in
  by_cases a : x < 49
  · rw [if_pos a, J, if_pos a]
    refine ⟨rfl, bnd rfl (ift rfl ?_)⟩
    rw [if_neg b, if_neg c, if_neg d, if_neg e]
  · rw [if_neg a, if_neg a]
    by_cases a2 : 52 < x
    · rw [if_pos a2, J]
      refine ⟨iff' (fun q => (Int32.not_lt.mpr q) a2) rfl, bnd rfl (ift rfl ?_)⟩
      rw [if_neg b, if_neg c, if_neg d, if_neg e]
    · exact absurd (Or.inl ⟨a, a2⟩) h
/-- what is right of a sign, by what is asked -/
def gd7 (l1 : Int32) (i : Nat) (x : Int32) : Prop := if l1 = 0 then i < 14 ∧ vk x else vt x
theorem J73_bad {w : tX7} {l2 : Int32} : f_X7_faultOf_J73 w l2 0 = some l2 := ift rfl rfl
theorem fault_L {v : tX1} {w : tX7} {L : Nat} {l1 : Int32} (hL : L ≤ 60) (h1 : v.2 = nI L) (h2 : w_ln w = nI L) (h3 : ∀ i, i < L → v.1 i = w_pd w i) : ∀ (n i : Nat), i ≤ L → L < i + n → ∃ r, f_X1_firstFault_L2 v n l1 (nI i) = some r ∧ f_X7_faultOf_L4 w (n + 1) l1 (nI i) 1 = some r ∧ (r = -4 → 1 ≤ L ∧ ∀ j, i ≤ j → j < L → gd7 l1 j (v.1 j)) := by
  intro n
  induction n with
  | zero => intro i a b; omega
  | succ n ih =>
    intro i a b
    have ni4 : ¬ nI i = (-4 : Int32) := fun e => by
      have := congrArg Int32.toInt e
      rw [nI_toInt (by omega)] at this
      have h4 : (-4 : Int32).toInt = -4 := by decide
      omega
    by_cases c : L ≤ i
    · have e : i = L := by omega
      subst e
      rw [f_X1_firstFault_L2, f_X7_faultOf_L4]
      by_cases c0 : i = 0
      · subst c0
        refine ⟨0, ift (by rw [h1]; exact nI_le (Nat.le_refl _) (by omega)) (ift h1 rfl), ift (by show w_ln w ≤ _; rw [h2]; exact nI_le (Nat.le_refl _) (by omega)) ?_, fun e => absurd e (by decide)⟩
        unfold f_X7_faultOf_J73
        refine iff' (by decide) (ift (by show w_ln w ≤ _; rw [h2]; decide) rfl)
      · refine ⟨-4, ift (by rw [h1]; exact nI_le (Nat.le_refl _) (by omega)) (iff' (by rw [h1]; rw [nI_z (by omega)]; exact c0) rfl), ift (by show w_ln w ≤ _; rw [h2]; exact nI_le (Nat.le_refl _) (by omega)) ?_, fun _ => ⟨by omega, fun j p q => by omega⟩⟩
        unfold f_X7_faultOf_J73
        refine iff' (by decide) (iff' (by show ¬ w_ln w ≤ _; rw [h2, nI_le0 (by omega)]; exact c0) rfl)
    · have hs : f_X1_signAt v (nI i) = some (v.1 i) := by
        unfold f_X1_signAt
        rw [at_in v.1 (show i < 60 by omega) (by omega)]; rfl
      have hp := h3 i (by omega)
      have c1 : ¬ v.2 ≤ nI i := by rw [h1]; exact nI_ge (by omega) (by omega)
      have c2 : ¬ w_ln w ≤ nI i := by rw [h2]; exact nI_ge (by omega) (by omega)
      have hig := ig_t (show i < 60 by omega) (by omega)
      -- a sign that is not right: both stop here
      have bad : ∀ k, f_X7_faultOf_J68 w (f_X7_faultOf_L4 w (k + 1)) l1 0 (0 : Int32) (nI i) = some (nI i) := by
        intro k
        unfold f_X7_faultOf_J68
        rw [Int32.add_zero, f_X7_faultOf_L4]
        exact iff' c2 (ift rfl J73_bad)
      obtain ⟨r, r1, r2, r3⟩ := ih (i + 1) (by omega) (by omega)
      rw [f_X1_firstFault_L2, f_X7_faultOf_L4]
      by_cases g : gd7 l1 i (v.1 i)
      · refine ⟨r, ?_, ?_, fun e => ⟨(r3 e).1, fun j p q => ?_⟩⟩
        · refine iff' c1 (bnd hs ?_)
          by_cases l0 : l1 = 0
          · unfold gd7 at g; rw [if_pos l0] at g
            refine ift l0 (iff' (nI_ge (b := 14) (by omega) (by omega)) (bnd (kind_good g.2).1 (iff' ?_ ?_)))
            · intro e
              have := kdn_le (v.1 i)
              exact nI_nm1 (n := kdn (v.1 i)) (by omega) (by rw [e]; decide)
            · unfold f_X1_firstFault_J46
              refine iff' (by decide) ?_
              rw [nI_1]; exact r1
          · unfold gd7 at g; rw [if_neg l0] at g
            refine iff' l0 (bnd (turn_good g).1 ?_)
            unfold f_X1_firstFault_J46
            refine iff' (by decide) ?_
            rw [nI_1]; exact r1
        · refine iff' c2 (iff' (by decide) ?_)
          have J : f_X7_faultOf_J57 w (f_X7_faultOf_L4 w (n + 1)) l1 (nI i) 1 = some r := by
            unfold f_X7_faultOf_J57 f_X7_faultOf_J68
            refine iff' (by decide) ?_
            rw [nI_1]; exact r2
          by_cases l0 : l1 = 0
          · unfold gd7 at g; rw [if_pos l0] at g
            refine ift l0 (iff' (nI_ge (b := 14) (by omega) (by omega)) (ift hig ?_))
            rw [nI_clamp (by omega)]
            refine bnd (by rw [show w.2.2.2.2.2.2.2.1 i = v.1 i from hp.symm]; exact (kind_good g.2).2) (iff' ?_ J)
            intro e
            have := kdn_le (v.1 i)
            have h5 := congrArg Int32.toInt e
            rw [nI_toInt (by omega)] at h5
            have h4 : (-4 : Int32).toInt = -4 := by decide
            omega
          · unfold gd7 at g; rw [if_neg l0] at g
            refine iff' l0 (ift hig ?_)
            rw [nI_clamp (by omega)]
            exact bnd (by rw [show w.2.2.2.2.2.2.2.1 i = v.1 i from hp.symm]; exact (turn_good g).2) J
        · by_cases e2 : j = i
          · subst e2; exact g
          · exact (r3 e).2 j (by omega) q
      · refine ⟨nI i, ?_, ?_, fun e => absurd e ni4⟩
        · refine iff' c1 (bnd hs ?_)
          by_cases l0 : l1 = 0
          · refine ift l0 ?_
            by_cases c14 : 14 ≤ i
            · refine ift (nI_le (a := 14) c14 (by omega)) ?_
              unfold f_X1_firstFault_J38 f_X1_firstFault_J46
              exact ift rfl rfl
            · have gk : ¬ vk (v.1 i) := fun e => g (by unfold gd7; rw [if_pos l0]; exact ⟨by omega, e⟩)
              refine iff' (nI_ge (b := 14) (by omega) (by omega)) (bnd (kind_bad gk).1 (ift rfl ?_))
              unfold f_X1_firstFault_J38 f_X1_firstFault_J46
              exact ift rfl rfl
          · have gt : ¬ vt (v.1 i) := fun e => g (by unfold gd7; rw [if_neg l0]; exact e)
            refine iff' l0 (bnd (turn_bad gt).1 ?_)
            unfold f_X1_firstFault_J46
            exact ift rfl rfl
        · refine iff' c2 (iff' (by decide) ?_)
          have J : f_X7_faultOf_J57 w (f_X7_faultOf_L4 w (n + 1)) l1 (nI i) 0 = some (nI i) := by
            unfold f_X7_faultOf_J57
            exact ift rfl (bad n)
          by_cases l0 : l1 = 0
          · refine ift l0 ?_
            by_cases c14 : 14 ≤ i
            · exact ift (nI_le (a := 14) c14 (by omega)) J
            · have gk : ¬ vk (v.1 i) := fun e => g (by unfold gd7; rw [if_pos l0]; exact ⟨by omega, e⟩)
              refine iff' (nI_ge (b := 14) (by omega) (by omega)) (ift hig ?_)
              rw [nI_clamp (by omega)]
              exact bnd (by rw [show w.2.2.2.2.2.2.2.1 i = v.1 i from hp.symm]; exact (kind_bad gk).2) (ift rfl J)
          · have gt : ¬ vt (v.1 i) := fun e => g (by unfold gd7; rw [if_neg l0]; exact e)
            refine iff' l0 (ift hig ?_)
            rw [nI_clamp (by omega)]
            exact bnd (by rw [show w.2.2.2.2.2.2.2.1 i = v.1 i from hp.symm]; exact (turn_bad gt).2) J

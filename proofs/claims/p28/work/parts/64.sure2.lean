/-! the law's look at worths -/
section SS
variable {v : tX6} {r : RcS} {n : Nat} {sn : Option RcS}
theorem sure_J173 (h : IN v r n sn) (hw : rWi r = -4) {l1 : Int32} (hl : l1 = nZ (1000 + sWo r)) : ∃ u, f_L_isSure_J173 l1 (nI (rOt r)) 1 1 v = some ((1 : Int32), u) ∧ IN u r n sn := by
  have ho := h.1.2.2.2.2.2.2.2.1
  have g := sWo_gw h.1 hw
  unfold f_L_isSure_J173
  by_cases c : 0 < sWo r
  · have n1 : ¬ l1 < (1000 : Int32) := by
      rw [hl, show (1000 : Int32) = nZ 1000 from rfl, nZ_lt' (by omega) (by omega) (by omega) (by omega)]
      omega
    rcases (show rOt r = 0 ∨ rOt r = 1 by omega) with e | e
    · obtain ⟨u, e1, e2⟩ := ended_sure h hw c (l1 := 0) (l2 := 1) (Or.inl rfl) (Or.inr rfl) (by rw [if_pos e])
      rw [e] at e1 ⊢
      exact ⟨u, iff' (by decide) (iff' (by decide) (iff' n1 (ift rfl (bnd e1 (ift rfl rfl))))), e2⟩
    · obtain ⟨u, e1, e2⟩ := ended_sure h hw c (l1 := 1) (l2 := 0) (Or.inr rfl) (Or.inl rfl) (by rw [if_neg (by omega)])
      rw [e] at e1 ⊢
      exact ⟨u, iff' (by decide) (iff' (by decide) (iff' n1 (iff' (by decide) (bnd e1 (ift rfl rfl))))), e2⟩
  · have n1 : l1 < (1000 : Int32) := by
      rw [hl, show (1000 : Int32) = nZ 1000 from rfl, nZ_lt' (by omega) (by omega) (by omega) (by omega)]
      omega
    exact ⟨v, iff' (by decide) (iff' (by decide) (ift n1 rfl)), h⟩
theorem sure_J101 (h : IN v r n sn) (hw : rWi r = -4) {l1 : Int32} (hl : l1 = nZ (1000 + sWo r)) : ∃ u, f_L_isSure_J101 l1 (nI (rOt r)) 1 v = some ((1 : Int32), u) ∧ IN u r n sn := by
  have g := sWo_gw h.1 hw
  obtain ⟨k, wi, u1, e1, e2, e3⟩ := ended_best h hw (l3 := 0) (Or.inl rfl)
  rw [if_pos rfl] at e1
  obtain ⟨k', wi', u2, f1, f2, f3⟩ := ended_best e2 hw (l3 := 1) (Or.inr rfl)
  rw [if_neg (by decide)] at f1
  obtain ⟨u, j1, j2⟩ := sure_J173 f2 hw hl
  refine ⟨u, ?_, j2⟩
  have le : l1 ≤ (1000 : Int32) ↔ sWo r < 0 := by
    rw [hl, show (1000 : Int32) = nZ 1000 from rfl, nZ_le' (by omega) (by omega) (by omega) (by omega)]
    omega
  unfold f_L_isSure_J101
  refine bnd e1 ?_
  by_cases c : 0 < sWo r
  · rw [if_pos c] at e3 f3
    have nle : ¬ l1 ≤ (1000 : Int32) := fun q => by have := le.mp q; omega
    have ek : nI k' = (500 : Int32) - (l1 - (1000 : Int32)) := by
      rw [hl, show (1000 : Int32) = nZ 1000 from rfl, show (500 : Int32) = nZ 500 from rfl, nZ_sub, nZ_sub, ← nZ_nI]
      congr 1
      omega
    refine ift e3.2 ?_
    unfold f_L_isSure_J119
    refine iff' nle ?_
    unfold f_L_isSure_J131
    refine ift rfl (bnd f1 (iff' nle ?_))
    unfold f_L_isSure_J164
    exact ift ek j1
  · rw [if_neg c] at e3 f3
    have yle : l1 ≤ (1000 : Int32) := le.mpr (by omega)
    have ek : nI k' = (500 : Int32) - ((1000 : Int32) - l1) := by
      rw [hl, show (1000 : Int32) = nZ 1000 from rfl, show (500 : Int32) = nZ 500 from rfl, nZ_sub, nZ_sub, ← nZ_nI]
      congr 1
      omega
    refine iff' e3.2 ?_
    unfold f_L_isSure_J119
    refine ift yle ?_
    unfold f_L_isSure_J131
    refine ift rfl (bnd f1 (ift yle ?_))
    unfold f_L_isSure_J164
    exact ift ek j1
theorem sure_eq (h : IN v r n sn) : ∃ u, f_L_isSure v = some ((1 : Int32), u) ∧ IN u r n sn := by
  obtain ⟨u1, a1, a2⟩ := worth_eq h (p := 0) (Or.inl rfl)
  obtain ⟨u2, b1, b2⟩ := worth_eq a2 (p := 1) (Or.inr rfl)
  have ho := h.1.2.2.2.2.2.2.2.1
  by_cases c : rWi r = -4
  · have g := sWo_gw h.1 c
    rw [if_pos c] at a1 b1
    have hl : (1000 : Int32) + nZ (sWo r) = nZ (1000 + sWo r) := by
      rw [show (1000 : Int32) = nZ 1000 from rfl, nZ_add]
    have cn : f_X6_count u2 (1 : Int32) = some (nI (rOt r)) := by
      have := count_eq b2.2.1 1 (by omega)
      rw [show cnt r 1 = if rWi r = -4 then nI (rOt r) else -4 from rfl, if_pos c] at this
      exact this
    obtain ⟨T, u3, d1, d2, d3⟩ := bestTurn_eq b2 c
    have n1 : ¬ (1000 : Int32) + nZ (sWo r) < (500 : Int32) := by
      rw [hl, show (500 : Int32) = nZ 500 from rfl, nZ_lt' (by omega) (by omega) (by omega) (by omega)]
      omega
    have n2 : ¬ (1500 : Int32) < (1000 : Int32) + nZ (sWo r) := by
      rw [hl, show (1500 : Int32) = nZ 1500 from rfl, nZ_lt' (by omega) (by omega) (by omega) (by omega)]
      omega
    have n3 : ¬ (1000 : Int32) + nZ (sWo r) = (1000 : Int32) := by
      rw [hl]
      show ¬ nZ (1000 + sWo r) = nZ 1000
      rw [nZ_eq' (by omega) (by omega) (by omega) (by omega)]
      omega
    have main : ∃ u, (if nI T = (0 : Int32) then (f_X6_wagon u3 (nI (rOt r)) (2 : Int32)).bind fun x9 => (if x9 ≤ 0 then f_L_isSure_J101 ((1000 : Int32) + nZ (sWo r)) (nI (rOt r)) (0 : Int32) u3 else f_L_isSure_J101 ((1000 : Int32) + nZ (sWo r)) (nI (rOt r)) (1 : Int32) u3) else (f_X6_worthOf u3 (nI T)).bind fun x8 => (if x8.1 = (1000 : Int32) + nZ (sWo r) then f_L_isSure_J101 ((1000 : Int32) + nZ (sWo r)) (nI (rOt r)) (1 : Int32) x8.2 else f_L_isSure_J101 ((1000 : Int32) + nZ (sWo r)) (nI (rOt r)) (0 : Int32) x8.2)) = some ((1 : Int32), u) ∧ IN u r n sn := by
      obtain ⟨c3, c5⟩ := isB_ref h.1 c d2
      by_cases c0 : T = 0
      · subst c0
        obtain ⟨u, j1, j2⟩ := sure_J101 d3 c hl
        have hl3 := (h.1.2.2.2.2.2.2.2.2.1 (rOt r) ho).2.2
        have ls : gLs (rW r (rOt r)) ≠ 0 := by
          intro e
          obtain ⟨-, -, -, -, -, q5, -⟩ := sSt_q h.1 c
          have := (d2.2 (by rw [q5]; exact e)).1
          omega
        refine ⟨u, ift rfl (bnd (wagon_eq d3.2.1 h.1 ho (i := 2) (by omega)) (iff' ?_ j1)), j2⟩
        show ¬ nI (gLs (rW r (rOt r))) ≤ 0
        rw [nI_le0 (by omega)]
        exact ls
      · obtain ⟨u4, w1, w2⟩ := worthOf_eq d3 (by omega) c5 c3
        rw [best_bt h.1 c d2] at w1
        obtain ⟨u, j1, j2⟩ := sure_J101 w2 c hl
        refine ⟨u, iff' (by rw [nI_z (by omega)]; exact c0) (bnd w1 (ift rfl j1)), j2⟩
    obtain ⟨u, m1, m2⟩ := main
    refine ⟨u, ?_, m2⟩
    unfold f_L_isSure
    exact bnd a1 (bnd b1 (ift rfl (iff' n1 (iff' n2 (iff' n3 (bnd cn (ift (nI_0le (by omega)) (bnd d1 m1))))))))
  · rw [if_neg c] at a1 b1
    have cn : f_X6_count u2 (1 : Int32) = some (-4) := by
      have := count_eq b2.2.1 1 (by omega)
      rw [show cnt r 1 = if rWi r = -4 then nI (rOt r) else -4 from rfl, if_neg c] at this
      exact this
    refine ⟨u2, ?_, b2⟩
    unfold f_L_isSure
    exact bnd a1 (bnd b1 (ift rfl (iff' (show ¬ (500 : Int32) < 500 by decide) (iff' (show ¬ (1500 : Int32) < 500 by decide) (iff' (show ¬ (500 : Int32) = 1000 by decide) (bnd cn (iff' (by decide) (ift rfl rfl))))))))
end SS

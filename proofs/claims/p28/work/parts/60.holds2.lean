/-! what the law looks up: places, winner, turns, sums -/
section HO2
variable {v : tX6} {r : RcS} {n : Nat}
theorem holds_L295 (h : CR v.1 r) (ok : okR r) (hx : OX n r) (hn : n < 900) : f_L_holds_L295 v gas (nI (rM r)) (stS (rK r) (bV r) (rM r)) (nI (kps (rK r) (rM r))) 1 1 1 0 = some 1 := by
  obtain ⟨⟨T, C, a1, a2, a3, a4⟩, b, B, x, y, c1, c2, c3, c4, c5⟩ := hx
  have hm := ok.2.1
  have hT : T 0 ≤ n ∧ T 1 ≤ n := by omega
  have one : ∀ (f j : Nat), j ≤ 1 → f_L_holds_L295 v (f + 1) (nI (rM r)) (stS (rK r) (bV r) (rM r)) (nI (kps (rK r) (rM r))) 1 1 1 (nI j) = f_L_holds_L295 v f (nI (rM r)) (stS (rK r) (bV r) (rM r)) (nI (kps (rK r) (rM r))) 1 1 1 (nI (j + 1)) := by
    intro f j hj
    obtain ⟨g1, g2, g3, -, -⟩ := a1 j hj
    obtain ⟨p1, p2, p3⟩ := ok.2.2.2.2.2.2.2.2.1 j hj
    have hTj : T j ≤ n := by
      rcases (show j = 0 ∨ j = 1 by omega) with rfl | rfl
      · exact hT.1
      · exact hT.2
    have w4 : f_X6_wagon v (nI j) (4 : Int32) = some (nI (C j)) := (wagon_eq h ok hj (i := 4) (by omega)).trans (congrArg some g2)
    have w3 : f_X6_wagon v (nI j) (3 : Int32) = some (nI (T j)) := (wagon_eq h ok hj (i := 3) (by omega)).trans (congrArg some g1)
    have w2 : f_X6_wagon v (nI j) (2 : Int32) = some (nI (gLs (rW r j))) := wagon_eq h ok hj (i := 2) (by omega)
    have w0 : f_X6_wagon v (nI j) (0 : Int32) = some (nI (gPl (rW r j))) := wagon_eq h ok hj (i := 0) (by omega)
    rw [f_L_holds_L295]
    refine iff' (nI_ge (b := 2) (by omega) (by omega)) (bnd w4 (bnd w3 (iff' (nI_nlt g3 (by omega)) (bnd w2 (iff' (nlt_le.mpr (nI_0le (by omega))) (bnd w2 (iff' (show ¬ nI 3 < nI _ from nI_nlt p3 (by omega)) (bnd w0 ?_))))))))
    rw [nI_1, nI_1]
    exact ift (nI_le (by omega) (by omega)) rfl
  have two : f_L_holds_L295 v gas (nI (rM r)) (stS (rK r) (bV r) (rM r)) (nI (kps (rK r) (rM r))) 1 1 1 (nI 0) = f_L_holds_L295 v 999998 (nI (rM r)) (stS (rK r) (bV r) (rM r)) (nI (kps (rK r) (rM r))) 1 1 1 (nI 2) := (one 999999 0 (by omega)).trans (one 999998 1 (by omega))
  refine two.trans ?_
  show f_L_holds_L295 v (999997 + 1) _ _ _ 1 1 1 (nI 2) = _
  rw [f_L_holds_L295]
  have s7 : ∀ j, j ≤ 1 → f_X6_wagon v (nI j) (7 : Int32) = some (gRl (rW r j)) := fun j hj => wagon_eq h ok hj (i := 7) (by omega)
  obtain ⟨k1, k2⟩ := kps_eq (K := rK r) (rM r) ok.2.2.1
  refine ift (by decide) (iff' (by decide) (iff' (by decide) (iff' (by decide) (bnd (s7 0 (by omega)) (bnd (s7 1 (by omega)) (ift ?_ ?_))))))
  · rw [show stS (rK r) (bV r) (rM r) = _ from stS_add (rK r) (gVs (rW r 0)) (gVs (rW r 1)) (rM r), (a1 0 (by omega)).2.2.2.1, (a1 1 (by omega)).2.2.2.1]
  · refine bnd (count_eq h 4 (by omega)) (bnd (count_eq h 5 (by omega)) (bnd (count_eq h 6 (by omega)) (ift ?_ ?_)))
    · show _ = nI _ + nI _ + nI _
      rw [nI_add, nI_add, k1]
    · refine bnd (count_eq h 8 (by omega)) (bnd (count_eq h 9 (by omega)) (bnd (count_eq h 7 (by omega)) (iff' ?_ rfl)))
      show ¬ rBe r < rWo r 0 + rWo r 1
      rw [c1, c2, c3, nI_add]
      exact nI_nlt (by omega) (by omega)
theorem holds_J229 (h : CR v.1 r) (ok : okR r) (hx : OX n r) (hn : n < 900) : f_L_holds_J229 v (nI (rM r)) (stS (rK r) (bV r) (rM r)) (nI (kps (rK r) (rM r))) 1 1 = some 1 := by
  have L := holds_L295 h ok hx hn
  obtain ⟨⟨T, C, a1, a2, a3, a4⟩, -⟩ := hx
  have ho := ok.2.2.2.2.2.2.2.1
  have w0 : f_X6_wagon v (0 : Int32) (3 : Int32) = some (nI (T 0)) := (wagon_eq h ok (j := 0) (by omega) (i := 3) (by omega)).trans (congrArg some (a1 0 (by omega)).1)
  have w1 : f_X6_wagon v (1 : Int32) (3 : Int32) = some (nI (T 1)) := (wagon_eq h ok (j := 1) (by omega) (i := 3) (by omega)).trans (congrArg some (a1 1 (by omega)).1)
  have c3 : f_X6_count v (3 : Int32) = some (nI (T 0 + T 1)) := (count_eq h 3 (by omega)).trans (congrArg some a2)
  have e : nI (T 0) - nI (T 1) = nI (rOt r) := by
    rw [nI_sub (by omega)]
    congr 1
    omega
  unfold f_L_holds_J229
  refine bnd w0 (bnd w1 (bnd c3 (ift (nI_add _ _) (bnd w0 (bnd w1 (iff' ?_ (bnd w0 (bnd w1 (iff' ?_ ?_)))))))))
  · rw [e]; exact nlt_le.mpr (nI_0le (by omega))
  · rw [e]; exact (show ¬ nI 1 < nI _ from nI_nlt ho (by omega))
  · exact L
theorem holds_eq (h : CR v.1 r) (ok : okR r) (hx : OX n r) (hn : n < 900) : f_L_holds v = some 1 := by
  have hm := ok.2.1
  have J229 := holds_J229 h ok hx hn
  obtain ⟨⟨T, C, a1, a2, a3, a4⟩, b, -⟩ := hx
  have ho := ok.2.2.2.2.2.2.2.1
  have q0 := (ok.2.2.2.2.2.2.2.2.1 0 (by omega)).1
  have q1 := (ok.2.2.2.2.2.2.2.2.1 1 (by omega)).1
  have ap : gPl (rW r 0) ≠ gPl (rW r 1) ∨ gPl (rW r 0) = 0 := by
    rcases b with b | ⟨-, b1, b2⟩ | ⟨-, b1, b2⟩
    · rcases ok.2.2.2.2.2.2.2.2.2 with ⟨-, -, -, z⟩ | z | z
      · exact z
      · rw [b] at z; exact absurd z (by decide)
      · rw [b] at z; exact absurd z (by decide)
    · exact Or.inl (by omega)
    · exact Or.inl (by omega)
  have L := holds_L29 h ok (a1 0 (by omega)).2.2.2.2 (a1 1 (by omega)).2.2.2.2 ap gas 0 (by omega) (by show rM r < 0 + 1000000; omega)
  have cn2 : f_X6_count v (2 : Int32) = some (rWi r) := count_eq h 2 (by omega)
  have cn1 : f_X6_count v (1 : Int32) = some (if rWi r = -4 then nI (rOt r) else -4) := count_eq h 1 (by omega)
  unfold f_L_holds
  refine bnd (count_eq h 0 (by omega)) (bnd (wagon_eq h ok (j := 0) (by omega) (i := 0) (by omega)) (bnd (wagon_eq h ok (j := 1) (by omega) (i := 0) (by omega)) ?_))
  refine Eq.trans L ?_
  unfold f_L_holds_J159 f_L_holds_J171 f_L_holds_J176
  rcases b with b | ⟨b, b1, b2⟩ | ⟨b, b1, b2⟩
  · have z : gPl (rW r 0) ≤ rM r ∧ gPl (rW r 1) ≤ rM r := by
      rcases ok.2.2.2.2.2.2.2.2.2 with ⟨-, z1, z2, -⟩ | z | z
      · exact ⟨z1, z2⟩
      · rw [b] at z; exact absurd z (by decide)
      · rw [b] at z; exact absurd z (by decide)
    rw [if_pos b] at cn1
    refine iff' (nI_nlt z.1 (by omega)) (ift (nI_le z.2 (by omega)) (bnd cn2 (ift (nI_le z.1 (by omega)) (ift (nI_le z.2 (by omega)) ?_))))
    unfold f_L_holds_J203
    refine ift b (bnd cn1 (ift (nI_0le (by omega)) ?_))
    unfold f_L_holds_J219
    exact ift rfl J229
  · rw [if_neg (by rw [b]; decide)] at cn1
    refine ift (nI_lt (by omega) (by omega)) (bnd cn2 (iff' (nI_ge (by omega) (by omega)) ?_))
    unfold f_L_holds_J203
    refine ift b (bnd cn1 (iff' (by decide) ?_))
    unfold f_L_holds_J219
    exact ift rfl J229
  · rw [if_neg (by rw [b]; decide)] at cn1
    refine iff' (nI_nlt b2 (by omega)) (iff' (nI_ge (by omega) (by omega)) (bnd cn2 (ift (nI_le b2 (by omega)) (iff' (nI_ge (by omega) (by omega)) ?_))))
    unfold f_L_holds_J203
    refine ift b (bnd cn1 (iff' (by decide) ?_))
    unfold f_L_holds_J219
    exact ift rfl J229
end HO2

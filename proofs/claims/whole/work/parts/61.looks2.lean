/-! looks: mile, count -/
theorem sim_mile_ok : sim_mile Rel := by
  intro v w p q hR
  obtain ⟨r, h⟩ := hR
  have z := h.z
  have cr := h.2.1
  have mr := h.2.2.1
  have hm := h.1.2.1
  have e1 : v.1.1.2 = nI (rM r) := cr.1.1
  have e2 : w.2.1 2 = nI (rM r) := mr.2.2.1
  unfold f_X6_mile f_X7_mile
  by_cases c1 : p < (1 : Int32)
  · exact ⟨-1, _, ift c1 rfl, bnd (in7_1 c1) (ift rfl rfl), r, z⟩
  · by_cases c2 : p ≤ nI (rM r)
    · obtain ⟨t, rfl, t1, t2⟩ := rng (a := 1) (b := rM r) (by omega) (by omega) c1 c2
      have i1 : f_X7_in (nI t) (1 : Int32) (w.2.1 2) = some 1 := by rw [e2]; exact in7_3 c1 (fun e => nle_lt.mpr e c2)
      have c2' : nI t ≤ v.1.1.2 := by rw [e1]; exact c2
      have w0 := MR_W mr (show 0 ≤ 1 by omega)
      have w1 := MR_W mr (show 1 ≤ 1 by omega)
      have vz : ∀ (j x : Nat), j ≤ 1 → x = 2 + j → (39 : Int32) + ((2 : Int32) * (nI t - (1 : Int32))) + nI x - (2 : Int32) = nI (37 + 2 * t + j) := by
        intro j x hj hx
        show nI 39 + (nI 2 * (nI t - nI 1)) + nI x - nI 2 = _
        rw [nI_sub t1, nI_mul, nI_add, nI_add, nI_sub (by omega)]
        congr 1
        omega
      have vt : ∀ (j x : Nat), j ≤ 1 → x = 2 + j → (if ig ((39 : Int32) + ((2 : Int32) * (nI t - (1 : Int32))) + nI x - (2 : Int32)) 72 = true then some ((w.2.1 ((39 : Int32) + ((2 : Int32) * (nI t - (1 : Int32))) + nI x - (2 : Int32)).toNatClampNeg), ((0 : Int32), w.2)) else none) = some (w.2.1 (37 + 2 * t + j), ((0 : Int32), w.2)) := by
        intro j x hj hx
        rw [vz j x hj hx, if_pos (ig_t (by omega) (by omega)), nI_clamp (by omega)]
      rcases small (p := q) (k := 3) (by omega) with ⟨i, hi, rfl⟩ | hb
      · have i2 : f_X7_in (nI i) (0 : Int32) (3 : Int32) = some 1 := in_in (k := 3) hi (by omega)
        rcases (show i = 0 ∨ i = 1 ∨ i = 2 ∨ i = 3 by omega) with rfl | rfl | rfl | rfl
        · have a1 : f_X3_kindOf v.1.1 (nI t) = some (nI (rK r t)) := by
            rw [kindOf_eq cr.1 (by omega)]
            unfold kd
            rw [if_pos ⟨t1, t2⟩]
          have a2 : ((3 : Int32) + nI t) - (1 : Int32) = nI (2 + t) := by
            show (nI 3 + nI t) - nI 1 = _
            rw [nI_add, nI_sub (by omega)]
            congr 1
            omega
          have a3 : (if ig (((3 : Int32) + nI t) - (1 : Int32)) 72 = true then some ((w.2.1 (((3 : Int32) + nI t) - (1 : Int32)).toNatClampNeg), ((0 : Int32), w.2)) else none) = some (nI (rK r t), ((0 : Int32), w.2)) := by
            rw [a2, if_pos (ig_t (by omega) (by omega)), nI_clamp (by omega), mr.2.2.2.1 t t1 t2]
          exact ⟨nI (rK r t), _, iff' c1 (ift c2' (ift rfl (bnd a1 rfl))), bnd i1 (iff' (by decide) (bnd i2 (iff' (by decide) (ift rfl a3)))), r, z⟩
        · have a0 : f_X7_of ((0 : Int32), w.2) (0 : Int32) (0 : Int32) = some v.1.2.1.2.1 := by
            refine (of7 (j := 0) (k := 0) rfl rfl (by omega) (by omega)).trans ?_
            rw [cr.2.1.1]
            exact congrArg some w0.1
          have a1 : f_X7_of ((0 : Int32), w.2) (1 : Int32) (0 : Int32) = some v.1.2.2.1.2.1 := by
            refine (of7 (j := 1) (k := 0) rfl rfl (by omega) (by omega)).trans ?_
            rw [cr.2.2.1.1]
            exact congrArg some w1.1
          unfold f_X2_wagonOn
          by_cases d1 : v.1.2.1.2.1 = nI t
          · exact ⟨0, _, iff' c1 (ift c2' (iff' (by decide) (ift rfl (bnd (ift d1 rfl) rfl)))), bnd i1 (iff' (by decide) (bnd i2 (iff' (by decide) (iff' (by decide) (ift rfl (bnd a0 (ift d1 rfl))))))), r, z⟩
          · by_cases d2 : v.1.2.2.1.2.1 = nI t
            · exact ⟨1, _, iff' c1 (ift c2' (iff' (by decide) (ift rfl (bnd (iff' d1 (ift d2 rfl)) rfl)))), bnd i1 (iff' (by decide) (bnd i2 (iff' (by decide) (iff' (by decide) (ift rfl (bnd a0 (iff' d1 (bnd a1 (ift d2 rfl))))))))), r, z⟩
            · exact ⟨-4, _, iff' c1 (ift c2' (iff' (by decide) (ift rfl (bnd (iff' d1 (iff' d2 rfl)) rfl)))), bnd i1 (iff' (by decide) (bnd i2 (iff' (by decide) (iff' (by decide) (ift rfl (bnd a0 (iff' d1 (bnd a1 (iff' d2 rfl))))))))), r, z⟩
        · have a1 : f_X6_at 15 v.1.2.1.1 (nI t) = some (w.2.1 (37 + 2 * t + 0)) := by
            rw [at_in _ (by omega) (by omega), cr.2.1.2.2.2.2.2.2.2.2 t t1 t2, w0.2.2.2.2.2.2.2.2 t t1 t2]
          exact ⟨_, _, iff' c1 (ift c2' (iff' (by decide) (iff' (by decide) (ift rfl (bnd a1 rfl))))), bnd i1 (iff' (by decide) (bnd i2 (iff' (by decide) (iff' (by decide) (iff' (by decide) (vt 0 2 (by omega) rfl)))))), r, z⟩
        · have a1 : f_X6_at 15 v.1.2.2.1.1 (nI t) = some (w.2.1 (37 + 2 * t + 1)) := by
            rw [at_in _ (by omega) (by omega), cr.2.2.1.2.2.2.2.2.2.2.2 t t1 t2, w1.2.2.2.2.2.2.2.2 t t1 t2]
          exact ⟨_, _, iff' c1 (ift c2' (iff' (by decide) (iff' (by decide) (iff' (by decide) (ift rfl (bnd a1 rfl)))))), bnd i1 (iff' (by decide) (bnd i2 (iff' (by decide) (iff' (by decide) (iff' (by decide) (vt 1 3 (by omega) rfl)))))), r, z⟩
      · exact ⟨-1, _, iff' c1 (ift c2' (iff' (hb 0 (by omega)) (iff' (hb 1 (by omega)) (iff' (hb 2 (by omega)) (iff' (hb 3 (by omega)) rfl))))), bnd i1 (iff' (by decide) (bnd (in_out (k := 3) (by omega) hb) (ift rfl rfl))), r, z⟩
    · have i1 : f_X7_in p (1 : Int32) (w.2.1 2) = some 0 := by rw [e2]; exact in7_2 c1 (nle_lt.mp c2)
      exact ⟨-1, _, iff' c1 (iff' (by rw [e1]; exact c2) rfl), bnd i1 (ift rfl rfl), r, z⟩
theorem sim_count_ok : sim_count Rel := by
  intro v w p hR
  obtain ⟨r, h⟩ := hR
  have z := h.z
  have ok := h.1
  obtain ⟨hR, c0, c1, c3, c4, c5, c6, c7, c8, c9, c10⟩ := h.2.1
  have mr := h.2.2.1
  have iz : ∀ (x k : Nat), x = k + 7 → k ≤ 6 → (if ig (((19 : Int32) + nI x) - (7 : Int32)) 72 = true then some ((w.2.1 (((19 : Int32) + nI x) - (7 : Int32)).toNatClampNeg), ((0 : Int32), w.2)) else none) = some (w.2.1 (19 + k), ((0 : Int32), w.2)) := by
    intro x k hx hk
    have e : ((19 : Int32) + nI x) - (7 : Int32) = nI (19 + k) := by
      show (nI 19 + nI x) - nI 7 = _
      rw [nI_add, nI_sub (by omega)]
      congr 1
      omega
    rw [e, if_pos (ig_t (by omega) (by omega)), nI_clamp (by omega)]
  have iy : ∀ (x k : Nat), x = k + 10 → k ≤ 6 → (if ig (nI x - (10 : Int32)) 72 = true then some ((w.2.1 (nI x - (10 : Int32)).toNatClampNeg), ((0 : Int32), w.2)) else none) = some (w.2.1 k, ((0 : Int32), w.2)) := by
    intro x k hx hk
    have e : nI x - (10 : Int32) = nI k := by
      show nI x - nI 10 = _
      rw [nI_sub (by omega)]
      congr 1
      omega
    rw [e, if_pos (ig_t (by omega) (by omega)), nI_clamp (by omega)]
  have ml : ∀ c, c ≤ 3 → f_X7_miles ((0 : Int32), w.2) (nI c) = some (nI (hmK (rK r) c (rM r))) := fun c hc => miles_eq (MR_R z.2.2.1 ok) hc
  have hl : ∀ c, c ≤ 3 → f_X3_howMany v.1.1 (nI c) = some (nI (hmK (rK r) c (rM r))) := fun c hc => howMany_eq hR hc
  have d : ∀ {i j : Nat}, i ≠ j → i < 1000 → j < 1000 → ¬ nI i = nI j := fun a b c e => a ((nI_eq (by omega) (by omega)).mp e)
  unfold f_X6_count f_X7_count
  rcases small (p := p) (k := 13) (by omega) with ⟨i, hi, rfl⟩ | hb
  · rcases (show i = 0 ∨ i = 1 ∨ i = 2 ∨ i = 3 ∨ i = 4 ∨ i = 5 ∨ i = 6 ∨ i = 7 ∨ i = 8 ∨ i = 9 ∨ i = 10 ∨ i = 11 ∨ i = 12 ∨ i = 13 by omega) with rfl | rfl | rfl | rfl | rfl | rfl | rfl | rfl | rfl | rfl | rfl | rfl | rfl | rfl
    · exact ⟨w.2.1 2, _, ift rfl (by rw [hR.1, mr.2.2.1]), ift rfl rfl, r, z⟩
    · have e6 := isOver_eq h.2.1
      have e7 : f_X7_isOver ((0 : Int32), w.2) = _ := isOver7 z.2.2.1
      by_cases c : rWi r = -4
      · rw [if_pos c] at e6 e7
        exact ⟨w.2.1 17, _, iff' (by decide) (ift rfl (bnd e6 (ift rfl (by rw [c5, MR_17 mr])))), iff' (by decide) (ift rfl (bnd e7 (ift rfl rfl))), r, z⟩
      · rw [if_neg c] at e6 e7
        exact ⟨-4, _, iff' (by decide) (ift rfl (bnd e6 (iff' (by decide) rfl))), iff' (by decide) (ift rfl (bnd e7 (iff' (by decide) rfl))), r, z⟩
    · exact ⟨w.2.1 22, _, iff' (by decide) (iff' (by decide) (ift rfl (by rw [c6, mr.2.2.2.2.2.2.2.2.2.1]))), iff' (by decide) (iff' (by decide) (ift rfl rfl)), r, z⟩
    · exact ⟨w.2.1 18, _, iff' (by decide) (iff' (by decide) (iff' (by decide) (ift rfl (by rw [c7, mr.2.2.2.2.2.1])))), iff' (by decide) (iff' (by decide) (iff' (by decide) (ift rfl rfl))), r, z⟩
    · exact ⟨nI (hmK (rK r) 1 (rM r)), _, iff' (by decide) (iff' (by decide) (iff' (by decide) (iff' (by decide) (ift rfl (bnd (hl 1 (by omega)) rfl))))), iff' (by decide) (iff' (by decide) (iff' (by decide) (iff' (by decide) (ift rfl (bnd (ml 1 (by omega)) rfl))))), r, z⟩
    · exact ⟨nI (hmK (rK r) 2 (rM r)), _, iff' (by decide) (iff' (by decide) (iff' (by decide) (iff' (by decide) (iff' (by decide) (ift rfl (bnd (hl 2 (by omega)) rfl)))))), iff' (by decide) (iff' (by decide) (iff' (by decide) (iff' (by decide) (iff' (by decide) (ift rfl (bnd (ml 2 (by omega)) rfl)))))), r, z⟩
    · exact ⟨nI (hmK (rK r) 3 (rM r)), _, iff' (by decide) (iff' (by decide) (iff' (by decide) (iff' (by decide) (iff' (by decide) (iff' (by decide) (ift rfl (bnd (hl 3 (by omega)) rfl))))))), iff' (by decide) (iff' (by decide) (iff' (by decide) (iff' (by decide) (iff' (by decide) (iff' (by decide) (ift rfl (bnd (ml 3 (by omega)) rfl))))))), r, z⟩
    · exact ⟨w.2.1 19, _, iff' (by decide) (iff' (by decide) (iff' (by decide) (iff' (by decide) (iff' (by decide) (iff' (by decide) (iff' (by decide) (ift rfl (by rw [c8, mr.2.2.2.2.2.2.1])))))))), iff' (by decide) (iff' (by decide) (iff' (by decide) (iff' (by decide) (iff' (by decide) (iff' (by decide) (iff' (by decide) (ift rfl (iz 7 0 rfl (by omega))))))))), r, z⟩
    · exact ⟨w.2.1 20, _, iff' (by decide) (iff' (by decide) (iff' (by decide) (iff' (by decide) (iff' (by decide) (iff' (by decide) (iff' (by decide) (iff' (by decide) (ift rfl (by rw [c9, mr.2.2.2.2.2.2.2.1]))))))))), iff' (by decide) (iff' (by decide) (iff' (by decide) (iff' (by decide) (iff' (by decide) (iff' (by decide) (iff' (by decide) (iff' (by decide) (ift rfl (iz 8 1 rfl (by omega)))))))))), r, z⟩
    · exact ⟨w.2.1 21, _, iff' (by decide) (iff' (by decide) (iff' (by decide) (iff' (by decide) (iff' (by decide) (iff' (by decide) (iff' (by decide) (iff' (by decide) (iff' (by decide) (ift rfl (by rw [c10, mr.2.2.2.2.2.2.2.2.1])))))))))), iff' (by decide) (iff' (by decide) (iff' (by decide) (iff' (by decide) (iff' (by decide) (iff' (by decide) (iff' (by decide) (iff' (by decide) (iff' (by decide) (ift rfl (iz 9 2 rfl (by omega))))))))))), r, z⟩
    · exact ⟨w.2.1 0, _, iff' (by decide) (iff' (by decide) (iff' (by decide) (iff' (by decide) (iff' (by decide) (iff' (by decide) (iff' (by decide) (iff' (by decide) (iff' (by decide) (iff' (by decide) (ift rfl (by rw [c3, mr.1]))))))))))), iff' (by decide) (iff' (by decide) (iff' (by decide) (iff' (by decide) (iff' (by decide) (iff' (by decide) (iff' (by decide) (iff' (by decide) (iff' (by decide) (iff' (by decide) (ift rfl (iy 10 0 rfl (by omega)))))))))))), r, z⟩
    · exact ⟨w.2.1 1, _, iff' (by decide) (iff' (by decide) (iff' (by decide) (iff' (by decide) (iff' (by decide) (iff' (by decide) (iff' (by decide) (iff' (by decide) (iff' (by decide) (iff' (by decide) (iff' (by decide) (ift rfl (by rw [c4, mr.2.1])))))))))))), iff' (by decide) (iff' (by decide) (iff' (by decide) (iff' (by decide) (iff' (by decide) (iff' (by decide) (iff' (by decide) (iff' (by decide) (iff' (by decide) (iff' (by decide) (iff' (by decide) (ift rfl (iy 11 1 rfl (by omega))))))))))))), r, z⟩
    · obtain ⟨L, l1, l2, l3, l4⟩ := h.2.2.2.2.2.1
      exact ⟨v.2.2.2.2.1.2, _, iff' (by decide) (iff' (by decide) (iff' (by decide) (iff' (by decide) (iff' (by decide) (iff' (by decide) (iff' (by decide) (iff' (by decide) (iff' (by decide) (iff' (by decide) (iff' (by decide) (iff' (by decide) (ift rfl rfl)))))))))))), iff' (by decide) (iff' (by decide) (iff' (by decide) (iff' (by decide) (iff' (by decide) (iff' (by decide) (iff' (by decide) (iff' (by decide) (iff' (by decide) (iff' (by decide) (iff' (by decide) (iff' (by decide) (ift rfl (congrArg (fun x => some (x, ((0 : Int32), w.2))) (l3.trans l2.symm)))))))))))))), r, z⟩
    · obtain ⟨H, k, f, hk4, hf4, b1, b2, b3, b4⟩ := h.2.2.2.1
      exact ⟨v.2.2.2.1.2.2, _, iff' (by decide) (iff' (by decide) (iff' (by decide) (iff' (by decide) (iff' (by decide) (iff' (by decide) (iff' (by decide) (iff' (by decide) (iff' (by decide) (iff' (by decide) (iff' (by decide) (iff' (by decide) (iff' (by decide) (ift rfl rfl))))))))))))), iff' (by decide) (iff' (by decide) (iff' (by decide) (iff' (by decide) (iff' (by decide) (iff' (by decide) (iff' (by decide) (iff' (by decide) (iff' (by decide) (iff' (by decide) (iff' (by decide) (iff' (by decide) (iff' (by decide) (ift rfl (congrArg (fun x => some (x, ((0 : Int32), w.2))) (b3.trans b2.symm))))))))))))))), r, z⟩
  · exact ⟨-1, _, iff' (hb 0 (by omega)) (iff' (hb 1 (by omega)) (iff' (hb 2 (by omega)) (iff' (hb 3 (by omega)) (iff' (hb 4 (by omega)) (iff' (hb 5 (by omega)) (iff' (hb 6 (by omega)) (iff' (hb 7 (by omega)) (iff' (hb 8 (by omega)) (iff' (hb 9 (by omega)) (iff' (hb 10 (by omega)) (iff' (hb 11 (by omega)) (iff' (hb 12 (by omega)) (iff' (hb 13 (by omega)) rfl))))))))))))), iff' (hb 0 (by omega)) (iff' (hb 1 (by omega)) (iff' (hb 2 (by omega)) (iff' (hb 3 (by omega)) (iff' (hb 4 (by omega)) (iff' (hb 5 (by omega)) (iff' (hb 6 (by omega)) (iff' (hb 7 (by omega)) (iff' (hb 8 (by omega)) (iff' (hb 9 (by omega)) (iff' (hb 10 (by omega)) (iff' (hb 11 (by omega)) (iff' (hb 12 (by omega)) (iff' (hb 13 (by omega)) rfl))))))))))))), r, z⟩

/-! looks: why, mile, wagon, ends, count, speed -/
theorem sim_why_ok : sim_why Rel := by
  intro v w p hR
  obtain ⟨r, h⟩ := hR
  have z := h.z
  have y := h.2.2.2.2.2.2.1
  unfold f_X6_why f_X7_why f_X6_why_J11
  by_cases c0 : p = 0
  · subst c0
    rcases y with ⟨y1, y2, y3⟩ | ⟨y1, y2, y3⟩
    · exact ⟨-4, _, ift rfl (ift y1 rfl), ift rfl (congrArg (fun x => some (x, ((0 : Int32), w.2))) y2), r, z⟩
    · exact ⟨vA v, _, ift rfl (iff' y1 (ift rfl rfl)), ift rfl (congrArg (fun x => some (x, ((0 : Int32), w.2))) y2), r, z⟩
  · by_cases c1 : p = 1
    · subst c1
      rcases y with ⟨y1, y2, y3⟩ | ⟨y1, y2, y3⟩
      · exact ⟨-4, _, iff' c0 (ift rfl (ift y1 rfl)), iff' c0 (ift rfl (congrArg (fun x => some (x, ((0 : Int32), w.2))) y3)), r, z⟩
      · exact ⟨vB v, _, iff' c0 (ift rfl (iff' y1 (iff' c0 rfl))), iff' c0 (ift rfl (congrArg (fun x => some (x, ((0 : Int32), w.2))) y3)), r, z⟩
    · exact ⟨-1, _, iff' c0 (iff' c1 rfl), iff' c0 (iff' c1 rfl), r, z⟩
theorem in_out {p : Int32} {k : Nat} (hk : k < 1000) (h : ∀ i, i ≤ k → ¬ p = nI i) : f_X7_in p (0 : Int32) (nI k) = some 0 := by
  by_cases a : p < 0
  · exact in7_1 a
  · refine in7_2 a ?_
    by_cases b : nI k < p
    · exact b
    · obtain ⟨t, rfl, t1, t2⟩ := rng (a := 0) (b := k) (by omega) (by omega) a (nlt_le.mp b)
      exact absurd rfl (h t t2)
theorem small {p : Int32} {k : Nat} (hk : k < 1000) : (∃ i, i ≤ k ∧ p = nI i) ∨ (∀ i, i ≤ k → ¬ p = nI i) := by
  by_cases h : ∃ i, i ≤ k ∧ p = nI i
  · exact Or.inl h
  · exact Or.inr (fun i a b => h ⟨i, a, b⟩)
theorem in_in {i k : Nat} (hi : i ≤ k) (hk : k < 1000) : f_X7_in (nI i) (0 : Int32) (nI k) = some 1 := in7_3 (nI_pos (by omega)) (nI_nlt (by omega) (by omega))
theorem in8_mile (p : Int32) : p = 0 ∨ p = 1 ∨ p = 2 ∨ p = 3 ∨ f_X7_in p (0 : Int32) (3 : Int32) = some 0 := by
  rcases small (p := p) (k := 3) (by omega) with ⟨i, a, b⟩ | b
  · rcases (show i = 0 ∨ i = 1 ∨ i = 2 ∨ i = 3 by omega) with rfl | rfl | rfl | rfl
    · exact Or.inl b
    · exact Or.inr (Or.inl b)
    · exact Or.inr (Or.inr (Or.inl b))
    · exact Or.inr (Or.inr (Or.inr (Or.inl b)))
  · exact Or.inr (Or.inr (Or.inr (Or.inr (in_out (k := 3) (by omega) b))))
theorem sim_wagon_ok : sim_wagon Rel := by
  intro v w p q hR
  obtain ⟨r, h⟩ := hR
  have z := h.z
  obtain ⟨-, w0, w1, -⟩ := h.2.1
  unfold f_X6_wagon f_X7_wagon f_X6_wagon_J11
  -- one wagon
  have one : ∀ (j : Nat) (x : tX4), j ≤ 1 → CW (rM r) x (rW r j) → ∃ (a : Int32), f_X4_property x q = some a ∧ ((f_X7_in q (0 : Int32) (7 : Int32)).bind fun x1 => (if x1 = 0 then some ((-1 : Int32), ((0 : Int32), w.2)) else (f_X7_of ((0 : Int32), w.2) (nI j) q).bind fun x2 => some (x2, ((0 : Int32), w.2)))) = some (a, ((0 : Int32), w.2)) := by
    intro j x hj hx
    have mw := MR_W h.2.2.1 hj
    have gk := h.1.2.2.2.2.2.2.2.2.1 j hj
    obtain ⟨x1, x2, x3, x4, x5, x6, x7, x8, -⟩ := hx
    obtain ⟨m1, m2, m3, m4, m5, m6, m7, m8, -⟩ := mw
    have rd : ∀ k, k < 8 → f_X7_of ((0 : Int32), w.2) (nI j) (nI k) = some (w.2.1 (23 + 8 * j + k)) := fun k hk => of7 rfl rfl hj hk
    have ii : ∀ k, k < 8 → f_X7_in (nI k) (0 : Int32) (7 : Int32) = some 1 := fun k hk => in_in (k := 7) (by omega) (by omega)
    unfold f_X4_property
    rcases small (p := q) (k := 7) (by omega) with ⟨i, hi, rfl⟩ | hb
    · rcases (show i = 0 ∨ i = 1 ∨ i = 2 ∨ i = 3 ∨ i = 4 ∨ i = 5 ∨ i = 6 ∨ i = 7 by omega) with rfl | rfl | rfl | rfl | rfl | rfl | rfl | rfl
      · exact ⟨_, ift rfl rfl, bnd (ii 0 (by omega)) (iff' (by decide) (bnd (rd 0 (by omega)) (by rw [x1, show 23 + 8 * j + 0 = 23 + 8 * j by omega, m1])))⟩
      · refine ⟨x.2.2.1, iff' (by decide) (ift rfl ?_), bnd (ii 1 (by omega)) (iff' (by decide) (bnd (rd 1 (by omega)) (by rw [x2, show 23 + 8 * j + 1 = 24 + 8 * j by omega, m2])))⟩
        rw [x2]
        rcases (show (rW r j).2.1 = 0 ∨ (rW r j).2.1 = 1 by have : (rW r j).2.1 ≤ 1 := gk.2.1; omega) with e | e <;> rw [e]
        · exact ift rfl rfl
        · exact iff' (by decide) rfl
      · exact ⟨_, iff' (by decide) (iff' (by decide) (ift rfl rfl)), bnd (ii 2 (by omega)) (iff' (by decide) (bnd (rd 2 (by omega)) (by rw [x3, show 23 + 8 * j + 2 = 25 + 8 * j by omega, m3])))⟩
      · exact ⟨_, iff' (by decide) (iff' (by decide) (iff' (by decide) (ift rfl rfl))), bnd (ii 3 (by omega)) (iff' (by decide) (bnd (rd 3 (by omega)) (by rw [x4, show 23 + 8 * j + 3 = 26 + 8 * j by omega, m4])))⟩
      · exact ⟨_, iff' (by decide) (iff' (by decide) (iff' (by decide) (iff' (by decide) (ift rfl rfl)))), bnd (ii 4 (by omega)) (iff' (by decide) (bnd (rd 4 (by omega)) (by rw [x5, show 23 + 8 * j + 4 = 27 + 8 * j by omega, m5])))⟩
      · exact ⟨_, iff' (by decide) (iff' (by decide) (iff' (by decide) (iff' (by decide) (iff' (by decide) (ift rfl rfl))))), bnd (ii 5 (by omega)) (iff' (by decide) (bnd (rd 5 (by omega)) (by rw [x6, show 23 + 8 * j + 5 = 28 + 8 * j by omega, m6])))⟩
      · exact ⟨_, iff' (by decide) (iff' (by decide) (iff' (by decide) (iff' (by decide) (iff' (by decide) (iff' (by decide) (ift rfl rfl)))))), bnd (ii 6 (by omega)) (iff' (by decide) (bnd (rd 6 (by omega)) (by rw [x7, show 23 + 8 * j + 6 = 29 + 8 * j by omega, m7])))⟩
      · exact ⟨_, iff' (by decide) (iff' (by decide) (iff' (by decide) (iff' (by decide) (iff' (by decide) (iff' (by decide) (iff' (by decide) (ift rfl rfl))))))), bnd (ii 7 (by omega)) (iff' (by decide) (bnd (rd 7 (by omega)) (by rw [x8, show 23 + 8 * j + 7 = 30 + 8 * j by omega, m8])))⟩
    · exact ⟨-1, iff' (hb 0 (by omega)) (iff' (hb 1 (by omega)) (iff' (hb 2 (by omega)) (iff' (hb 3 (by omega)) (iff' (hb 4 (by omega)) (iff' (hb 5 (by omega)) (iff' (hb 6 (by omega)) (iff' (hb 7 (by omega)) rfl))))))), bnd (in_out (k := 7) (by omega) hb) (ift rfl rfl)⟩
  by_cases c0 : p = 0
  · subst c0
    obtain ⟨a, a1, a2⟩ := one 0 v.1.2.1 (by omega) w0
    exact ⟨a, _, ift rfl (ift rfl (bnd a1 rfl)), bnd (show f_X7_in 0 (0 : Int32) (1 : Int32) = some 1 by decide) (iff' (by decide) a2), r, z⟩
  · by_cases c1 : p = 1
    · subst c1
      obtain ⟨a, a1, a2⟩ := one 1 v.1.2.2.1 (by omega) w1
      exact ⟨a, _, iff' c0 (ift rfl (iff' c0 (bnd a1 rfl))), bnd (show f_X7_in 1 (0 : Int32) (1 : Int32) = some 1 by decide) (iff' (by decide) a2), r, z⟩
    · exact ⟨-1, _, iff' c0 (iff' c1 rfl), bnd (in01 c0 c1) (ift rfl rfl), r, z⟩
theorem sim_ends_ok : sim_ends Rel := by
  intro v w p hR
  obtain ⟨r, h⟩ := hR
  have z := h.z
  have ho := h.1.2.2.2.2.2.2.2.1
  unfold f_X6_ends f_X7_ends
  by_cases c1 : p < (1 : Int32)
  · exact ⟨-1, _, ift c1 rfl, bnd (in7_1 c1) (ift rfl rfl), r, z⟩
  · by_cases c2 : p ≤ (4 : Int32)
    · have i1 := in7_3 c1 (fun e => nle_lt.mpr e c2)
      obtain ⟨t, rfl, t1, t2⟩ := rng (a := 1) (b := 4) (by omega) (by omega) c1 c2
      have e6 := refusal_eq h.2.1 h.1 (t := t) (by omega)
      have e7 : f_X7_refuses ((0 : Int32), w.2) (nI t) = some (nI (sRef r t)) := refuses7 z.2.2.1 h.1 (by omega)
      by_cases c3 : sRef r t = 0
      · have hw := ref_over c3
        obtain ⟨m1, m2⟩ := mover_eq h.2.1 ho
        obtain ⟨p1, p2, p3⟩ := ok_pl h.1 hw
        have mr : MR ((0 : Int32), w.2).2.1 r := h.2.2.1
        have h17 := MR_17 mr
        have h1m : (1 : Int32) - ((0 : Int32), w.2).2.1 17 = nI (1 - rOt r) := by rw [h17]; exact nI_1m ho
        have w0 := MR_W mr ho
        have w1 := MR_W mr (show 1 - rOt r ≤ 1 by omega)
        have a0 : f_X7_of ((0 : Int32), w.2) (w.2.1 17) (0 : Int32) = some (nI (gPl (rW r (rOt r)))) := by
          refine (of7 (k := 0) h17 rfl ho (by omega)).trans ?_
          exact congrArg some w0.1
        have a1 : f_X7_of ((0 : Int32), w.2) ((1 : Int32) - w.2.1 17) (0 : Int32) = some (nI (gPl (rW r (1 - rOt r)))) := by
          refine (of7 (k := 0) h1m rfl (by omega) (by omega)).trans ?_
          exact congrArg some w1.1
        have dr := drives7' (v := ((0 : Int32), w.2)) (J := -4) (D := nI t) (MR_R mr h.1) (Or.inl rfl) rfl rfl rfl p1 p2 (by omega) t1 p3
        rw [drS_no] at dr
        have re := rest_eq h.2.1.1 p1 p2 (show t < 1000 by omega) t1
        obtain ⟨-, c0', c1', -⟩ := h.2.1
        refine ⟨nI (sTo r t), _, iff' c1 (ift c2 (bnd e6 (ift (by rw [c3]; rfl) (bnd m1 ?_)))), bnd i1 (iff' (by decide) (bnd e7 (ift (by rw [c3]; rfl) (bnd a0 (bnd a1 (bnd dr rfl)))))), r, z⟩
        rcases (show rOt r = 0 ∨ rOt r = 1 by omega) with e | e
        · refine ift e (bnd m2 (iff' (by omega) (ift (by omega) (bnd ?_ rfl))))
          rw [c0'.1, c1'.1]
          rw [e] at re
          unfold sTo
          rw [e]
          exact re
        · refine iff' (by omega) (ift e (bnd m2 (ift (by omega) (bnd ?_ rfl))))
          rw [c0'.1, c1'.1]
          rw [e] at re
          unfold sTo
          rw [e]
          exact re
      · have n0 : ¬ nI (sRef r t) = 0 := by rw [sRef_z]; exact c3
        exact ⟨-2, _, iff' c1 (ift c2 (bnd e6 (iff' n0 rfl))), bnd i1 (iff' (by decide) (bnd e7 (iff' n0 rfl))), r, z⟩
    · exact ⟨-1, _, iff' c1 (iff' c2 rfl), bnd (in7_2 c1 (nle_lt.mp c2)) (ift rfl rfl), r, z⟩
theorem sim_speed_ok : sim_speed Rel := by
  intro v w hR
  obtain ⟨r, h⟩ := hR
  have z := h.z
  have cr := h.2.1
  have mr : MR ((0 : Int32), w.2).2.1 r := h.2.2.1
  have e1 : v.1.2.2.2.2.2.2.2.1 = w.2.1 18 := cr.2.2.2.2.2.2.2.1.trans mr.2.2.2.2.2.1.symm
  have w0 := MR_W mr (show 0 ≤ 1 by omega)
  have w1 := MR_W mr (show 1 ≤ 1 by omega)
  have a0 : f_X7_of ((0 : Int32), w.2) (0 : Int32) (0 : Int32) = some v.1.2.1.2.1 := by
    refine (of7 (j := 0) (k := 0) rfl rfl (by omega) (by omega)).trans ?_
    rw [cr.2.1.1]
    exact congrArg some w0.1
  have a1 : f_X7_of ((0 : Int32), w.2) (1 : Int32) (0 : Int32) = some v.1.2.2.1.2.1 := by
    refine (of7 (j := 1) (k := 0) rfl rfl (by omega) (by omega)).trans ?_
    rw [cr.2.2.1.1]
    exact congrArg some w1.1
  unfold f_X6_speed f_X7_speed
  by_cases c : w.2.1 18 = 0
  · exact ⟨FP.dconst0, _, ift (by rw [e1]; exact c) rfl, ift c rfl, r, z⟩
  · have b : ((w.2.1 18) != 0) = true := by
      rw [bne_iff_ne]; exact c
    exact ⟨FP.ddiv (FP.i2d (v.1.2.1.2.1 + v.1.2.2.1.2.1)) (FP.i2d (w.2.1 18)), _, iff' (by rw [e1]; exact c) (ift (by rw [e1]; exact b) (by rw [e1])), iff' c (bnd a0 (bnd a1 (ift b rfl))), r, z⟩

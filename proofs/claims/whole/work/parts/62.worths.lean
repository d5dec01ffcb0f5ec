/-! worths, history, snapshot -/
theorem sim_worth_ok : sim_worth Rel := by
  intro v w p hR
  obtain ⟨r, h⟩ := hR
  have z := h.z
  have e6 := isOver_eq h.2.1
  unfold f_X6_worth f_X7_worth
  have both : (p = 0 ∨ p = 1) → ∃ (a : Int32) (v1 : tX6) (w1 : tX7), f_X6_worth_J11 p v = some (a, v1) ∧ ((f_X7_worthNow ((0 : Int32), w.2)).bind fun x1 => some (((1000 : Int32) + x1.1), x1.2)) = some (a, w1) ∧ Rel v1 w1 := by
    intro hp
    unfold f_X6_worth_J11
    by_cases c : rWi r = -4
    · rw [if_pos c] at e6
      obtain ⟨x, p1, p2⟩ := prep_both h
      obtain ⟨y, y1, y2⟩ := worthNow_eq z.2.2.1 h.1 z.2.2.2.2.2.2.2.2 c
      by_cases c0 : p = 0
      · obtain ⟨to, t1, t2⟩ := toldInto_eq p2.2.1 h.2.1 h.1 c
        exact ⟨(1000 : Int32) + nZ (sWo r), _, y, bnd e6 (ift rfl (bnd p1 (ift c0 (bnd t1 rfl)))), bnd y1 rfl, r, z.look y2.kp (im := v.2.1) (PI_st p2 t2).wi⟩
      · obtain ⟨sw, ga, ri, t1, t2⟩ := bySweeps_eq p2.2.1.1 p2.1 p2.2.2 h.2.1 h.1 c
        exact ⟨(1000 : Int32) + nZ (sWo r), _, y, bnd e6 (ift rfl (bnd p1 (iff' c0 (bnd t1 rfl)))), bnd y1 rfl, r, z.look y2.kp (im := v.2.1) (PI_sw p2 t2).wi⟩
    · rw [if_neg c] at e6
      exact ⟨500, v, _, bnd e6 (iff' (by decide) rfl), bnd (worthOver_eq z.2.2.1 c) (congrArg (fun x => some (x, ((0 : Int32), w.2))) (show (1000 : Int32) + (-500) = 500 by decide)), r, z⟩
  by_cases c0 : p = 0
  · obtain ⟨a, v1, w1, a1, a2, a3⟩ := both (Or.inl c0)
    refine ⟨a, v1, w1, ift c0 a1, bnd (show f_X7_in p (0 : Int32) (1 : Int32) = some 1 by rw [c0]; decide) (iff' (by decide) a2), a3⟩
  · by_cases c1 : p = 1
    · obtain ⟨a, v1, w1, a1, a2, a3⟩ := both (Or.inr c1)
      refine ⟨a, v1, w1, iff' c0 (ift c1 a1), bnd (show f_X7_in p (0 : Int32) (1 : Int32) = some 1 by rw [c1]; decide) (iff' (by decide) a2), a3⟩
    · exact ⟨-1, v, _, iff' c0 (iff' c1 rfl), bnd (in01 c0 c1) (ift rfl rfl), r, z⟩
theorem sim_worthOf_ok : sim_worthOf Rel := by
  intro v w p hR
  obtain ⟨r, h⟩ := hR
  have z := h.z
  unfold f_X6_worthOf f_X7_worthOf
  by_cases c1 : p < (1 : Int32)
  · exact ⟨-1, v, _, ift c1 rfl, bnd (in7_1 c1) (ift rfl rfl), r, z⟩
  · by_cases c2 : p ≤ (5 : Int32)
    · have i1 := in7_3 c1 (fun e => nle_lt.mpr e c2)
      obtain ⟨t, rfl, t1, t2⟩ := rng (a := 1) (b := 5) (by omega) (by omega) c1 c2
      have e6 := refusal_eq h.2.1 h.1 (t := t) (by omega)
      have e7 : f_X7_refuses ((0 : Int32), w.2) (nI t) = some (nI (sRef r t)) := refuses7 z.2.2.1 h.1 (by omega)
      by_cases c3 : sRef r t = 0
      · obtain ⟨x, p1, p2⟩ := prep_both h
        obtain ⟨to, b1, b2⟩ := ofTurn_eq p2.2.1 h.2.1 h.1 c3 t2
        obtain ⟨y, y1, y2⟩ := turnW_eq z.2.2.1 h.1 z.2.2.2.2.2.2.2.2 (ref_over c3) t1 t2 (ref_pos h.1 c3 t2)
        exact ⟨_, _, y, iff' c1 (ift c2 (bnd e6 (ift (by rw [c3]; rfl) (bnd p1 (bnd b1 rfl))))), bnd i1 (iff' (by decide) (bnd e7 (ift (by rw [c3]; rfl) (bnd y1 rfl)))), r, z.look y2.kp (im := v.2.1) (PI_st p2 b2).wi⟩
      · have n0 : ¬ nI (sRef r t) = 0 := by rw [sRef_z]; exact c3
        exact ⟨-2, v, _, iff' c1 (ift c2 (bnd e6 (iff' n0 rfl))), bnd i1 (iff' (by decide) (bnd e7 (iff' n0 rfl))), r, z⟩
    · exact ⟨-1, v, _, iff' c1 (iff' c2 rfl), bnd (in7_2 c1 (nle_lt.mp c2)) (ift rfl rfl), r, z⟩
theorem sim_bestTurn_ok : sim_bestTurn Rel := by
  intro v w hR
  obtain ⟨r, h⟩ := hR
  have z := h.z
  unfold f_X6_bestTurn f_X7_bestTurn
  have e6 := isOver_eq h.2.1
  have e7 : f_X7_isOver ((0 : Int32), w.2) = _ := isOver7 z.2.2.1
  by_cases c : rWi r = -4
  · rw [if_pos c] at e6 e7
    obtain ⟨x, p1, p2⟩ := prep_both h
    obtain ⟨to, T, b1, b2, b3⟩ := bestOf_eq p2.2.1 h.2.1 h.1 c
    obtain ⟨T', y, d1, d2, d3⟩ := bestNow_eq z.2.2.1 h.1 z.2.2.2.2.2.2.2.2 c
    have eT : T' = T := isB_uniq d2 b3
    subst eT
    exact ⟨nI T', _, y, bnd e6 (ift rfl (bnd p1 (bnd b1 rfl))), bnd e7 (ift rfl (bnd d1 rfl)), r, z.look d3 (im := v.2.1) (PI_st p2 b2).wi⟩
  · rw [if_neg c] at e6 e7
    exact ⟨-2, v, _, bnd e6 (iff' (by decide) rfl), bnd e7 (iff' (by decide) rfl), r, z⟩
theorem ovo_MR {f g : Nat → Int32} {r : RcS} (hm : rM r ≤ 14) (h : MR f r) : MR (ovo 0 72 f g) r := MR_cong hm (fun x hx => by
  have := ovo_in (c := 0) (n := 72) (i := x) (f := f) (g := g) hx
  rw [Nat.zero_add] at this
  exact this) h
theorem sim_undo_ok : sim_undo Rel := by
  intro v w hR
  obtain ⟨r, h⟩ := hR
  have z := h.z
  unfold f_X6_undo f_X7_undo
  rcases takeBack_eq (h := vH v) (v1 := v.1) (w := ((0 : Int32), w.2)) h.2.2.2.1 with ⟨s0, t1⟩ | ⟨k, v', r', k3, s1, t1, t2, t3, t4, t5⟩
  · exact ⟨-2, _, _, bnd t1 (ift rfl rfl), ift s0 rfl, r, z⟩
  · have sm0 : ¬ w_sm w = 0 := by
      rw [show w_sm w = nI (k + 1) from s1, nI_z (by omega)]
      omega
    have u := undo_L27 (c := k) k3 (f := w_sts w) (g := w.2.1) gas 0 (stH ((0 : Int32), w.2) (w_sts w) (nI k)) (by omega) (by show 72 < 0 + 1000000; omega) rfl rfl ovo_0.symm
    refine ⟨nI k, (v', v.2.1, v.2.2.1, ((vH v).1, (vH v).2.1, nI k), v.2.2.2.2), stA (stH ((0 : Int32), w.2) (w_sts w) (nI k)) (ovo 0 72 (fun x => w_sts w (72 * k + x)) w.2.1) 0, bnd t1 (iff' (show ¬ (1 : Int32) = 0 by decide) rfl), iff' sm0 ?_, r', ?_⟩
    · refine Eq.trans ?_ u
      show f_X7_undo_L27 gas (nI 0) (stH ((0 : Int32), w.2) (w_sts w) (w_sm w - (1 : Int32))) = _
      rw [show w_sm w = nI (k + 1) from s1, show nI (k + 1) - (1 : Int32) = nI k from nI_sub (b := 1) (by omega)]
    · obtain ⟨h1, h2, h3, h4, h5, h6, h7, h8, h9⟩ := z
      exact ⟨t3, t4, ovo_MR t3.2.1 t5, t2, h5, h6, h7, h8, Or.inl rfl⟩
theorem sim_save_ok : sim_save Rel := by
  intro v w hR
  obtain ⟨r, h⟩ := hR
  have z := h.z
  unfold f_X6_save f_X7_save
  obtain ⟨x, x1, x2⟩ := CR_take (v := v.2.2.1) h.2.1 h.1
  have u := save_L7 (f := w.2.1) (g := w_sn w) gas 0 ((0 : Int32), w.2) (by omega) (by show 72 < 0 + 1000000; omega) rfl ovo_0.symm
  have e1 : v.1.2.2.2.2.2.2.2.1 = w.2.1 18 := h.2.1.2.2.2.2.2.2.2.1.trans h.2.2.1.2.2.2.2.2.1.symm
  refine ⟨w.2.1 18, (v.1, v.2.1, x, v.2.2.2.1, v.2.2.2.2.1, v.2.2.2.2.2.1, (1 : Int32), v.2.2.2.2.2.2.2), stS ((0 : Int32), w.2) (ovo 0 72 w.2.1 (w_sn w)) 1, bnd x1 (by rw [e1]), u, r, ?_⟩
  obtain ⟨h1, h2, h3, h4, h5, h6, h7, h8, h9⟩ := z
  exact ⟨h1, h2, h3, h4, Or.inr ⟨rfl, rfl, r, h1, x2, ovo_MR h1.2.1 h3⟩, h6, h7, h8, h9⟩
theorem sim_restore_ok : sim_restore Rel := by
  intro v w hR
  obtain ⟨r, h⟩ := hR
  have z := h.z
  unfold f_X6_restore f_X7_restore
  rcases h.2.2.2.2.1 with ⟨f1, f2⟩ | ⟨f1, f2, r', f3, f4, f5⟩
  · exact ⟨-2, v, _, ift f1 rfl, ift f2 rfl, r, z⟩
  · obtain ⟨h', sts, sm, e1, e2, e3⟩ := record_eq z.2.2.2.1 z.2.1 z.1 z.2.2.1
    obtain ⟨x, x1, x2⟩ := CR_take (v := v.1) f4 f3
    have mo := ovo_MR (g := w.2.1) f3.2.1 f5
    have u := rest_L21 (f := w_sn w) (g := w.2.1) gas 0 (stH ((0 : Int32), w.2) sts sm) (by omega) (by show 72 < 0 + 1000000; omega) rfl ovo_0.symm
    have n6 : ¬ v.2.2.2.2.2.2.1 = 0 := by rw [show v.2.2.2.2.2.2.1 = 1 from f1]; decide
    have n7 : ¬ w.2.2.2.2.2.2.1 = 0 := by rw [show w.2.2.2.2.2.2.1 = 1 from f2]; decide
    refine ⟨ovo 0 72 (w_sn w) w.2.1 18, (x, v.2.1, v.2.2.1, h', v.2.2.2.2), stA (stH ((0 : Int32), w.2) sts sm) (ovo 0 72 (w_sn w) w.2.1) 0, iff' n6 (bnd e1 (bnd x1 ?_)), iff' n7 (bnd e2 u), r', ?_⟩
    · rw [x2.2.2.2.2.2.2.2.1, mo.2.2.2.2.2.1]
    · obtain ⟨h1, h2, h3, h4, h5, h6, h7, h8, h9⟩ := z
      exact ⟨f3, x2, mo, e3, h5, h6, h7, h8, Or.inl rfl⟩

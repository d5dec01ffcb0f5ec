/-! the turns, on both sides -/
theorem sRef_lt (r : RcS) (t : Nat) : sRef r t < 6 := by
  unfold sRef
  split
  · omega
  · split
    · split <;> omega
    · split
      · omega
      · split
        · split <;> omega
        · split <;> omega
theorem sRef_z (r : RcS) (t : Nat) : (nI (sRef r t) = 0) = (sRef r t = 0) := nI_z (by have := sRef_lt r t; omega)
theorem RelR.rec' {v : tX6} {w : tX7} {r : RcS} {sts : Nat → Int32} {sm : Int32} {h' : tX0} (h : RelR v w r) (hh : HR h' sts sm) : RelR (v.1, v.2.1, v.2.2.1, h', v.2.2.2.2) (stH w sts sm) r := by
  obtain ⟨h1, h2, h3, h4, h5, h6, h7, h8, h9⟩ := h
  exact ⟨h1, h2, h3, hh, h5, h6, h7, h8, h9⟩
theorem RelR.turn {v : tX6} {w z : tX7} {r r' : RcS} {x : tX2} (h : RelR v w r) (ok : okR r') (hc : CR x r') (hm : MR z.2.1 r') (hz : same7 w z) (e : rM r' = rM r ∧ rK r' = rK r ∧ rPc r' = rPc r ∧ rSp r' = rSp r) : RelR (x, v.2) z r' := by
  obtain ⟨h1, h2, h3, h4, h5, h6, h7, h8, h9⟩ := h
  obtain ⟨s, q1, q2, q3, q4, q5, rfl⟩ := same7_ex hz
  obtain ⟨e1, e2, e3, e4⟩ := e
  refine ⟨ok, hc, hm, h4, h5, h6, h7, h8, ?_⟩
  show WR _ (rM r') (rK r') (rPc r') (rSp r')
  rw [e1, e2, e3, e4]
  exact h9
theorem prep_both {v : tX6} {w : tX7} {r : RcS} (h : RelR v w r) : ∃ x, f_X6_preparedWorths v = some (v.1, v.2.1, v.2.2.1, v.2.2.2.1, v.2.2.2.2.1, x, v.2.2.2.2.2.2) ∧ PI x r := by
  obtain ⟨x, e1, e2⟩ := prepare_eq h.2.2.2.2.2.2.2.1 h.2.1 h.1
  refine ⟨x, ?_, e2⟩
  unfold f_X6_preparedWorths
  exact bnd e1 rfl
theorem over_ne {r : RcS} (h : rWi r ≠ -4) (t : Nat) : sRef r t ≠ 0 := fun e => h (ref_over e)
theorem sim_token_ok : sim_token Rel := by
  intro v w hR
  obtain ⟨r, h⟩ := hR
  have z := h.z
  have ho := h.1.2.2.2.2.2.2.2.1
  unfold f_X6_token f_X7_token
  have e6 : f_X2_refusal v.1 (5 : Int32) = some (nI (sRef r 5)) := refusal_eq (t := 5) h.2.1 h.1 (by omega)
  have e7 : f_X7_refuses ((0 : Int32), w.2) (5 : Int32) = some (nI (sRef r 5)) := refuses7 (t := 5) z.2.2.1 h.1 (by omega)
  by_cases c3 : sRef r 5 = 0
  · obtain ⟨-, m1⟩ := mover_eq h.2.1 ho
    obtain ⟨x, h', sts, sm, a1, a2, a3, a4⟩ := turn_both z c3
    obtain ⟨y, y1, y2, y3, y4⟩ := makesToken7 (v := stH ((0 : Int32), w.2) sts sm) (r := r) h.2.2.1 h.1
    have hm : sMake r 5 = sToken r := rfl
    have R := z.chg (okR_make h.1 c3) a2 y3 a4 y4 (make_keep r 5)
    refine ⟨nI (min 3 (gLs (rW r (1 - rOt r)) + rSp r)), _, y.2, bnd e6 (ift (by rw [c3]; rfl) (bnd m1 ?_)), bnd e7 (ift (by rw [c3]; rfl) (bnd a3 (bnd y1 (by rw [y2])))), _, R⟩
    obtain ⟨-, w0, w1, -⟩ := a2
    have pl := sToken_ls (r := r)
    rcases (show rOt r = 0 ∨ rOt r = 1 by omega) with e | e
    · rw [e] at pl
      refine iff' (by omega) (ift (by omega) (bnd a1 ?_))
      show some (x.2.2.1.2.2.2.1, _) = _
      rw [w1.2.2.1, show (rW (sMake r 5) 1).2.2.1 = min 3 (gLs (rW r (1 - rOt r)) + rSp r) by rw [e]; exact pl]
    · rw [e] at pl
      refine ift (by omega) (bnd a1 ?_)
      show some (x.2.1.2.2.2.1, _) = _
      rw [w0.2.2.1, show (rW (sMake r 5) 0).2.2.1 = min 3 (gLs (rW r (1 - rOt r)) + rSp r) by rw [e]; exact pl]
  · have n0 : ¬ nI (sRef r 5) = 0 := by rw [sRef_z]; exact c3
    exact ⟨-2, v, _, bnd e6 (iff' n0 rfl), bnd e7 (iff' n0 rfl), r, z⟩
theorem sim_lose_ok : sim_lose Rel := by
  intro v w hR
  obtain ⟨r, h⟩ := hR
  have z := h.z
  have ho := h.1.2.2.2.2.2.2.2.1
  unfold f_X6_lose f_X7_lose
  have e6 : f_X2_refusal v.1 (0 : Int32) = some (nI (sRef r 0)) := refusal_eq (t := 0) h.2.1 h.1 (by omega)
  have e7 : f_X7_refuses ((0 : Int32), w.2) (0 : Int32) = some (nI (sRef r 0)) := refuses7 (t := 0) z.2.2.1 h.1 (by omega)
  by_cases c3 : sRef r 0 = 0
  · obtain ⟨m1, -⟩ := mover_eq h.2.1 ho
    obtain ⟨x, h', sts, sm, a1, a2, a3, a4⟩ := turn_both z c3
    obtain ⟨y, y1, y2, y3, y4⟩ := makesLost7 (v := stH ((0 : Int32), w.2) sts sm) (r := r) h.2.2.1 h.1 c3
    have R := z.chg (okR_make h.1 c3) a2 y3 a4 y4 (make_keep r 0)
    refine ⟨nI (gLs (rW r (rOt r)) - 1), _, y.2, bnd e6 (ift (by rw [c3]; rfl) (bnd m1 ?_)), bnd e7 (ift (by rw [c3]; rfl) (bnd a3 (bnd y1 (by rw [y2])))), _, R⟩
    obtain ⟨-, w0, w1, -⟩ := a2
    have pl := sLost_ls (r := r)
    rcases (show rOt r = 0 ∨ rOt r = 1 by omega) with e | e
    · rw [e] at pl
      refine ift (by omega) (bnd a1 ?_)
      show some (x.2.1.2.2.2.1, _) = _
      rw [w0.2.2.1, show (rW (sMake r 0) 0).2.2.1 = gLs (rW r (rOt r)) - 1 by rw [e]; exact pl]
    · rw [e] at pl
      refine iff' (by omega) (ift (by omega) (bnd a1 ?_))
      show some (x.2.2.1.2.2.2.1, _) = _
      rw [w1.2.2.1, show (rW (sMake r 0) 1).2.2.1 = gLs (rW r (rOt r)) - 1 by rw [e]; exact pl]
  · have n0 : ¬ nI (sRef r 0) = 0 := by rw [sRef_z]; exact c3
    exact ⟨-2, v, _, bnd e6 (iff' n0 rfl), bnd e7 (iff' n0 rfl), r, z⟩
theorem sim_best_ok : sim_best Rel := by
  intro v w hR
  obtain ⟨r, h⟩ := hR
  have z := h.z
  unfold f_X6_best f_X7_best
  have e6 := isOver_eq h.2.1
  have e7 : f_X7_isOver ((0 : Int32), w.2) = _ := isOver7 z.2.2.1
  by_cases c : rWi r = -4
  · rw [if_pos c] at e6 e7
    obtain ⟨x, p1, p2⟩ := prep_both h
    obtain ⟨to, T, b1, b2, b3⟩ := bestOf_eq p2.2.1 h.2.1 h.1 c
    obtain ⟨c3, c5⟩ := isB_ref h.1 c b3
    have R2 := z.look (KP.refl z.2.2.2.2.2.2.2.2) (im := v.2.1) (PI_st p2 b2).wi
    obtain ⟨x1, h', sts, sm, a1, a2, a3, a4⟩ := turn_both R2 c3
    have R3 := R2.rec' a4
    obtain ⟨T', y, d1, d2, d3⟩ := bestNow_eq R3.2.2.1 h.1 R3.2.2.2.2.2.2.2.2 c
    have eT : T' = T := isB_uniq d2 b3
    subst eT
    have R4 := R3.kp d3
    obtain ⟨q, q1, q2, q3, q4⟩ := makes7 R4.2.2.1 h.1 c3 (by omega)
    have R5 := R4.turn (okR_make h.1 c3) a2 q3 q4 (make_keep r T')
    refine ⟨nI T', _, q.2, bnd e6 (ift rfl (bnd p1 (bnd b1 (bnd a1 rfl)))), bnd e7 (ift rfl (bnd a3 (bnd d1 (bnd q1 (by rw [q2]))))), _, R5⟩
  · rw [if_neg c] at e6 e7
    exact ⟨-2, v, _, bnd e6 (iff' (by decide) rfl), bnd e7 (iff' (by decide) rfl), r, z⟩
theorem sim_greedy_ok : sim_greedy Rel := by
  intro v w hR
  obtain ⟨r, h⟩ := hR
  have z := h.z
  unfold f_X6_greedy f_X7_greedy
  have e6 := isOver_eq h.2.1
  have e7 : f_X7_isOver ((0 : Int32), w.2) = _ := isOver7 z.2.2.1
  by_cases c : rWi r = -4
  · rw [if_pos c] at e6 e7
    obtain ⟨c3, c5⟩ := sGreedy_ref h.1 c
    have g6 := greediest_eq h.2.1 h.1 c
    obtain ⟨x1, h', sts, sm, a1, a2, a3, a4⟩ := turn_both z c3
    have R3 := z.rec' a4
    obtain ⟨y, d1, d2, d3⟩ := greedy7 R3.2.2.1 h.1 c
    have R4 := R3.sm d3
    obtain ⟨q, q1, q2, q3, q4⟩ := makes7 R4.2.2.1 h.1 c3 (by omega)
    rw [← d2] at q1
    have R5 := R4.turn (okR_make h.1 c3) a2 q3 q4 (make_keep r _)
    refine ⟨nI (sGreedy r), _, q.2, bnd e6 (ift rfl (bnd g6 (bnd a1 rfl))), bnd e7 (ift rfl (bnd a3 (bnd d1 (bnd q1 (by rw [q2]))))), _, R5⟩
  · rw [if_neg c] at e6 e7
    exact ⟨-2, v, _, bnd e6 (iff' (by decide) rfl), bnd e7 (iff' (by decide) rfl), r, z⟩
/-! again, set -/
theorem sim_again_ok : sim_again Rel := by
  intro v w hR
  obtain ⟨r, h⟩ := hR
  have z := h.z
  unfold f_X6_again f_X7_again
  obtain ⟨h', sts, sm, e1, e2, e3⟩ := record_eq z.2.2.2.1 z.2.1 z.1 z.2.2.1
  obtain ⟨-, cr⟩ := And.intro h.1 h.2.1
  obtain ⟨x, b1, b2, b3⟩ := CR_begin (r := r) cr.1 cr.2.2.2.1 cr.2.2.2.2.1 cr.2.2.2.2.2.2.2.2.1 cr.2.2.2.2.2.2.2.2.2.1 cr.2.2.2.2.2.2.2.2.2.2
  have mr := h.2.2.1
  have mb := MR_begin (r := r) h.1.2.1 mr.1 mr.2.1 mr.2.2.1 mr.2.2.2.1 mr.2.2.2.2.2.2.1 mr.2.2.2.2.2.2.2.1 mr.2.2.2.2.2.2.2.2.1
  have b7 := begins7 (stH ((0 : Int32), w.2) sts sm)
  have R : RelR (x, v.2.1, v.2.2.1, h', v.2.2.2.2) (stX (stH ((0 : Int32), w.2) sts sm) (beS w.2.1)) (sBegin r) := by
    obtain ⟨h1, h2, h3, h4, h5, h6, h7, h8, h9⟩ := z
    exact ⟨okR_begin h1, b2, mb, e3, h5, h6, h7, h8, h9⟩
  refine ⟨nI (rM r), _, _, bnd e1 (bnd b1 (by rw [b3])), bnd e2 (bnd b7 ?_), _, R⟩
  show some ((beS w.2.1) 2, _) = _
  rw [show beS w.2.1 2 = nI (rM r) from mb.2.2.1]
theorem set_rel {v : tX6} {w : tX7} {r : RcS} {h' : tX0} {sts : Nat → Int32} {sm : Int32} (h : RelR v w r) (hh : HR h' sts sm) {pc sp : Nat} (hp : 1 ≤ pc ∧ pc ≤ 4) (hs : 1 ≤ sp ∧ sp ≤ 3) {s : Nat → Int32} (s0 : s 0 = nI pc) (s1 : s 1 = nI sp) (s2 : ∀ x, 2 ≤ x → s x = w.2.1 x) : RelR ((v.1.1, v.1.2.1, v.1.2.2.1, nI pc, nI sp, v.1.2.2.2.2.2), v.2.1, v.2.2.1, h', v.2.2.2.2) (stA (stH w sts sm) s 0) (r.1, r.2.1, pc, sp, r.2.2.2.2) := by
  obtain ⟨h1, h2, h3, h4, h5, h6, h7, h8, h9⟩ := h
  obtain ⟨o1, o2, o3, o4, o5, o6, o7, o8⟩ := h1
  obtain ⟨c1, c2, c3, c4, c5, c6⟩ := h2
  obtain ⟨q1, q2, q3, q4, q5, q6, q7, q8, q9, q10, q11, q12⟩ := h3
  obtain ⟨u1, u2, u3, u4, u5, u6, u7, u8, u9⟩ := q11
  obtain ⟨x1, x2, x3, x4, x5, x6, x7, x8, x9⟩ := q12
  refine ⟨⟨o1, o2, o3, hp.1, hp.2, hs.1, hs.2, o8⟩, ⟨c1, c2, c3, rfl, rfl, c6⟩, ?_, hh, h5, h6, h7, h8, Or.inl rfl⟩
  exact ⟨s0, s1, (s2 _ (by omega)).trans q3, fun i a b => (s2 _ (by omega)).trans (q4 i a b), (s2 _ (by omega)).trans q5, (s2 _ (by omega)).trans q6, (s2 _ (by omega)).trans q7, (s2 _ (by omega)).trans q8, (s2 _ (by omega)).trans q9, (s2 _ (by omega)).trans q10,
    ⟨(s2 _ (by omega)).trans u1, (s2 _ (by omega)).trans u2, (s2 _ (by omega)).trans u3, (s2 _ (by omega)).trans u4, (s2 _ (by omega)).trans u5, (s2 _ (by omega)).trans u6, (s2 _ (by omega)).trans u7, (s2 _ (by omega)).trans u8, fun i a b => (s2 _ (by omega)).trans (u9 i a b)⟩,
    ⟨(s2 _ (by omega)).trans x1, (s2 _ (by omega)).trans x2, (s2 _ (by omega)).trans x3, (s2 _ (by omega)).trans x4, (s2 _ (by omega)).trans x5, (s2 _ (by omega)).trans x6, (s2 _ (by omega)).trans x7, (s2 _ (by omega)).trans x8, fun i a b => (s2 _ (by omega)).trans (x9 i a b)⟩⟩
theorem sim_set_ok : sim_set Rel := by
  intro v w p q hR
  obtain ⟨r, h⟩ := hR
  have z := h.z
  have cr := h.2.1
  have mr := h.2.2.1
  obtain ⟨h', sts, sm, e1, e2, e3⟩ := record_eq z.2.2.2.1 z.2.1 z.1 z.2.2.1
  obtain ⟨o1, o2, o3, o4, o5, o6, o7, o8⟩ := h.1
  unfold f_X6_set f_X7_set
  have bad : ∃ (r : Int32) (v1 : tX6) (w1 : tX7), some ((-1 : Int32), v) = some (r, v1) ∧ some ((-1 : Int32), ((0 : Int32), w.2)) = some (r, w1) ∧ Rel v1 w1 := ⟨-1, v, _, rfl, rfl, r, z⟩
  by_cases c0 : p = 0
  · subst c0
    rw [if_pos rfl]
    have i1 : f_X7_in (0 : Int32) (0 : Int32) (1 : Int32) = some 1 := by decide
    have hJ : ∀ u, f_X6_set_J43 (0 : Int32) q u = some ((-1 : Int32), u) := fun u => iff' (by decide) rfl
    by_cases c1 : q < (1 : Int32)
    · exact ⟨-1, v, _, ift c1 (hJ v), bnd i1 (iff' (by decide) (ift rfl (bnd (in7_1 c1) (ift rfl rfl)))), r, z⟩
    · by_cases c2 : (4 : Int32) < q
      · exact ⟨-1, v, _, iff' c1 (ift c2 (hJ v)), bnd i1 (iff' (by decide) (ift rfl (bnd (in7_2 c1 c2) (ift rfl rfl)))), r, z⟩
      · obtain ⟨t, rfl, t1, t2⟩ := rng (a := 1) (b := 4) (by omega) (by omega) c1 (nlt_le.mp c2)
        have R := set_rel z e3 (pc := t) (sp := rSp r) ⟨t1, t2⟩ ⟨o6, o7⟩ (s := upd w.2.1 0 (nI t)) upd_s ((upd_n (by omega)).trans mr.2.1) (fun x hx => upd_n (by omega))
        refine ⟨nI (rPc r), _, _, iff' c1 (iff' c2 (bnd e1 ?_)), bnd i1 (iff' (by decide) (ift rfl (bnd (in7_3 c1 c2) (iff' (by decide) (bnd e2 (ift (by decide) (ift (by decide) ?_))))))), _, R⟩
        · rw [cr.2.2.2.1, cr.2.2.2.2.1]
        · show some (w.2.1 (0 : Int32).toNatClampNeg, _) = _
          have e0 : (0 : Int32).toNatClampNeg = 0 := by decide
          rw [e0, mr.1]
  · by_cases c1 : p = 1
    · subst c1
      rw [if_neg c0]
      have i1 : f_X7_in (1 : Int32) (0 : Int32) (1 : Int32) = some 1 := by decide
      unfold f_X6_set_J43
      rw [if_pos rfl]
      by_cases c1 : q < (1 : Int32)
      · exact ⟨-1, v, _, ift c1 rfl, bnd i1 (iff' (by decide) (iff' (by decide) (bnd (in7_1 c1) (ift rfl rfl)))), r, z⟩
      · by_cases c2 : (3 : Int32) < q
        · exact ⟨-1, v, _, iff' c1 (ift c2 rfl), bnd i1 (iff' (by decide) (iff' (by decide) (bnd (in7_2 c1 c2) (ift rfl rfl)))), r, z⟩
        · obtain ⟨t, rfl, t1, t2⟩ := rng (a := 1) (b := 3) (by omega) (by omega) c1 (nlt_le.mp c2)
          have R := set_rel z e3 (pc := rPc r) (sp := t) ⟨o4, o5⟩ ⟨t1, t2⟩ (s := upd w.2.1 1 (nI t)) ((upd_n (by omega)).trans mr.1) upd_s (fun x hx => upd_n (by omega))
          refine ⟨nI (rSp r), _, _, iff' c1 (iff' c2 (bnd e1 ?_)), bnd i1 (iff' (by decide) (iff' (by decide) (bnd (in7_3 c1 c2) (iff' (by decide) (bnd e2 (ift (by decide) (ift (by decide) ?_))))))), _, R⟩
          · rw [cr.2.2.2.1, cr.2.2.2.2.1]
          · show some (w.2.1 (1 : Int32).toNatClampNeg, _) = _
            have e0 : (1 : Int32).toNatClampNeg = 1 := by decide
            rw [e0, mr.2.1]
    · rw [if_neg c0]
      have i1 : f_X7_in p (0 : Int32) (1 : Int32) = some 0 := by
        by_cases a : p < 0
        · exact in7_1 a
        · refine in7_2 a ?_
          by_cases b : (1 : Int32) < p
          · exact b
          · obtain ⟨t, rfl, t1, t2⟩ := rng (a := 0) (b := 1) (by omega) (by omega) a (nlt_le.mp b)
            rcases (show t = 0 ∨ t = 1 by omega) with e | e
            · subst e; exact absurd rfl c0
            · subst e; exact absurd rfl c1
      exact ⟨-1, v, _, iff' c1 rfl, bnd i1 (ift rfl rfl), r, z⟩

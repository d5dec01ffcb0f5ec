/-! the calls that may change -/
section DO
variable {r : RcS} {sn : Option RcS} {P : RcS → Prop}
theorem do_drive (hP : ∀ t, t ≤ 5 → sRef r t = 0 → P (sMake r t)) (ok : okR r) (p : Int32) : Does (fun v => f_X6_drive v p) r sn P := by
  have ho := ok.2.2.2.2.2.2.2.1
  by_cases c1 : p < (1 : Int32)
  · exact does_no (-1) (by decide) (fun v k h => ift c1 rfl)
  · by_cases c2 : p ≤ (4 : Int32)
    · obtain ⟨t, rfl, t1, t2⟩ := rng (a := 1) (b := 4) (by omega) (by omega) c1 c2
      by_cases c3 : sRef r t = 0
      · have hw := ref_over c3
        have hto := sTo_le ok hw t t1
        have hm14 := ok.2.1
        refine does_yes (nI (sTo r t)) (sMake r t) (nI_0le (by omega)) (hP t (by omega) c3) (fun v k h => ?_)
        obtain ⟨m1, -⟩ := mover_eq h.2.1 ho
        obtain ⟨x, h', a1, a2, a4⟩ := turn_eq h c3
        have hm : sMake r t = sDrive r t := by unfold sMake; rw [if_neg (by omega), if_neg (by omega)]
        have R := h.chg (okR_make ok c3) a2 a4
        refine ⟨_, ?_, R⟩
        show f_X6_drive v (nI t) = _
        unfold f_X6_drive
        refine iff' c1 (ift c2 (bnd (refusal_eq h.2.1 h.1 (by omega)) (ift (by rw [c3]; rfl) (bnd m1 ?_))))
        rw [hm] at a2
        obtain ⟨-, w0, w1, -⟩ := a2
        rcases (show rOt r = 0 ∨ rOt r = 1 by omega) with e | e
        · have pl := sDrive_pl (r := r) (t := t)
          rw [e] at pl
          refine ift e (bnd a1 ?_)
          show some (x.2.1.2.1, _) = _
          rw [w0.1, show (rW (sDrive r t) 0).1 = sTo r t from pl]
        · have pl := sDrive_pl (r := r) (t := t)
          rw [e] at pl
          refine iff' (by omega) (ift e (bnd a1 ?_))
          show some (x.2.2.1.2.1, _) = _
          rw [w1.1, show (rW (sDrive r t) 1).1 = sTo r t from pl]
      · have n0 : ¬ nI (sRef r t) = 0 := by rw [sRef_z]; exact c3
        refine does_no (-2) (by decide) (fun v k h => ?_)
        exact iff' c1 (ift c2 (bnd (refusal_eq h.2.1 h.1 (by omega)) (iff' n0 rfl)))
    · exact does_no (-1) (by decide) (fun v k h => iff' c1 (iff' c2 rfl))
theorem do_token (hP : ∀ t, t ≤ 5 → sRef r t = 0 → P (sMake r t)) (ok : okR r) : Does f_X6_token r sn P := by
  have ho := ok.2.2.2.2.2.2.2.1
  by_cases c3 : sRef r 5 = 0
  · refine does_yes (nI (min 3 (gLs (rW r (1 - rOt r)) + rSp r))) (sMake r 5) (nI_0le (by omega)) (hP 5 (by omega) c3) (fun v k h => ?_)
    have e6 : f_X2_refusal v.1 (5 : Int32) = some (nI (sRef r 5)) := refusal_eq (t := 5) h.2.1 h.1 (by omega)
    obtain ⟨-, m1⟩ := mover_eq h.2.1 ho
    obtain ⟨x, h', a1, a2, a4⟩ := turn_eq h c3
    have R := h.chg (okR_make ok c3) a2 a4
    refine ⟨_, ?_, R⟩
    unfold f_X6_token
    refine bnd e6 (ift (by rw [c3]; rfl) (bnd m1 ?_))
    obtain ⟨-, w0, w1, -⟩ := a2
    have pl := sToken_ls (r := r)
    rcases (show rOt r = 0 ∨ rOt r = 1 by omega) with e | e
    · rw [e] at pl
      refine iff' (by omega) (ift (by omega) (bnd a1 ?_))
      show some (x.2.2.1.2.2.2.1, _) = _
      rw [w1.2.2.1, show (rW (sMake r 5) 1).2.2.1 = min 3 (gLs (rW r (1 - rOt r)) + rSp r) by rw [e]; exact pl]
    · rw [e] at pl
      refine ift (by omega) (bnd a1 ?_)
      show some (x.2.1.2.2.2.1, _) = _
      rw [w0.2.2.1, show (rW (sMake r 5) 0).2.2.1 = min 3 (gLs (rW r (1 - rOt r)) + rSp r) by rw [e]; exact pl]
  · have n0 : ¬ nI (sRef r 5) = 0 := by rw [sRef_z]; exact c3
    exact does_no (-2) (by decide) (fun v k h => bnd (refusal_eq (t := 5) h.2.1 h.1 (by omega)) (iff' n0 rfl))
theorem do_lose (hP : ∀ t, t ≤ 5 → sRef r t = 0 → P (sMake r t)) (ok : okR r) : Does f_X6_lose r sn P := by
  have ho := ok.2.2.2.2.2.2.2.1
  by_cases c3 : sRef r 0 = 0
  · have hl := (ok.2.2.2.2.2.2.2.2.1 (rOt r) ho).2.2
    refine does_yes (nI (gLs (rW r (rOt r)) - 1)) (sMake r 0) (nI_0le (by omega)) (hP 0 (by omega) c3) (fun v k h => ?_)
    have e6 : f_X2_refusal v.1 (0 : Int32) = some (nI (sRef r 0)) := refusal_eq (t := 0) h.2.1 h.1 (by omega)
    obtain ⟨m1, -⟩ := mover_eq h.2.1 ho
    obtain ⟨x, h', a1, a2, a4⟩ := turn_eq h c3
    have R := h.chg (okR_make ok c3) a2 a4
    refine ⟨_, ?_, R⟩
    unfold f_X6_lose
    refine bnd e6 (ift (by rw [c3]; rfl) (bnd m1 ?_))
    obtain ⟨-, w0, w1, -⟩ := a2
    have pl := sLost_ls (r := r)
    rcases (show rOt r = 0 ∨ rOt r = 1 by omega) with e | e
    · rw [e] at pl
      refine ift (by omega) (bnd a1 ?_)
      show some (x.2.1.2.2.2.1, _) = _
      rw [w0.2.2.1, show (rW (sMake r 0) 0).2.2.1 = gLs (rW r (rOt r)) - 1 by rw [e]; exact pl]
    · rw [e] at pl
      refine iff' (by omega) (ift (by omega) (bnd a1 ?_))
      show some (x.2.2.1.2.2.2.1, _) = _
      rw [w1.2.2.1, show (rW (sMake r 0) 1).2.2.1 = gLs (rW r (rOt r)) - 1 by rw [e]; exact pl]
  · have n0 : ¬ nI (sRef r 0) = 0 := by rw [sRef_z]; exact c3
    exact does_no (-2) (by decide) (fun v k h => bnd (refusal_eq (t := 0) h.2.1 h.1 (by omega)) (iff' n0 rfl))
theorem do_best {v0 : tX6} {k0 : Nat} (h0 : IN v0 r k0 sn) (hP : ∀ t, t ≤ 5 → sRef r t = 0 → P (sMake r t)) : Does f_X6_best r sn P := by
  have ok := h0.1
  by_cases c : rWi r = -4
  · obtain ⟨y, -, y2⟩ := prep_eq h0
    obtain ⟨-, T, -, -, z3⟩ := bestOf_eq y2.2.1 h0.2.1 h0.1 c
    obtain ⟨c3, c5⟩ := isB_ref ok c z3
    refine does_yes (nI T) (sMake r T) (nI_0le (by omega)) (hP T c5 c3) (fun v k h => ?_)
    have e6 := isOver_eq h.2.1
    rw [if_pos c] at e6
    obtain ⟨x, p1, p2⟩ := prep_eq h
    obtain ⟨to, T', b1, b2, b3⟩ := bestOf_eq p2.2.1 h.2.1 h.1 c
    have eT : T' = T := isB_uniq b3 z3
    subst eT
    have R2 := h.look (im := v.2.1) (PI_st p2 b2).wi
    obtain ⟨x1, h', a1, a2, a4⟩ := turn_eq R2 c3
    have R3 := R2.chg (okR_make ok c3) a2 a4
    refine ⟨_, ?_, R3⟩
    unfold f_X6_best
    exact bnd e6 (ift rfl (bnd p1 (bnd b1 (bnd a1 rfl))))
  · refine does_no (-2) (by decide) (fun v k h => ?_)
    have e6 := isOver_eq h.2.1
    rw [if_neg c] at e6
    exact bnd e6 (iff' (by decide) rfl)
theorem do_greedy (hP : ∀ t, t ≤ 5 → sRef r t = 0 → P (sMake r t)) (ok : okR r) : Does f_X6_greedy r sn P := by
  by_cases c : rWi r = -4
  · obtain ⟨c3, c5⟩ := sGreedy_ref ok c
    refine does_yes (nI (sGreedy r)) (sMake r (sGreedy r)) (nI_0le (by omega)) (hP _ (by omega) c3) (fun v k h => ?_)
    have e6 := isOver_eq h.2.1
    rw [if_pos c] at e6
    have g6 := greediest_eq h.2.1 h.1 c
    obtain ⟨x1, h', a1, a2, a4⟩ := turn_eq h c3
    have R := h.chg (okR_make ok c3) a2 a4
    refine ⟨_, ?_, R⟩
    unfold f_X6_greedy
    exact bnd e6 (ift rfl (bnd g6 (bnd a1 rfl)))
  · refine does_no (-2) (by decide) (fun v k h => ?_)
    have e6 := isOver_eq h.2.1
    rw [if_neg c] at e6
    exact bnd e6 (iff' (by decide) rfl)
theorem do_again (hP : P (sBegin r)) (ok : okR r) : Does f_X6_again r sn P := by
  have hm := ok.2.1
  refine does_yes (nI (rM r)) (sBegin r) (nI_0le (by omega)) hP (fun v k h => ?_)
  obtain ⟨h', e1, e3⟩ := record_eq h.2.2.1 h.2.1 h.1
  have cr := h.2.1
  obtain ⟨x, b1, b2, b3⟩ := CR_begin (r := r) cr.1 cr.2.2.2.1 cr.2.2.2.2.1 cr.2.2.2.2.2.2.2.2.1 cr.2.2.2.2.2.2.2.2.2.1 cr.2.2.2.2.2.2.2.2.2.2
  have R := h.chg (okR_begin ok) b2 e3
  refine ⟨_, ?_, R⟩
  unfold f_X6_again
  exact bnd e1 (bnd b1 (by rw [b3]))
theorem do_restore {q : RcS} (hq : rTu q = nI 0 ∨ ∃ n, n < 1000 ∧ rTu q = nI n) (hP : P q) : Does f_X6_restore r (some q) P := by
  have hn : ∃ n, n < 1000 ∧ rTu q = nI n := by
    rcases hq with e | e
    · exact ⟨0, by omega, e⟩
    · exact e
  obtain ⟨n, n1, n2⟩ := hn
  refine does_yes (nI n) q (nI_0le (by omega)) hP (fun v k h => ?_)
  obtain ⟨f1, f3, f4⟩ := h.2.2.2.1
  obtain ⟨h', e1, e3⟩ := record_eq h.2.2.1 h.2.1 h.1
  obtain ⟨x, x1, x2⟩ := CR_take (v := v.1) f4 f3
  have n6 : ¬ v.2.2.2.2.2.2.1 = 0 := by rw [show v.2.2.2.2.2.2.1 = 1 from f1]; decide
  have R := h.chg f3 x2 e3
  refine ⟨_, ?_, R⟩
  unfold f_X6_restore
  refine iff' n6 (bnd e1 (bnd x1 ?_))
  rw [x2.2.2.2.2.2.2.2.1, ← n2]
theorem do_restore0 : Does f_X6_restore r none P := does_no (-2) (by decide) (fun v k h => by
  have f1 : v.2.2.2.2.2.2.1 = 0 := h.2.2.2.1
  unfold f_X6_restore
  exact ift f1 rfl)
theorem do_set (hP : ∀ pc sp, P (r.1, r.2.1, pc, sp, r.2.2.2.2)) (ok : okR r) (p q : Int32) : Does (fun v => f_X6_set v p q) r sn P := by
  obtain ⟨o1, o2, o3, o4, o5, o6, o7, o8⟩ := id ok
  by_cases c0 : p = 0
  · subst c0
    have hJ : ∀ u, f_X6_set_J43 (0 : Int32) q u = some ((-1 : Int32), u) := fun u => iff' (by decide) rfl
    by_cases c1 : q < (1 : Int32)
    · exact does_no (-1) (by decide) (fun v k h => ift rfl (ift c1 (hJ v)))
    · by_cases c2 : (4 : Int32) < q
      · exact does_no (-1) (by decide) (fun v k h => ift rfl (iff' c1 (ift c2 (hJ v))))
      · obtain ⟨t, rfl, t1, t2⟩ := rng (a := 1) (b := 4) (by omega) (by omega) c1 (nlt_le.mp c2)
        refine does_yes (nI (rPc r)) (r.1, r.2.1, t, rSp r, r.2.2.2.2) (nI_0le (by omega)) (hP _ _) (fun v k h => ?_)
        obtain ⟨h', e1, e3⟩ := record_eq h.2.2.1 h.2.1 h.1
        obtain ⟨d1, d2, d3, d4, d5, d6⟩ := id h.2.1
        have R := h.chg (r' := (r.1, r.2.1, t, rSp r, r.2.2.2.2)) (x := (v.1.1, v.1.2.1, v.1.2.2.1, nI t, v.1.2.2.2.2.1, v.1.2.2.2.2.2)) ⟨o1, o2, o3, t1, t2, o6, o7, o8⟩ ⟨d1, d2, d3, rfl, d5, d6⟩ e3
        refine ⟨_, ?_, R⟩
        show f_X6_set v (0 : Int32) (nI t) = _
        unfold f_X6_set
        refine ift rfl (iff' c1 (iff' c2 (bnd e1 ?_)))
        rw [d4]
  · by_cases c1 : p = 1
    · subst c1
      by_cases c1 : q < (1 : Int32)
      · exact does_no (-1) (by decide) (fun v k h => iff' c0 (ift rfl (ift c1 rfl)))
      · by_cases c2 : (3 : Int32) < q
        · exact does_no (-1) (by decide) (fun v k h => iff' c0 (ift rfl (iff' c1 (ift c2 rfl))))
        · obtain ⟨t, rfl, t1, t2⟩ := rng (a := 1) (b := 3) (by omega) (by omega) c1 (nlt_le.mp c2)
          refine does_yes (nI (rSp r)) (r.1, r.2.1, rPc r, t, r.2.2.2.2) (nI_0le (by omega)) (hP _ _) (fun v k h => ?_)
          obtain ⟨h', e1, e3⟩ := record_eq h.2.2.1 h.2.1 h.1
          obtain ⟨d1, d2, d3, d4, d5, d6⟩ := id h.2.1
          have R := h.chg (r' := (r.1, r.2.1, rPc r, t, r.2.2.2.2)) (x := (v.1.1, v.1.2.1, v.1.2.2.1, v.1.2.2.2.1, nI t, v.1.2.2.2.2.2)) ⟨o1, o2, o3, o4, o5, t1, t2, o8⟩ ⟨d1, d2, d3, d4, rfl, d6⟩ e3
          refine ⟨_, ?_, R⟩
          show f_X6_set v (1 : Int32) (nI t) = _
          unfold f_X6_set
          refine iff' c0 ?_
          unfold f_X6_set_J43
          refine ift rfl (iff' c1 (iff' c2 (bnd e1 ?_)))
          rw [d5]
    · exact does_no (-1) (by decide) (fun v k h => iff' c0 (iff' c1 rfl))
end DO

/-! the class's race = the spec -/
theorem z00 : (nI 0 = 0) = True := eq_true rfl
theorem z10 : (nI 1 = 0) = False := eq_false (by decide)
theorem nI_z {n : Nat} (h : n < 2 ^ 31) : (nI n = 0) = (n = 0) := by rw [k0]; exact propext (nI_eq h (by omega))
theorem nI_le0 {n : Nat} (h : n < 2 ^ 31) : (nI n ≤ 0) = (n = 0) := by rw [k0]; exact propext ⟨fun e => by have := (nI_leI h (by omega)).mp e; omega, fun e => by subst e; exact nI_le (Nat.le_refl 0) (by omega)⟩
theorem isOver_eq {v : tX2} {r : RcS} (h : CR v r) : f_X2_isOver v = some (if rWi r = -4 then nI 0 else nI 1) := by
  unfold f_X2_isOver
  rw [h.2.2.2.2.2.2.1]
  by_cases c : rWi r = -4
  · rw [if_pos c, if_pos c]; rfl
  · rw [if_neg c, if_neg c]; rfl
theorem mover_eq {v : tX2} {r : RcS} (h : CR v r) (ok : rOt r ≤ 1) : f_X2_mover v = some (rOt r) ∧ f_X2_waiting v = some (1 - rOt r) := by
  unfold f_X2_mover f_X2_waiting
  rw [h.2.2.2.2.2.1]
  rcases (show rOt r = 0 ∨ rOt r = 1 by omega) with e | e <;> rw [e] <;> exact ⟨rfl, rfl⟩
theorem refusal_eq {v : tX2} {r : RcS} (h : CR v r) (ok : okR r) {t : Nat} (ht : t < 1000) : f_X2_refusal v (nI t) = some (nI (sRef r t)) := by
  obtain ⟨m1, m2⟩ := mover_eq h ok.2.2.2.2.2.2.2.1
  have hio := isOver_eq h
  obtain ⟨m, K, pc, sp, W, ot, wi, tu, be, won⟩ := r
  obtain ⟨way, ⟨st0, pl0, tk0, ls0, x1, x2, x3, x4, x5⟩, ⟨st1, pl1, tk1, ls1, y1, y2, y3, y4, y5⟩, pc', sp', ot', wi', tu', be', w0, w1⟩ := v
  rcases e0 : W 0 with ⟨p0, t0, l0, a1, a2, a3, a4, a5, a6⟩
  rcases e1 : W 1 with ⟨p1, t1, l1, b1, b2, b3, b4, b5, b6⟩
  obtain ⟨hR, hW0, hW1, q1, q2, q3, q4, q5, q6, q7, q8⟩ := h
  simp only [CW, rW, rM, rK, e0, e1] at hW0 hW1 hR
  obtain ⟨u1, u2, u3, u4, u5, u6, u7, u8, u9⟩ := hW0
  obtain ⟨v1, v2, v3, v4, v5, v6, v7, v8, v9⟩ := hW1
  dsimp only [rPc, rSp, rOt, rWi] at q1 q2 q3 q4 q5 q6 q7 q8
  subst q1 q2 q3 q4 q5 q6 q7 q8 u1 u2 u3 u4 u5 u6 u7 u8 v1 v2 v3 v4 v5 v6 v7 v8
  obtain ⟨h1, h2, h3, h4, h5, h6, h7, h8, h9, h10⟩ := ok
  have g0 := h9 0 (by omega)
  have g1 := h9 1 (by omega)
  dsimp only [rM, rK, rPc, rSp, rW, rOt, rWi, gPl, gTk, gLs] at *
  rw [e0] at g0; rw [e1] at g1
  dsimp only at g0 g1
  unfold f_X2_refusal sRef
  dsimp only [rM, rK, rPc, rSp, rW, rOt, rWi, gPl, gTk, gLs]
  rw [hio, Option.bind_some, m1]
  have ht0 : (nI t = 0) = (t = 0) := nI_z (by omega)
  have ht5 : (nI t = (5 : Int32)) = (t = 5) := propext (nI_eq (a := t) (b := 5) (by omega) (by omega))
  have htp : (nI t ≤ nI pc) = (t ≤ pc) := propext (nI_leI (by omega) (by omega))
  by_cases c : wi' = -4
  · simp only [if_pos c, z00, if_true, Option.bind_some, ne_eq, c, not_true, if_false]
    rcases (show ot = 0 ∨ ot = 1 by omega) with rfl | rfl
    · simp only [e0, nI_le0 (show l0 < 2 ^ 31 by omega), nI_z (show t0 < 2 ^ 31 by omega), ht0, ht5, htp, if_true]
      by_cases d1 : l0 = 0
      · simp only [d1, if_true, not_true, if_false]
        by_cases d2 : t = 0
        · simp only [d2, if_true]; rfl
        · simp only [if_neg d2]
          by_cases d3 : t = 5
          · simp only [if_pos d3]
            by_cases d4 : t0 = 0
            · simp only [d4, if_true]; rfl
            · simp only [if_neg d4]; rfl
          · simp only [if_neg d3]
            by_cases d4 : t ≤ pc
            · simp only [if_pos d4]; rfl
            · simp only [if_neg d4]; rfl
      · simp only [if_neg d1, d1, not_false_eq_true, if_true]
        by_cases d2 : t = 0
        · simp only [if_pos d2]; rfl
        · simp only [if_neg d2]; rfl
    · simp only [e1, nI_le0 (show l1 < 2 ^ 31 by omega), nI_z (show t1 < 2 ^ 31 by omega), ht0, ht5, htp, if_true, show ((1 : Nat) = 0) = False by simp, if_false]
      by_cases d1 : l1 = 0
      · simp only [d1, if_true, not_true, if_false]
        by_cases d2 : t = 0
        · simp only [d2, if_true]; rfl
        · simp only [if_neg d2]
          by_cases d3 : t = 5
          · simp only [if_pos d3]
            by_cases d4 : t1 = 0
            · simp only [d4, if_true]; rfl
            · simp only [if_neg d4]; rfl
          · simp only [if_neg d3]
            by_cases d4 : t ≤ pc
            · simp only [if_pos d4]; rfl
            · simp only [if_neg d4]; rfl
      · simp only [if_neg d1, d1, not_false_eq_true, if_true]
        by_cases d2 : t = 0
        · simp only [if_pos d2]; rfl
        · simp only [if_neg d2]; rfl
  · simp only [if_neg c, z10, if_false, ne_eq, c, not_false_eq_true, if_true]; rfl
/-- the last step of a turn -/
theorem J52_eq {way : tX3} {m : Nat} {K : Nat → Nat} (h : Rd way m K) (st : Nat → Int32) (tk ls tn lo le us rl : Int32) (y : tX4) (pc sp wi tu be w0 w1 : Int32) {q : Nat} (hq : q < 1000) :
    f_X2_make_J52 (way, (st, nI q, tk, ls, tn, lo, le, us, rl), y, pc, sp, nI 0, wi, tu, be, w0, w1) = some (way, (st, nI q, tk, ls, tn + 1, lo, le, us, rl), y, pc, sp, nI 1, (if q ≤ m then wi else nI 0), tu + 1, be, (if q ≤ m then w0 else w0 + 1), w1) := by
  unfold f_X2_make_J52 f_X2_make_J90 f_X2_arrive
  dsimp only
  rw [isEnd_eq h hq, Option.bind_some]
  by_cases c : q ≤ m
  · simp only [if_pos c, z00, if_true]; rfl
  · simp only [if_neg c, z10, if_false, z00, if_true, Option.bind_some]; rfl
theorem J52b_eq {way : tX3} {m : Nat} {K : Nat → Nat} (h : Rd way m K) (st : Nat → Int32) (tk ls tn lo le us rl : Int32) (y : tX4) (pc sp wi tu be w0 w1 : Int32) {q : Nat} (hq : q < 1000) :
    f_X2_make_J52b (way, y, (st, nI q, tk, ls, tn, lo, le, us, rl), pc, sp, nI 1, wi, tu, be, w0, w1) = some (way, y, (st, nI q, tk, ls, tn + 1, lo, le, us, rl), pc, sp, nI 0, (if q ≤ m then wi else nI 1), tu + 1, be, w0, (if q ≤ m then w1 else w1 + 1)) := by
  unfold f_X2_make_J52b f_X2_make_J90 f_X2_arrive
  dsimp only
  rw [isEnd_eq h hq, Option.bind_some]
  by_cases c : q ≤ m
  · simp only [if_pos c, z00, if_true]; rfl
  · simp only [if_neg c, z10, if_false, z10, if_false, Option.bind_some]; rfl
theorem nI_min {a b : Nat} (ha : a < 1000) (hb : b < 1000) : (if nI a + nI b < (3 : Int32) then nI a + nI b else (3 : Int32)) = nI (min 3 (a + b)) := by
  rw [nI_add, k3]
  by_cases c : a + b < 3
  · rw [if_pos (nI_lt c (by omega)), Nat.min_eq_right (by omega)]
  · rw [if_neg (nI_nlt (by omega) (by omega)), Nat.min_eq_left (by omega)]
theorem CW_new {m j : Nat} {x : tX4} {W : Nat → WgS} {w : WgS} (h : CW m x w) : CW m x (upw W j w j) := by rw [upw_s]; exact h
theorem CW_keep {m j k : Nat} {x : tX4} {W : Nat → WgS} {w : WgS} (hk : k ≠ j) (h : CW m x (W k)) : CW m x (upw W j w k) := by rw [upw_n hk]; exact h
theorem make_eq {v : tX2} {r : RcS} (h : CR v r) (ok : okR r) {t : Nat} (hp : sRef r t = 0) : ∃ v' : tX2, f_X2_make v (nI t) = some v' ∧ CR v' (sMake r t) := by
  obtain ⟨m1, m2⟩ := mover_eq h ok.2.2.2.2.2.2.2.1
  obtain ⟨m, K, pc, sp, W, ot, wi, tu, be, won⟩ := r
  obtain ⟨way, ⟨st0, pl0, tk0, ls0, x1, x2, x3, x4, x5⟩, ⟨st1, pl1, tk1, ls1, y1, y2, y3, y4, y5⟩, pc', sp', ot', wi', tu', be', w0, w1⟩ := v
  rcases e0 : W 0 with ⟨p0, t0, l0, a1, a2, a3, a4, a5, a6⟩
  rcases e1 : W 1 with ⟨p1, t1, l1, b1, b2, b3, b4, b5, b6⟩
  obtain ⟨hR, hW0, hW1, q1, q2, q3, q4, q5, q6, q7, q8⟩ := h
  simp only [CW, rW, rM, rK, e0, e1] at hW0 hW1 hR
  obtain ⟨u1, u2, u3, u4, u5, u6, u7, u8, u9⟩ := hW0
  obtain ⟨v1, v2, v3, v4, v5, v6, v7, v8, v9⟩ := hW1
  dsimp only [rPc, rSp, rOt, rWi] at q1 q2 q3 q4 q5 q6 q7 q8
  subst q1 q2 q3 q4 q5 q6 q7 q8 u1 u2 u3 u4 u5 u6 u7 u8 v1 v2 v3 v4 v5 v6 v7 v8
  obtain ⟨h1, h2, h3, h4, h5, h6, h7, h8, h9, h10⟩ := ok
  have g0 := h9 0 (by omega)
  have g1 := h9 1 (by omega)
  dsimp only [rM, rK, rPc, rSp, rW, rOt, rWi, gPl, gTk, gLs] at *
  unfold sRef at hp
  dsimp only [rM, rK, rPc, rSp, rW, rOt, rWi, gPl, gTk, gLs] at hp
  rw [e0] at g0; rw [e1] at g1
  dsimp only at g0 g1
  have ht0 : t < 1000 := by
    by_cases c : t < 1000
    · exact c
    · have n0 : ¬ t = 0 := by omega
      have n5 : ¬ t = 5 := by omega
      have np : ¬ t ≤ pc := by omega
      simp only [if_neg n0, if_neg n5, if_neg np] at hp
      by_cases c1 : wi' ≠ -4
      · rw [if_pos c1] at hp; omega
      · rw [if_neg c1] at hp
        by_cases c2 : (W ot).2.2.1 ≠ 0
        · rw [if_pos c2] at hp; omega
        · rw [if_neg c2] at hp; omega
  have hwi : wi' = -4 := by
    by_cases c1 : wi' ≠ -4
    · rw [if_pos c1] at hp; omega
    · exact Classical.not_not.mp c1
  subst hwi
  rw [if_neg (by simp)] at hp
  have h10 : (W 0).1 ≤ m ∧ (W 1).1 ≤ m := by
    rcases h10 with ⟨-, q, q2, -⟩ | q | q
    · exact ⟨q, q2⟩
    · exact absurd q (by decide)
    · exact absurd q (by decide)
  rw [e0, e1] at h10
  dsimp only at h10
  have e50 : (nI 5 = 0) = False := eq_false (by decide)
  have e55 : (nI 5 = (5 : Int32)) = True := eq_true rfl
  have cw0 : CW m (st0, nI p0, nI t0, nI l0, x1, x2, x3, x4, x5) (W 0) := by rw [e0]; exact ⟨rfl, rfl, rfl, rfl, rfl, rfl, rfl, rfl, u9⟩
  have cw1 : CW m (st1, nI p1, nI t1, nI l1, y1, y2, y3, y4, y5) (W 1) := by rw [e1]; exact ⟨rfl, rfl, rfl, rfl, rfl, rfl, rfl, rfl, v9⟩
  unfold f_X2_make sMake
  rw [m1, m2]
  rcases (show ot = 0 ∨ ot = 1 by omega) with rfl | rfl
  · simp only [e0] at hp
    by_cases d0 : t = 0
    · subst d0
      have l1' : 1 ≤ l0 := by
        by_cases c : l0 = 0
        · subst c; simp at hp
        · omega
      simp only [z00, if_true, Option.bind_some, f_X4_loseTurn, J52_eq hR _ _ _ _ _ _ _ _ _ _ _ _ _ _ _ _ (show p0 < 1000 by omega)]
      refine ⟨_, rfl, ?_⟩
      simp only [sLost, rW, rOt, e0]
      refine ⟨hR, CW_new ⟨rfl, rfl, nI_sub l1', rfl, rfl, rfl, rfl, rfl, u9⟩, CW_keep (by omega) cw1, rfl, rfl, rfl, if_pos h10.1, rfl, rfl, if_pos h10.1, rfl⟩
    · have hl : l0 = 0 := by
        by_cases c : l0 = 0
        · exact c
        · rw [if_pos c, if_neg d0] at hp; omega
      subst hl
      rw [if_neg (by simp), if_neg d0] at hp
      by_cases d5 : t = 5
      · subst d5
        simp only [z00, e50, e55, if_true, if_false, Option.bind_some, f_X4_stopOther, J52_eq hR _ _ _ _ _ _ _ _ _ _ _ _ _ _ _ _ (show p0 < 1000 by omega), show ((5 : Nat) = 0) = False by simp, show ((1 - 0 : Nat) = 0) = False by simp, show ((1 - 0 : Nat) = 1) = True by simp]
        refine ⟨_, rfl, ?_⟩
        simp only [sToken, rW, rOt, e0, e1, Nat.sub_zero]
        refine ⟨hR, CW_keep (by omega) (CW_new ⟨rfl, rfl, rfl, rfl, rfl, rfl, rfl, rfl, u9⟩), CW_new ⟨rfl, rfl, nI_min (by omega) (by omega), rfl, rfl, rfl, rfl, rfl, v9⟩, rfl, rfl, rfl, if_pos h10.1, rfl, rfl, if_pos h10.1, rfl⟩
      · rw [if_neg d5] at hp
        have n0 : (nI t = 0) = False := eq_false (fun e => d0 ((nI_eq (b := 0) (by omega) (by omega)).mp e))
        have n5 : (nI t = (5 : Int32)) = False := eq_false (fun e => d5 ((nI_eq (b := 5) (by omega) (by omega)).mp e))
        obtain ⟨st', f1, f2⟩ := driveOn_eq hR st0 (nI t0) (nI 0) x1 x2 x3 x4 x5 (p := p0) (o := p1) (d := t) h10.1 h10.2 ht0 (by omega)
        have hq := (rs_ok (K := K) h2 h10.2 h10.1 (show 1 ≤ t by omega)).1.1
        simp only [n0, n5, if_true, if_false, Option.bind_some, f2, J52_eq hR _ _ _ _ _ _ _ _ _ _ _ _ _ _ _ _ (show rs m K p1 p0 t < 1000 by omega), d0, d5, show ((1 - 0 : Nat) = 0) = False by simp, show ((1 - 0 : Nat) = 1) = True by simp]
        refine ⟨_, rfl, ?_⟩
        simp only [sDrive, rW, rOt, rM, rK, rWi, gPl, sTo, e0, e1, Nat.sub_zero]
        refine ⟨hR, CW_new ⟨rfl, ?_, ?_, rfl, rfl, rfl, rfl, rfl, eqm_tr f1 (drV_eqm u9)⟩, CW_keep (by omega) cw1, rfl, rfl, rfl, rfl, rfl, rfl, ?_, ?_⟩
        · by_cases c : kd m K (rs m K p1 p0 t) = 3
          · simp only [if_pos c]; rfl
          · simp only [if_neg c]
        · by_cases c : kd m K (rs m K p1 p0 t) = 1
          · simp only [if_pos c]; rfl
          · simp only [if_neg c]
        · by_cases c : rs m K p1 p0 t ≤ m
          · simp only [if_pos c]
          · simp only [if_neg c]; exact upd_s.symm
        · by_cases c : rs m K p1 p0 t ≤ m
          · simp only [if_pos c]
          · simp only [if_neg c]; exact (upd_n (by omega)).symm
  · simp only [e1] at hp
    by_cases d0 : t = 0
    · subst d0
      have l1' : 1 ≤ l1 := by
        by_cases c : l1 = 0
        · subst c; simp at hp
        · omega
      simp only [z00, if_true, if_false, show ((1 : Nat) = 0) = False by simp, Option.bind_some, f_X4_loseTurn, J52b_eq hR _ _ _ _ _ _ _ _ _ _ _ _ _ _ _ _ (show p1 < 1000 by omega)]
      refine ⟨_, rfl, ?_⟩
      simp only [sLost, rW, rOt, e1]
      refine ⟨hR, CW_keep (by omega) cw0, CW_new ⟨rfl, rfl, nI_sub l1', rfl, rfl, rfl, rfl, rfl, v9⟩, rfl, rfl, rfl, if_pos h10.2, rfl, rfl, rfl, if_pos h10.2⟩
    · have hl : l1 = 0 := by
        by_cases c : l1 = 0
        · exact c
        · rw [if_pos c, if_neg d0] at hp; omega
      subst hl
      rw [if_neg (by simp), if_neg d0] at hp
      by_cases d5 : t = 5
      · subst d5
        simp only [z00, e50, e55, if_true, if_false, Option.bind_some, f_X4_stopOther, J52b_eq hR _ _ _ _ _ _ _ _ _ _ _ _ _ _ _ _ (show p1 < 1000 by omega), show ((5 : Nat) = 0) = False by simp, show ((1 : Nat) = 0) = False by simp, Nat.sub_self]
        refine ⟨_, rfl, ?_⟩
        simp only [sToken, rW, rOt, e0, e1, Nat.sub_self]
        refine ⟨hR, CW_new ⟨rfl, rfl, nI_min (by omega) (by omega), rfl, rfl, rfl, rfl, rfl, u9⟩, CW_keep (by omega) (CW_new ⟨rfl, rfl, rfl, rfl, rfl, rfl, rfl, rfl, v9⟩), rfl, rfl, rfl, if_pos h10.2, rfl, rfl, rfl, if_pos h10.2⟩
      · rw [if_neg d5] at hp
        have n0 : (nI t = 0) = False := eq_false (fun e => d0 ((nI_eq (b := 0) (by omega) (by omega)).mp e))
        have n5 : (nI t = (5 : Int32)) = False := eq_false (fun e => d5 ((nI_eq (b := 5) (by omega) (by omega)).mp e))
        obtain ⟨st', f1, f2⟩ := driveOn_eq hR st1 (nI t1) (nI 0) y1 y2 y3 y4 y5 (p := p1) (o := p0) (d := t) h10.2 h10.1 ht0 (by omega)
        have hq := (rs_ok (K := K) h2 h10.1 h10.2 (show 1 ≤ t by omega)).1.1
        simp only [n0, n5, if_true, if_false, Option.bind_some, f2, J52b_eq hR _ _ _ _ _ _ _ _ _ _ _ _ _ _ _ _ (show rs m K p0 p1 t < 1000 by omega), d0, d5, show ((1 : Nat) = 0) = False by simp, Nat.sub_self]
        refine ⟨_, rfl, ?_⟩
        simp only [sDrive, rW, rOt, rM, rK, rWi, gPl, sTo, e0, e1, Nat.sub_self]
        refine ⟨hR, CW_keep (by omega) cw0, CW_new ⟨rfl, ?_, ?_, rfl, rfl, rfl, rfl, rfl, eqm_tr f1 (drV_eqm v9)⟩, rfl, rfl, rfl, rfl, rfl, rfl, ?_, ?_⟩
        · by_cases c : kd m K (rs m K p0 p1 t) = 3
          · simp only [if_pos c]; rfl
          · simp only [if_neg c]
        · by_cases c : kd m K (rs m K p0 p1 t) = 1
          · simp only [if_pos c]; rfl
          · simp only [if_neg c]
        · by_cases c : rs m K p0 p1 t ≤ m
          · simp only [if_pos c]
          · simp only [if_neg c]; exact (upd_n (by omega)).symm
        · by_cases c : rs m K p0 p1 t ≤ m
          · simp only [if_pos c]
          · simp only [if_neg c]; exact upd_s.symm

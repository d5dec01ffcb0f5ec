/-! the reference's token -/
theorem makesToken7 {v : tX7} {r : RcS} (h : MR v.2.1 r) (ok : okR r) : ∃ z, f_X7_makesToken v = some z ∧ (z.1 = nI (min 3 (gLs (rW r (1 - rOt r)) + rSp r)) ∧ MR z.2.2.1 (sToken r) ∧ same7 v z.2) := by
  have h17 := MR_17 h
  have ho := ok.2.2.2.2.2.2.2.1
  have ho' : 1 - rOt r ≤ 1 := by omega
  have h17' : (1 : Int32) - v.2.1 17 = nI (1 - rOt r) := by rw [h17]; exact nI_1m ho
  have hw' := MR_W h ho'
  have hls := (ok.2.2.2.2.2.2.2.2.1 (1 - rOt r) ho').2.2
  have hsp := ok.2.2.2.2.2.2.1
  unfold f_X7_makesToken
  refine bndE (of7 (k := 2) h17' rfl ho' (by omega)) ?_
  refine bndE (lay7 (k := 1) h17 rfl ho (by omega)) ?_
  refine bndE (of7 (k := 6) h17 rfl ho (by omega)) ?_
  refine bndE (lay7 (k := 6) h17 rfl ho (by omega)) ?_
  have hx : v.2.1 (23 + 8 * (1 - rOt r) + 2) + v.2.1 1 = nI (gLs (rW r (1 - rOt r)) + rSp r) := by
    rw [show 23 + 8 * (1 - rOt r) + 2 = 25 + 8 * (1 - rOt r) by omega, hw'.2.2.1, h.2.1, nI_add]
  have key : ∀ x : Int32, x = nI (min 3 (gLs (rW r (1 - rOt r)) + rSp r)) → ∃ z, f_X7_makesToken_J62 (v.2.1 17) x (2 : Int32) ((1 : Int32) - (v.2.1 17)) (set7 (set7 v (upd v.2.1 (23 + 8 * rOt r + 1) 0)) (upd (upd v.2.1 (23 + 8 * rOt r + 1) 0) (23 + 8 * rOt r + 6) ((upd v.2.1 (23 + 8 * rOt r + 1) 0) (23 + 8 * rOt r + 6) + 1))) = some z ∧ (z.1 = nI (min 3 (gLs (rW r (1 - rOt r)) + rSp r)) ∧ MR z.2.2.1 (sToken r) ∧ same7 v z.2) := by
    intro x ex
    subst ex
    unfold f_X7_makesToken_J62
    refine bndE (lay7 (k := 2) h17' rfl ho' (by omega)) ?_
    refine bndE (goesOn7 ho (by
      show upd (upd (upd _ _ _) _ _) _ _ 17 = _
      rw [upd_n (by omega), upd_n (by omega), upd_n (by omega)]; exact h17)) ?_
    refine bndE (of7 (k := 2) h17' rfl ho' (by omega)) ?_
    clear hls hw' hx h17'
    obtain ⟨m, K, pc, sp, W, ot, wi, tu, be, won⟩ := r
    obtain ⟨h1, h2, h3, h4, h5, h6, h7, h8, h9, h10⟩ := ok
    obtain ⟨q1, q2, q3, q4, q5, q6, q7, q8, q9, q10, q11, q12⟩ := h
    dsimp only [rM, rK, rPc, rSp, rW, rOt, rWi, gPl, gTk, gLs] at *
    rcases e0 : W 0 with ⟨p0, t0, l0, a1, a2, a3, a4, a5, a6⟩
    rcases e1 : W 1 with ⟨p1, t1, l1, b1, b2, b3, b4, b5, b6⟩
    rw [e0] at q11; rw [e1] at q12
    obtain ⟨u1, u2, u3, u4, u5, u6, u7, u8, u9⟩ := q11
    obtain ⟨v1, v2, v3, v4, v5, v6, v7, v8, v9⟩ := q12
    rcases (show ot = 0 ∨ ot = 1 by omega) with rfl | rfl
    · refine ⟨_, rfl, ?_, ?_, rfl⟩
      · simp [upd, e1]
      · simp only [sToken, rW, rOt, e0, e1, Nat.sub_zero]
        refine ⟨?_, ?_, ?_, fun i a (b : i ≤ m) => ?_, ?_, ?_, ?_, ?_, ?_, ?_, ⟨?_, ?_, ?_, ?_, ?_, ?_, ?_, ?_, fun i a (b : i ≤ m) => ?_⟩, ⟨?_, ?_, ?_, ?_, ?_, ?_, ?_, ?_, fun i a (b : i ≤ m) => ?_⟩⟩
        all_goals try dsimp only [set7, st7]
        all_goals first
          | (repeat rw [upd_n (by omega)]) <;> first | exact q4 i a b | exact (u9 i a b).trans (by simp [upw, e0, e1, rW]) | exact (v9 i a b).trans (by simp [upw, e0, e1, rW])
          | (simp [upd, upw, e0, e1, rM, rPc, rSp, rK, rWi, rOt, rW]; done)
          | (simp [upd, upw, e0, e1, rM, rPc, rSp, rK, rWi, rOt, rW]; first | assumption | rfl)
    · refine ⟨_, rfl, ?_, ?_, rfl⟩
      · simp [upd, e0]
      · simp only [sToken, rW, rOt, e0, e1, Nat.sub_self]
        refine ⟨?_, ?_, ?_, fun i a (b : i ≤ m) => ?_, ?_, ?_, ?_, ?_, ?_, ?_, ⟨?_, ?_, ?_, ?_, ?_, ?_, ?_, ?_, fun i a (b : i ≤ m) => ?_⟩, ⟨?_, ?_, ?_, ?_, ?_, ?_, ?_, ?_, fun i a (b : i ≤ m) => ?_⟩⟩
        all_goals try dsimp only [set7, st7]
        all_goals first
          | (repeat rw [upd_n (by omega)]) <;> first | exact q4 i a b | exact (u9 i a b).trans (by simp [upw, e0, e1, rW]) | exact (v9 i a b).trans (by simp [upw, e0, e1, rW])
          | (simp [upd, upw, e0, e1, rM, rPc, rSp, rK, rWi, rOt, rW]; done)
          | (simp [upd, upw, e0, e1, rM, rPc, rSp, rK, rWi, rOt, rW]; first | assumption | rfl)
  by_cases c : 3 ≤ gLs (rW r (1 - rOt r)) + rSp r
  · refine ifE_t (by show nI 3 ≤ v.2.1 (23 + 8 * (1 - rOt r) + 2) + v.2.1 1; rw [hx]; exact nI_le c (by omega)) ?_
    exact key 3 (by rw [Nat.min_eq_left c]; rfl)
  · refine ifE_f (by show ¬ nI 3 ≤ v.2.1 (23 + 8 * (1 - rOt r) + 2) + v.2.1 1; rw [hx]; exact nI_ge (by omega) (by omega)) ?_
    exact key _ (by rw [Nat.min_eq_right (by omega)]; exact hx)

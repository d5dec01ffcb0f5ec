/-! a race's stand -/
def sSt (r : RcS) : Nat := mkS (gPl (rW r (rOt r))) (gPl (rW r (1 - rOt r))) (gTk (rW r (rOt r))) (gTk (rW r (1 - rOt r))) (gLs (rW r (rOt r))) (gLs (rW r (1 - rOt r)))
theorem sSt_q {r : RcS} (ok : okR r) (hw : rWi r = -4) : vld (rM r) (sSt r) ∧ qO (sSt r) = gPl (rW r (rOt r)) ∧ qP (sSt r) = gPl (rW r (1 - rOt r)) ∧ qT (sSt r) = gTk (rW r (rOt r)) ∧ qU (sSt r) = gTk (rW r (1 - rOt r)) ∧ qL (sSt r) = gLs (rW r (rOt r)) ∧ qM (sSt r) = gLs (rW r (1 - rOt r)) := by
  obtain ⟨a, b, c⟩ := ok_pl ok hw
  have hm := ok.2.1
  have ho := ok.2.2.2.2.2.2.2.1
  have g0 := ok.2.2.2.2.2.2.2.2.1 (rOt r) ho
  have g1 := ok.2.2.2.2.2.2.2.2.1 (1 - rOt r) (by omega)
  unfold sSt
  have e1 := mkS_O (o := gPl (rW r (rOt r))) (p := gPl (rW r (1 - rOt r))) (t := gTk (rW r (rOt r))) (u := gTk (rW r (1 - rOt r))) (l := gLs (rW r (rOt r))) (m := gLs (rW r (1 - rOt r))) (by omega) (by omega) (by omega) (by omega) (by omega) (by omega)
  have e2 := mkS_P (o := gPl (rW r (rOt r))) (p := gPl (rW r (1 - rOt r))) (t := gTk (rW r (rOt r))) (u := gTk (rW r (1 - rOt r))) (l := gLs (rW r (rOt r))) (m := gLs (rW r (1 - rOt r))) (by omega) (by omega) (by omega) (by omega) (by omega)
  have e3 := mkS_T (o := gPl (rW r (rOt r))) (p := gPl (rW r (1 - rOt r))) (t := gTk (rW r (rOt r))) (u := gTk (rW r (1 - rOt r))) (l := gLs (rW r (rOt r))) (m := gLs (rW r (1 - rOt r))) (by omega) (by omega) (by omega) (by omega)
  have e4 := mkS_U (o := gPl (rW r (rOt r))) (p := gPl (rW r (1 - rOt r))) (t := gTk (rW r (rOt r))) (u := gTk (rW r (1 - rOt r))) (l := gLs (rW r (rOt r))) (m := gLs (rW r (1 - rOt r))) (by omega) (by omega) (by omega)
  have e5 := mkS_L (o := gPl (rW r (rOt r))) (p := gPl (rW r (1 - rOt r))) (t := gTk (rW r (rOt r))) (u := gTk (rW r (1 - rOt r))) (l := gLs (rW r (rOt r))) (m := gLs (rW r (1 - rOt r))) (by omega) (by omega)
  have e6 := mkS_M (o := gPl (rW r (rOt r))) (p := gPl (rW r (1 - rOt r))) (t := gTk (rW r (rOt r))) (u := gTk (rW r (1 - rOt r))) (l := gLs (rW r (rOt r))) (m := gLs (rW r (1 - rOt r))) (by omega)
  have e7 := mkS_lt (o := gPl (rW r (rOt r))) (p := gPl (rW r (1 - rOt r))) (t := gTk (rW r (rOt r))) (u := gTk (rW r (1 - rOt r))) (l := gLs (rW r (rOt r))) (m := gLs (rW r (1 - rOt r))) (by omega) (by omega) (by omega) (by omega) (by omega) (by omega)
  refine ⟨⟨e7, ?_, ?_, ?_⟩, e1, e2, e3, e4, e5, e6⟩
  · rw [e1]; exact a
  · rw [e2]; exact b
  · rw [e1, e2]; exact c
theorem standOf_eq {v : tX2} {r : RcS} (h : CR v r) (ok : okR r) (hw : rWi r = -4) : f_X5_standOf v = some (nI (sSt r)) := by
  obtain ⟨m1, m2⟩ := mover_eq h ok.2.2.2.2.2.2.2.1
  have ho := ok.2.2.2.2.2.2.2.1
  obtain ⟨pm, po, -⟩ := ok_pl ok hw
  have hm := ok.2.1
  have g0 := ok.2.2.2.2.2.2.2.2.1 0 (by omega)
  have g1 := ok.2.2.2.2.2.2.2.2.1 1 (by omega)
  obtain ⟨-, ⟨u1, u2, u3, -⟩, ⟨v1, v2, v3, -⟩, -⟩ := h
  have two : ∀ (a : Nat), a ≤ 1 → (nI a = 0) = (a = 0) := fun a ha => nI_z (by omega)
  have mk : ∀ {o p t u l q : Nat}, o < 16 → p < 16 → t ≤ 1 → u ≤ 1 → l < 4 → q < 4 → ((((nI o <<< ((10 : Int32) &&& 31)) ||| (nI p <<< ((6 : Int32) &&& 31))) ||| ((nI (2 * t) ||| nI u) <<< ((4 : Int32) &&& 31))) ||| (nI l <<< ((2 : Int32) &&& 31))) ||| nI q = nI (mkS o p t u l q) := fun a b c d e f => bit_mk2 a b (by omega) (by omega) e f
  unfold f_X5_standOf
  rw [m1, Option.bind_some]
  rcases (show rOt r = 0 ∨ rOt r = 1 by omega) with e | e
  · rw [e] at pm po
    refine ift e ?_
    rw [m2, Option.bind_some]
    refine iff' (by omega) (ift (by omega) ?_)
    have res : ∀ t u, t = gTk (rW r 0) → u = gTk (rW r 1) → f_X5_standOf_J34b v (nI u) (nI (2 * t)) = some (nI (sSt r)) := by
      intro t u ht hu
      subst ht hu
      unfold f_X5_standOf_J34b sSt
      rw [u1, u3, v1, v3, e]
      exact congrArg some (mk (by show gPl (rW r 0) < 16; omega) (by show gPl (rW r 1) < 16; omega) g0.2.1 g1.2.1 (by show gLs (rW r 0) < 4; omega) (by show gLs (rW r 1) < 4; omega))
    have res2 : ∀ t, t = gTk (rW r 0) → f_X5_standOf_J22b v (nI (2 * t)) = some (nI (sSt r)) := by
      intro t ht
      unfold f_X5_standOf_J22b
      by_cases c : gTk (rW r 1) = 0
      · exact ift (by rw [v2, show (rW r 1).2.1 = 0 from c]; rfl) (res t 0 ht c.symm)
      · exact iff' (by rw [v2, two _ g1.2.1]; exact c) (res t 1 ht (by have := g1.2.1; omega))
    by_cases c : gTk (rW r 0) = 0
    · exact ift (by rw [u2, show (rW r 0).2.1 = 0 from c]; rfl) (res2 0 c.symm)
    · exact iff' (by rw [u2, two _ g0.2.1]; exact c) (res2 1 (by have := g0.2.1; omega))
  · rw [e] at pm po
    refine iff' (by omega) (ift e ?_)
    rw [m2, Option.bind_some]
    refine ift (by omega) ?_
    have res : ∀ t u, t = gTk (rW r 1) → u = gTk (rW r 0) → f_X5_standOf_J34c v (nI u) (nI (2 * t)) = some (nI (sSt r)) := by
      intro t u ht hu
      subst ht hu
      unfold f_X5_standOf_J34c sSt
      rw [u1, u3, v1, v3, e]
      exact congrArg some (mk (by show gPl (rW r 1) < 16; omega) (by show gPl (rW r 0) < 16; omega) g1.2.1 g0.2.1 (by show gLs (rW r 1) < 4; omega) (by show gLs (rW r 0) < 4; omega))
    have res2 : ∀ t, t = gTk (rW r 1) → f_X5_standOf_J22c v (nI (2 * t)) = some (nI (sSt r)) := by
      intro t ht
      unfold f_X5_standOf_J22c
      by_cases c : gTk (rW r 0) = 0
      · exact ift (by rw [u2, show (rW r 0).2.1 = 0 from c]; rfl) (res t 0 ht c.symm)
      · exact iff' (by rw [u2, two _ g0.2.1]; exact c) (res t 1 ht (by have := g0.2.1; omega))
    by_cases c : gTk (rW r 1) = 0
    · exact ift (by rw [v2, show (rW r 1).2.1 = 0 from c]; rfl) (res2 0 c.symm)
    · exact iff' (by rw [v2, two _ g1.2.1]; exact c) (res2 1 (by have := g1.2.1; omega))

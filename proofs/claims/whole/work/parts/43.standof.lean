/-! a race's stand -/
def sSt (r : RcS) : Nat := mkS (gPl (rW r (rOt r))) (gPl (rW r (1 - rOt r))) (gTk (rW r (rOt r))) (gTk (rW r (1 - rOt r))) (gLs (rW r (rOt r))) (gLs (rW r (1 - rOt r)))
theorem sSt_q {r : RcS} (ok : okR r) (hw : rWi r = -4) : vld (rM r) (sSt r) ∧ qO (sSt r) = gPl (rW r (rOt r)) ∧ qP (sSt r) = gPl (rW r (1 - rOt r)) ∧ qT (sSt r) = gTk (rW r (rOt r)) ∧ qU (sSt r) = gTk (rW r (1 - rOt r)) ∧ qL (sSt r) = gLs (rW r (rOt r)) ∧ qM (sSt r) = gLs (rW r (1 - rOt r)) := by
  obtain ⟨a, b, c⟩ := ok_pl ok hw
  have hm := ok.2.1
  have ho := ok.2.2.2.2.2.2.2.1
  have g0 := ok.2.2.2.2.2.2.2.2.1 (rOt r) ho
  have g1 := ok.2.2.2.2.2.2.2.2.1 (1 - rOt r) (by omega)
  unfold sSt
  have e1 := mkS_O (o := gPl (rW r (rOt r))) (p := gPl (rW r (1 - rOt r))) (t := gTk (rW r (rOt r))) (u := gTk (rW r (1 - rOt r))) (l := gLs (rW r (rOt r))) (m := gLs (rW r (1 - rOt r))) (by omega) (by omega) (by omega) (by omega) (by omega) (by omega)
  have e2 := mkS_P (o := gPl (rW r (rOt r))) (p := gPl (rW r (1 - rOt r))) (t := gTk (rW r (rOt r))) (u := gTk (rW r (1 - rOt r))) (l := gLs (rW r (rOt r))) (m := gLs (rW r (1 - rOt r))) (by omega) (by omega) (by omega) (by omega) (by omega)
  have e3 := mkS_T (o := gPl (rW r (rOt r))) (p := gPl (rW r (1 - rOt r))) (t := gTk (rW r (rOt r))) (u := gTk (rW r (1 - rOt r))) (l := gLs (rW r (rOt r))) (m := gLs (rW r (1 - rOt r))) (by omega) (by omega) (by omega) (by omega)
  have e4 := mkS_U (o := gPl (rW r (rOt r))) (p := gPl (rW r (1 - rOt r))) (t := gTk (rW r (rOt r))) (u := gTk (rW r (1 - rOt r))) (l := gLs (rW r (rOt r))) (m := gLs (rW r (1 - rOt r))) (by omega) (by omega) (by omega)
  have e5 := mkS_L (o := gPl (rW r (rOt r))) (p := gPl (rW r (1 - rOt r))) (t := gTk (rW r (rOt r))) (u := gTk (rW r (1 - rOt r))) (l := gLs (rW r (rOt r))) (m := gLs (rW r (1 - rOt r))) (by omega) (by omega)
  have e6 := mkS_M (o := gPl (rW r (rOt r))) (p := gPl (rW r (1 - rOt r))) (t := gTk (rW r (rOt r))) (u := gTk (rW r (1 - rOt r))) (l := gLs (rW r (rOt r))) (m := gLs (rW r (1 - rOt r))) (by omega)
  have e7 := mkS_lt (o := gPl (rW r (rOt r))) (p := gPl (rW r (1 - rOt r))) (t := gTk (rW r (rOt r))) (u := gTk (rW r (1 - rOt r))) (l := gLs (rW r (rOt r))) (m := gLs (rW r (1 - rOt r))) (by omega) (by omega) (by omega) (by omega) (by omega) (by omega)
  refine ⟨⟨e7, ?_, ?_, ?_⟩, e1, e2, e3, e4, e5, e6⟩
  · rw [e1]; exact a
  · rw [e2]; exact b
  · rw [e1, e2]; exact c

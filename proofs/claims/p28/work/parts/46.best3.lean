/-! the class's answers about worths that are told -/
theorem dl_58 {m n : Nat} (hm : m ≤ 14) : dl m n ≤ 58 := by
  have := q_lt n
  unfold dl
  omega
abbrev TR (v : tX5) (r : RcS) : Prop := TI v (rM r) (rK r) (rPc r) (rSp r)
abbrev sWo (r : RcS) : Int := Wo (rM r) (rK r) (rPc r) (rSp r) (sSt r)
theorem tell_root {v : tX5} {r : RcS} (h : TR v r) (ok : okR r) (hw : rWi r = -4) : TS (rM r) (rK r) (rPc r) (rSp r) v (sSt r) (f_X5_tellInto 66 v (nI (sSt r)) 0) := by
  have hd := dl_58 (n := sSt r) ok.2.1
  exact tell_eq 66 v (sSt r) 0 h (sSt_q ok hw).1 (by omega) (by omega)
theorem toldInto_eq {v : tX5} {v1 : tX2} {r : RcS} (h : TR v r) (hr : CR v1 r) (ok : okR r) (hw : rWi r = -4) : ∃ to, f_X5_toldInto v v1 = some (nZ (sWo r), stT v to) ∧ TR (stT v to) r := by
  obtain ⟨to, t1, t2, t3, t4⟩ := tell_root h ok hw
  exact ⟨to, bnd (standOf_eq hr ok hw) (bnd t1 rfl), t2⟩
theorem bestOf_eq {v : tX5} {v1 : tX2} {r : RcS} (h : TR v r) (hr : CR v1 r) (ok : okR r) (hw : rWi r = -4) : ∃ to T, f_X5_bestOf v v1 = some (nI T, stT v to) ∧ TR (stT v to) r ∧ isB (rM r) (rK r) (rPc r) (rSp r) (sSt r) T := by
  obtain ⟨hv, q1, q2, q3, q4, q5, q6⟩ := sSt_q ok hw
  obtain ⟨b1, b2, b3, b4, b5, b6⟩ := q_lt (sSt r)
  unfold f_X5_bestOf
  rw [standOf_eq hr ok hw, Option.bind_some, ownL_eq hv.1, Option.bind_some]
  by_cases c : qL (sSt r) = 0
  · obtain ⟨to, t1, t2, t3, t4⟩ := tell_root h ok hw
    obtain ⟨T, e1, e2⟩ := best_L24 (v1 := v1) t2 hv c t3 gas 1 (by omega) (by omega) (by show 5 < 1 + 1000000; omega) (fun t a b => by omega)
    refine ⟨to, T, ift (by rw [nI_le0 (by omega)]; exact c) (bnd t1 e1), t2, e2⟩
  · refine ⟨tTO v, 0, iff' (by rw [nI_le0 (by omega)]; exact c) rfl, h, fun _ => rfl, fun e => absurd e c⟩

/-! the worth of a turn -/
theorem ref_pos {r : RcS} (ok : okR r) {t : Nat} (hp : sRef r t = 0) (ht : t ≤ 5) : posT (rPc r) (sSt r) t := by
  have hw := ref_over hp
  obtain ⟨hv, q1, q2, q3, q4, q5, q6⟩ := sSt_q ok hw
  have g := ok.2.2.2.2.2.2.2.2.1 (rOt r) ok.2.2.2.2.2.2.2.1
  unfold sRef at hp
  rw [if_neg (fun e => e hw)] at hp
  unfold posT
  rw [q5, q3]
  by_cases c : gLs (rW r (rOt r)) ≠ 0
  · rw [if_pos c] at hp
    by_cases c0 : t = 0
    · rw [if_pos c0]; exact c
    · rw [if_neg c0] at hp; omega
  · rw [if_neg c] at hp
    by_cases c0 : t = 0
    · rw [if_pos c0] at hp; omega
    · rw [if_neg c0] at hp ⊢
      refine ⟨Classical.not_not.mp c, ?_⟩
      by_cases c5 : t = 5
      · rw [if_pos c5] at hp ⊢
        by_cases c6 : gTk (rW r (rOt r)) = 0
        · rw [if_pos c6] at hp; omega
        · have := g.2.1; omega
      · rw [if_neg c5] at hp ⊢
        by_cases c6 : t ≤ rPc r
        · exact c6
        · rw [if_neg c6] at hp; omega
theorem ofTurn_eq {v : tX5} {v1 : tX2} {r : RcS} (h : TR v r) (hr : CR v1 r) (ok : okR r) {t : Nat} (hp : sRef r t = 0) (ht : t ≤ 5) : ∃ to, f_X5_ofTurn v v1 (nI t) = some (nZ (bt (rM r) (rK r) (rSp r) (Wo (rM r) (rK r) (rPc r) (rSp r)) (sSt r) t), stT v to) ∧ TR (stT v to) r := by
  have hw := ref_over hp
  obtain ⟨hv, q1, q2, q3, q4, q5, q6⟩ := sSt_q ok hw
  have pp := ref_pos ok hp ht
  have hd := dl_58 (n := sSt r) ok.2.1
  unfold f_X5_ofTurn f_X5_ofTurn_J27
  rw [standOf_eq hr ok hw, Option.bind_some, after_eq h.1 hv pp ht, Option.bind_some]
  rcases e : nxt (rM r) (rK r) (rSp r) (sSt r) t with _ | n'
  · refine ⟨tTO v, ift rfl (bnd (by_told h hv pp ht (fun n' e' => by rw [e] at e'; exact absurd e' (by simp))) rfl), h⟩
  · have hv' := TI_child h.1 hv pp e
    have hd' := dl_58 (n := n') ok.2.1
    obtain ⟨to, t1, t2, t3, t4⟩ := tell_eq 66 v n' 0 h hv' (by omega) (by omega)
    have t1 : f_X5_tellInto 66 v (nI n') (0 : Int32) = some (nZ (Wo (rM r) (rK r) (rPc r) (rSp r) n'), stT v to) := t1
    refine ⟨to, iff' (nI_m1 hv'.1) (bnd t1 (bnd (by_told t2 hv pp ht (fun n'' e' => by rw [e] at e'; rw [← Option.some.inj e']; exact t3)) rfl)), t2⟩

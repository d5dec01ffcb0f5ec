/-! the worth of a turn -/
theorem ref_pos {r : RcS} (ok : okR r) {t : Nat} (hp : sRef r t = 0) (ht : t ≤ 5) : posT (rPc r) (sSt r) t := by
  have hw := ref_over hp
  obtain ⟨hv, q1, q2, q3, q4, q5, q6⟩ := sSt_q ok hw
  have g := ok.2.2.2.2.2.2.2.2.1 (rOt r) ok.2.2.2.2.2.2.2.1
  unfold sRef at hp
  rw [if_neg (fun e => e hw)] at hp
  unfold posT
  rw [q5, q3]
  by_cases c : gLs (rW r (rOt r)) ≠ 0
  · rw [if_pos c] at hp
    by_cases c0 : t = 0
    · rw [if_pos c0]; exact c
    · rw [if_neg c0] at hp; omega
  · rw [if_neg c] at hp
    by_cases c0 : t = 0
    · rw [if_pos c0] at hp; omega
    · rw [if_neg c0] at hp ⊢
      refine ⟨Classical.not_not.mp c, ?_⟩
      by_cases c5 : t = 5
      · rw [if_pos c5] at hp ⊢
        by_cases c6 : gTk (rW r (rOt r)) = 0
        · rw [if_pos c6] at hp; omega
        · have := g.2.1; omega
      · rw [if_neg c5] at hp ⊢
        by_cases c6 : t ≤ rPc r
        · exact c6
        · rw [if_neg c6] at hp; omega

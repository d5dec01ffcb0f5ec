/-! a turn keeps what the law asks -/
theorem OX_make {n : Nat} {r : RcS} (h : OX n r) (ok : okR r) {t : Nat} (hp : sRef r t = 0) : OX (n + 1) (sMake r t) := by
  have ho := ok.2.2.2.2.2.2.2.1
  have hm := ok.2.1
  have hw := ref_over hp
  obtain ⟨p1, p2, -⟩ := ok_pl ok hw
  obtain ⟨w1, w2, w3, w4, ⟨w5, w6, w7, w8, w9⟩, w10, w11, w12⟩ := make_W ho t
  obtain ⟨k1, k2, -, -⟩ := make_keep r t
  obtain ⟨⟨T, C, a1, a2, a3, a4⟩, b, B, x, y, c1, c2, c3, c4, c5⟩ := h
  rw [if_pos hw] at c4
  have dr : t ≠ 0 → t ≠ 5 → 1 ≤ t ∧ okp (rM r) (gPl (rW r (1 - rOt r))) (sTo r t) ∧ gPl (rW r (rOt r)) < sTo r t ∧ ¬ kd (rM r) (rK r) (sTo r t) = 2 := fun q1 q2 => ⟨by omega, rs_ok (K := rK r) hm p2 p1 (by omega)⟩
  refine ⟨⟨fun j => if j = rOt r then T j + 1 else T j, fun j => if j = rOt r ∧ t = 0 then C j + 1 else C j, fun j hj => ?_, ?_, ?_, ?_⟩, ?_, ?_⟩
  · obtain ⟨g1, g2, g3, g4, g5⟩ := a1 j hj
    rcases (show j = rOt r ∨ j = 1 - rOt r by omega) with e | e
    · subst e
      refine ⟨?_, ?_, ?_, ?_, ?_⟩
      · show _ = nI (if rOt r = rOt r then T (rOt r) + 1 else T (rOt r))
        rw [if_pos rfl, w1, g1, nI_1]
      · show _ = nI (if rOt r = rOt r ∧ t = 0 then C (rOt r) + 1 else C (rOt r))
        rw [w2]
        by_cases c0 : t = 0
        · rw [if_pos c0, if_pos ⟨rfl, c0⟩, g2, nI_1]
        · rw [if_neg c0, if_neg (fun q => c0 q.2), g2]
      · show (if rOt r = rOt r ∧ t = 0 then C (rOt r) + 1 else C (rOt r)) ≤ (if rOt r = rOt r then T (rOt r) + 1 else T (rOt r))
        rw [if_pos rfl]
        by_cases c0 : t = 0
        · rw [if_pos ⟨rfl, c0⟩]; omega
        · rw [if_neg (fun q => c0 q.2)]; omega
      · rw [k1, k2]
        by_cases c0 : t = 0 ∨ t = 5
        · obtain ⟨u1, u2, -⟩ := w3 c0
          rw [u1, u2]; exact g4
        · obtain ⟨u1, u2, -⟩ := w4 (fun q => c0 (Or.inl q)) (fun q => c0 (Or.inr q))
          have d := (dr (fun q => c0 (Or.inl q)) (fun q => c0 (Or.inr q))).1
          rw [u1, u2, stS_drive hm p2 p1 d, g4]
      · rw [k1, k2]
        by_cases c0 : t = 0 ∨ t = 5
        · obtain ⟨-, -, u3, -⟩ := w3 c0
          rw [u3]; exact g5
        · obtain ⟨-, -, u3, -⟩ := w4 (fun q => c0 (Or.inl q)) (fun q => c0 (Or.inr q))
          rw [u3]
          exact (dr (fun q => c0 (Or.inl q)) (fun q => c0 (Or.inr q))).2.2.2
    · have ne : ¬ j = rOt r := by omega
      subst e
      refine ⟨?_, ?_, ?_, ?_, ?_⟩
      · show _ = nI (if 1 - rOt r = rOt r then _ else T (1 - rOt r))
        rw [if_neg ne, w5]; exact g1
      · show _ = nI (if 1 - rOt r = rOt r ∧ t = 0 then _ else C (1 - rOt r))
        rw [if_neg (fun q => ne q.1), w6]; exact g2
      · show (if 1 - rOt r = rOt r ∧ t = 0 then _ else C (1 - rOt r)) ≤ (if 1 - rOt r = rOt r then _ else T (1 - rOt r))
        rw [if_neg (fun q => ne q.1), if_neg ne]; exact g3
      · rw [k1, k2, w7, w8]; exact g4
      · rw [k1, k2, w9]; exact g5
  · show _ = nI ((if 0 = rOt r then T 0 + 1 else T 0) + (if 1 = rOt r then T 1 + 1 else T 1))
    rw [w11, a2, nI_1]
    rcases (show rOt r = 0 ∨ rOt r = 1 by omega) with e | e
    · rw [e, if_pos rfl, if_neg (by omega), show T 0 + T 1 + 1 = T 0 + 1 + T 1 by omega]
    · rw [e, if_neg (by omega), if_pos rfl, show T 0 + T 1 + 1 = T 0 + (T 1 + 1) by omega]
  · show (if 0 = rOt r then T 0 + 1 else T 0) = (if 1 = rOt r then T 1 + 1 else T 1) + rOt (sMake r t)
    rw [w10]
    rcases (show rOt r = 0 ∨ rOt r = 1 by omega) with e | e
    · rw [e] at a3 ⊢
      rw [if_pos rfl, if_neg (by omega)]; omega
    · rw [e] at a3 ⊢
      rw [if_neg (by omega), if_pos rfl]; omega
  · show (if 0 = rOt r then T 0 + 1 else T 0) + (if 1 = rOt r then T 1 + 1 else T 1) ≤ n + 1
    rcases (show rOt r = 0 ∨ rOt r = 1 by omega) with e | e
    · rw [e, if_pos rfl, if_neg (by omega)]; omega
    · rw [e, if_neg (by omega), if_pos rfl]; omega
  · by_cases c0 : t = 0 ∨ t = 5
    · obtain ⟨-, -, -, u4, -⟩ := w3 c0
      exact Or.inl (u4.trans hw)
    · have n0 : t ≠ 0 := fun q => c0 (Or.inl q)
      have n5 : t ≠ 5 := fun q => c0 (Or.inr q)
      obtain ⟨-, -, u3, u4, -⟩ := w4 n0 n5
      obtain ⟨-, d2, d3, -⟩ := dr n0 n5
      by_cases c : sTo r t ≤ rM r
      · rw [if_pos c] at u4
        exact Or.inl (u4.trans hw)
      · rw [if_neg c] at u4
        have d4 : sTo r t ≤ rM r + 1 := d2.1
        refine Or.inr ?_
        rw [k1]
        rcases (show rOt r = 0 ∨ rOt r = 1 by omega) with e | e
        · rw [e] at u3 u4 w9 p2
          refine Or.inl ⟨u4, ?_, ?_⟩
          · rw [u3]; omega
          · rw [show gPl (rW (sMake r t) 1) = gPl (rW r 1) from w9]; exact p2
        · rw [e] at u3 u4 w9 p2
          refine Or.inr ⟨u4, ?_, ?_⟩
          · rw [u3]; omega
          · rw [show gPl (rW (sMake r t) 0) = gPl (rW r 0) from w9]; exact p2
  · by_cases c0 : t = 0 ∨ t = 5
    · obtain ⟨-, -, -, u4, u5⟩ := w3 c0
      refine ⟨B, x, y, w12.trans c1, by rw [u5]; exact c2, by rw [u5]; exact c3, ?_, by omega⟩
      rw [if_pos (u4.trans hw)]; exact c4
    · have n0 : t ≠ 0 := fun q => c0 (Or.inl q)
      have n5 : t ≠ 5 := fun q => c0 (Or.inr q)
      obtain ⟨-, -, -, u4, u5⟩ := w4 n0 n5
      by_cases c : sTo r t ≤ rM r
      · rw [if_pos c] at u4 u5
        refine ⟨B, x, y, w12.trans c1, by rw [u5]; exact c2, by rw [u5]; exact c3, ?_, by omega⟩
        rw [if_pos (u4.trans hw)]; exact c4
      · rw [if_neg c] at u4 u5
        rcases (show rOt r = 0 ∨ rOt r = 1 by omega) with e | e
        · rw [e] at u4 u5
          refine ⟨B, x + 1, y, w12.trans c1, ?_, ?_, ?_, by omega⟩
          · rw [u5, upd_s, c2, nI_1]
          · rw [u5, upd_n (by omega), c3]
          · rw [if_neg (by rw [u4]; decide)]; omega
        · rw [e] at u4 u5
          refine ⟨B, x, y + 1, w12.trans c1, ?_, ?_, ?_, by omega⟩
          · rw [u5, upd_n (by omega), c2]
          · rw [u5, upd_s, c3, nI_1]
          · rw [if_neg (by rw [u4]; decide)]; omega

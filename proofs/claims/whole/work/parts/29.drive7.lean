/-! the reference's drive, made -/
theorem drives7' {v : tX7} {P O D J : Int32} {m : Nat} {K : Nat → Nat} {o p d : Nat} (h : Rs v.2.1 m K) (hJ : goodJ J) (hP : P = nI p) (hO : O = nI o) (hD : D = nI d) (hp : p ≤ m) (ho : o ≤ m) (hd : d < 1000) (hd1 : 1 ≤ d) (hne : p ≠ o ∨ p = 0) :
    f_X7_drives v P O D J = some (st7 v (drS m K J o p d v.2.1) (nI (rs m K o p d)) (fl (kd m K (rs m K o p d) = 1)) (fl (kd m K (rs m K o p d) = 3)) (fl (p < o ∧ o < rs m K o p d)) (nI (drC m K o p d))) := by
  subst hP hO hD
  exact drives7 (v := v) (s := v.2.1) (tp := w_tp v) (tl := w_tl v) (ti := w_ti v) (le := w_le v) (rl := w_rl v) h hJ hp ho hd hd1 hne
def goS (s : Nat → Int32) (ot : Nat) : Nat → Int32 := upd (upd (upd s (26 + 8 * ot) (s (26 + 8 * ot) + 1)) 18 (s 18 + 1)) 17 (nI (1 - ot))
def enS (s : Nat → Int32) (ot q m : Nat) : Nat → Int32 := if q ≤ m then s else upd (upd s 22 (nI ot)) (20 + ot) (s (20 + ot) + 1)
theorem J111_eq {v : tX7} {l x : Int32} {ot q m : Nat} (hl : l = nI ot) (ho : ot ≤ 1) (h17 : v.2.1 17 = nI ot) (h2 : v.2.1 2 = nI m) (hm : m ≤ 14) (htp : w_tp v = nI q) (hq : q ≤ m + 1) :
    f_X7_makesDrive_J111 l x (1 : Int32) l v = some (v.2.1 (23 + 8 * ot), set7 v (enS (goS (upd v.2.1 (24 + 8 * ot) x) ot) ot q m)) := by
  subst hl
  unfold f_X7_makesDrive_J111
  refine bnd (lay7 (k := 1) rfl rfl ho (by omega)) ?_
  rw [show 23 + 8 * ot + 1 = 24 + 8 * ot by omega]
  refine bnd (goesOn7 ho (by
    dsimp only [set7, st7]
    rw [upd_n (by omega)]; exact h17)) ?_
  refine bnd (end7 (m := m) (by
    dsimp only [set7, st7]
    rw [upd_n (by omega), upd_n (by omega), upd_n (by omega), upd_n (by omega)]; exact h2)) ?_
  unfold f_X7_makesDrive_J150
  have hi : (20 : Int32) + nI ot = nI (20 + ot) := nI_add 20 ot
  by_cases c : q ≤ m
  · refine iff' (by show ¬ w_tp v = nI (m + 1); rw [htp]; exact fun e => by have := (nI_eq (by omega) (by omega)).mp e; omega) ?_
    refine bnd (of7 (k := 0) rfl rfl ho (by omega)) ?_
    unfold enS
    rw [if_pos c]
    dsimp only [set7, st7, goS, Nat.add_zero]
    rw [upd_n (by omega : 23 + 8 * ot ≠ 17), upd_n (by omega), upd_n (by omega), upd_n (by omega)]
  · refine ift (by show w_tp v = nI (m + 1); rw [htp, show q = m + 1 by omega]) ?_
    rw [hi]
    refine ift (ig_t (by omega) (by omega)) ?_
    refine ift (ig_t (by omega) (by omega)) ?_
    refine bnd (of7 (k := 0) rfl rfl ho (by omega)) ?_
    unfold enS
    rw [if_neg c, nI_clamp (by omega)]
    dsimp only [set7, st7, goS, Nat.add_zero]
    rw [upd_n (by omega : 23 + 8 * ot ≠ 20 + ot), upd_n (by omega : 23 + 8 * ot ≠ 22), upd_n (by omega : 23 + 8 * ot ≠ 17), upd_n (by omega), upd_n (by omega), upd_n (by omega), upd_n (by omega : 20 + ot ≠ 22)]
/-- the array of a drive, but for the token, the turn and the end -/
def puS (s : Nat → Int32) (ot : Nat) (q : Nat) (le rl tl : Int32) : Nat → Int32 :=
  upd (upd (upd (upd s (23 + 8 * ot) (nI q)) (28 + 8 * ot) (s (28 + 8 * ot) + le)) (30 + 8 * ot) (s (30 + 8 * ot) + rl)) (25 + 8 * ot) (s (25 + 8 * ot) + tl)
set_option maxHeartbeats 2000000 in
theorem MR_drive {s : Nat → Int32} {r : RcS} {t : Nat} {x : Int32} (h : MR s r) (ok : okR r) (hpm : gPl (rW r (rOt r)) ≤ rM r) (hom : gPl (rW r (1 - rOt r)) ≤ rM r) (ht : 1 ≤ t) (hx : x = nI (if kd (rM r) (rK r) (sTo r t) = 3 then 1 else gTk (rW r (rOt r)))) :
    MR (enS (goS (upd (puS (drS (rM r) (rK r) (nI (rOt r)) (gPl (rW r (1 - rOt r))) (gPl (rW r (rOt r))) t s) (rOt r) (sTo r t) (fl (gPl (rW r (rOt r)) < gPl (rW r (1 - rOt r)) ∧ gPl (rW r (1 - rOt r)) < sTo r t)) (nI (drC (rM r) (rK r) (gPl (rW r (1 - rOt r))) (gPl (rW r (rOt r))) t)) (fl (kd (rM r) (rK r) (sTo r t) = 1))) (24 + 8 * rOt r) x) (rOt r)) (rOt r) (sTo r t) (rM r)) (sDrive r t) := by
  obtain ⟨m, K, pc, sp, W, ot, wi, tu, be, won⟩ := r
  have ho := ok.2.2.2.2.2.2.2.1
  have hm := ok.2.1
  clear ok
  obtain ⟨q1, q2, q3, q4, q5, q6, q7, q8, q9, q10, q11, q12⟩ := h
  dsimp only [rM, rK, rPc, rSp, rW, rOt, rWi, gPl, gTk, gLs, sTo] at *
  obtain ⟨u1, u2, u3, u4, u5, u6, u7, u8, u9⟩ := q11
  obtain ⟨v1, v2, v3, v4, v5, v6, v7, v8, v9⟩ := q12
  simp only [Nat.reduceMul, Nat.reduceAdd, Nat.mul_one, Nat.mul_zero, Nat.add_zero] at u1 u2 u3 u4 u5 u6 u7 u8 u9 v1 v2 v3 v4 v5 v6 v7 v8 v9
  rcases (show ot = 0 ∨ ot = 1 by omega) with rfl | rfl
  · -- wagon 0
    have f18 : s 18 + 1 = tu + 1 := by rw [q6]
    have f26 : s 26 + 1 = (W 0).2.2.2.1 + 1 := by rw [u4]
    have f25 : s 25 + fl (kd m K (rs m K (W 1).1 (W 0).1 t) = 1) = nI (if kd m K (rs m K (W 1).1 (W 0).1 t) = 1 then (W 0).2.2.1 + 1 else (W 0).2.2.1) := by rw [u3]; exact fl_nI _
    have f28 : s 28 + fl ((W 0).1 < (W 1).1 ∧ (W 1).1 < rs m K (W 1).1 (W 0).1 t) = (if (W 0).1 < (W 1).1 ∧ (W 1).1 < rs m K (W 1).1 (W 0).1 t then (W 0).2.2.2.2.2.1 + 1 else (W 0).2.2.2.2.2.1) := by rw [u6]; exact fl_add _
    have f30 : s 30 + nI (drC m K (W 1).1 (W 0).1 t) = (W 0).2.2.2.2.2.2.2.1 + nI (drC m K (W 1).1 (W 0).1 t) := by rw [u8]
    have f20 : s 20 + 1 = won 0 + 1 := by rw [q8]
    have D : ∀ x, x < 39 → drS m K (nI 0) (W 1).1 (W 0).1 t s x = s x := drS_lo ht hpm hom
    have DV := drS_at (K := K) (show 0 ≤ 1 by omega) ht hpm hom u9
    have DO := fun x hx => drS_ot (m := m) (o := (W 1).1) (p := (W 0).1) (d := t) (K := K) (s := s) (show 0 ≤ 1 by omega) x hx
    subst hx
    unfold enS
    by_cases c : rs m K (W 1).1 (W 0).1 t ≤ m
    · rw [if_pos c]
      have c1 : sTo (m, K, pc, sp, W, 0, wi, tu, be, won) t ≤ rM (m, K, pc, sp, W, 0, wi, tu, be, won) := c
      rw [show sDrive (m, K, pc, sp, W, 0, wi, tu, be, won) t = (m, K, pc, sp, upw W 0 (rs m K (W 1).1 (W 0).1 t, (if kd m K (rs m K (W 1).1 (W 0).1 t) = 3 then 1 else (W 0).2.1), (if kd m K (rs m K (W 1).1 (W 0).1 t) = 1 then (W 0).2.2.1 + 1 else (W 0).2.2.1), (W 0).2.2.2.1 + 1, (W 0).2.2.2.2.1, (if (W 0).1 < (W 1).1 ∧ (W 1).1 < rs m K (W 1).1 (W 0).1 t then (W 0).2.2.2.2.2.1 + 1 else (W 0).2.2.2.2.2.1), (W 0).2.2.2.2.2.2.1, (W 0).2.2.2.2.2.2.2.1 + nI (drC m K (W 1).1 (W 0).1 t), drV m K (W 1).1 (W 0).1 t (W 0).2.2.2.2.2.2.2.2), 1, wi, tu + 1, be, won) by
        unfold sDrive; simp only [if_pos c1]; rfl]
      refine ⟨?_, ?_, ?_, fun i a (b : i ≤ m) => ?_, ?_, ?_, ?_, ?_, ?_, ?_, ⟨?_, ?_, ?_, ?_, ?_, ?_, ?_, ?_, fun i a (b : i ≤ m) => ?_⟩, ⟨?_, ?_, ?_, ?_, ?_, ?_, ?_, ?_, fun i a (b : i ≤ m) => ?_⟩⟩
      · (simp only [goS, puS, Nat.reduceMul, Nat.reduceAdd, Nat.mul_one, Nat.mul_zero, Nat.add_zero]) <;> (repeat first | rw [upd_s] | rw [upd_n (by omega)] | rw [D _ (by omega)] | rw [DO _ (by omega)]) <;> exact q1
      · (simp only [goS, puS, Nat.reduceMul, Nat.reduceAdd, Nat.mul_one, Nat.mul_zero, Nat.add_zero]) <;> (repeat first | rw [upd_s] | rw [upd_n (by omega)] | rw [D _ (by omega)] | rw [DO _ (by omega)]) <;> exact q2
      · (simp only [goS, puS, Nat.reduceMul, Nat.reduceAdd, Nat.mul_one, Nat.mul_zero, Nat.add_zero]) <;> (repeat first | rw [upd_s] | rw [upd_n (by omega)] | rw [D _ (by omega)] | rw [DO _ (by omega)]) <;> exact q3
      · (simp only [goS, puS, Nat.reduceMul, Nat.reduceAdd, Nat.mul_one, Nat.mul_zero, Nat.add_zero]) <;> (repeat first | rw [upd_s] | rw [upd_n (by omega)] | rw [D _ (by omega)] | rw [DO _ (by omega)]) <;> exact q4 i a b
      · (simp only [goS, puS, Nat.reduceMul, Nat.reduceAdd, Nat.mul_one, Nat.mul_zero, Nat.add_zero]) <;> (repeat first | rw [upd_s] | rw [upd_n (by omega)] | rw [D _ (by omega)] | rw [DO _ (by omega)]) <;> exact rfl
      · (simp only [goS, puS, Nat.reduceMul, Nat.reduceAdd, Nat.mul_one, Nat.mul_zero, Nat.add_zero]) <;> (repeat first | rw [upd_s] | rw [upd_n (by omega)] | rw [D _ (by omega)] | rw [DO _ (by omega)]) <;> exact f18
      · (simp only [goS, puS, Nat.reduceMul, Nat.reduceAdd, Nat.mul_one, Nat.mul_zero, Nat.add_zero]) <;> (repeat first | rw [upd_s] | rw [upd_n (by omega)] | rw [D _ (by omega)] | rw [DO _ (by omega)]) <;> exact q7
      · (simp only [goS, puS, Nat.reduceMul, Nat.reduceAdd, Nat.mul_one, Nat.mul_zero, Nat.add_zero]) <;> (repeat first | rw [upd_s] | rw [upd_n (by omega)] | rw [D _ (by omega)] | rw [DO _ (by omega)]) <;> exact q8
      · (simp only [goS, puS, Nat.reduceMul, Nat.reduceAdd, Nat.mul_one, Nat.mul_zero, Nat.add_zero]) <;> (repeat first | rw [upd_s] | rw [upd_n (by omega)] | rw [D _ (by omega)] | rw [DO _ (by omega)]) <;> exact q9
      · (simp only [goS, puS, Nat.reduceMul, Nat.reduceAdd, Nat.mul_one, Nat.mul_zero, Nat.add_zero]) <;> (repeat first | rw [upd_s] | rw [upd_n (by omega)] | rw [D _ (by omega)] | rw [DO _ (by omega)]) <;> exact q10
      · (simp only [goS, puS, Nat.reduceMul, Nat.reduceAdd, Nat.mul_one, Nat.mul_zero, Nat.add_zero]) <;> (repeat first | rw [upd_s] | rw [upd_n (by omega)] | rw [D _ (by omega)] | rw [DO _ (by omega)]) <;> exact rfl
      · (simp only [goS, puS, Nat.reduceMul, Nat.reduceAdd, Nat.mul_one, Nat.mul_zero, Nat.add_zero]) <;> (repeat first | rw [upd_s] | rw [upd_n (by omega)] | rw [D _ (by omega)] | rw [DO _ (by omega)]) <;> exact rfl
      · (simp only [goS, puS, Nat.reduceMul, Nat.reduceAdd, Nat.mul_one, Nat.mul_zero, Nat.add_zero]) <;> (repeat first | rw [upd_s] | rw [upd_n (by omega)] | rw [D _ (by omega)] | rw [DO _ (by omega)]) <;> exact f25
      · (simp only [goS, puS, Nat.reduceMul, Nat.reduceAdd, Nat.mul_one, Nat.mul_zero, Nat.add_zero]) <;> (repeat first | rw [upd_s] | rw [upd_n (by omega)] | rw [D _ (by omega)] | rw [DO _ (by omega)]) <;> exact f26
      · (simp only [goS, puS, Nat.reduceMul, Nat.reduceAdd, Nat.mul_one, Nat.mul_zero, Nat.add_zero]) <;> (repeat first | rw [upd_s] | rw [upd_n (by omega)] | rw [D _ (by omega)] | rw [DO _ (by omega)]) <;> exact u5
      · (simp only [goS, puS, Nat.reduceMul, Nat.reduceAdd, Nat.mul_one, Nat.mul_zero, Nat.add_zero]) <;> (repeat first | rw [upd_s] | rw [upd_n (by omega)] | rw [D _ (by omega)] | rw [DO _ (by omega)]) <;> exact f28
      · (simp only [goS, puS, Nat.reduceMul, Nat.reduceAdd, Nat.mul_one, Nat.mul_zero, Nat.add_zero]) <;> (repeat first | rw [upd_s] | rw [upd_n (by omega)] | rw [D _ (by omega)] | rw [DO _ (by omega)]) <;> exact u7
      · (simp only [goS, puS, Nat.reduceMul, Nat.reduceAdd, Nat.mul_one, Nat.mul_zero, Nat.add_zero]) <;> (repeat first | rw [upd_s] | rw [upd_n (by omega)] | rw [D _ (by omega)] | rw [DO _ (by omega)]) <;> exact f30
      · (simp only [goS, puS, Nat.reduceMul, Nat.reduceAdd, Nat.mul_one, Nat.mul_zero, Nat.add_zero]) <;> (repeat first | rw [upd_s] | rw [upd_n (by omega)] | rw [D _ (by omega)] | rw [DO _ (by omega)]) <;> exact DV i a b
      · (simp only [goS, puS, Nat.reduceMul, Nat.reduceAdd, Nat.mul_one, Nat.mul_zero, Nat.add_zero]) <;> (repeat first | rw [upd_s] | rw [upd_n (by omega)] | rw [D _ (by omega)] | rw [DO _ (by omega)]) <;> exact v1
      · (simp only [goS, puS, Nat.reduceMul, Nat.reduceAdd, Nat.mul_one, Nat.mul_zero, Nat.add_zero]) <;> (repeat first | rw [upd_s] | rw [upd_n (by omega)] | rw [D _ (by omega)] | rw [DO _ (by omega)]) <;> exact v2
      · (simp only [goS, puS, Nat.reduceMul, Nat.reduceAdd, Nat.mul_one, Nat.mul_zero, Nat.add_zero]) <;> (repeat first | rw [upd_s] | rw [upd_n (by omega)] | rw [D _ (by omega)] | rw [DO _ (by omega)]) <;> exact v3
      · (simp only [goS, puS, Nat.reduceMul, Nat.reduceAdd, Nat.mul_one, Nat.mul_zero, Nat.add_zero]) <;> (repeat first | rw [upd_s] | rw [upd_n (by omega)] | rw [D _ (by omega)] | rw [DO _ (by omega)]) <;> exact v4
      · (simp only [goS, puS, Nat.reduceMul, Nat.reduceAdd, Nat.mul_one, Nat.mul_zero, Nat.add_zero]) <;> (repeat first | rw [upd_s] | rw [upd_n (by omega)] | rw [D _ (by omega)] | rw [DO _ (by omega)]) <;> exact v5
      · (simp only [goS, puS, Nat.reduceMul, Nat.reduceAdd, Nat.mul_one, Nat.mul_zero, Nat.add_zero]) <;> (repeat first | rw [upd_s] | rw [upd_n (by omega)] | rw [D _ (by omega)] | rw [DO _ (by omega)]) <;> exact v6
      · (simp only [goS, puS, Nat.reduceMul, Nat.reduceAdd, Nat.mul_one, Nat.mul_zero, Nat.add_zero]) <;> (repeat first | rw [upd_s] | rw [upd_n (by omega)] | rw [D _ (by omega)] | rw [DO _ (by omega)]) <;> exact v7
      · (simp only [goS, puS, Nat.reduceMul, Nat.reduceAdd, Nat.mul_one, Nat.mul_zero, Nat.add_zero]) <;> (repeat first | rw [upd_s] | rw [upd_n (by omega)] | rw [D _ (by omega)] | rw [DO _ (by omega)]) <;> exact v8
      · (simp only [goS, puS, Nat.reduceMul, Nat.reduceAdd, Nat.mul_one, Nat.mul_zero, Nat.add_zero]) <;> (repeat first | rw [upd_s] | rw [upd_n (by omega)] | rw [D _ (by omega)] | rw [DO _ (by omega)]) <;> exact v9 i a b
    · rw [if_neg c]
      have c1 : ¬ sTo (m, K, pc, sp, W, 0, wi, tu, be, won) t ≤ rM (m, K, pc, sp, W, 0, wi, tu, be, won) := c
      rw [show sDrive (m, K, pc, sp, W, 0, wi, tu, be, won) t = (m, K, pc, sp, upw W 0 (rs m K (W 1).1 (W 0).1 t, (if kd m K (rs m K (W 1).1 (W 0).1 t) = 3 then 1 else (W 0).2.1), (if kd m K (rs m K (W 1).1 (W 0).1 t) = 1 then (W 0).2.2.1 + 1 else (W 0).2.2.1), (W 0).2.2.2.1 + 1, (W 0).2.2.2.2.1, (if (W 0).1 < (W 1).1 ∧ (W 1).1 < rs m K (W 1).1 (W 0).1 t then (W 0).2.2.2.2.2.1 + 1 else (W 0).2.2.2.2.2.1), (W 0).2.2.2.2.2.2.1, (W 0).2.2.2.2.2.2.2.1 + nI (drC m K (W 1).1 (W 0).1 t), drV m K (W 1).1 (W 0).1 t (W 0).2.2.2.2.2.2.2.2), 1, nI 0, tu + 1, be, upd won 0 (won 0 + 1)) by
        unfold sDrive; simp only [if_neg c1]; rfl]
      refine ⟨?_, ?_, ?_, fun i a (b : i ≤ m) => ?_, ?_, ?_, ?_, ?_, ?_, ?_, ⟨?_, ?_, ?_, ?_, ?_, ?_, ?_, ?_, fun i a (b : i ≤ m) => ?_⟩, ⟨?_, ?_, ?_, ?_, ?_, ?_, ?_, ?_, fun i a (b : i ≤ m) => ?_⟩⟩
      · (simp only [goS, puS, Nat.reduceMul, Nat.reduceAdd, Nat.mul_one, Nat.mul_zero, Nat.add_zero]) <;> (repeat first | rw [upd_s] | rw [upd_n (by omega)] | rw [D _ (by omega)] | rw [DO _ (by omega)]) <;> exact q1
      · (simp only [goS, puS, Nat.reduceMul, Nat.reduceAdd, Nat.mul_one, Nat.mul_zero, Nat.add_zero]) <;> (repeat first | rw [upd_s] | rw [upd_n (by omega)] | rw [D _ (by omega)] | rw [DO _ (by omega)]) <;> exact q2
      · (simp only [goS, puS, Nat.reduceMul, Nat.reduceAdd, Nat.mul_one, Nat.mul_zero, Nat.add_zero]) <;> (repeat first | rw [upd_s] | rw [upd_n (by omega)] | rw [D _ (by omega)] | rw [DO _ (by omega)]) <;> exact q3
      · (simp only [goS, puS, Nat.reduceMul, Nat.reduceAdd, Nat.mul_one, Nat.mul_zero, Nat.add_zero]) <;> (repeat first | rw [upd_s] | rw [upd_n (by omega)] | rw [D _ (by omega)] | rw [DO _ (by omega)]) <;> exact q4 i a b
      · (simp only [goS, puS, Nat.reduceMul, Nat.reduceAdd, Nat.mul_one, Nat.mul_zero, Nat.add_zero]) <;> (repeat first | rw [upd_s] | rw [upd_n (by omega)] | rw [D _ (by omega)] | rw [DO _ (by omega)]) <;> exact rfl
      · (simp only [goS, puS, Nat.reduceMul, Nat.reduceAdd, Nat.mul_one, Nat.mul_zero, Nat.add_zero]) <;> (repeat first | rw [upd_s] | rw [upd_n (by omega)] | rw [D _ (by omega)] | rw [DO _ (by omega)]) <;> exact f18
      · (simp only [goS, puS, Nat.reduceMul, Nat.reduceAdd, Nat.mul_one, Nat.mul_zero, Nat.add_zero]) <;> (repeat first | rw [upd_s] | rw [upd_n (by omega)] | rw [D _ (by omega)] | rw [DO _ (by omega)]) <;> exact q7
      · (simp only [goS, puS, Nat.reduceMul, Nat.reduceAdd, Nat.mul_one, Nat.mul_zero, Nat.add_zero]) <;> (repeat first | rw [upd_s] | rw [upd_n (by omega)] | rw [D _ (by omega)] | rw [DO _ (by omega)]) <;> exact f20
      · (simp only [goS, puS, Nat.reduceMul, Nat.reduceAdd, Nat.mul_one, Nat.mul_zero, Nat.add_zero]) <;> (repeat first | rw [upd_s] | rw [upd_n (by omega)] | rw [D _ (by omega)] | rw [DO _ (by omega)]) <;> exact q9
      · (simp only [goS, puS, Nat.reduceMul, Nat.reduceAdd, Nat.mul_one, Nat.mul_zero, Nat.add_zero]) <;> (repeat first | rw [upd_s] | rw [upd_n (by omega)] | rw [D _ (by omega)] | rw [DO _ (by omega)]) <;> exact rfl
      · (simp only [goS, puS, Nat.reduceMul, Nat.reduceAdd, Nat.mul_one, Nat.mul_zero, Nat.add_zero]) <;> (repeat first | rw [upd_s] | rw [upd_n (by omega)] | rw [D _ (by omega)] | rw [DO _ (by omega)]) <;> exact rfl
      · (simp only [goS, puS, Nat.reduceMul, Nat.reduceAdd, Nat.mul_one, Nat.mul_zero, Nat.add_zero]) <;> (repeat first | rw [upd_s] | rw [upd_n (by omega)] | rw [D _ (by omega)] | rw [DO _ (by omega)]) <;> exact rfl
      · (simp only [goS, puS, Nat.reduceMul, Nat.reduceAdd, Nat.mul_one, Nat.mul_zero, Nat.add_zero]) <;> (repeat first | rw [upd_s] | rw [upd_n (by omega)] | rw [D _ (by omega)] | rw [DO _ (by omega)]) <;> exact f25
      · (simp only [goS, puS, Nat.reduceMul, Nat.reduceAdd, Nat.mul_one, Nat.mul_zero, Nat.add_zero]) <;> (repeat first | rw [upd_s] | rw [upd_n (by omega)] | rw [D _ (by omega)] | rw [DO _ (by omega)]) <;> exact f26
      · (simp only [goS, puS, Nat.reduceMul, Nat.reduceAdd, Nat.mul_one, Nat.mul_zero, Nat.add_zero]) <;> (repeat first | rw [upd_s] | rw [upd_n (by omega)] | rw [D _ (by omega)] | rw [DO _ (by omega)]) <;> exact u5
      · (simp only [goS, puS, Nat.reduceMul, Nat.reduceAdd, Nat.mul_one, Nat.mul_zero, Nat.add_zero]) <;> (repeat first | rw [upd_s] | rw [upd_n (by omega)] | rw [D _ (by omega)] | rw [DO _ (by omega)]) <;> exact f28
      · (simp only [goS, puS, Nat.reduceMul, Nat.reduceAdd, Nat.mul_one, Nat.mul_zero, Nat.add_zero]) <;> (repeat first | rw [upd_s] | rw [upd_n (by omega)] | rw [D _ (by omega)] | rw [DO _ (by omega)]) <;> exact u7
      · (simp only [goS, puS, Nat.reduceMul, Nat.reduceAdd, Nat.mul_one, Nat.mul_zero, Nat.add_zero]) <;> (repeat first | rw [upd_s] | rw [upd_n (by omega)] | rw [D _ (by omega)] | rw [DO _ (by omega)]) <;> exact f30
      · (simp only [goS, puS, Nat.reduceMul, Nat.reduceAdd, Nat.mul_one, Nat.mul_zero, Nat.add_zero]) <;> (repeat first | rw [upd_s] | rw [upd_n (by omega)] | rw [D _ (by omega)] | rw [DO _ (by omega)]) <;> exact DV i a b
      · (simp only [goS, puS, Nat.reduceMul, Nat.reduceAdd, Nat.mul_one, Nat.mul_zero, Nat.add_zero]) <;> (repeat first | rw [upd_s] | rw [upd_n (by omega)] | rw [D _ (by omega)] | rw [DO _ (by omega)]) <;> exact v1
      · (simp only [goS, puS, Nat.reduceMul, Nat.reduceAdd, Nat.mul_one, Nat.mul_zero, Nat.add_zero]) <;> (repeat first | rw [upd_s] | rw [upd_n (by omega)] | rw [D _ (by omega)] | rw [DO _ (by omega)]) <;> exact v2
      · (simp only [goS, puS, Nat.reduceMul, Nat.reduceAdd, Nat.mul_one, Nat.mul_zero, Nat.add_zero]) <;> (repeat first | rw [upd_s] | rw [upd_n (by omega)] | rw [D _ (by omega)] | rw [DO _ (by omega)]) <;> exact v3
      · (simp only [goS, puS, Nat.reduceMul, Nat.reduceAdd, Nat.mul_one, Nat.mul_zero, Nat.add_zero]) <;> (repeat first | rw [upd_s] | rw [upd_n (by omega)] | rw [D _ (by omega)] | rw [DO _ (by omega)]) <;> exact v4
      · (simp only [goS, puS, Nat.reduceMul, Nat.reduceAdd, Nat.mul_one, Nat.mul_zero, Nat.add_zero]) <;> (repeat first | rw [upd_s] | rw [upd_n (by omega)] | rw [D _ (by omega)] | rw [DO _ (by omega)]) <;> exact v5
      · (simp only [goS, puS, Nat.reduceMul, Nat.reduceAdd, Nat.mul_one, Nat.mul_zero, Nat.add_zero]) <;> (repeat first | rw [upd_s] | rw [upd_n (by omega)] | rw [D _ (by omega)] | rw [DO _ (by omega)]) <;> exact v6
      · (simp only [goS, puS, Nat.reduceMul, Nat.reduceAdd, Nat.mul_one, Nat.mul_zero, Nat.add_zero]) <;> (repeat first | rw [upd_s] | rw [upd_n (by omega)] | rw [D _ (by omega)] | rw [DO _ (by omega)]) <;> exact v7
      · (simp only [goS, puS, Nat.reduceMul, Nat.reduceAdd, Nat.mul_one, Nat.mul_zero, Nat.add_zero]) <;> (repeat first | rw [upd_s] | rw [upd_n (by omega)] | rw [D _ (by omega)] | rw [DO _ (by omega)]) <;> exact v8
      · (simp only [goS, puS, Nat.reduceMul, Nat.reduceAdd, Nat.mul_one, Nat.mul_zero, Nat.add_zero]) <;> (repeat first | rw [upd_s] | rw [upd_n (by omega)] | rw [D _ (by omega)] | rw [DO _ (by omega)]) <;> exact v9 i a b
  · -- wagon 1
    have f18 : s 18 + 1 = tu + 1 := by rw [q6]
    have f26 : s 34 + 1 = (W 1).2.2.2.1 + 1 := by rw [v4]
    have f25 : s 33 + fl (kd m K (rs m K (W 0).1 (W 1).1 t) = 1) = nI (if kd m K (rs m K (W 0).1 (W 1).1 t) = 1 then (W 1).2.2.1 + 1 else (W 1).2.2.1) := by rw [v3]; exact fl_nI _
    have f28 : s 36 + fl ((W 1).1 < (W 0).1 ∧ (W 0).1 < rs m K (W 0).1 (W 1).1 t) = (if (W 1).1 < (W 0).1 ∧ (W 0).1 < rs m K (W 0).1 (W 1).1 t then (W 1).2.2.2.2.2.1 + 1 else (W 1).2.2.2.2.2.1) := by rw [v6]; exact fl_add _
    have f30 : s 38 + nI (drC m K (W 0).1 (W 1).1 t) = (W 1).2.2.2.2.2.2.2.1 + nI (drC m K (W 0).1 (W 1).1 t) := by rw [v8]
    have f20 : s 21 + 1 = won 1 + 1 := by rw [q9]
    have D : ∀ x, x < 39 → drS m K (nI 1) (W 0).1 (W 1).1 t s x = s x := drS_lo ht hpm hom
    have DV := drS_at (K := K) (show 1 ≤ 1 by omega) ht hpm hom v9
    have DO := fun x hx => drS_ot (m := m) (o := (W 0).1) (p := (W 1).1) (d := t) (K := K) (s := s) (show 1 ≤ 1 by omega) x hx
    subst hx
    unfold enS
    by_cases c : rs m K (W 0).1 (W 1).1 t ≤ m
    · rw [if_pos c]
      have c1 : sTo (m, K, pc, sp, W, 1, wi, tu, be, won) t ≤ rM (m, K, pc, sp, W, 1, wi, tu, be, won) := c
      rw [show sDrive (m, K, pc, sp, W, 1, wi, tu, be, won) t = (m, K, pc, sp, upw W 1 (rs m K (W 0).1 (W 1).1 t, (if kd m K (rs m K (W 0).1 (W 1).1 t) = 3 then 1 else (W 1).2.1), (if kd m K (rs m K (W 0).1 (W 1).1 t) = 1 then (W 1).2.2.1 + 1 else (W 1).2.2.1), (W 1).2.2.2.1 + 1, (W 1).2.2.2.2.1, (if (W 1).1 < (W 0).1 ∧ (W 0).1 < rs m K (W 0).1 (W 1).1 t then (W 1).2.2.2.2.2.1 + 1 else (W 1).2.2.2.2.2.1), (W 1).2.2.2.2.2.2.1, (W 1).2.2.2.2.2.2.2.1 + nI (drC m K (W 0).1 (W 1).1 t), drV m K (W 0).1 (W 1).1 t (W 1).2.2.2.2.2.2.2.2), 0, wi, tu + 1, be, won) by
        unfold sDrive; simp only [if_pos c1]; rfl]
      refine ⟨?_, ?_, ?_, fun i a (b : i ≤ m) => ?_, ?_, ?_, ?_, ?_, ?_, ?_, ⟨?_, ?_, ?_, ?_, ?_, ?_, ?_, ?_, fun i a (b : i ≤ m) => ?_⟩, ⟨?_, ?_, ?_, ?_, ?_, ?_, ?_, ?_, fun i a (b : i ≤ m) => ?_⟩⟩
      · (simp only [goS, puS, Nat.reduceMul, Nat.reduceAdd, Nat.mul_one, Nat.mul_zero, Nat.add_zero]) <;> (repeat first | rw [upd_s] | rw [upd_n (by omega)] | rw [D _ (by omega)] | rw [DO _ (by omega)]) <;> exact q1
      · (simp only [goS, puS, Nat.reduceMul, Nat.reduceAdd, Nat.mul_one, Nat.mul_zero, Nat.add_zero]) <;> (repeat first | rw [upd_s] | rw [upd_n (by omega)] | rw [D _ (by omega)] | rw [DO _ (by omega)]) <;> exact q2
      · (simp only [goS, puS, Nat.reduceMul, Nat.reduceAdd, Nat.mul_one, Nat.mul_zero, Nat.add_zero]) <;> (repeat first | rw [upd_s] | rw [upd_n (by omega)] | rw [D _ (by omega)] | rw [DO _ (by omega)]) <;> exact q3
      · (simp only [goS, puS, Nat.reduceMul, Nat.reduceAdd, Nat.mul_one, Nat.mul_zero, Nat.add_zero]) <;> (repeat first | rw [upd_s] | rw [upd_n (by omega)] | rw [D _ (by omega)] | rw [DO _ (by omega)]) <;> exact q4 i a b
      · (simp only [goS, puS, Nat.reduceMul, Nat.reduceAdd, Nat.mul_one, Nat.mul_zero, Nat.add_zero]) <;> (repeat first | rw [upd_s] | rw [upd_n (by omega)] | rw [D _ (by omega)] | rw [DO _ (by omega)]) <;> exact rfl
      · (simp only [goS, puS, Nat.reduceMul, Nat.reduceAdd, Nat.mul_one, Nat.mul_zero, Nat.add_zero]) <;> (repeat first | rw [upd_s] | rw [upd_n (by omega)] | rw [D _ (by omega)] | rw [DO _ (by omega)]) <;> exact f18
      · (simp only [goS, puS, Nat.reduceMul, Nat.reduceAdd, Nat.mul_one, Nat.mul_zero, Nat.add_zero]) <;> (repeat first | rw [upd_s] | rw [upd_n (by omega)] | rw [D _ (by omega)] | rw [DO _ (by omega)]) <;> exact q7
      · (simp only [goS, puS, Nat.reduceMul, Nat.reduceAdd, Nat.mul_one, Nat.mul_zero, Nat.add_zero]) <;> (repeat first | rw [upd_s] | rw [upd_n (by omega)] | rw [D _ (by omega)] | rw [DO _ (by omega)]) <;> exact q8
      · (simp only [goS, puS, Nat.reduceMul, Nat.reduceAdd, Nat.mul_one, Nat.mul_zero, Nat.add_zero]) <;> (repeat first | rw [upd_s] | rw [upd_n (by omega)] | rw [D _ (by omega)] | rw [DO _ (by omega)]) <;> exact q9
      · (simp only [goS, puS, Nat.reduceMul, Nat.reduceAdd, Nat.mul_one, Nat.mul_zero, Nat.add_zero]) <;> (repeat first | rw [upd_s] | rw [upd_n (by omega)] | rw [D _ (by omega)] | rw [DO _ (by omega)]) <;> exact q10
      · (simp only [goS, puS, Nat.reduceMul, Nat.reduceAdd, Nat.mul_one, Nat.mul_zero, Nat.add_zero]) <;> (repeat first | rw [upd_s] | rw [upd_n (by omega)] | rw [D _ (by omega)] | rw [DO _ (by omega)]) <;> exact u1
      · (simp only [goS, puS, Nat.reduceMul, Nat.reduceAdd, Nat.mul_one, Nat.mul_zero, Nat.add_zero]) <;> (repeat first | rw [upd_s] | rw [upd_n (by omega)] | rw [D _ (by omega)] | rw [DO _ (by omega)]) <;> exact u2
      · (simp only [goS, puS, Nat.reduceMul, Nat.reduceAdd, Nat.mul_one, Nat.mul_zero, Nat.add_zero]) <;> (repeat first | rw [upd_s] | rw [upd_n (by omega)] | rw [D _ (by omega)] | rw [DO _ (by omega)]) <;> exact u3
      · (simp only [goS, puS, Nat.reduceMul, Nat.reduceAdd, Nat.mul_one, Nat.mul_zero, Nat.add_zero]) <;> (repeat first | rw [upd_s] | rw [upd_n (by omega)] | rw [D _ (by omega)] | rw [DO _ (by omega)]) <;> exact u4
      · (simp only [goS, puS, Nat.reduceMul, Nat.reduceAdd, Nat.mul_one, Nat.mul_zero, Nat.add_zero]) <;> (repeat first | rw [upd_s] | rw [upd_n (by omega)] | rw [D _ (by omega)] | rw [DO _ (by omega)]) <;> exact u5
      · (simp only [goS, puS, Nat.reduceMul, Nat.reduceAdd, Nat.mul_one, Nat.mul_zero, Nat.add_zero]) <;> (repeat first | rw [upd_s] | rw [upd_n (by omega)] | rw [D _ (by omega)] | rw [DO _ (by omega)]) <;> exact u6
      · (simp only [goS, puS, Nat.reduceMul, Nat.reduceAdd, Nat.mul_one, Nat.mul_zero, Nat.add_zero]) <;> (repeat first | rw [upd_s] | rw [upd_n (by omega)] | rw [D _ (by omega)] | rw [DO _ (by omega)]) <;> exact u7
      · (simp only [goS, puS, Nat.reduceMul, Nat.reduceAdd, Nat.mul_one, Nat.mul_zero, Nat.add_zero]) <;> (repeat first | rw [upd_s] | rw [upd_n (by omega)] | rw [D _ (by omega)] | rw [DO _ (by omega)]) <;> exact u8
      · (simp only [goS, puS, Nat.reduceMul, Nat.reduceAdd, Nat.mul_one, Nat.mul_zero, Nat.add_zero]) <;> (repeat first | rw [upd_s] | rw [upd_n (by omega)] | rw [D _ (by omega)] | rw [DO _ (by omega)]) <;> exact u9 i a b
      · (simp only [goS, puS, Nat.reduceMul, Nat.reduceAdd, Nat.mul_one, Nat.mul_zero, Nat.add_zero]) <;> (repeat first | rw [upd_s] | rw [upd_n (by omega)] | rw [D _ (by omega)] | rw [DO _ (by omega)]) <;> exact rfl
      · (simp only [goS, puS, Nat.reduceMul, Nat.reduceAdd, Nat.mul_one, Nat.mul_zero, Nat.add_zero]) <;> (repeat first | rw [upd_s] | rw [upd_n (by omega)] | rw [D _ (by omega)] | rw [DO _ (by omega)]) <;> exact rfl
      · (simp only [goS, puS, Nat.reduceMul, Nat.reduceAdd, Nat.mul_one, Nat.mul_zero, Nat.add_zero]) <;> (repeat first | rw [upd_s] | rw [upd_n (by omega)] | rw [D _ (by omega)] | rw [DO _ (by omega)]) <;> exact f25
      · (simp only [goS, puS, Nat.reduceMul, Nat.reduceAdd, Nat.mul_one, Nat.mul_zero, Nat.add_zero]) <;> (repeat first | rw [upd_s] | rw [upd_n (by omega)] | rw [D _ (by omega)] | rw [DO _ (by omega)]) <;> exact f26
      · (simp only [goS, puS, Nat.reduceMul, Nat.reduceAdd, Nat.mul_one, Nat.mul_zero, Nat.add_zero]) <;> (repeat first | rw [upd_s] | rw [upd_n (by omega)] | rw [D _ (by omega)] | rw [DO _ (by omega)]) <;> exact v5
      · (simp only [goS, puS, Nat.reduceMul, Nat.reduceAdd, Nat.mul_one, Nat.mul_zero, Nat.add_zero]) <;> (repeat first | rw [upd_s] | rw [upd_n (by omega)] | rw [D _ (by omega)] | rw [DO _ (by omega)]) <;> exact f28
      · (simp only [goS, puS, Nat.reduceMul, Nat.reduceAdd, Nat.mul_one, Nat.mul_zero, Nat.add_zero]) <;> (repeat first | rw [upd_s] | rw [upd_n (by omega)] | rw [D _ (by omega)] | rw [DO _ (by omega)]) <;> exact v7
      · (simp only [goS, puS, Nat.reduceMul, Nat.reduceAdd, Nat.mul_one, Nat.mul_zero, Nat.add_zero]) <;> (repeat first | rw [upd_s] | rw [upd_n (by omega)] | rw [D _ (by omega)] | rw [DO _ (by omega)]) <;> exact f30
      · (simp only [goS, puS, Nat.reduceMul, Nat.reduceAdd, Nat.mul_one, Nat.mul_zero, Nat.add_zero]) <;> (repeat first | rw [upd_s] | rw [upd_n (by omega)] | rw [D _ (by omega)] | rw [DO _ (by omega)]) <;> exact DV i a b
    · rw [if_neg c]
      have c1 : ¬ sTo (m, K, pc, sp, W, 1, wi, tu, be, won) t ≤ rM (m, K, pc, sp, W, 1, wi, tu, be, won) := c
      rw [show sDrive (m, K, pc, sp, W, 1, wi, tu, be, won) t = (m, K, pc, sp, upw W 1 (rs m K (W 0).1 (W 1).1 t, (if kd m K (rs m K (W 0).1 (W 1).1 t) = 3 then 1 else (W 1).2.1), (if kd m K (rs m K (W 0).1 (W 1).1 t) = 1 then (W 1).2.2.1 + 1 else (W 1).2.2.1), (W 1).2.2.2.1 + 1, (W 1).2.2.2.2.1, (if (W 1).1 < (W 0).1 ∧ (W 0).1 < rs m K (W 0).1 (W 1).1 t then (W 1).2.2.2.2.2.1 + 1 else (W 1).2.2.2.2.2.1), (W 1).2.2.2.2.2.2.1, (W 1).2.2.2.2.2.2.2.1 + nI (drC m K (W 0).1 (W 1).1 t), drV m K (W 0).1 (W 1).1 t (W 1).2.2.2.2.2.2.2.2), 0, nI 1, tu + 1, be, upd won 1 (won 1 + 1)) by
        unfold sDrive; simp only [if_neg c1]; rfl]
      refine ⟨?_, ?_, ?_, fun i a (b : i ≤ m) => ?_, ?_, ?_, ?_, ?_, ?_, ?_, ⟨?_, ?_, ?_, ?_, ?_, ?_, ?_, ?_, fun i a (b : i ≤ m) => ?_⟩, ⟨?_, ?_, ?_, ?_, ?_, ?_, ?_, ?_, fun i a (b : i ≤ m) => ?_⟩⟩
      · (simp only [goS, puS, Nat.reduceMul, Nat.reduceAdd, Nat.mul_one, Nat.mul_zero, Nat.add_zero]) <;> (repeat first | rw [upd_s] | rw [upd_n (by omega)] | rw [D _ (by omega)] | rw [DO _ (by omega)]) <;> exact q1
      · (simp only [goS, puS, Nat.reduceMul, Nat.reduceAdd, Nat.mul_one, Nat.mul_zero, Nat.add_zero]) <;> (repeat first | rw [upd_s] | rw [upd_n (by omega)] | rw [D _ (by omega)] | rw [DO _ (by omega)]) <;> exact q2
      · (simp only [goS, puS, Nat.reduceMul, Nat.reduceAdd, Nat.mul_one, Nat.mul_zero, Nat.add_zero]) <;> (repeat first | rw [upd_s] | rw [upd_n (by omega)] | rw [D _ (by omega)] | rw [DO _ (by omega)]) <;> exact q3
      · (simp only [goS, puS, Nat.reduceMul, Nat.reduceAdd, Nat.mul_one, Nat.mul_zero, Nat.add_zero]) <;> (repeat first | rw [upd_s] | rw [upd_n (by omega)] | rw [D _ (by omega)] | rw [DO _ (by omega)]) <;> exact q4 i a b
      · (simp only [goS, puS, Nat.reduceMul, Nat.reduceAdd, Nat.mul_one, Nat.mul_zero, Nat.add_zero]) <;> (repeat first | rw [upd_s] | rw [upd_n (by omega)] | rw [D _ (by omega)] | rw [DO _ (by omega)]) <;> exact rfl
      · (simp only [goS, puS, Nat.reduceMul, Nat.reduceAdd, Nat.mul_one, Nat.mul_zero, Nat.add_zero]) <;> (repeat first | rw [upd_s] | rw [upd_n (by omega)] | rw [D _ (by omega)] | rw [DO _ (by omega)]) <;> exact f18
      · (simp only [goS, puS, Nat.reduceMul, Nat.reduceAdd, Nat.mul_one, Nat.mul_zero, Nat.add_zero]) <;> (repeat first | rw [upd_s] | rw [upd_n (by omega)] | rw [D _ (by omega)] | rw [DO _ (by omega)]) <;> exact q7
      · (simp only [goS, puS, Nat.reduceMul, Nat.reduceAdd, Nat.mul_one, Nat.mul_zero, Nat.add_zero]) <;> (repeat first | rw [upd_s] | rw [upd_n (by omega)] | rw [D _ (by omega)] | rw [DO _ (by omega)]) <;> exact q8
      · (simp only [goS, puS, Nat.reduceMul, Nat.reduceAdd, Nat.mul_one, Nat.mul_zero, Nat.add_zero]) <;> (repeat first | rw [upd_s] | rw [upd_n (by omega)] | rw [D _ (by omega)] | rw [DO _ (by omega)]) <;> exact f20
      · (simp only [goS, puS, Nat.reduceMul, Nat.reduceAdd, Nat.mul_one, Nat.mul_zero, Nat.add_zero]) <;> (repeat first | rw [upd_s] | rw [upd_n (by omega)] | rw [D _ (by omega)] | rw [DO _ (by omega)]) <;> exact rfl
      · (simp only [goS, puS, Nat.reduceMul, Nat.reduceAdd, Nat.mul_one, Nat.mul_zero, Nat.add_zero]) <;> (repeat first | rw [upd_s] | rw [upd_n (by omega)] | rw [D _ (by omega)] | rw [DO _ (by omega)]) <;> exact u1
      · (simp only [goS, puS, Nat.reduceMul, Nat.reduceAdd, Nat.mul_one, Nat.mul_zero, Nat.add_zero]) <;> (repeat first | rw [upd_s] | rw [upd_n (by omega)] | rw [D _ (by omega)] | rw [DO _ (by omega)]) <;> exact u2
      · (simp only [goS, puS, Nat.reduceMul, Nat.reduceAdd, Nat.mul_one, Nat.mul_zero, Nat.add_zero]) <;> (repeat first | rw [upd_s] | rw [upd_n (by omega)] | rw [D _ (by omega)] | rw [DO _ (by omega)]) <;> exact u3
      · (simp only [goS, puS, Nat.reduceMul, Nat.reduceAdd, Nat.mul_one, Nat.mul_zero, Nat.add_zero]) <;> (repeat first | rw [upd_s] | rw [upd_n (by omega)] | rw [D _ (by omega)] | rw [DO _ (by omega)]) <;> exact u4
      · (simp only [goS, puS, Nat.reduceMul, Nat.reduceAdd, Nat.mul_one, Nat.mul_zero, Nat.add_zero]) <;> (repeat first | rw [upd_s] | rw [upd_n (by omega)] | rw [D _ (by omega)] | rw [DO _ (by omega)]) <;> exact u5
      · (simp only [goS, puS, Nat.reduceMul, Nat.reduceAdd, Nat.mul_one, Nat.mul_zero, Nat.add_zero]) <;> (repeat first | rw [upd_s] | rw [upd_n (by omega)] | rw [D _ (by omega)] | rw [DO _ (by omega)]) <;> exact u6
      · (simp only [goS, puS, Nat.reduceMul, Nat.reduceAdd, Nat.mul_one, Nat.mul_zero, Nat.add_zero]) <;> (repeat first | rw [upd_s] | rw [upd_n (by omega)] | rw [D _ (by omega)] | rw [DO _ (by omega)]) <;> exact u7
      · (simp only [goS, puS, Nat.reduceMul, Nat.reduceAdd, Nat.mul_one, Nat.mul_zero, Nat.add_zero]) <;> (repeat first | rw [upd_s] | rw [upd_n (by omega)] | rw [D _ (by omega)] | rw [DO _ (by omega)]) <;> exact u8
      · (simp only [goS, puS, Nat.reduceMul, Nat.reduceAdd, Nat.mul_one, Nat.mul_zero, Nat.add_zero]) <;> (repeat first | rw [upd_s] | rw [upd_n (by omega)] | rw [D _ (by omega)] | rw [DO _ (by omega)]) <;> exact u9 i a b
      · (simp only [goS, puS, Nat.reduceMul, Nat.reduceAdd, Nat.mul_one, Nat.mul_zero, Nat.add_zero]) <;> (repeat first | rw [upd_s] | rw [upd_n (by omega)] | rw [D _ (by omega)] | rw [DO _ (by omega)]) <;> exact rfl
      · (simp only [goS, puS, Nat.reduceMul, Nat.reduceAdd, Nat.mul_one, Nat.mul_zero, Nat.add_zero]) <;> (repeat first | rw [upd_s] | rw [upd_n (by omega)] | rw [D _ (by omega)] | rw [DO _ (by omega)]) <;> exact rfl
      · (simp only [goS, puS, Nat.reduceMul, Nat.reduceAdd, Nat.mul_one, Nat.mul_zero, Nat.add_zero]) <;> (repeat first | rw [upd_s] | rw [upd_n (by omega)] | rw [D _ (by omega)] | rw [DO _ (by omega)]) <;> exact f25
      · (simp only [goS, puS, Nat.reduceMul, Nat.reduceAdd, Nat.mul_one, Nat.mul_zero, Nat.add_zero]) <;> (repeat first | rw [upd_s] | rw [upd_n (by omega)] | rw [D _ (by omega)] | rw [DO _ (by omega)]) <;> exact f26
      · (simp only [goS, puS, Nat.reduceMul, Nat.reduceAdd, Nat.mul_one, Nat.mul_zero, Nat.add_zero]) <;> (repeat first | rw [upd_s] | rw [upd_n (by omega)] | rw [D _ (by omega)] | rw [DO _ (by omega)]) <;> exact v5
      · (simp only [goS, puS, Nat.reduceMul, Nat.reduceAdd, Nat.mul_one, Nat.mul_zero, Nat.add_zero]) <;> (repeat first | rw [upd_s] | rw [upd_n (by omega)] | rw [D _ (by omega)] | rw [DO _ (by omega)]) <;> exact f28
      · (simp only [goS, puS, Nat.reduceMul, Nat.reduceAdd, Nat.mul_one, Nat.mul_zero, Nat.add_zero]) <;> (repeat first | rw [upd_s] | rw [upd_n (by omega)] | rw [D _ (by omega)] | rw [DO _ (by omega)]) <;> exact v7
      · (simp only [goS, puS, Nat.reduceMul, Nat.reduceAdd, Nat.mul_one, Nat.mul_zero, Nat.add_zero]) <;> (repeat first | rw [upd_s] | rw [upd_n (by omega)] | rw [D _ (by omega)] | rw [DO _ (by omega)]) <;> exact f30
      · (simp only [goS, puS, Nat.reduceMul, Nat.reduceAdd, Nat.mul_one, Nat.mul_zero, Nat.add_zero]) <;> (repeat first | rw [upd_s] | rw [upd_n (by omega)] | rw [D _ (by omega)] | rw [DO _ (by omega)]) <;> exact DV i a b

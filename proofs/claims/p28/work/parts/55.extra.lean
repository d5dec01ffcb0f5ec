/-! what the law asks of every race, behind at most n changes -/
def stS (K : Nat → Nat) (f : Nat → Int32) : Nat → Int32
  | 0 => 0
  | i + 1 => stS K f i + (if K (i + 1) = 2 then f (i + 1) else 0)
def OX (n : Nat) (r : RcS) : Prop :=
  (∃ T C : Nat → Nat, (∀ j, j ≤ 1 → gTn (rW r j) = nI (T j) ∧ gLo (rW r j) = nI (C j) ∧ C j ≤ T j ∧ stS (rK r) (gVs (rW r j)) (rM r) = gRl (rW r j) ∧ kd (rM r) (rK r) (gPl (rW r j)) ≠ 2) ∧ rTu r = nI (T 0 + T 1) ∧ T 0 = T 1 + rOt r ∧ T 0 + T 1 ≤ n) ∧
  (rWi r = -4 ∨ (rWi r = 0 ∧ gPl (rW r 0) = rM r + 1 ∧ gPl (rW r 1) ≤ rM r) ∨ (rWi r = 1 ∧ gPl (rW r 1) = rM r + 1 ∧ gPl (rW r 0) ≤ rM r)) ∧
  (∃ B x y : Nat, rBe r = nI B ∧ rWo r 0 = nI x ∧ rWo r 1 = nI y ∧ x + y + (if rWi r = -4 then 1 else 0) ≤ B ∧ B ≤ n + 1)
theorem OX_mono {n n' : Nat} {r : RcS} (hn : n ≤ n') (h : OX n r) : OX n' r := by
  obtain ⟨⟨T, C, a1, a2, a3, a4⟩, b, B, x, y, c1, c2, c3, c4, c5⟩ := h
  exact ⟨⟨T, C, a1, a2, a3, by omega⟩, b, B, x, y, c1, c2, c3, c4, by omega⟩
theorem stS_0 (K : Nat → Nat) : ∀ m, stS K (fun _ => 0) m = 0 := by
  intro m
  induction m with
  | zero => rfl
  | succ m ih =>
    show stS K (fun _ => 0) m + (if K (m + 1) = 2 then (0 : Int32) else 0) = 0
    rw [ih]
    by_cases c : K (m + 1) = 2
    · rw [if_pos c]; rfl
    · rw [if_neg c]; rfl
theorem OX_begin {n : Nat} {r r1 : RcS} (e : rBe r1 = rBe r ∧ rWo r1 = rWo r) (h : OX n r) : OX (n + 1) (sBegin r1) := by
  obtain ⟨⟨T, C, a1, a2, a3, a4⟩, b, B, x, y, c1, c2, c3, c4, c5⟩ := h
  obtain ⟨e1, e2⟩ := e
  refine ⟨⟨fun _ => 0, fun _ => 0, fun j _ => ⟨rfl, rfl, Nat.le_refl 0, stS_0 _ _, ?_⟩, rfl, rfl, Nat.zero_le _⟩, Or.inl rfl, B + 1, x, y, ?_, ?_, ?_, ?_, by omega⟩
  · show kd _ _ 0 ≠ 2
    unfold kd
    rw [if_neg (by omega)]
    omega
  · show rBe r1 + 1 = _
    rw [e1, c1, nI_1]
  · show rWo r1 0 = _
    rw [e2]; exact c2
  · show rWo r1 1 = _
    rw [e2]; exact c3
  · show x + y + (if (-4 : Int32) = -4 then 1 else 0) ≤ B + 1
    rw [if_pos rfl]
    omega
theorem OX_set {n : Nat} {r : RcS} (pc sp : Nat) (h : OX n r) : OX n (r.1, r.2.1, pc, sp, r.2.2.2.2) := h
/-! a drive: what is rolled is what steep miles were stood on -/
theorem stS_lt {K : Nat → Nat} {f : Nat → Int32} {q : Nat} {x : Int32} : ∀ k, k < q → stS K (upd f q x) k = stS K f k := by
  intro k
  induction k with
  | zero => intro _; rfl
  | succ k ih =>
    intro h
    show stS K (upd f q x) k + (if K (k + 1) = 2 then upd f q x (k + 1) else 0) = stS K f k + (if K (k + 1) = 2 then f (k + 1) else 0)
    rw [ih (by omega), upd_n (by omega)]
theorem stS_upd {K : Nat → Nat} {f : Nat → Int32} {q : Nat} (hq : 1 ≤ q) : ∀ k, q ≤ k → stS K (upd f q (f q + 1)) k = stS K f k + (if K q = 2 then 1 else 0) := by
  intro k
  induction k with
  | zero => intro h; omega
  | succ k ih =>
    intro h
    show stS K (upd f q (f q + 1)) k + (if K (k + 1) = 2 then upd f q (f q + 1) (k + 1) else 0) = stS K f k + (if K (k + 1) = 2 then f (k + 1) else 0) + (if K q = 2 then 1 else 0)
    by_cases e : k + 1 = q
    · rw [stS_lt k (by omega), e, upd_s]
      by_cases c : K q = 2
      · rw [if_pos c, if_pos c, if_pos c, Int32.add_assoc]
      · rw [if_neg c, if_neg c, if_neg c, Int32.add_zero, Int32.add_zero]
    · rw [ih (by omega), upd_n e, Int32.add_assoc, Int32.add_assoc, Int32.add_comm (if K q = 2 then (1 : Int32) else 0)]
theorem stS_bump {m : Nat} {K : Nat → Nat} {f : Nat → Int32} (q : Nat) : stS K (bump m f q) m = stS K f m + (if kd m K q = 2 then 1 else 0) := by
  unfold bump kd
  by_cases c : 1 ≤ q ∧ q ≤ m
  · rw [if_pos c, if_pos c, stS_upd c.1 m c.2]
  · rw [if_neg c, if_neg c, if_neg (by omega), Int32.add_zero]
theorem i32_c {X Y Z : Int32} (h : X + Y = Z + Y) : X = Z := by
  have h2 : X + Y - Y = Z + Y - Y := by rw [h]
  rw [Int32.add_sub_cancel, Int32.add_sub_cancel] at h2
  exact h2
theorem i32_b {X Y S R : Int32} (h : X + Y = S + Y + R) : X = S + R := i32_c (Y := Y) (h.trans (by rw [Int32.add_assoc, Int32.add_comm Y R, ← Int32.add_assoc]))
theorem i32_a {X Y S R Z : Int32} (h : X + Y = S + Y + R + Z) : X + 1 = S + (R + 1) + Z := by
  have h2 : X = S + R + Z := i32_c (Y := Y) (h.trans (by rw [Int32.add_assoc S Y R, Int32.add_comm Y R, ← Int32.add_assoc S R Y, Int32.add_assoc (S + R) Y Z, Int32.add_comm Y Z, ← Int32.add_assoc]))
  rw [h2, ← Int32.add_assoc S R 1, Int32.add_assoc (S + R) Z 1, Int32.add_assoc (S + R) 1 Z, Int32.add_comm Z 1]
theorem stS_ro {m o : Nat} {K : Nat → Nat} : ∀ (n p : Nat) (f : Nat → Int32), stS K (roV m K o n p f) m + (if kd m K p = 2 then 1 else 0) = stS K f m + nI (roC m K o n p) + (if kd m K (ro m K o n p) = 2 then 1 else 0) := by
  intro n
  induction n with
  | zero => intro p f; show _ = stS K f m + nI 0 + _; rw [show nI 0 = 0 from rfl, Int32.add_zero]; rfl
  | succ n ih =>
    intro p f
    rw [roV, roC, ro]
    by_cases c : kd m K p = 2
    · rw [if_pos c, if_pos c, if_pos c, if_pos c]
      have h := ih (nx o p) (bump m f (nx o p))
      rw [stS_bump] at h
      generalize stS K (roV m K o n (nx o p) (bump m f (nx o p))) m = X at h ⊢
      generalize (if kd m K (nx o p) = 2 then (1 : Int32) else 0) = Y at h
      generalize (if kd m K (ro m K o n (nx o p)) = 2 then (1 : Int32) else 0) = Z at h ⊢
      rw [← nI_1]
      generalize nI (roC m K o n (nx o p)) = R at h ⊢
      generalize stS K f m = S at h ⊢
      exact i32_a h
    · rw [if_neg c, if_neg c, if_neg c, if_neg c]
      show stS K f m + 0 = stS K f m + nI 0 + (if kd m K p = 2 then 1 else 0)
      rw [if_neg c, show nI 0 = 0 from rfl, Int32.add_zero, Int32.add_zero]
theorem stS_drive {m o p d : Nat} {K : Nat → Nat} {f : Nat → Int32} (hm : m ≤ 14) (ho : o ≤ m) (hp : p ≤ m) (hd : 1 ≤ d) : stS K (drV m K o p d f) m = stS K f m + nI (drC m K o p d) := by
  have h := stS_ro (m := m) (o := o) (K := K) 14 (ld m o p d) (bump m f (ld m o p d))
  have e : ¬ kd m K (ro m K o 14 (ld m o p d)) = 2 := (rs_ok (K := K) hm ho hp hd).2.2
  rw [stS_bump, if_neg e, Int32.add_zero] at h
  unfold drV drC
  generalize stS K (roV m K o 14 (ld m o p d) (bump m f (ld m o p d))) m = X at h ⊢
  generalize (if kd m K (ld m o p d) = 2 then (1 : Int32) else 0) = Y at h
  generalize nI (roC m K o 14 (ld m o p d)) = R at h ⊢
  generalize stS K f m = S at h ⊢
  exact i32_b h
/-- what a turn does to the numbers of both wagons -/
theorem make_W {r : RcS} (ho : rOt r ≤ 1) (t : Nat) :
    gTn (rW (sMake r t) (rOt r)) = gTn (rW r (rOt r)) + 1 ∧ gLo (rW (sMake r t) (rOt r)) = (if t = 0 then gLo (rW r (rOt r)) + 1 else gLo (rW r (rOt r))) ∧
    ((t = 0 ∨ t = 5) → gVs (rW (sMake r t) (rOt r)) = gVs (rW r (rOt r)) ∧ gRl (rW (sMake r t) (rOt r)) = gRl (rW r (rOt r)) ∧ gPl (rW (sMake r t) (rOt r)) = gPl (rW r (rOt r)) ∧ rWi (sMake r t) = rWi r ∧ rWo (sMake r t) = rWo r) ∧
    (t ≠ 0 → t ≠ 5 → gVs (rW (sMake r t) (rOt r)) = drV (rM r) (rK r) (gPl (rW r (1 - rOt r))) (gPl (rW r (rOt r))) t (gVs (rW r (rOt r))) ∧ gRl (rW (sMake r t) (rOt r)) = gRl (rW r (rOt r)) + nI (drC (rM r) (rK r) (gPl (rW r (1 - rOt r))) (gPl (rW r (rOt r))) t) ∧ gPl (rW (sMake r t) (rOt r)) = sTo r t ∧ rWi (sMake r t) = (if sTo r t ≤ rM r then rWi r else nI (rOt r)) ∧ rWo (sMake r t) = (if sTo r t ≤ rM r then rWo r else upd (rWo r) (rOt r) (rWo r (rOt r) + 1))) ∧
    (gTn (rW (sMake r t) (1 - rOt r)) = gTn (rW r (1 - rOt r)) ∧ gLo (rW (sMake r t) (1 - rOt r)) = gLo (rW r (1 - rOt r)) ∧ gVs (rW (sMake r t) (1 - rOt r)) = gVs (rW r (1 - rOt r)) ∧ gRl (rW (sMake r t) (1 - rOt r)) = gRl (rW r (1 - rOt r)) ∧ gPl (rW (sMake r t) (1 - rOt r)) = gPl (rW r (1 - rOt r))) ∧
    rOt (sMake r t) = 1 - rOt r ∧ rTu (sMake r t) = rTu r + 1 ∧ rBe (sMake r t) = rBe r := by
  have hne : 1 - rOt r ≠ rOt r := by omega
  unfold sMake
  rcases e : rW r (rOt r) with ⟨a1, a2, a3, a4, a5, a6, a7, a8, a9⟩
  by_cases c0 : t = 0
  · rw [if_pos c0, if_pos c0]
    unfold sLost
    rw [e]
    refine ⟨?_, ?_, fun _ => ⟨?_, ?_, ?_, rfl, rfl⟩, fun q => absurd c0 q, ⟨?_, ?_, ?_, ?_, ?_⟩, rfl, rfl, rfl⟩ <;> simp only [rW, upw_s, upw_n hne]
  · rw [if_neg c0, if_neg c0]
    by_cases c5 : t = 5
    · rw [if_pos c5]
      rcases e2 : rW r (1 - rOt r) with ⟨b1, b2, b3, b4, b5, b6, b7, b8, b9⟩
      unfold sToken
      rw [e, e2]
      refine ⟨?_, ?_, fun _ => ⟨?_, ?_, ?_, rfl, rfl⟩, fun _ q => absurd c5 q, ⟨?_, ?_, ?_, ?_, ?_⟩, rfl, rfl, rfl⟩ <;> simp only [rW, upw_s, upw_n hne, upw_n (Ne.symm hne)]
    · rw [if_neg c5]
      unfold sDrive
      rw [e]
      refine ⟨?_, ?_, fun q => absurd q (by omega), fun _ _ => ⟨?_, ?_, ?_, rfl, rfl⟩, ⟨?_, ?_, ?_, ?_, ?_⟩, rfl, rfl, rfl⟩ <;> simp only [rW, upw_s, upw_n hne]

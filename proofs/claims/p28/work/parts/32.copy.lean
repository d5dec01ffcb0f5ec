/-! taking over and beginning: the class -/
theorem nI_bq {n : Nat} (h : n ≤ 1) : bq (nI n) = true := by
  rcases (show n = 0 ∨ n = 1 by omega) with rfl | rfl <;> decide
theorem cpy_in {n i : Nat} {f g : Nat → Int32} (h : i < n) : cpy n f g i = f i := if_pos h
theorem CW_take {m : Nat} (hm : m ≤ 14) {v v1 : tX4} {w : WgS} (h : CW m v1 w) (ht : w.2.1 ≤ 1) : ∃ v', f_X4_takeOver v v1 = some v' ∧ CW m v' w := by
  obtain ⟨u1, u2, u3, u4, u5, u6, u7, u8, u9⟩ := h
  unfold f_X4_takeOver
  rw [copyRow_eq _ _ (by omega), Option.bind_some, if_pos (by rw [u2]; exact nI_bq ht)]
  exact ⟨_, rfl, u1, u2, u3, u4, u5, u6, u7, u8, fun i a b => (cpy_in (by omega)).trans (u9 i a b)⟩
theorem CR_take {v v1 : tX2} {r : RcS} (h : CR v1 r) (ok : okR r) : ∃ v', f_X2_takeOver v v1 = some v' ∧ CR v' r := by
  obtain ⟨hR, hW0, hW1, q1, q2, q3, q4, q5, q6, q7, q8⟩ := h
  have hm := ok.2.1
  obtain ⟨x1, e1, c1⟩ := CW_take (v := v.2.1) hm hW0 (ok.2.2.2.2.2.2.2.2.1 0 (by omega)).2.1
  obtain ⟨x2, e2, c2⟩ := CW_take (v := v.2.2.1) hm hW1 (ok.2.2.2.2.2.2.2.2.1 1 (by omega)).2.1
  unfold f_X2_takeOver f_X3_takeOver
  rw [copyRow_eq _ _ (by omega), Option.bind_some, Option.bind_some, e1, Option.bind_some, e2, Option.bind_some]
  obtain ⟨r1, r2, r3, r4⟩ := hR
  exact ⟨_, rfl, ⟨r1, r2, r3, fun i a b => ⟨(cpy_in (by omega)).trans (r4 i a b).1, (r4 i a b).2⟩⟩, c1, c2, q1, q2, q3, q4, q5, q6, q7, q8⟩
def wg0 : WgS := (0, 1, 0, 0, 0, 0, 0, 0, fun _ => 0)
def sBegin (r : RcS) : RcS := (r.1, r.2.1, r.2.2.1, r.2.2.2.1, fun _ => wg0, 0, -4, 0, r.2.2.2.2.2.2.2.2.1 + 1, r.2.2.2.2.2.2.2.2.2)
theorem okR_begin {r : RcS} (h : okR r) : okR (sBegin r) := by
  obtain ⟨h1, h2, h3, h4, h5, h6, h7, h8, h9, h10⟩ := h
  exact ⟨h1, h2, h3, h4, h5, h6, h7, Nat.zero_le _, fun j _ => ⟨Nat.zero_le _, Nat.le_refl 1, Nat.zero_le _⟩, Or.inl ⟨rfl, Nat.zero_le _, Nat.zero_le _, Or.inr rfl⟩⟩
theorem fil_in {n i : Nat} {x : Int32} {g : Nat → Int32} (h : i < n) : fil n x g i = x := if_pos h
theorem CR_begin {v : tX2} {r : RcS} (hR : Rd v.1 (rM r) (rK r)) (q1 : v.2.2.2.1 = nI (rPc r)) (q2 : v.2.2.2.2.1 = nI (rSp r)) (q6 : v.2.2.2.2.2.2.2.2.1 = r.2.2.2.2.2.2.2.2.1) (q7 : v.2.2.2.2.2.2.2.2.2.1 = r.2.2.2.2.2.2.2.2.2 0) (q8 : v.2.2.2.2.2.2.2.2.2.2 = r.2.2.2.2.2.2.2.2.2 1) : ∃ v', f_X2_begin v = some v' ∧ CR v' (sBegin r) ∧ v'.1.2 = nI (rM r) := by
  have hm := hR.2.2.1
  unfold f_X2_begin f_X4_begin
  rw [fillRow_eq _ _ (by omega), fillRow_eq _ _ (by omega)]
  simp only [Option.bind_some]
  refine ⟨_, rfl, ⟨hR, ⟨rfl, rfl, rfl, rfl, rfl, rfl, rfl, rfl, fun i a b => fil_in (by have : i ≤ rM r := b; omega)⟩, ⟨rfl, rfl, rfl, rfl, rfl, rfl, rfl, rfl, fun i a b => fil_in (by have : i ≤ rM r := b; omega)⟩, q1, q2, rfl, rfl, rfl, ?_, q7, q8⟩, hR.1⟩
  show v.2.2.2.2.2.2.2.2.1 + 1 = _
  rw [q6]; rfl

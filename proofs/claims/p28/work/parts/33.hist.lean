/-! the history of the class -/
def pick (R : tX2 × tX2 × tX2 × tX2) (i : Nat) : tX2 := if i = 0 then R.1 else if i = 1 then R.2.1 else if i = 2 then R.2.2.1 else R.2.2.2
theorem fmod_eq : ∀ n, n < 9 → f_J9_floorMod_7cf53 (nI n) (4 : Int32) = some (nI (n % 4)) := by decide +kernel
theorem row_eq {h : tX0} {f j : Nat} (hf : h.2.1 = nI f) (hf4 : f < 4) (hj : j ≤ 4) : f_X0_row h (nI j) = some ((f + j) % 4) := by
  unfold f_X0_row
  rw [hf, nI_add, fmod_eq _ (by omega), Option.bind_some]
  have : ∀ n, n < 4 → (if nI n < 0 then some 4 else (if (4 : Int32) ≤ nI n then some 4 else (if nI n = (0 : Int32) then some 0 else (if nI n = (1 : Int32) then some 1 else (if nI n = (2 : Int32) then some 2 else (if nI n = (3 : Int32) then some 3 else none)))))) = some n := by decide +kernel
  exact this _ (by omega)
theorem pick_s (R : tX2 × tX2 × tX2 × tX2) (x : tX2) : pick (x, R.2) 0 = x ∧ pick (R.1, x, R.2.2) 1 = x ∧ pick (R.1, R.2.1, x, R.2.2.2) 2 = x ∧ pick (R.1, R.2.1, R.2.2.1, x) 3 = x := ⟨rfl, rfl, rfl, rfl⟩
/-- one row laid anew -/
def lay4 (R : tX2 × tX2 × tX2 × tX2) (i : Nat) (x : tX2) : tX2 × tX2 × tX2 × tX2 := if i = 0 then (x, R.2) else if i = 1 then (R.1, x, R.2.2) else if i = 2 then (R.1, R.2.1, x, R.2.2.2) else (R.1, R.2.1, R.2.2.1, x)
theorem pick_lay {R : tX2 × tX2 × tX2 × tX2} {i j : Nat} {x : tX2} (hi : i < 4) (hj : j < 4) : pick (lay4 R i x) j = if j = i then x else pick R j := by
  rcases (show i = 0 ∨ i = 1 ∨ i = 2 ∨ i = 3 by omega) with rfl | rfl | rfl | rfl <;> rcases (show j = 0 ∨ j = 1 ∨ j = 2 ∨ j = 3 by omega) with rfl | rfl | rfl | rfl <;> rfl
theorem recJ32 {h : tX0} {v1 : tX2} {r : RcS} {f k : Nat} (hf : h.2.1 = nI f) (hk : h.2.2 = nI k) (hf4 : f < 4) (hk4 : k < 4) (hr : CR v1 r) (ok : okR r) : ∃ x, f_X0_record_J32 v1 h = some (lay4 h.1 ((f + k) % 4) x, nI f, nI (k + 1)) ∧ CR x r := by
  unfold f_X0_record_J32
  rw [hk, row_eq hf hf4 (by omega), Option.bind_some, hf, nI_1]
  rcases (show (f + k) % 4 = 0 ∨ (f + k) % 4 = 1 ∨ (f + k) % 4 = 2 ∨ (f + k) % 4 = 3 by omega) with e | e | e | e <;> rw [e]
  · obtain ⟨x, e1, e2⟩ := CR_take (v := h.1.1) hr ok
    exact ⟨x, ift rfl (bnd e1 rfl), e2⟩
  · obtain ⟨x, e1, e2⟩ := CR_take (v := h.1.2.1) hr ok
    exact ⟨x, iff' (by omega) (ift rfl (bnd e1 rfl)), e2⟩
  · obtain ⟨x, e1, e2⟩ := CR_take (v := h.1.2.2.1) hr ok
    exact ⟨x, iff' (by omega) (iff' (by omega) (ift rfl (bnd e1 rfl))), e2⟩
  · obtain ⟨x, e1, e2⟩ := CR_take (v := h.1.2.2.2) hr ok
    exact ⟨x, iff' (by omega) (iff' (by omega) (iff' (by omega) (ift rfl (bnd e1 rfl)))), e2⟩
/-- k rows -/
def HK (h : tX0) (k : Nat) : Prop := ∃ (H : Nat → RcS) (f : Nat), k ≤ 4 ∧ f < 4 ∧ h.2.1 = nI f ∧ h.2.2 = nI k ∧ ∀ j, j < k → okR (H j) ∧ CR (pick h.1 ((f + j) % 4)) (H j)
/-- k rows, and behind them the race r -/
def HT (h : tX0) (k : Nat) (r : RcS) : Prop := k ≤ 3 ∧ ∃ (H : Nat → RcS) (f : Nat), f < 4 ∧ h.2.1 = nI f ∧ h.2.2 = nI (k + 1) ∧ (∀ j, j < k + 1 → okR (H j) ∧ CR (pick h.1 ((f + j) % 4)) (H j)) ∧ H k = r
def kq (k : Nat) : Nat := min k 3
theorem HT.hk {h : tX0} {k : Nat} {r : RcS} (q : HT h k r) : HK h (k + 1) := by
  obtain ⟨h3, H, f, f4, e1, e2, hj, -⟩ := q
  exact ⟨H, f, by omega, f4, e1, e2, hj⟩
theorem record_eq {h : tX0} {v1 : tX2} {r : RcS} {k : Nat} (hH : HK h k) (hr : CR v1 r) (ok : okR r) : ∃ h' : tX0, f_X0_record h v1 = some h' ∧ HT h' (kq k) r := by
  obtain ⟨H, f, hk4, hf4, e1, e2, hj⟩ := hH
  unfold f_X0_record kq
  by_cases c : k = 4
  · subst c
    have e4 : h.2.1 + (1 : Int32) = nI (f + 1) := by rw [e1]; exact nI_add f 1
    have e5 : h.2.2 - (1 : Int32) = nI 3 := by rw [e2]; rfl
    obtain ⟨x, x1, x2⟩ := recJ32 (h := (h.1, nI ((f + 1) % 4), nI 3)) (f := (f + 1) % 4) (k := 3) rfl rfl (by omega) (by omega) hr ok
    refine ⟨(lay4 h.1 (((f + 1) % 4 + 3) % 4) x, nI ((f + 1) % 4), nI 4), ?_, ?_⟩
    · refine ift e2 ?_
      rw [e4]
      refine bnd (fmod_eq _ (by omega)) ?_
      rw [e5]
      exact x1
    · refine ⟨by omega, fun j => if j = 3 then r else H (j + 1), (f + 1) % 4, by omega, rfl, rfl, fun j hjj => ?_, rfl⟩
      by_cases c3 : j = 3
      · subst c3
        refine ⟨ok, ?_⟩
        show CR (pick (lay4 h.1 (((f + 1) % 4 + 3) % 4) x) (((f + 1) % 4 + 3) % 4)) r
        rw [pick_lay (by omega) (by omega), if_pos rfl]; exact x2
      · have hjj' : j < 4 := hjj
        have hq := hj (j + 1) (by omega)
        simp only [if_neg c3]
        refine ⟨hq.1, ?_⟩
        show CR (pick (lay4 h.1 (((f + 1) % 4 + 3) % 4) x) (((f + 1) % 4 + j) % 4)) _
        rw [pick_lay (by omega) (by omega), if_neg (by omega), show ((f + 1) % 4 + j) % 4 = (f + (j + 1)) % 4 by omega]
        exact hq.2
  · have km : min k 3 = k := by omega
    rw [km]
    obtain ⟨x, x1, x2⟩ := recJ32 e1 e2 hf4 (by omega) hr ok
    have n4 : ¬ nI k = (4 : Int32) := fun e => c ((nI_eq (b := 4) (by omega) (by omega)).mp e)
    refine ⟨(lay4 h.1 ((f + k) % 4) x, nI f, nI (k + 1)), iff' (by rw [e2]; exact n4) x1, by omega, fun j => if j = k then r else H j, f, by omega, rfl, rfl, fun j hjj => ?_, if_pos rfl⟩
    by_cases c3 : j = k
    · subst c3
      simp only [if_true]
      refine ⟨ok, ?_⟩
      show CR (pick (lay4 h.1 ((f + j) % 4) x) ((f + j) % 4)) r
      rw [pick_lay (by omega) (by omega), if_pos rfl]; exact x2
    · have hq := hj j (by omega)
      simp only [if_neg c3]
      refine ⟨hq.1, ?_⟩
      show CR (pick (lay4 h.1 ((f + k) % 4) x) ((f + j) % 4)) _
      rw [pick_lay (by omega) (by omega), if_neg (by omega)]
      exact hq.2
theorem takeBack_no {h : tX0} {v1 : tX2} (hH : HK h 0) : f_X0_takeBack h v1 = some (0, h, v1) := by
  obtain ⟨H, f, hk4, hf4, e1, e2, hj⟩ := hH
  unfold f_X0_takeBack f_X0_takeBack_J21
  exact ift (by rw [e2]; decide) rfl
theorem takeBack_eq {h : tX0} {v1 : tX2} {k : Nat} {r : RcS} (hH : HT h k r) : ∃ v' : tX2, f_X0_takeBack h v1 = some (1, (h.1, h.2.1, nI k), v') ∧ HK (h.1, h.2.1, nI k) k ∧ okR r ∧ CR v' r := by
  obtain ⟨hk3, H, f, hf4, e1, e2, hj, hr⟩ := hH
  have hq := hj k (by omega)
  rw [hr] at hq
  obtain ⟨x, x1, x2⟩ := CR_take (v := v1) hq.2 hq.1
  refine ⟨x, ?_, ⟨H, f, by omega, hf4, e1, rfl, fun j h => hj j (by omega)⟩, hq.1, x2⟩
  have ek : h.2.2 - (1 : Int32) = nI k := by rw [e2]; exact nI_sub (a := k + 1) (b := 1) (by omega)
  unfold f_X0_takeBack
  refine iff' (by rw [e2]; exact nI_ge (show 0 < k + 1 by omega) (by omega)) ?_
  rw [ek]
  refine bnd (row_eq e1 hf4 (by omega)) ?_
  rcases (show (f + k) % 4 = 0 ∨ (f + k) % 4 = 1 ∨ (f + k) % 4 = 2 ∨ (f + k) % 4 = 3 by omega) with e | e | e | e <;> rw [e] at x1 ⊢
  · refine ift rfl ?_
    unfold f_X0_takeBack_J21c; rw [ek]
    exact bnd x1 rfl
  · refine iff' (by omega) (ift rfl ?_)
    unfold f_X0_takeBack_J21e; rw [ek]
    exact bnd x1 rfl
  · refine iff' (by omega) (iff' (by omega) (ift rfl ?_))
    unfold f_X0_takeBack_J21b; rw [ek]
    exact bnd x1 rfl
  · refine iff' (by omega) (iff' (by omega) (iff' (by omega) (ift rfl ?_)))
    unfold f_X0_takeBack_J21d; rw [ek]
    exact bnd x1 rfl

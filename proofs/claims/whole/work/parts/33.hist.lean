/-! the history, the snapshot and the race put aside -/
def pick (R : tX2 × tX2 × tX2 × tX2) (i : Nat) : tX2 := if i = 0 then R.1 else if i = 1 then R.2.1 else if i = 2 then R.2.2.1 else R.2.2.2
def HR (h : tX0) (sts : Nat → Int32) (sm : Int32) : Prop := ∃ (H : Nat → RcS) (k f : Nat), k ≤ 4 ∧ f < 4 ∧ h.2.1 = nI f ∧ h.2.2 = nI k ∧ sm = nI k ∧ ∀ j, j < k → okR (H j) ∧ CR (pick h.1 ((f + j) % 4)) (H j) ∧ MR (fun x => sts (72 * j + x)) (H j)
theorem fmod_eq : ∀ n, n < 9 → f_J9_floorMod_7cf53 (nI n) (4 : Int32) = some (nI (n % 4)) := by decide +kernel
theorem row_eq {h : tX0} {f j : Nat} (hf : h.2.1 = nI f) (hf4 : f < 4) (hj : j ≤ 4) : f_X0_row h (nI j) = some ((f + j) % 4) := by
  unfold f_X0_row
  rw [hf, nI_add, fmod_eq _ (by omega), Option.bind_some]
  have : ∀ n, n < 4 → (if nI n < 0 then some 4 else (if (4 : Int32) ≤ nI n then some 4 else (if nI n = (0 : Int32) then some 0 else (if nI n = (1 : Int32) then some 1 else (if nI n = (2 : Int32) then some 2 else (if nI n = (3 : Int32) then some 3 else none)))))) = some n := by decide +kernel
  exact this _ (by omega)
theorem pick_s (R : tX2 × tX2 × tX2 × tX2) (x : tX2) : pick (x, R.2) 0 = x ∧ pick (R.1, x, R.2.2) 1 = x ∧ pick (R.1, R.2.1, x, R.2.2.2) 2 = x ∧ pick (R.1, R.2.1, R.2.2.1, x) 3 = x := ⟨rfl, rfl, rfl, rfl⟩
/-- one row laid anew -/
def lay4 (R : tX2 × tX2 × tX2 × tX2) (i : Nat) (x : tX2) : tX2 × tX2 × tX2 × tX2 := if i = 0 then (x, R.2) else if i = 1 then (R.1, x, R.2.2) else if i = 2 then (R.1, R.2.1, x, R.2.2.2) else (R.1, R.2.1, R.2.2.1, x)
theorem pick_lay {R : tX2 × tX2 × tX2 × tX2} {i j : Nat} {x : tX2} (hi : i < 4) (hj : j < 4) : pick (lay4 R i x) j = if j = i then x else pick R j := by
  rcases (show i = 0 ∨ i = 1 ∨ i = 2 ∨ i = 3 by omega) with rfl | rfl | rfl | rfl <;> rcases (show j = 0 ∨ j = 1 ∨ j = 2 ∨ j = 3 by omega) with rfl | rfl | rfl | rfl <;> rfl
theorem recJ32 {h : tX0} {v1 : tX2} {r : RcS} {f k : Nat} (hf : h.2.1 = nI f) (hk : h.2.2 = nI k) (hf4 : f < 4) (hk4 : k < 4) (hr : CR v1 r) (ok : okR r) : ∃ x, f_X0_record_J32 v1 h = some (lay4 h.1 ((f + k) % 4) x, nI f, nI (k + 1)) ∧ CR x r := by
  unfold f_X0_record_J32
  rw [hk, row_eq hf hf4 (by omega), Option.bind_some, hf, nI_1]
  rcases (show (f + k) % 4 = 0 ∨ (f + k) % 4 = 1 ∨ (f + k) % 4 = 2 ∨ (f + k) % 4 = 3 by omega) with e | e | e | e <;> rw [e]
  · obtain ⟨x, e1, e2⟩ := CR_take (v := h.1.1) hr ok
    exact ⟨x, ift rfl (bnd e1 rfl), e2⟩
  · obtain ⟨x, e1, e2⟩ := CR_take (v := h.1.2.1) hr ok
    exact ⟨x, iff' (by omega) (ift rfl (bnd e1 rfl)), e2⟩
  · obtain ⟨x, e1, e2⟩ := CR_take (v := h.1.2.2.1) hr ok
    exact ⟨x, iff' (by omega) (iff' (by omega) (ift rfl (bnd e1 rfl))), e2⟩
  · obtain ⟨x, e1, e2⟩ := CR_take (v := h.1.2.2.2) hr ok
    exact ⟨x, iff' (by omega) (iff' (by omega) (iff' (by omega) (ift rfl (bnd e1 rfl)))), e2⟩
/-- both histories take the race in -/
theorem record_eq {h : tX0} {v1 : tX2} {r : RcS} {w : tX7} (hH : HR h (w_sts w) (w_sm w)) (hr : CR v1 r) (ok : okR r) (hM : MR w.2.1 r) : ∃ (h' : tX0) (sts : Nat → Int32) (sm : Int32), f_X0_record h v1 = some h' ∧ f_X7_records w = some (stH w sts sm) ∧ HR h' sts sm := by
  obtain ⟨H, k, f, hk4, hf4, e1, e2, e3, hj⟩ := hH
  unfold f_X0_record f_X7_records
  by_cases c : k = 4
  · subst c
    have e4 : h.2.1 + (1 : Int32) = nI (f + 1) := by rw [e1]; exact nI_add f 1
    have e5 : h.2.2 - (1 : Int32) = nI 3 := by rw [e2]; rfl
    obtain ⟨x, x1, x2⟩ := recJ32 (h := (h.1, nI ((f + 1) % 4), nI 3)) (f := (f + 1) % 4) (k := 3) rfl rfl (by omega) (by omega) hr ok
    refine ⟨(lay4 h.1 (((f + 1) % 4 + 3) % 4) x, nI ((f + 1) % 4), nI 4), ovo (72 * 3) 72 w.2.1 (ovo 0 216 (fun x => w_sts w (x + 72)) (w_sts w)), nI 4, ?_, ?_, ?_⟩
    · refine ift e2 ?_
      rw [e4]
      refine bnd (fmod_eq _ (by omega)) ?_
      rw [e5]
      exact x1
    · refine ift e3 ?_
      show f_X7_records_L10 gas (nI 0) w = _
      rw [rec_L10 (f := w_sts w) gas 0 w (by omega) (by show 216 < 0 + 1000000; omega) ovo_0.symm]
      unfold f_X7_records_J48
      exact rec_L50 (c := 3) (by omega) gas 0 _ (show w_sm w - 1 = nI 3 by rw [e3]; rfl) (by omega) (by show 72 < 0 + 1000000; omega) _ ovo_0.symm
    · refine ⟨fun j => if j = 3 then r else H (j + 1), 4, (f + 1) % 4, by omega, by omega, rfl, rfl, rfl, fun j hjj => ?_⟩
      by_cases c3 : j = 3
      · subst c3
        refine ⟨ok, ?_, ?_⟩
        · show CR (pick (lay4 h.1 (((f + 1) % 4 + 3) % 4) x) (((f + 1) % 4 + 3) % 4)) r
          rw [pick_lay (by omega) (by omega), if_pos rfl]; exact x2
        · exact MR_cong ok.2.1 (fun i hi => ovo_in hi) hM
      · have hq := hj (j + 1) (by omega)
        simp only [if_neg c3]
        refine ⟨hq.1, ?_, ?_⟩
        · show CR (pick (lay4 h.1 (((f + 1) % 4 + 3) % 4) x) (((f + 1) % 4 + j) % 4)) _
          rw [pick_lay (by omega) (by omega), if_neg (by omega), show ((f + 1) % 4 + j) % 4 = (f + (j + 1)) % 4 by omega]
          exact hq.2.1
        · refine MR_cong hq.1.2.1 (fun i hi => ?_) hq.2.2
          show ovo (72 * 3) 72 w.2.1 (ovo 0 216 (fun x => w_sts w (x + 72)) (w_sts w)) (72 * j + i) = w_sts w (72 * (j + 1) + i)
          rw [ovo_out (by omega)]
          have := ovo_in (c := 0) (n := 216) (i := 72 * j + i) (f := fun x => w_sts w (x + 72)) (g := w_sts w) (by omega)
          rw [Nat.zero_add] at this
          rw [this]
          show w_sts w (72 * j + i + 72) = _
          rw [show 72 * j + i + 72 = 72 * (j + 1) + i by omega]
  · obtain ⟨x, x1, x2⟩ := recJ32 e1 e2 hf4 (by omega) hr ok
    have n4 : ¬ nI k = (4 : Int32) := fun e => c ((nI_eq (b := 4) (by omega) (by omega)).mp e)
    refine ⟨(lay4 h.1 ((f + k) % 4) x, nI f, nI (k + 1)), ovo (72 * k) 72 w.2.1 (w_sts w), nI (k + 1), iff' (by rw [e2]; exact n4) x1, ?_, ?_⟩
    · refine iff' (by show ¬ w_sm w = _; rw [e3]; exact n4) ?_
      unfold f_X7_records_J48
      exact rec_L50 (c := k) (by omega) gas 0 w e3 (by omega) (by show 72 < 0 + 1000000; omega) _ ovo_0.symm
    · refine ⟨fun j => if j = k then r else H j, k + 1, f, by omega, by omega, rfl, rfl, rfl, fun j hjj => ?_⟩
      by_cases c3 : j = k
      · subst c3
        simp only [if_true]
        refine ⟨ok, ?_, ?_⟩
        · show CR (pick (lay4 h.1 ((f + j) % 4) x) ((f + j) % 4)) r
          rw [pick_lay (by omega) (by omega), if_pos rfl]; exact x2
        · exact MR_cong ok.2.1 (fun i hi => ovo_in hi) hM
      · have hq := hj j (by omega)
        simp only [if_neg c3]
        refine ⟨hq.1, ?_, ?_⟩
        · show CR (pick (lay4 h.1 ((f + k) % 4) x) ((f + j) % 4)) _
          rw [pick_lay (by omega) (by omega), if_neg (by omega)]
          exact hq.2.1
        · refine MR_cong hq.1.2.1 (fun i hi => ?_) hq.2.2
          show ovo (72 * k) 72 w.2.1 (w_sts w) (72 * j + i) = w_sts w (72 * j + i)
          rw [ovo_out (by omega)]
/-- both take the race before back -/
theorem takeBack_eq {h : tX0} {v1 : tX2} {w : tX7} (hH : HR h (w_sts w) (w_sm w)) : (w_sm w = 0 ∧ f_X0_takeBack h v1 = some (0, h, v1)) ∨
    (∃ (k : Nat) (v' : tX2) (r : RcS), k ≤ 3 ∧ w_sm w = nI (k + 1) ∧ f_X0_takeBack h v1 = some (1, (h.1, h.2.1, nI k), v') ∧ HR (h.1, h.2.1, nI k) (w_sts w) (nI k) ∧ okR r ∧ CR v' r ∧ MR (fun x => w_sts w (72 * k + x)) r) := by
  obtain ⟨H, k, f, hk4, hf4, e1, e2, e3, hj⟩ := hH
  by_cases c : k = 0
  · subst c
    refine Or.inl ⟨e3, ?_⟩
    unfold f_X0_takeBack f_X0_takeBack_J21
    exact ift (by rw [e2]; decide) rfl
  · obtain ⟨k, rfl⟩ : ∃ k', k = k' + 1 := ⟨k - 1, by omega⟩
    have hq := hj k (by omega)
    obtain ⟨x, x1, x2⟩ := CR_take (v := v1) hq.2.1 hq.1
    refine Or.inr ⟨k, x, H k, by omega, e3, ?_, ⟨H, k, f, by omega, hf4, e1, rfl, rfl, fun j h => hj j (by omega)⟩, hq.1, x2, hq.2.2⟩
    have ek : h.2.2 - (1 : Int32) = nI k := by rw [e2]; exact nI_sub (a := k + 1) (b := 1) (by omega)
    unfold f_X0_takeBack
    refine iff' (by rw [e2]; exact nI_ge (show 0 < k + 1 by omega) (by omega)) ?_
    rw [ek]
    refine bnd (row_eq e1 hf4 (by omega)) ?_
    rcases (show (f + k) % 4 = 0 ∨ (f + k) % 4 = 1 ∨ (f + k) % 4 = 2 ∨ (f + k) % 4 = 3 by omega) with e | e | e | e <;> rw [e] at x1 ⊢
    · refine ift rfl ?_
      unfold f_X0_takeBack_J21c; rw [ek]
      exact bnd x1 rfl
    · refine iff' (by omega) (ift rfl ?_)
      unfold f_X0_takeBack_J21e; rw [ek]
      exact bnd x1 rfl
    · refine iff' (by omega) (iff' (by omega) (ift rfl ?_))
      unfold f_X0_takeBack_J21b; rw [ek]
      exact bnd x1 rfl
    · refine iff' (by omega) (iff' (by omega) (iff' (by omega) (ift rfl ?_)))
      unfold f_X0_takeBack_J21d; rw [ek]
      exact bnd x1 rfl

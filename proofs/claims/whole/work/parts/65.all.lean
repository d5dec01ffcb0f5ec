/-! all calls, and the start -/
theorem sim_all : SimAll Rel := ⟨sim_drive_ok, sim_token_ok, sim_lose_ok, sim_best_ok, sim_greedy_ok, sim_again_ok, sim_set_ok, sim_append_ok, sim_clear_ok, sim_fault_ok, sim_road_ok, sim_race_ok, sim_why_ok, sim_mile_ok, sim_wagon_ok, sim_ends_ok, sim_worth_ok, sim_worthOf_ok, sim_bestTurn_ok, sim_count_ok, sim_speed_ok, sim_ended_ok, sim_undo_ok, sim_save_ok, sim_restore_ok⟩
def r00 : RcS := (10, fun _ => 0, 3, 1, fun _ => wg0, 0, -4, 0, 0, fun _ => 0)
theorem rel_init : ∃ v0 w0, f_X6_init = some v0 ∧ f_X7_init = some w0 ∧ Rel v0 w0 := by
  have R0 : Rd ((fun _ => 0), (10 : Int32)) (rM r00) (rK r00) := ⟨rfl, by decide, by decide, fun i _ _ => ⟨rfl, by show 0 ≤ 3; omega⟩⟩
  obtain ⟨x, b1, b2, -⟩ := CR_begin (v := (((fun _ => 0), (10 : Int32)), ((fun _ => 0), (0 : Int32), (0 : Int32), (0 : Int32), (0 : Int32), (0 : Int32), (0 : Int32), (0 : Int32), (0 : Int32)), ((fun _ => 0), (0 : Int32), (0 : Int32), (0 : Int32), (0 : Int32), (0 : Int32), (0 : Int32), (0 : Int32), (0 : Int32)), (3 : Int32), (1 : Int32), (0 : Int32), (0 : Int32), (0 : Int32), (0 : Int32), (0 : Int32), (0 : Int32))) (r := r00) R0 rfl rfl rfl rfl rfl
  have i2 : f_X2_init = some x := by
    unfold f_X2_init f_X3_init f_X4_init
    exact bnd rfl (bnd rfl (bnd rfl (bnd b1 rfl)))
  have i0 : f_X0_init = some ((x, x, x, x), (0 : Int32), (0 : Int32)) := by
    unfold f_X0_init
    exact bnd i2 (bnd i2 (bnd i2 (bnd i2 rfl)))
  obtain ⟨y, ta, j1, j2, j3⟩ := init5
  have i6 : f_X6_init = some (x, x, x, ((x, x, x, x), (0 : Int32), (0 : Int32)), ((fun _ => 0), (0 : Int32)), (y, (fun _ => 0), ta, (fun _ => 0), (fun _ => 0), (fun _ => 0), 0, 0, 0), (0 : Int32), (0 : Int32), (0 : Int32)) := by
    unfold f_X6_init
    exact bnd i2 (bnd i2 (bnd i2 (bnd i0 (bnd (show f_X1_init = some ((fun _ => 0), (0 : Int32)) from rfl) (bnd j2 rfl)))))
  have b7 := begins7 ((0 : Int32), (upd (upd (upd (fun _ => 0) 0 (3 : Int32)) 1 (1 : Int32)) 2 (10 : Int32)), (fun _ => 0), (fun _ => 0), (0 : Int32), (fun _ => 0), (0 : Int32), (fun _ => 0), (0 : Int32), (-4 : Int32), (-4 : Int32), (fun _ => 0), (0 : Int32), (0 : Int32), (0 : Int32), (0 : Int32), (0 : Int32), (0 : Int32))
  have i7 : f_X7_init = some _ := bnd b7 rfl
  have up : ∀ i, 3 ≤ i → upd (upd (upd (fun _ => (0 : Int32)) 0 (3 : Int32)) 1 (1 : Int32)) 2 (10 : Int32) i = 0 := fun i hi => by
    rw [upd_n (by omega), upd_n (by omega), upd_n (by omega)]
  have mb := MR_begin (s := upd (upd (upd (fun _ => 0) 0 (3 : Int32)) 1 (1 : Int32)) 2 (10 : Int32)) (r := r00) (by decide) ((upd_n (by omega)).trans ((upd_n (by omega)).trans upd_s)) ((upd_n (by omega)).trans upd_s) upd_s (fun i a _ => up _ (by omega)) (up _ (by omega)) (up _ (by omega)) (up _ (by omega))
  refine ⟨_, _, i6, i7, sBegin r00, okR_begin2 (by decide) (by decide) (fun _ _ _ => by show 0 ≤ 3; omega) (by decide) (by decide) (by decide) (by decide), b2, mb, ⟨fun _ => r00, 0, 0, by omega, by omega, rfl, rfl, rfl, fun j hj => by omega⟩, Or.inl ⟨rfl, rfl⟩, ⟨0, by omega, rfl, rfl, fun i hi => by omega⟩, Or.inl ⟨rfl, rfl, rfl⟩, ⟨j3, Or.inl rfl⟩, Or.inl rfl⟩

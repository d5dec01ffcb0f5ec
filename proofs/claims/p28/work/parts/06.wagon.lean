def f_X4_begin (v : tX4) : Option tX4 :=
  (f_X6_fillRow 15 v.1 (0 : Int32)).bind fun x0 => some (x0, (0 : Int32), (1 : Int32), (0 : Int32), (0 : Int32), (0 : Int32), (0 : Int32), (0 : Int32), (0 : Int32))
abbrev rm_X4_begin : Room := { frames := 1, cells := 0, slots := 0, locals := 22 }
set_option maxHeartbeats 4000000 in
set_option maxRecDepth 100000 in
theorem c_X4_begin (l : Launch) (D : va_G) (cI cR : ClassId) (ad : Nat → Nat) (v : tX4) (sz : Nat) (r : tX4) (hf : f_X4_begin v = some r) : Met l yX4_begin (wM yX4_begin cX4_begin 1 none) rm_X4_begin (cPre D (tysA cI cR) ([.ref (ad 0)] : List Value) (oX4 cI cR ad v) sz) (qV D (oX4 cI cR ad r) (va_A (oX4 cI cR ad v) sz)) 0 0 (va_A (oX4 cI cR ad v) sz) := by
  refine en_M (own := RX4) (lv := [(0, .ref (ad 0))]) (by decide +kernel) rfl (Nat.le_of_ble_eq_true rfl) rfl (fun p e s m below meth c hx hb hr hlk hml hown hnm hts hsz hP hK hD hN ls hl => ?_)
  subst hsz
  generalize hAe : va_A (oX4 cI cR ad v) s.heap.size = A at hD ⊢
  have hA : ∀ q : Nat, s.heap.size ≤ q → A q := fun q h => by rw [← hAe]; exact Or.inr h
  have hS : va_S A s.heap s.heap [] := va_S.rf
  have hP : va_P D vwCl [(ad 0, .inr (4, [.ref (ad 1), .int v.2.1, .int v.2.2.1, .int v.2.2.2.1, .int v.2.2.2.2.1, .int v.2.2.2.2.2.1, .int v.2.2.2.2.2.2.1, .int v.2.2.2.2.2.2.2.1, .int v.2.2.2.2.2.2.2.2])), (ad 1, .inl (cI, 15, .inl v.1))] s.heap := hP
  have hD : va_D A [(ad 0, .inr (4, [.ref (ad 1), .int v.2.1, .int v.2.2.1, .int v.2.2.2.1, .int v.2.2.2.2.1, .int v.2.2.2.2.2.1, .int v.2.2.2.2.2.2.1, .int v.2.2.2.2.2.2.2.1, .int v.2.2.2.2.2.2.2.2])), (ad 1, .inl (cI, 15, .inl v.1))] := hD
  unfold f_X4_begin at hf
  refine lv_aload_n hx hb dX4_begin_0 rfl (lv_at hl 0 rfl) ?_
  refine va_get (D := D) (ci := 4) (v := .ref (ad 1)) (C := RX4) (T := TX4) (N := 9) hx hb hts inA_X4 hown hK hP 0 rfl rfl 0 (by decide) (hts _ kF_X4_9) (fun _ h9 => h9) rfl dX4_begin_1 ?_
  refine lv_iconst (v := (0 : Int32)) hx hb dX4_begin_4 (by decide) ?_
  obtain ⟨x0, hcx0, hf⟩ := gB hf
  refine j_v (wr := [(ad 0, .inr (4, [.ref (ad 1), .int v.2.1, .int v.2.2.1, .int v.2.2.2.1, .int v.2.2.2.2.1, .int v.2.2.2.2.2.1, .int v.2.2.2.2.2.2.1, .int v.2.2.2.2.2.2.2.1, .int v.2.2.2.2.2.2.2.2]))]) (w_SN (As := [.ref (ad 1), .int (0 : Int32)]) (rest := []) (n := 2) ⟨hx, hb, hml, hown, hts⟩ (c_X6_fillRow l D cI cR (ad 1) 15 v.1 (0 : Int32) _ x0 hcx0) (nM_X4_15 hN) kS_X6_fillRow kZ_X6 kK_X6_fillRow ⟨rfl, rfl⟩ ⟨(Nat.le_of_ble_eq_true rfl), (Nat.le_of_ble_eq_true rfl)⟩ pd_X6_fillRow rfl hK hN hP hD [1] rfl rfl rfl hl.1 (Nat.le_of_ble_eq_true rfl) dX4_begin_5 ⟨(Nat.le_of_ble_eq_true rfl), (Nat.le_of_ble_eq_true rfl)⟩) hP hD hS hA [1] [0] rfl rfl rfl (by decide) (fun H locs hP hD hS => ?_)
  have hP : va_P D vwCl [(ad 0, .inr (4, [.ref (ad 1), .int v.2.1, .int v.2.2.1, .int v.2.2.2.1, .int v.2.2.2.2.1, .int v.2.2.2.2.2.1, .int v.2.2.2.2.2.2.1, .int v.2.2.2.2.2.2.2.1, .int v.2.2.2.2.2.2.2.2])), (ad 1, .inl (cI, 15, .inl x0))] H := hP
  have hD : va_D A [(ad 0, .inr (4, [.ref (ad 1), .int v.2.1, .int v.2.2.1, .int v.2.2.2.1, .int v.2.2.2.2.1, .int v.2.2.2.2.2.1, .int v.2.2.2.2.2.2.1, .int v.2.2.2.2.2.2.2.1, .int v.2.2.2.2.2.2.2.2])), (ad 1, .inl (cI, 15, .inl x0))] := hD
  refine lv_aload_n hx hb dX4_begin_8 rfl (lv_at hl 0 rfl) ?_
  refine lv_iconst (v := (0 : Int32)) hx hb dX4_begin_9 (by decide) ?_
  refine va_put (D := D) (ci := 4) (v := .int (0 : Int32)) (ty := .int) (C := RX4) (T := TX4) (N := 9) hx hb hts inA_X4 tyX4 tyX4_ok nmX4 hown hK hP hD hS 0 rfl rfl 1 (by decide) (hts _ kF_X4_19) (fun _ h9 => h9) rfl (tyX4_ok 1 (by decide)) rfl rfl (Nat.le_of_ble_eq_true rfl) dX4_begin_10 (fun H locs hP hD hS => ?_)
  have hP : va_P D vwCl [(ad 0, .inr (4, [.ref (ad 1), .int (0 : Int32), .int v.2.2.1, .int v.2.2.2.1, .int v.2.2.2.2.1, .int v.2.2.2.2.2.1, .int v.2.2.2.2.2.2.1, .int v.2.2.2.2.2.2.2.1, .int v.2.2.2.2.2.2.2.2])), (ad 1, .inl (cI, 15, .inl x0))] H := hP
  have hD : va_D A [(ad 0, .inr (4, [.ref (ad 1), .int (0 : Int32), .int v.2.2.1, .int v.2.2.2.1, .int v.2.2.2.2.1, .int v.2.2.2.2.2.1, .int v.2.2.2.2.2.2.1, .int v.2.2.2.2.2.2.2.1, .int v.2.2.2.2.2.2.2.2])), (ad 1, .inl (cI, 15, .inl x0))] := hD
  refine lv_aload_n hx hb dX4_begin_13 rfl (lv_at hl 0 rfl) ?_
  refine lv_iconst (v := (1 : Int32)) hx hb dX4_begin_14 (by decide) ?_
  refine va_put (D := D) (ci := 4) (v := .int (1 : Int32)) (ty := .boolean) (C := RX4) (T := TX4) (N := 9) hx hb hts inA_X4 tyX4 tyX4_ok nmX4 hown hK hP hD hS 0 rfl rfl 2 (by decide) (hts _ kF_X4_23) (fun _ h9 => h9) rfl (tyX4_ok 2 (by decide)) rfl rfl (Nat.le_of_ble_eq_true rfl) dX4_begin_15 (fun H locs hP hD hS => ?_)
  have hP : va_P D vwCl [(ad 0, .inr (4, [.ref (ad 1), .int (0 : Int32), .int (1 : Int32), .int v.2.2.2.1, .int v.2.2.2.2.1, .int v.2.2.2.2.2.1, .int v.2.2.2.2.2.2.1, .int v.2.2.2.2.2.2.2.1, .int v.2.2.2.2.2.2.2.2])), (ad 1, .inl (cI, 15, .inl x0))] H := hP
  have hD : va_D A [(ad 0, .inr (4, [.ref (ad 1), .int (0 : Int32), .int (1 : Int32), .int v.2.2.2.1, .int v.2.2.2.2.1, .int v.2.2.2.2.2.1, .int v.2.2.2.2.2.2.1, .int v.2.2.2.2.2.2.2.1, .int v.2.2.2.2.2.2.2.2])), (ad 1, .inl (cI, 15, .inl x0))] := hD
  refine lv_aload_n hx hb dX4_begin_18 rfl (lv_at hl 0 rfl) ?_
  refine lv_iconst (v := (0 : Int32)) hx hb dX4_begin_19 (by decide) ?_
  refine va_put (D := D) (ci := 4) (v := .int (0 : Int32)) (ty := .int) (C := RX4) (T := TX4) (N := 9) hx hb hts inA_X4 tyX4 tyX4_ok nmX4 hown hK hP hD hS 0 rfl rfl 3 (by decide) (hts _ kF_X4_27) (fun _ h9 => h9) rfl (tyX4_ok 3 (by decide)) rfl rfl (Nat.le_of_ble_eq_true rfl) dX4_begin_20 (fun H locs hP hD hS => ?_)
  have hP : va_P D vwCl [(ad 0, .inr (4, [.ref (ad 1), .int (0 : Int32), .int (1 : Int32), .int (0 : Int32), .int v.2.2.2.2.1, .int v.2.2.2.2.2.1, .int v.2.2.2.2.2.2.1, .int v.2.2.2.2.2.2.2.1, .int v.2.2.2.2.2.2.2.2])), (ad 1, .inl (cI, 15, .inl x0))] H := hP
  have hD : va_D A [(ad 0, .inr (4, [.ref (ad 1), .int (0 : Int32), .int (1 : Int32), .int (0 : Int32), .int v.2.2.2.2.1, .int v.2.2.2.2.2.1, .int v.2.2.2.2.2.2.1, .int v.2.2.2.2.2.2.2.1, .int v.2.2.2.2.2.2.2.2])), (ad 1, .inl (cI, 15, .inl x0))] := hD
  refine lv_aload_n hx hb dX4_begin_23 rfl (lv_at hl 0 rfl) ?_
  refine lv_iconst (v := (0 : Int32)) hx hb dX4_begin_24 (by decide) ?_
  refine va_put (D := D) (ci := 4) (v := .int (0 : Int32)) (ty := .int) (C := RX4) (T := TX4) (N := 9) hx hb hts inA_X4 tyX4 tyX4_ok nmX4 hown hK hP hD hS 0 rfl rfl 4 (by decide) (hts _ kF_X4_30) (fun _ h9 => h9) rfl (tyX4_ok 4 (by decide)) rfl rfl (Nat.le_of_ble_eq_true rfl) dX4_begin_25 (fun H locs hP hD hS => ?_)
  have hP : va_P D vwCl [(ad 0, .inr (4, [.ref (ad 1), .int (0 : Int32), .int (1 : Int32), .int (0 : Int32), .int (0 : Int32), .int v.2.2.2.2.2.1, .int v.2.2.2.2.2.2.1, .int v.2.2.2.2.2.2.2.1, .int v.2.2.2.2.2.2.2.2])), (ad 1, .inl (cI, 15, .inl x0))] H := hP
  have hD : va_D A [(ad 0, .inr (4, [.ref (ad 1), .int (0 : Int32), .int (1 : Int32), .int (0 : Int32), .int (0 : Int32), .int v.2.2.2.2.2.1, .int v.2.2.2.2.2.2.1, .int v.2.2.2.2.2.2.2.1, .int v.2.2.2.2.2.2.2.2])), (ad 1, .inl (cI, 15, .inl x0))] := hD
  refine lv_aload_n hx hb dX4_begin_28 rfl (lv_at hl 0 rfl) ?_
  refine lv_iconst (v := (0 : Int32)) hx hb dX4_begin_29 (by decide) ?_
  refine va_put (D := D) (ci := 4) (v := .int (0 : Int32)) (ty := .int) (C := RX4) (T := TX4) (N := 9) hx hb hts inA_X4 tyX4 tyX4_ok nmX4 hown hK hP hD hS 0 rfl rfl 5 (by decide) (hts _ kF_X4_33) (fun _ h9 => h9) rfl (tyX4_ok 5 (by decide)) rfl rfl (Nat.le_of_ble_eq_true rfl) dX4_begin_30 (fun H locs hP hD hS => ?_)
  have hP : va_P D vwCl [(ad 0, .inr (4, [.ref (ad 1), .int (0 : Int32), .int (1 : Int32), .int (0 : Int32), .int (0 : Int32), .int (0 : Int32), .int v.2.2.2.2.2.2.1, .int v.2.2.2.2.2.2.2.1, .int v.2.2.2.2.2.2.2.2])), (ad 1, .inl (cI, 15, .inl x0))] H := hP
  have hD : va_D A [(ad 0, .inr (4, [.ref (ad 1), .int (0 : Int32), .int (1 : Int32), .int (0 : Int32), .int (0 : Int32), .int (0 : Int32), .int v.2.2.2.2.2.2.1, .int v.2.2.2.2.2.2.2.1, .int v.2.2.2.2.2.2.2.2])), (ad 1, .inl (cI, 15, .inl x0))] := hD
  refine lv_aload_n hx hb dX4_begin_33 rfl (lv_at hl 0 rfl) ?_
  refine lv_iconst (v := (0 : Int32)) hx hb dX4_begin_34 (by decide) ?_
  refine va_put (D := D) (ci := 4) (v := .int (0 : Int32)) (ty := .int) (C := RX4) (T := TX4) (N := 9) hx hb hts inA_X4 tyX4 tyX4_ok nmX4 hown hK hP hD hS 0 rfl rfl 6 (by decide) (hts _ kF_X4_36) (fun _ h9 => h9) rfl (tyX4_ok 6 (by decide)) rfl rfl (Nat.le_of_ble_eq_true rfl) dX4_begin_35 (fun H locs hP hD hS => ?_)
  have hP : va_P D vwCl [(ad 0, .inr (4, [.ref (ad 1), .int (0 : Int32), .int (1 : Int32), .int (0 : Int32), .int (0 : Int32), .int (0 : Int32), .int (0 : Int32), .int v.2.2.2.2.2.2.2.1, .int v.2.2.2.2.2.2.2.2])), (ad 1, .inl (cI, 15, .inl x0))] H := hP
  have hD : va_D A [(ad 0, .inr (4, [.ref (ad 1), .int (0 : Int32), .int (1 : Int32), .int (0 : Int32), .int (0 : Int32), .int (0 : Int32), .int (0 : Int32), .int v.2.2.2.2.2.2.2.1, .int v.2.2.2.2.2.2.2.2])), (ad 1, .inl (cI, 15, .inl x0))] := hD
  refine lv_aload_n hx hb dX4_begin_38 rfl (lv_at hl 0 rfl) ?_
  refine lv_iconst (v := (0 : Int32)) hx hb dX4_begin_39 (by decide) ?_
  refine va_put (D := D) (ci := 4) (v := .int (0 : Int32)) (ty := .int) (C := RX4) (T := TX4) (N := 9) hx hb hts inA_X4 tyX4 tyX4_ok nmX4 hown hK hP hD hS 0 rfl rfl 7 (by decide) (hts _ kF_X4_39) (fun _ h9 => h9) rfl (tyX4_ok 7 (by decide)) rfl rfl (Nat.le_of_ble_eq_true rfl) dX4_begin_40 (fun H locs hP hD hS => ?_)
  have hP : va_P D vwCl [(ad 0, .inr (4, [.ref (ad 1), .int (0 : Int32), .int (1 : Int32), .int (0 : Int32), .int (0 : Int32), .int (0 : Int32), .int (0 : Int32), .int (0 : Int32), .int v.2.2.2.2.2.2.2.2])), (ad 1, .inl (cI, 15, .inl x0))] H := hP
  have hD : va_D A [(ad 0, .inr (4, [.ref (ad 1), .int (0 : Int32), .int (1 : Int32), .int (0 : Int32), .int (0 : Int32), .int (0 : Int32), .int (0 : Int32), .int (0 : Int32), .int v.2.2.2.2.2.2.2.2])), (ad 1, .inl (cI, 15, .inl x0))] := hD
  refine lv_aload_n hx hb dX4_begin_43 rfl (lv_at hl 0 rfl) ?_
  refine lv_iconst (v := (0 : Int32)) hx hb dX4_begin_44 (by decide) ?_
  refine va_put (D := D) (ci := 4) (v := .int (0 : Int32)) (ty := .int) (C := RX4) (T := TX4) (N := 9) hx hb hts inA_X4 tyX4 tyX4_ok nmX4 hown hK hP hD hS 0 rfl rfl 8 (by decide) (hts _ kF_X4_42) (fun _ h9 => h9) rfl (tyX4_ok 8 (by decide)) rfl rfl (Nat.le_of_ble_eq_true rfl) dX4_begin_45 (fun H locs hP hD hS => ?_)
  have hP : va_P D vwCl [(ad 0, .inr (4, [.ref (ad 1), .int (0 : Int32), .int (1 : Int32), .int (0 : Int32), .int (0 : Int32), .int (0 : Int32), .int (0 : Int32), .int (0 : Int32), .int (0 : Int32)])), (ad 1, .inl (cI, 15, .inl x0))] H := hP
  have hD : va_D A [(ad 0, .inr (4, [.ref (ad 1), .int (0 : Int32), .int (1 : Int32), .int (0 : Int32), .int (0 : Int32), .int (0 : Int32), .int (0 : Int32), .int (0 : Int32), .int (0 : Int32)])), (ad 1, .inl (cI, 15, .inl x0))] := hD
  exact z_v hf (fun r => oX4 cI cR ad r) hx hb hr hlk hS hP hD dX4_begin_48
def f_X4_takeOver (v : tX4) (v1 : tX4) : Option tX4 :=
  (f_X6_copyRow 15 v1.1 15 v.1).bind fun x0 => (if bq v1.2.2.1 = true then some (x0, v1.2.1, v1.2.2.1, v1.2.2.2.1, v1.2.2.2.2.1, v1.2.2.2.2.2.1, v1.2.2.2.2.2.2.1, v1.2.2.2.2.2.2.2.1, v1.2.2.2.2.2.2.2.2) else none)
abbrev rm_X4_takeOver : Room := { frames := 1, cells := 0, slots := 0, locals := 22 }
set_option maxHeartbeats 4000000 in
set_option maxRecDepth 100000 in
theorem c_X4_takeOver (l : Launch) (D : va_G) (cI cR : ClassId) (ad : Nat → Nat) (v : tX4) (ad1 : Nat → Nat) (v1 : tX4) (sz : Nat) (r : tX4) (hf : f_X4_takeOver v v1 = some r) : Met l yX4_takeOver (wM yX4_takeOver cX4_takeOver 2 none) rm_X4_takeOver (cPre D (tysA cI cR) ([.ref (ad 0), .ref (ad1 0)] : List Value) (oX4 cI cR ad v ++ oX4 cI cR ad1 v1) sz) (qV D (oX4 cI cR ad r ++ oX4 cI cR ad1 v1) (va_A (oX4 cI cR ad v ++ oX4 cI cR ad1 v1) sz)) 0 0 (va_A (oX4 cI cR ad v ++ oX4 cI cR ad1 v1) sz) := by
  refine en_M (own := RX4) (lv := [(0, .ref (ad 0)), (1, .ref (ad1 0))]) (by decide +kernel) rfl (Nat.le_of_ble_eq_true rfl) rfl (fun p e s m below meth c hx hb hr hlk hml hown hnm hts hsz hP hK hD hN ls hl => ?_)
  subst hsz
  generalize hAe : va_A (oX4 cI cR ad v ++ oX4 cI cR ad1 v1) s.heap.size = A at hD ⊢
  have hA : ∀ q : Nat, s.heap.size ≤ q → A q := fun q h => by rw [← hAe]; exact Or.inr h
  have hS : va_S A s.heap s.heap [] := va_S.rf
  have hP : va_P D vwCl [(ad 0, .inr (4, [.ref (ad 1), .int v.2.1, .int v.2.2.1, .int v.2.2.2.1, .int v.2.2.2.2.1, .int v.2.2.2.2.2.1, .int v.2.2.2.2.2.2.1, .int v.2.2.2.2.2.2.2.1, .int v.2.2.2.2.2.2.2.2])), (ad 1, .inl (cI, 15, .inl v.1)), (ad1 0, .inr (4, [.ref (ad1 1), .int v1.2.1, .int v1.2.2.1, .int v1.2.2.2.1, .int v1.2.2.2.2.1, .int v1.2.2.2.2.2.1, .int v1.2.2.2.2.2.2.1, .int v1.2.2.2.2.2.2.2.1, .int v1.2.2.2.2.2.2.2.2])), (ad1 1, .inl (cI, 15, .inl v1.1))] s.heap := hP
  have hD : va_D A [(ad 0, .inr (4, [.ref (ad 1), .int v.2.1, .int v.2.2.1, .int v.2.2.2.1, .int v.2.2.2.2.1, .int v.2.2.2.2.2.1, .int v.2.2.2.2.2.2.1, .int v.2.2.2.2.2.2.2.1, .int v.2.2.2.2.2.2.2.2])), (ad 1, .inl (cI, 15, .inl v.1)), (ad1 0, .inr (4, [.ref (ad1 1), .int v1.2.1, .int v1.2.2.1, .int v1.2.2.2.1, .int v1.2.2.2.2.1, .int v1.2.2.2.2.2.1, .int v1.2.2.2.2.2.2.1, .int v1.2.2.2.2.2.2.2.1, .int v1.2.2.2.2.2.2.2.2])), (ad1 1, .inl (cI, 15, .inl v1.1))] := hD
  unfold f_X4_takeOver at hf
  refine lv_aload_n hx hb dX4_takeOver_0 rfl (lv_at hl 1 rfl) ?_
  refine va_get (D := D) (ci := 4) (v := .ref (ad1 1)) (C := RX4) (T := TX4) (N := 9) hx hb hts inA_X4 hown hK hP 2 rfl rfl 0 (by decide) (hts _ kF_X4_9) (fun _ h9 => h9) rfl dX4_takeOver_1 ?_
  refine lv_aload_n hx hb dX4_takeOver_4 rfl (lv_at hl 0 rfl) ?_
  refine va_get (D := D) (ci := 4) (v := .ref (ad 1)) (C := RX4) (T := TX4) (N := 9) hx hb hts inA_X4 hown hK hP 0 rfl rfl 0 (by decide) (hts _ kF_X4_9) (fun _ h9 => h9) rfl dX4_takeOver_5 ?_
  obtain ⟨x0, hcx0, hf⟩ := gB hf
  refine j_v (wr := [(ad 0, .inr (4, [.ref (ad 1), .int v.2.1, .int v.2.2.1, .int v.2.2.2.1, .int v.2.2.2.2.1, .int v.2.2.2.2.2.1, .int v.2.2.2.2.2.2.1, .int v.2.2.2.2.2.2.2.1, .int v.2.2.2.2.2.2.2.2])), (ad1 0, .inr (4, [.ref (ad1 1), .int v1.2.1, .int v1.2.2.1, .int v1.2.2.2.1, .int v1.2.2.2.2.1, .int v1.2.2.2.2.2.1, .int v1.2.2.2.2.2.2.1, .int v1.2.2.2.2.2.2.2.1, .int v1.2.2.2.2.2.2.2.2]))]) (w_SN (As := [.ref (ad1 1), .ref (ad 1)]) (rest := []) (n := 2) ⟨hx, hb, hml, hown, hts⟩ (c_X6_copyRow l D cI cR (ad1 1) 15 v1.1 (ad 1) 15 v.1 _ x0 hcx0) (nM_X4_45 hN) kS_X6_copyRow kZ_X6 kK_X6_copyRow ⟨rfl, rfl⟩ ⟨(Nat.le_of_ble_eq_true rfl), (Nat.le_of_ble_eq_true rfl)⟩ pd_X6_copyRow rfl hK hN hP hD [3, 1] rfl rfl rfl hl.1 (Nat.le_of_ble_eq_true rfl) dX4_takeOver_8 ⟨(Nat.le_of_ble_eq_true rfl), (Nat.le_of_ble_eq_true rfl)⟩) hP hD hS hA [3, 1] [0, 2] rfl rfl rfl (by decide) (fun H locs hP hD hS => ?_)
  have hP : va_P D vwCl [(ad 0, .inr (4, [.ref (ad 1), .int v.2.1, .int v.2.2.1, .int v.2.2.2.1, .int v.2.2.2.2.1, .int v.2.2.2.2.2.1, .int v.2.2.2.2.2.2.1, .int v.2.2.2.2.2.2.2.1, .int v.2.2.2.2.2.2.2.2])), (ad1 0, .inr (4, [.ref (ad1 1), .int v1.2.1, .int v1.2.2.1, .int v1.2.2.2.1, .int v1.2.2.2.2.1, .int v1.2.2.2.2.2.1, .int v1.2.2.2.2.2.2.1, .int v1.2.2.2.2.2.2.2.1, .int v1.2.2.2.2.2.2.2.2])), (ad1 1, .inl (cI, 15, .inl v1.1)), (ad 1, .inl (cI, 15, .inl x0))] H := hP
  have hD : va_D A [(ad 0, .inr (4, [.ref (ad 1), .int v.2.1, .int v.2.2.1, .int v.2.2.2.1, .int v.2.2.2.2.1, .int v.2.2.2.2.2.1, .int v.2.2.2.2.2.2.1, .int v.2.2.2.2.2.2.2.1, .int v.2.2.2.2.2.2.2.2])), (ad1 0, .inr (4, [.ref (ad1 1), .int v1.2.1, .int v1.2.2.1, .int v1.2.2.2.1, .int v1.2.2.2.2.1, .int v1.2.2.2.2.2.1, .int v1.2.2.2.2.2.2.1, .int v1.2.2.2.2.2.2.2.1, .int v1.2.2.2.2.2.2.2.2])), (ad1 1, .inl (cI, 15, .inl v1.1)), (ad 1, .inl (cI, 15, .inl x0))] := hD
  refine lv_aload_n hx hb dX4_takeOver_11 rfl (lv_at hl 0 rfl) ?_
  refine lv_aload_n hx hb dX4_takeOver_12 rfl (lv_at hl 1 rfl) ?_
  refine va_get (D := D) (ci := 4) (v := .int v1.2.1) (C := RX4) (T := TX4) (N := 9) hx hb hts inA_X4 hown hK hP 1 rfl rfl 1 (by decide) (hts _ kF_X4_19) (fun _ h9 => h9) rfl dX4_takeOver_13 ?_
  refine va_put (D := D) (ci := 4) (v := .int v1.2.1) (ty := .int) (C := RX4) (T := TX4) (N := 9) hx hb hts inA_X4 tyX4 tyX4_ok nmX4 hown hK hP hD hS 0 rfl rfl 1 (by decide) (hts _ kF_X4_19) (fun _ h9 => h9) rfl (tyX4_ok 1 (by decide)) rfl rfl (Nat.le_of_ble_eq_true rfl) dX4_takeOver_16 (fun H locs hP hD hS => ?_)
  have hP : va_P D vwCl [(ad 0, .inr (4, [.ref (ad 1), .int v1.2.1, .int v.2.2.1, .int v.2.2.2.1, .int v.2.2.2.2.1, .int v.2.2.2.2.2.1, .int v.2.2.2.2.2.2.1, .int v.2.2.2.2.2.2.2.1, .int v.2.2.2.2.2.2.2.2])), (ad1 0, .inr (4, [.ref (ad1 1), .int v1.2.1, .int v1.2.2.1, .int v1.2.2.2.1, .int v1.2.2.2.2.1, .int v1.2.2.2.2.2.1, .int v1.2.2.2.2.2.2.1, .int v1.2.2.2.2.2.2.2.1, .int v1.2.2.2.2.2.2.2.2])), (ad1 1, .inl (cI, 15, .inl v1.1)), (ad 1, .inl (cI, 15, .inl x0))] H := hP
  have hD : va_D A [(ad 0, .inr (4, [.ref (ad 1), .int v1.2.1, .int v.2.2.1, .int v.2.2.2.1, .int v.2.2.2.2.1, .int v.2.2.2.2.2.1, .int v.2.2.2.2.2.2.1, .int v.2.2.2.2.2.2.2.1, .int v.2.2.2.2.2.2.2.2])), (ad1 0, .inr (4, [.ref (ad1 1), .int v1.2.1, .int v1.2.2.1, .int v1.2.2.2.1, .int v1.2.2.2.2.1, .int v1.2.2.2.2.2.1, .int v1.2.2.2.2.2.2.1, .int v1.2.2.2.2.2.2.2.1, .int v1.2.2.2.2.2.2.2.2])), (ad1 1, .inl (cI, 15, .inl v1.1)), (ad 1, .inl (cI, 15, .inl x0))] := hD
  refine lv_aload_n hx hb dX4_takeOver_19 rfl (lv_at hl 0 rfl) ?_
  refine lv_aload_n hx hb dX4_takeOver_20 rfl (lv_at hl 1 rfl) ?_
  refine va_get (D := D) (ci := 4) (v := .int v1.2.2.1) (C := RX4) (T := TX4) (N := 9) hx hb hts inA_X4 hown hK hP 1 rfl rfl 2 (by decide) (hts _ kF_X4_23) (fun _ h9 => h9) rfl dX4_takeOver_21 ?_
  obtain ⟨g0, hf⟩ := gd hf
  refine va_put (D := D) (ci := 4) (v := .int v1.2.2.1) (ty := .boolean) (C := RX4) (T := TX4) (N := 9) hx hb hts inA_X4 tyX4 tyX4_ok nmX4 hown hK hP hD hS 0 rfl rfl 2 (by decide) (hts _ kF_X4_23) (fun _ h9 => h9) rfl (tyX4_ok 2 (by decide)) (bq_nar g0) (bq_fit g0) (Nat.le_of_ble_eq_true rfl) dX4_takeOver_24 (fun H locs hP hD hS => ?_)
  have hP : va_P D vwCl [(ad 0, .inr (4, [.ref (ad 1), .int v1.2.1, .int v1.2.2.1, .int v.2.2.2.1, .int v.2.2.2.2.1, .int v.2.2.2.2.2.1, .int v.2.2.2.2.2.2.1, .int v.2.2.2.2.2.2.2.1, .int v.2.2.2.2.2.2.2.2])), (ad1 0, .inr (4, [.ref (ad1 1), .int v1.2.1, .int v1.2.2.1, .int v1.2.2.2.1, .int v1.2.2.2.2.1, .int v1.2.2.2.2.2.1, .int v1.2.2.2.2.2.2.1, .int v1.2.2.2.2.2.2.2.1, .int v1.2.2.2.2.2.2.2.2])), (ad1 1, .inl (cI, 15, .inl v1.1)), (ad 1, .inl (cI, 15, .inl x0))] H := hP
  have hD : va_D A [(ad 0, .inr (4, [.ref (ad 1), .int v1.2.1, .int v1.2.2.1, .int v.2.2.2.1, .int v.2.2.2.2.1, .int v.2.2.2.2.2.1, .int v.2.2.2.2.2.2.1, .int v.2.2.2.2.2.2.2.1, .int v.2.2.2.2.2.2.2.2])), (ad1 0, .inr (4, [.ref (ad1 1), .int v1.2.1, .int v1.2.2.1, .int v1.2.2.2.1, .int v1.2.2.2.2.1, .int v1.2.2.2.2.2.1, .int v1.2.2.2.2.2.2.1, .int v1.2.2.2.2.2.2.2.1, .int v1.2.2.2.2.2.2.2.2])), (ad1 1, .inl (cI, 15, .inl v1.1)), (ad 1, .inl (cI, 15, .inl x0))] := hD
  refine lv_aload_n hx hb dX4_takeOver_27 rfl (lv_at hl 0 rfl) ?_
  refine lv_aload_n hx hb dX4_takeOver_28 rfl (lv_at hl 1 rfl) ?_
  refine va_get (D := D) (ci := 4) (v := .int v1.2.2.2.1) (C := RX4) (T := TX4) (N := 9) hx hb hts inA_X4 hown hK hP 1 rfl rfl 3 (by decide) (hts _ kF_X4_27) (fun _ h9 => h9) rfl dX4_takeOver_29 ?_
  refine va_put (D := D) (ci := 4) (v := .int v1.2.2.2.1) (ty := .int) (C := RX4) (T := TX4) (N := 9) hx hb hts inA_X4 tyX4 tyX4_ok nmX4 hown hK hP hD hS 0 rfl rfl 3 (by decide) (hts _ kF_X4_27) (fun _ h9 => h9) rfl (tyX4_ok 3 (by decide)) rfl rfl (Nat.le_of_ble_eq_true rfl) dX4_takeOver_32 (fun H locs hP hD hS => ?_)
  have hP : va_P D vwCl [(ad 0, .inr (4, [.ref (ad 1), .int v1.2.1, .int v1.2.2.1, .int v1.2.2.2.1, .int v.2.2.2.2.1, .int v.2.2.2.2.2.1, .int v.2.2.2.2.2.2.1, .int v.2.2.2.2.2.2.2.1, .int v.2.2.2.2.2.2.2.2])), (ad1 0, .inr (4, [.ref (ad1 1), .int v1.2.1, .int v1.2.2.1, .int v1.2.2.2.1, .int v1.2.2.2.2.1, .int v1.2.2.2.2.2.1, .int v1.2.2.2.2.2.2.1, .int v1.2.2.2.2.2.2.2.1, .int v1.2.2.2.2.2.2.2.2])), (ad1 1, .inl (cI, 15, .inl v1.1)), (ad 1, .inl (cI, 15, .inl x0))] H := hP
  have hD : va_D A [(ad 0, .inr (4, [.ref (ad 1), .int v1.2.1, .int v1.2.2.1, .int v1.2.2.2.1, .int v.2.2.2.2.1, .int v.2.2.2.2.2.1, .int v.2.2.2.2.2.2.1, .int v.2.2.2.2.2.2.2.1, .int v.2.2.2.2.2.2.2.2])), (ad1 0, .inr (4, [.ref (ad1 1), .int v1.2.1, .int v1.2.2.1, .int v1.2.2.2.1, .int v1.2.2.2.2.1, .int v1.2.2.2.2.2.1, .int v1.2.2.2.2.2.2.1, .int v1.2.2.2.2.2.2.2.1, .int v1.2.2.2.2.2.2.2.2])), (ad1 1, .inl (cI, 15, .inl v1.1)), (ad 1, .inl (cI, 15, .inl x0))] := hD
  refine lv_aload_n hx hb dX4_takeOver_35 rfl (lv_at hl 0 rfl) ?_
  refine lv_aload_n hx hb dX4_takeOver_36 rfl (lv_at hl 1 rfl) ?_
  refine va_get (D := D) (ci := 4) (v := .int v1.2.2.2.2.1) (C := RX4) (T := TX4) (N := 9) hx hb hts inA_X4 hown hK hP 1 rfl rfl 4 (by decide) (hts _ kF_X4_30) (fun _ h9 => h9) rfl dX4_takeOver_37 ?_
  refine va_put (D := D) (ci := 4) (v := .int v1.2.2.2.2.1) (ty := .int) (C := RX4) (T := TX4) (N := 9) hx hb hts inA_X4 tyX4 tyX4_ok nmX4 hown hK hP hD hS 0 rfl rfl 4 (by decide) (hts _ kF_X4_30) (fun _ h9 => h9) rfl (tyX4_ok 4 (by decide)) rfl rfl (Nat.le_of_ble_eq_true rfl) dX4_takeOver_40 (fun H locs hP hD hS => ?_)
  have hP : va_P D vwCl [(ad 0, .inr (4, [.ref (ad 1), .int v1.2.1, .int v1.2.2.1, .int v1.2.2.2.1, .int v1.2.2.2.2.1, .int v.2.2.2.2.2.1, .int v.2.2.2.2.2.2.1, .int v.2.2.2.2.2.2.2.1, .int v.2.2.2.2.2.2.2.2])), (ad1 0, .inr (4, [.ref (ad1 1), .int v1.2.1, .int v1.2.2.1, .int v1.2.2.2.1, .int v1.2.2.2.2.1, .int v1.2.2.2.2.2.1, .int v1.2.2.2.2.2.2.1, .int v1.2.2.2.2.2.2.2.1, .int v1.2.2.2.2.2.2.2.2])), (ad1 1, .inl (cI, 15, .inl v1.1)), (ad 1, .inl (cI, 15, .inl x0))] H := hP
  have hD : va_D A [(ad 0, .inr (4, [.ref (ad 1), .int v1.2.1, .int v1.2.2.1, .int v1.2.2.2.1, .int v1.2.2.2.2.1, .int v.2.2.2.2.2.1, .int v.2.2.2.2.2.2.1, .int v.2.2.2.2.2.2.2.1, .int v.2.2.2.2.2.2.2.2])), (ad1 0, .inr (4, [.ref (ad1 1), .int v1.2.1, .int v1.2.2.1, .int v1.2.2.2.1, .int v1.2.2.2.2.1, .int v1.2.2.2.2.2.1, .int v1.2.2.2.2.2.2.1, .int v1.2.2.2.2.2.2.2.1, .int v1.2.2.2.2.2.2.2.2])), (ad1 1, .inl (cI, 15, .inl v1.1)), (ad 1, .inl (cI, 15, .inl x0))] := hD
  refine lv_aload_n hx hb dX4_takeOver_43 rfl (lv_at hl 0 rfl) ?_
  refine lv_aload_n hx hb dX4_takeOver_44 rfl (lv_at hl 1 rfl) ?_
  refine va_get (D := D) (ci := 4) (v := .int v1.2.2.2.2.2.1) (C := RX4) (T := TX4) (N := 9) hx hb hts inA_X4 hown hK hP 1 rfl rfl 5 (by decide) (hts _ kF_X4_33) (fun _ h9 => h9) rfl dX4_takeOver_45 ?_
  refine va_put (D := D) (ci := 4) (v := .int v1.2.2.2.2.2.1) (ty := .int) (C := RX4) (T := TX4) (N := 9) hx hb hts inA_X4 tyX4 tyX4_ok nmX4 hown hK hP hD hS 0 rfl rfl 5 (by decide) (hts _ kF_X4_33) (fun _ h9 => h9) rfl (tyX4_ok 5 (by decide)) rfl rfl (Nat.le_of_ble_eq_true rfl) dX4_takeOver_48 (fun H locs hP hD hS => ?_)
  have hP : va_P D vwCl [(ad 0, .inr (4, [.ref (ad 1), .int v1.2.1, .int v1.2.2.1, .int v1.2.2.2.1, .int v1.2.2.2.2.1, .int v1.2.2.2.2.2.1, .int v.2.2.2.2.2.2.1, .int v.2.2.2.2.2.2.2.1, .int v.2.2.2.2.2.2.2.2])), (ad1 0, .inr (4, [.ref (ad1 1), .int v1.2.1, .int v1.2.2.1, .int v1.2.2.2.1, .int v1.2.2.2.2.1, .int v1.2.2.2.2.2.1, .int v1.2.2.2.2.2.2.1, .int v1.2.2.2.2.2.2.2.1, .int v1.2.2.2.2.2.2.2.2])), (ad1 1, .inl (cI, 15, .inl v1.1)), (ad 1, .inl (cI, 15, .inl x0))] H := hP
  have hD : va_D A [(ad 0, .inr (4, [.ref (ad 1), .int v1.2.1, .int v1.2.2.1, .int v1.2.2.2.1, .int v1.2.2.2.2.1, .int v1.2.2.2.2.2.1, .int v.2.2.2.2.2.2.1, .int v.2.2.2.2.2.2.2.1, .int v.2.2.2.2.2.2.2.2])), (ad1 0, .inr (4, [.ref (ad1 1), .int v1.2.1, .int v1.2.2.1, .int v1.2.2.2.1, .int v1.2.2.2.2.1, .int v1.2.2.2.2.2.1, .int v1.2.2.2.2.2.2.1, .int v1.2.2.2.2.2.2.2.1, .int v1.2.2.2.2.2.2.2.2])), (ad1 1, .inl (cI, 15, .inl v1.1)), (ad 1, .inl (cI, 15, .inl x0))] := hD
  refine lv_aload_n hx hb dX4_takeOver_51 rfl (lv_at hl 0 rfl) ?_
  refine lv_aload_n hx hb dX4_takeOver_52 rfl (lv_at hl 1 rfl) ?_
  refine va_get (D := D) (ci := 4) (v := .int v1.2.2.2.2.2.2.1) (C := RX4) (T := TX4) (N := 9) hx hb hts inA_X4 hown hK hP 1 rfl rfl 6 (by decide) (hts _ kF_X4_36) (fun _ h9 => h9) rfl dX4_takeOver_53 ?_
  refine va_put (D := D) (ci := 4) (v := .int v1.2.2.2.2.2.2.1) (ty := .int) (C := RX4) (T := TX4) (N := 9) hx hb hts inA_X4 tyX4 tyX4_ok nmX4 hown hK hP hD hS 0 rfl rfl 6 (by decide) (hts _ kF_X4_36) (fun _ h9 => h9) rfl (tyX4_ok 6 (by decide)) rfl rfl (Nat.le_of_ble_eq_true rfl) dX4_takeOver_56 (fun H locs hP hD hS => ?_)
  have hP : va_P D vwCl [(ad 0, .inr (4, [.ref (ad 1), .int v1.2.1, .int v1.2.2.1, .int v1.2.2.2.1, .int v1.2.2.2.2.1, .int v1.2.2.2.2.2.1, .int v1.2.2.2.2.2.2.1, .int v.2.2.2.2.2.2.2.1, .int v.2.2.2.2.2.2.2.2])), (ad1 0, .inr (4, [.ref (ad1 1), .int v1.2.1, .int v1.2.2.1, .int v1.2.2.2.1, .int v1.2.2.2.2.1, .int v1.2.2.2.2.2.1, .int v1.2.2.2.2.2.2.1, .int v1.2.2.2.2.2.2.2.1, .int v1.2.2.2.2.2.2.2.2])), (ad1 1, .inl (cI, 15, .inl v1.1)), (ad 1, .inl (cI, 15, .inl x0))] H := hP
  have hD : va_D A [(ad 0, .inr (4, [.ref (ad 1), .int v1.2.1, .int v1.2.2.1, .int v1.2.2.2.1, .int v1.2.2.2.2.1, .int v1.2.2.2.2.2.1, .int v1.2.2.2.2.2.2.1, .int v.2.2.2.2.2.2.2.1, .int v.2.2.2.2.2.2.2.2])), (ad1 0, .inr (4, [.ref (ad1 1), .int v1.2.1, .int v1.2.2.1, .int v1.2.2.2.1, .int v1.2.2.2.2.1, .int v1.2.2.2.2.2.1, .int v1.2.2.2.2.2.2.1, .int v1.2.2.2.2.2.2.2.1, .int v1.2.2.2.2.2.2.2.2])), (ad1 1, .inl (cI, 15, .inl v1.1)), (ad 1, .inl (cI, 15, .inl x0))] := hD
  refine lv_aload_n hx hb dX4_takeOver_59 rfl (lv_at hl 0 rfl) ?_
  refine lv_aload_n hx hb dX4_takeOver_60 rfl (lv_at hl 1 rfl) ?_
  refine va_get (D := D) (ci := 4) (v := .int v1.2.2.2.2.2.2.2.1) (C := RX4) (T := TX4) (N := 9) hx hb hts inA_X4 hown hK hP 1 rfl rfl 7 (by decide) (hts _ kF_X4_39) (fun _ h9 => h9) rfl dX4_takeOver_61 ?_
  refine va_put (D := D) (ci := 4) (v := .int v1.2.2.2.2.2.2.2.1) (ty := .int) (C := RX4) (T := TX4) (N := 9) hx hb hts inA_X4 tyX4 tyX4_ok nmX4 hown hK hP hD hS 0 rfl rfl 7 (by decide) (hts _ kF_X4_39) (fun _ h9 => h9) rfl (tyX4_ok 7 (by decide)) rfl rfl (Nat.le_of_ble_eq_true rfl) dX4_takeOver_64 (fun H locs hP hD hS => ?_)
  have hP : va_P D vwCl [(ad 0, .inr (4, [.ref (ad 1), .int v1.2.1, .int v1.2.2.1, .int v1.2.2.2.1, .int v1.2.2.2.2.1, .int v1.2.2.2.2.2.1, .int v1.2.2.2.2.2.2.1, .int v1.2.2.2.2.2.2.2.1, .int v.2.2.2.2.2.2.2.2])), (ad1 0, .inr (4, [.ref (ad1 1), .int v1.2.1, .int v1.2.2.1, .int v1.2.2.2.1, .int v1.2.2.2.2.1, .int v1.2.2.2.2.2.1, .int v1.2.2.2.2.2.2.1, .int v1.2.2.2.2.2.2.2.1, .int v1.2.2.2.2.2.2.2.2])), (ad1 1, .inl (cI, 15, .inl v1.1)), (ad 1, .inl (cI, 15, .inl x0))] H := hP
  have hD : va_D A [(ad 0, .inr (4, [.ref (ad 1), .int v1.2.1, .int v1.2.2.1, .int v1.2.2.2.1, .int v1.2.2.2.2.1, .int v1.2.2.2.2.2.1, .int v1.2.2.2.2.2.2.1, .int v1.2.2.2.2.2.2.2.1, .int v.2.2.2.2.2.2.2.2])), (ad1 0, .inr (4, [.ref (ad1 1), .int v1.2.1, .int v1.2.2.1, .int v1.2.2.2.1, .int v1.2.2.2.2.1, .int v1.2.2.2.2.2.1, .int v1.2.2.2.2.2.2.1, .int v1.2.2.2.2.2.2.2.1, .int v1.2.2.2.2.2.2.2.2])), (ad1 1, .inl (cI, 15, .inl v1.1)), (ad 1, .inl (cI, 15, .inl x0))] := hD
  refine lv_aload_n hx hb dX4_takeOver_67 rfl (lv_at hl 0 rfl) ?_
  refine lv_aload_n hx hb dX4_takeOver_68 rfl (lv_at hl 1 rfl) ?_
  refine va_get (D := D) (ci := 4) (v := .int v1.2.2.2.2.2.2.2.2) (C := RX4) (T := TX4) (N := 9) hx hb hts inA_X4 hown hK hP 1 rfl rfl 8 (by decide) (hts _ kF_X4_42) (fun _ h9 => h9) rfl dX4_takeOver_69 ?_
  refine va_put (D := D) (ci := 4) (v := .int v1.2.2.2.2.2.2.2.2) (ty := .int) (C := RX4) (T := TX4) (N := 9) hx hb hts inA_X4 tyX4 tyX4_ok nmX4 hown hK hP hD hS 0 rfl rfl 8 (by decide) (hts _ kF_X4_42) (fun _ h9 => h9) rfl (tyX4_ok 8 (by decide)) rfl rfl (Nat.le_of_ble_eq_true rfl) dX4_takeOver_72 (fun H locs hP hD hS => ?_)
  have hP : va_P D vwCl [(ad 0, .inr (4, [.ref (ad 1), .int v1.2.1, .int v1.2.2.1, .int v1.2.2.2.1, .int v1.2.2.2.2.1, .int v1.2.2.2.2.2.1, .int v1.2.2.2.2.2.2.1, .int v1.2.2.2.2.2.2.2.1, .int v1.2.2.2.2.2.2.2.2])), (ad1 0, .inr (4, [.ref (ad1 1), .int v1.2.1, .int v1.2.2.1, .int v1.2.2.2.1, .int v1.2.2.2.2.1, .int v1.2.2.2.2.2.1, .int v1.2.2.2.2.2.2.1, .int v1.2.2.2.2.2.2.2.1, .int v1.2.2.2.2.2.2.2.2])), (ad1 1, .inl (cI, 15, .inl v1.1)), (ad 1, .inl (cI, 15, .inl x0))] H := hP
  have hD : va_D A [(ad 0, .inr (4, [.ref (ad 1), .int v1.2.1, .int v1.2.2.1, .int v1.2.2.2.1, .int v1.2.2.2.2.1, .int v1.2.2.2.2.2.1, .int v1.2.2.2.2.2.2.1, .int v1.2.2.2.2.2.2.2.1, .int v1.2.2.2.2.2.2.2.2])), (ad1 0, .inr (4, [.ref (ad1 1), .int v1.2.1, .int v1.2.2.1, .int v1.2.2.2.1, .int v1.2.2.2.2.1, .int v1.2.2.2.2.2.1, .int v1.2.2.2.2.2.2.1, .int v1.2.2.2.2.2.2.2.1, .int v1.2.2.2.2.2.2.2.2])), (ad1 1, .inl (cI, 15, .inl v1.1)), (ad 1, .inl (cI, 15, .inl x0))] := hD
  exact z_v hf (fun r => oX4 cI cR ad r ++ oX4 cI cR ad1 v1) hx hb hr hlk hS (hP.subm [0, 3, 1, 2] rfl) (hD.sub [0, 3, 1, 2] rfl rfl) dX4_takeOver_75
def f_X4_property (v : tX4) (p1 : Int32) : Option Int32 :=
  (if p1 = (0 : Int32) then some v.2.1 else (if p1 = (1 : Int32) then (if v.2.2.1 = 0 then some (0 : Int32) else some (1 : Int32)) else (if p1 = (2 : Int32) then some v.2.2.2.1 else (if p1 = (3 : Int32) then some v.2.2.2.2.1 else (if p1 = (4 : Int32) then some v.2.2.2.2.2.1 else (if p1 = (5 : Int32) then some v.2.2.2.2.2.2.1 else (if p1 = (6 : Int32) then some v.2.2.2.2.2.2.2.1 else (if p1 = (7 : Int32) then some v.2.2.2.2.2.2.2.2 else some (-1 : Int32)))))))))
abbrev rm_X4_property : Room := { frames := 0, cells := 0, slots := 0, locals := 0 }
set_option maxHeartbeats 4000000 in
set_option maxRecDepth 100000 in
theorem c_X4_property (l : Launch) (D : va_G) (cI cR : ClassId) (ad : Nat → Nat) (v : tX4) (p1 : Int32) (sz : Nat) (r : Int32) (hf : f_X4_property v p1 = some r) : Met l yX4_property (wM yX4_property cX4_property 2 (some (.int))) rm_X4_property (cPre D (tysA cI cR) ([.ref (ad 0), .int p1] : List Value) (oX4 cI cR ad v) sz) (QcRead r) 0 0 (fun _ => False) := by
  refine en_M (own := RX4) (lv := [(0, .ref (ad 0)), (1, .int p1)]) (by decide +kernel) rfl (Nat.le_of_ble_eq_true rfl) rfl (fun p e s m below meth c hx hb hr hlk hml hown hnm hts hsz hP hK hD hN ls hl => ?_)
  generalize va_A (oX4 cI cR ad v) sz = A at hD
  have hP : va_P D vwCl [(ad 0, .inr (4, [.ref (ad 1), .int v.2.1, .int v.2.2.1, .int v.2.2.2.1, .int v.2.2.2.2.1, .int v.2.2.2.2.2.1, .int v.2.2.2.2.2.2.1, .int v.2.2.2.2.2.2.2.1, .int v.2.2.2.2.2.2.2.2])), (ad 1, .inl (cI, 15, .inl v.1))] s.heap := hP
  have hD : va_D A [(ad 0, .inr (4, [.ref (ad 1), .int v.2.1, .int v.2.2.1, .int v.2.2.2.1, .int v.2.2.2.2.1, .int v.2.2.2.2.2.1, .int v.2.2.2.2.2.2.1, .int v.2.2.2.2.2.2.2.1, .int v.2.2.2.2.2.2.2.2])), (ad 1, .inl (cI, 15, .inl v.1))] := hD
  unfold f_X4_property at hf
  refine lv_iload_n hx hb dX4_property_0 rfl (lv_at hl 1 rfl) ?_
  by_cases c0_0 : p1 = (0 : Int32)
  · replace hf := gT hf c0_0
    refine lv_tableIn (tgt := 48) hx hb dX4_property_1 (by rw [c0_0] <;> decide) (by rw [c0_0] <;> decide) (by rw [c0_0] <;> rfl) (by decide) ?_
    refine lv_aload_n hx hb dX4_property_48 rfl (lv_at hl 0 rfl) ?_
    refine va_get (D := D) (ci := 4) (v := .int v.2.1) (C := RX4) (T := TX4) (N := 9) hx hb hts inA_X4 hown hK hP 0 rfl rfl 1 (by decide) (hts _ kF_X4_19) (fun _ h9 => h9) rfl dX4_property_49 ?_
    exact z_r hf hx hb hr hlk dX4_property_52
  replace hf := gF hf c0_0
  by_cases c0_1 : p1 = (1 : Int32)
  · replace hf := gT hf c0_1
    refine lv_tableIn (tgt := 53) hx hb dX4_property_1 (by rw [c0_1] <;> decide) (by rw [c0_1] <;> decide) (by rw [c0_1] <;> rfl) (by decide) ?_
    refine lv_aload_n hx hb dX4_property_53 rfl (lv_at hl 0 rfl) ?_
    refine va_get (D := D) (ci := 4) (v := .int v.2.2.1) (C := RX4) (T := TX4) (N := 9) hx hb hts inA_X4 hown hK hP 0 rfl rfl 2 (by decide) (hts _ kF_X4_23) (fun _ h9 => h9) rfl dX4_property_54 ?_
    refine lv_if_eq (tgt := 64) hx hb dX4_property_57 (by decide) (fun c1 => ?_) (fun c1 => ?_)
    · replace hf := gT hf c1
      refine lv_iconst (v := (0 : Int32)) hx hb dX4_property_64 (by decide) ?_
      exact z_r hf hx hb hr hlk dX4_property_65
    · replace hf := gF hf c1
      refine lv_iconst (v := (1 : Int32)) hx hb dX4_property_60 (by decide) ?_
      refine lv_goto (tgt := 65) hx hb dX4_property_61 (by decide) ?_
      exact z_r hf hx hb hr hlk dX4_property_65
  replace hf := gF hf c0_1
  by_cases c0_2 : p1 = (2 : Int32)
  · replace hf := gT hf c0_2
    refine lv_tableIn (tgt := 66) hx hb dX4_property_1 (by rw [c0_2] <;> decide) (by rw [c0_2] <;> decide) (by rw [c0_2] <;> rfl) (by decide) ?_
    refine lv_aload_n hx hb dX4_property_66 rfl (lv_at hl 0 rfl) ?_
    refine va_get (D := D) (ci := 4) (v := .int v.2.2.2.1) (C := RX4) (T := TX4) (N := 9) hx hb hts inA_X4 hown hK hP 0 rfl rfl 3 (by decide) (hts _ kF_X4_27) (fun _ h9 => h9) rfl dX4_property_67 ?_
    exact z_r hf hx hb hr hlk dX4_property_70
  replace hf := gF hf c0_2
  by_cases c0_3 : p1 = (3 : Int32)
  · replace hf := gT hf c0_3
    refine lv_tableIn (tgt := 71) hx hb dX4_property_1 (by rw [c0_3] <;> decide) (by rw [c0_3] <;> decide) (by rw [c0_3] <;> rfl) (by decide) ?_
    refine lv_aload_n hx hb dX4_property_71 rfl (lv_at hl 0 rfl) ?_
    refine va_get (D := D) (ci := 4) (v := .int v.2.2.2.2.1) (C := RX4) (T := TX4) (N := 9) hx hb hts inA_X4 hown hK hP 0 rfl rfl 4 (by decide) (hts _ kF_X4_30) (fun _ h9 => h9) rfl dX4_property_72 ?_
    exact z_r hf hx hb hr hlk dX4_property_75
  replace hf := gF hf c0_3
  by_cases c0_4 : p1 = (4 : Int32)
  · replace hf := gT hf c0_4
    refine lv_tableIn (tgt := 76) hx hb dX4_property_1 (by rw [c0_4] <;> decide) (by rw [c0_4] <;> decide) (by rw [c0_4] <;> rfl) (by decide) ?_
    refine lv_aload_n hx hb dX4_property_76 rfl (lv_at hl 0 rfl) ?_
    refine va_get (D := D) (ci := 4) (v := .int v.2.2.2.2.2.1) (C := RX4) (T := TX4) (N := 9) hx hb hts inA_X4 hown hK hP 0 rfl rfl 5 (by decide) (hts _ kF_X4_33) (fun _ h9 => h9) rfl dX4_property_77 ?_
    exact z_r hf hx hb hr hlk dX4_property_80
  replace hf := gF hf c0_4
  by_cases c0_5 : p1 = (5 : Int32)
  · replace hf := gT hf c0_5
    refine lv_tableIn (tgt := 81) hx hb dX4_property_1 (by rw [c0_5] <;> decide) (by rw [c0_5] <;> decide) (by rw [c0_5] <;> rfl) (by decide) ?_
    refine lv_aload_n hx hb dX4_property_81 rfl (lv_at hl 0 rfl) ?_
    refine va_get (D := D) (ci := 4) (v := .int v.2.2.2.2.2.2.1) (C := RX4) (T := TX4) (N := 9) hx hb hts inA_X4 hown hK hP 0 rfl rfl 6 (by decide) (hts _ kF_X4_36) (fun _ h9 => h9) rfl dX4_property_82 ?_
    exact z_r hf hx hb hr hlk dX4_property_85
  replace hf := gF hf c0_5
  by_cases c0_6 : p1 = (6 : Int32)
  · replace hf := gT hf c0_6
    refine lv_tableIn (tgt := 86) hx hb dX4_property_1 (by rw [c0_6] <;> decide) (by rw [c0_6] <;> decide) (by rw [c0_6] <;> rfl) (by decide) ?_
    refine lv_aload_n hx hb dX4_property_86 rfl (lv_at hl 0 rfl) ?_
    refine va_get (D := D) (ci := 4) (v := .int v.2.2.2.2.2.2.2.1) (C := RX4) (T := TX4) (N := 9) hx hb hts inA_X4 hown hK hP 0 rfl rfl 7 (by decide) (hts _ kF_X4_39) (fun _ h9 => h9) rfl dX4_property_87 ?_
    exact z_r hf hx hb hr hlk dX4_property_90
  replace hf := gF hf c0_6
  by_cases c0_7 : p1 = (7 : Int32)
  · replace hf := gT hf c0_7
    refine lv_tableIn (tgt := 91) hx hb dX4_property_1 (by rw [c0_7] <;> decide) (by rw [c0_7] <;> decide) (by rw [c0_7] <;> rfl) (by decide) ?_
    refine lv_aload_n hx hb dX4_property_91 rfl (lv_at hl 0 rfl) ?_
    refine va_get (D := D) (ci := 4) (v := .int v.2.2.2.2.2.2.2.2) (C := RX4) (T := TX4) (N := 9) hx hb hts inA_X4 hown hK hP 0 rfl rfl 8 (by decide) (hts _ kF_X4_42) (fun _ h9 => h9) rfl dX4_property_92 ?_
    exact z_r hf hx hb hr hlk dX4_property_95
  replace hf := gF hf c0_7
  refine lv_tableOut (tgt := 96) hx hb dX4_property_1 (by have q0 : ¬ Int32.toInt p1 = 0 := ti_ne c0_0; have q1 : ¬ Int32.toInt p1 = 1 := ti_ne c0_1; have q2 : ¬ Int32.toInt p1 = 2 := ti_ne c0_2; have q3 : ¬ Int32.toInt p1 = 3 := ti_ne c0_3; have q4 : ¬ Int32.toInt p1 = 4 := ti_ne c0_4; have q5 : ¬ Int32.toInt p1 = 5 := ti_ne c0_5; have q6 : ¬ Int32.toInt p1 = 6 := ti_ne c0_6; have q7 : ¬ Int32.toInt p1 = 7 := ti_ne c0_7; omega) (by decide) ?_
  refine lv_iconst (v := (-1 : Int32)) hx hb dX4_property_96 (by decide) ?_
  exact z_r hf hx hb hr hlk dX4_property_97
def f_X4_standOn (v : tX4) (p1 : Int32) : Option tX4 :=
  (f_X6_at 15 v.1 p1).bind fun x0 => (f_X6_put 15 v.1 p1 (x0 + (1 : Int32))).bind fun x1 => some (x1, p1, v.2.2.1, v.2.2.2.1, v.2.2.2.2.1, v.2.2.2.2.2.1, v.2.2.2.2.2.2.1, v.2.2.2.2.2.2.2.1, v.2.2.2.2.2.2.2.2)
abbrev rm_X4_standOn : Room := { frames := 1, cells := 0, slots := 0, locals := 22 }
set_option maxHeartbeats 4000000 in
set_option maxRecDepth 100000 in
theorem c_X4_standOn (l : Launch) (D : va_G) (cI cR : ClassId) (ad : Nat → Nat) (v : tX4) (p1 : Int32) (sz : Nat) (r : tX4) (hf : f_X4_standOn v p1 = some r) : Met l yX4_standOn (wM yX4_standOn cX4_standOn 2 none) rm_X4_standOn (cPre D (tysA cI cR) ([.ref (ad 0), .int p1] : List Value) (oX4 cI cR ad v) sz) (qV D (oX4 cI cR ad r) (va_A (oX4 cI cR ad v) sz)) 0 0 (va_A (oX4 cI cR ad v) sz) := by
  refine en_M (own := RX4) (lv := [(0, .ref (ad 0)), (1, .int p1)]) (by decide +kernel) rfl (Nat.le_of_ble_eq_true rfl) rfl (fun p e s m below meth c hx hb hr hlk hml hown hnm hts hsz hP hK hD hN ls hl => ?_)
  subst hsz
  generalize hAe : va_A (oX4 cI cR ad v) s.heap.size = A at hD ⊢
  have hA : ∀ q : Nat, s.heap.size ≤ q → A q := fun q h => by rw [← hAe]; exact Or.inr h
  have hS : va_S A s.heap s.heap [] := va_S.rf
  have hP : va_P D vwCl [(ad 0, .inr (4, [.ref (ad 1), .int v.2.1, .int v.2.2.1, .int v.2.2.2.1, .int v.2.2.2.2.1, .int v.2.2.2.2.2.1, .int v.2.2.2.2.2.2.1, .int v.2.2.2.2.2.2.2.1, .int v.2.2.2.2.2.2.2.2])), (ad 1, .inl (cI, 15, .inl v.1))] s.heap := hP
  have hD : va_D A [(ad 0, .inr (4, [.ref (ad 1), .int v.2.1, .int v.2.2.1, .int v.2.2.2.1, .int v.2.2.2.2.1, .int v.2.2.2.2.2.1, .int v.2.2.2.2.2.2.1, .int v.2.2.2.2.2.2.2.1, .int v.2.2.2.2.2.2.2.2])), (ad 1, .inl (cI, 15, .inl v.1))] := hD
  unfold f_X4_standOn at hf
  refine lv_aload_n hx hb dX4_standOn_0 rfl (lv_at hl 0 rfl) ?_
  refine lv_iload_n hx hb dX4_standOn_1 rfl (lv_at hl 1 rfl) ?_
  refine va_put (D := D) (ci := 4) (v := .int p1) (ty := .int) (C := RX4) (T := TX4) (N := 9) hx hb hts inA_X4 tyX4 tyX4_ok nmX4 hown hK hP hD hS 0 rfl rfl 1 (by decide) (hts _ kF_X4_19) (fun _ h9 => h9) rfl (tyX4_ok 1 (by decide)) rfl rfl (Nat.le_of_ble_eq_true rfl) dX4_standOn_2 (fun H locs hP hD hS => ?_)
  have hP : va_P D vwCl [(ad 0, .inr (4, [.ref (ad 1), .int p1, .int v.2.2.1, .int v.2.2.2.1, .int v.2.2.2.2.1, .int v.2.2.2.2.2.1, .int v.2.2.2.2.2.2.1, .int v.2.2.2.2.2.2.2.1, .int v.2.2.2.2.2.2.2.2])), (ad 1, .inl (cI, 15, .inl v.1))] H := hP
  have hD : va_D A [(ad 0, .inr (4, [.ref (ad 1), .int p1, .int v.2.2.1, .int v.2.2.2.1, .int v.2.2.2.2.1, .int v.2.2.2.2.2.1, .int v.2.2.2.2.2.2.1, .int v.2.2.2.2.2.2.2.1, .int v.2.2.2.2.2.2.2.2])), (ad 1, .inl (cI, 15, .inl v.1))] := hD
  refine lv_aload_n hx hb dX4_standOn_5 rfl (lv_at hl 0 rfl) ?_
  refine va_get (D := D) (ci := 4) (v := .ref (ad 1)) (C := RX4) (T := TX4) (N := 9) hx hb hts inA_X4 hown hK hP 0 rfl rfl 0 (by decide) (hts _ kF_X4_9) (fun _ h9 => h9) rfl dX4_standOn_6 ?_
  refine lv_iload_n hx hb dX4_standOn_9 rfl (lv_at hl 1 rfl) ?_
  refine lv_aload_n hx hb dX4_standOn_10 rfl (lv_at hl 0 rfl) ?_
  refine va_get (D := D) (ci := 4) (v := .ref (ad 1)) (C := RX4) (T := TX4) (N := 9) hx hb hts inA_X4 hown hK hP 0 rfl rfl 0 (by decide) (hts _ kF_X4_9) (fun _ h9 => h9) rfl dX4_standOn_11 ?_
  refine lv_iload_n hx hb dX4_standOn_14 rfl (lv_at hl 1 rfl) ?_
  obtain ⟨x0, hcx0, hf⟩ := gB hf
  refine k_r (run_weak (w_SN (As := [.ref (ad 1), .int p1]) (rest := [.int p1, .ref (ad 1)]) (n := 2) ⟨hx, hb, hml, hown, hts⟩ (c_X6_at l D cI cR (ad 1) 15 v.1 p1 _ x0 hcx0) (nM_X4_49 hN) kS_X6_at kZ_X6 kK_X6_at ⟨rfl, rfl⟩ ⟨(Nat.le_of_ble_eq_true rfl), (Nat.le_of_ble_eq_true rfl)⟩ pd_X6_at rfl hK hN hP hD [1] rfl rfl rfl hl.1 (Nat.le_of_ble_eq_true rfl) dX4_standOn_15 ⟨(Nat.le_of_ble_eq_true rfl), (Nat.le_of_ble_eq_true rfl)⟩)) ?_
  refine lv_iconst (v := (1 : Int32)) hx hb dX4_standOn_18 (by decide) ?_
  refine lv_iadd hx hb dX4_standOn_19 ?_
  obtain ⟨x1, hcx1, hf⟩ := gB hf
  refine j_v (wr := [(ad 0, .inr (4, [.ref (ad 1), .int p1, .int v.2.2.1, .int v.2.2.2.1, .int v.2.2.2.2.1, .int v.2.2.2.2.2.1, .int v.2.2.2.2.2.2.1, .int v.2.2.2.2.2.2.2.1, .int v.2.2.2.2.2.2.2.2]))]) (w_SN (As := [.ref (ad 1), .int p1, .int (x0 + (1 : Int32))]) (rest := []) (n := 3) ⟨hx, hb, hml, hown, hts⟩ (c_X6_put l D cI cR (ad 1) 15 v.1 p1 (x0 + (1 : Int32)) _ x1 hcx1) (nM_X4_53 hN) kS_X6_put kZ_X6 kK_X6_put ⟨rfl, rfl⟩ ⟨(Nat.le_of_ble_eq_true rfl), (Nat.le_of_ble_eq_true rfl)⟩ pd_X6_put rfl hK hN hP hD [1] rfl rfl rfl hl.1 (Nat.le_of_ble_eq_true rfl) dX4_standOn_20 ⟨(Nat.le_of_ble_eq_true rfl), (Nat.le_of_ble_eq_true rfl)⟩) hP hD hS hA [1] [0] rfl rfl rfl (by decide) (fun H locs hP hD hS => ?_)
  have hP : va_P D vwCl [(ad 0, .inr (4, [.ref (ad 1), .int p1, .int v.2.2.1, .int v.2.2.2.1, .int v.2.2.2.2.1, .int v.2.2.2.2.2.1, .int v.2.2.2.2.2.2.1, .int v.2.2.2.2.2.2.2.1, .int v.2.2.2.2.2.2.2.2])), (ad 1, .inl (cI, 15, .inl x1))] H := hP
  have hD : va_D A [(ad 0, .inr (4, [.ref (ad 1), .int p1, .int v.2.2.1, .int v.2.2.2.1, .int v.2.2.2.2.1, .int v.2.2.2.2.2.1, .int v.2.2.2.2.2.2.1, .int v.2.2.2.2.2.2.2.1, .int v.2.2.2.2.2.2.2.2])), (ad 1, .inl (cI, 15, .inl x1))] := hD
  exact z_v hf (fun r => oX4 cI cR ad r) hx hb hr hlk hS hP hD dX4_standOn_23
def f_X4_driveOn_J115 (v1 : tX3) (v : tX4) : Option tX4 :=
  (f_X3_kindOf v1 v.2.1).bind fun x0 => (if x0 = (3 : Int32) then some (v.1, v.2.1, (1 : Int32), v.2.2.2.1, v.2.2.2.2.1, v.2.2.2.2.2.1, v.2.2.2.2.2.2.1, v.2.2.2.2.2.2.2.1, v.2.2.2.2.2.2.2.2) else some v)
def f_X4_driveOn_J93 (v1 : tX3) (v : tX4) : Option tX4 :=
  (f_X3_kindOf v1 v.2.1).bind fun x1 => (if x1 = (1 : Int32) then f_X4_driveOn_J115 v1 (v.1, v.2.1, v.2.2.1, (v.2.2.2.1 + (1 : Int32)), v.2.2.2.2.1, v.2.2.2.2.2.1, v.2.2.2.2.2.2.1, v.2.2.2.2.2.2.2.1, v.2.2.2.2.2.2.2.2) else f_X4_driveOn_J115 v1 v)
def f_X4_driveOn_J69 (v1 : tX3) (l2 : Int32) (l4 : Int32) (v : tX4) : Option tX4 :=
  (if l2 ≤ l4 then f_X4_driveOn_J93 v1 v else (if v.2.1 ≤ l2 then f_X4_driveOn_J93 v1 v else f_X4_driveOn_J93 v1 (v.1, v.2.1, v.2.2.1, v.2.2.2.1, v.2.2.2.2.1, v.2.2.2.2.2.1, (v.2.2.2.2.2.2.1 + (1 : Int32)), v.2.2.2.2.2.2.2.1, v.2.2.2.2.2.2.2.2)))
def f_X4_driveOn_L21 (v1 : tX3) : Nat → Int32 → Int32 → Int32 → tX4 → Option tX4
  | 0, _, _, _, _ => none
  | nL21 + 1, l2, l4, l5, v =>
    (if (14 : Int32) ≤ l5 then f_X4_driveOn_J69 v1 l2 l4 v else (f_X3_kindOf v1 v.2.1).bind fun x2 => (if x2 = (2 : Int32) then (f_X3_next v1 v.2.1 l2).bind fun x3 => (f_X4_standOn v x3).bind fun x4 => f_X4_driveOn_L21 v1 nL21 l2 l4 (l5 + (1 : Int32)) (x4.1, x4.2.1, x4.2.2.1, x4.2.2.2.1, x4.2.2.2.2.1, x4.2.2.2.2.2.1, x4.2.2.2.2.2.2.1, x4.2.2.2.2.2.2.2.1, (x4.2.2.2.2.2.2.2.2 + (1 : Int32))) else f_X4_driveOn_J69 v1 l2 l4 v))
def f_X4_driveOn (v : tX4) (v1 : tX3) (p2 : Int32) (p3 : Int32) : Option tX4 :=
  (f_X3_landing v1 v.2.1 p2 p3).bind fun x5 => (f_X4_standOn v x5).bind fun x6 => f_X4_driveOn_L21 v1 gas p2 v.2.1 (0 : Int32) x6
abbrev rm_X4_driveOn : Room := { frames := 2, cells := 0, slots := 0, locals := 43 }
set_option maxHeartbeats 4000000 in
set_option maxRecDepth 100000 in
theorem c_X4_driveOn (l : Launch) (D : va_G) (cI cR : ClassId) (ad : Nat → Nat) (v : tX4) (ad1 : Nat → Nat) (v1 : tX3) (p2 : Int32) (p3 : Int32) (sz : Nat) (r : tX4) (hf : f_X4_driveOn v v1 p2 p3 = some r) : Met l yX4_driveOn (wM yX4_driveOn cX4_driveOn 6 none) rm_X4_driveOn (cPre D (tysA cI cR) ([.ref (ad 0), .ref (ad1 0), .int p2, .int p3] : List Value) (oX4 cI cR ad v ++ oX3 cI cR ad1 v1) sz) (qV D (oX4 cI cR ad r ++ oX3 cI cR ad1 v1) (va_A (oX4 cI cR ad v ++ oX3 cI cR ad1 v1) sz)) 0 0 (va_A (oX4 cI cR ad v ++ oX3 cI cR ad1 v1) sz) := by
  refine en_M (own := RX4) (lv := [(0, .ref (ad 0)), (1, .ref (ad1 0)), (2, .int p2), (3, .int p3)]) (by decide +kernel) rfl (Nat.le_of_ble_eq_true rfl) rfl (fun p e s m below meth c hx hb hr hlk hml hown hnm hts hsz hP hK hD hN ls hl => ?_)
  subst hsz
  generalize hAe : va_A (oX4 cI cR ad v ++ oX3 cI cR ad1 v1) s.heap.size = A at hD ⊢
  have hA : ∀ q : Nat, s.heap.size ≤ q → A q := fun q h => by rw [← hAe]; exact Or.inr h
  have hS : va_S A s.heap s.heap [] := va_S.rf
  have hP : va_P D vwCl [(ad 0, .inr (4, [.ref (ad 1), .int v.2.1, .int v.2.2.1, .int v.2.2.2.1, .int v.2.2.2.2.1, .int v.2.2.2.2.2.1, .int v.2.2.2.2.2.2.1, .int v.2.2.2.2.2.2.2.1, .int v.2.2.2.2.2.2.2.2])), (ad 1, .inl (cI, 15, .inl v.1)), (ad1 0, .inr (3, [.ref (ad1 1), .int v1.2])), (ad1 1, .inl (cI, 15, .inl v1.1))] s.heap := hP
  have hD : va_D A [(ad 0, .inr (4, [.ref (ad 1), .int v.2.1, .int v.2.2.1, .int v.2.2.2.1, .int v.2.2.2.2.1, .int v.2.2.2.2.2.1, .int v.2.2.2.2.2.2.1, .int v.2.2.2.2.2.2.2.1, .int v.2.2.2.2.2.2.2.2])), (ad 1, .inl (cI, 15, .inl v.1)), (ad1 0, .inr (3, [.ref (ad1 1), .int v1.2])), (ad1 1, .inl (cI, 15, .inl v1.1))] := hD
  have J115 : ∀ (v : tX4) (H : Heap) (locs : List Loc) (ls : Array Slot), va_P D vwCl [(ad 0, .inr (4, [.ref (ad 1), .int v.2.1, .int v.2.2.1, .int v.2.2.2.1, .int v.2.2.2.2.1, .int v.2.2.2.2.2.1, .int v.2.2.2.2.2.2.1, .int v.2.2.2.2.2.2.2.1, .int v.2.2.2.2.2.2.2.2])), (ad 1, .inl (cI, 15, .inl v.1)), (ad1 0, .inr (3, [.ref (ad1 1), .int v1.2])), (ad1 1, .inl (cI, 15, .inl v1.1))] H → va_D A [(ad 0, .inr (4, [.ref (ad 1), .int v.2.1, .int v.2.2.1, .int v.2.2.2.1, .int v.2.2.2.2.1, .int v.2.2.2.2.2.1, .int v.2.2.2.2.2.2.1, .int v.2.2.2.2.2.2.2.1, .int v.2.2.2.2.2.2.2.2])), (ad 1, .inl (cI, 15, .inl v.1)), (ad1 0, .inr (3, [.ref (ad1 1), .int v1.2])), (ad1 1, .inl (cI, 15, .inl v1.1))] → va_S A s.heap H locs → lv_has ls 6 [(0, .ref (ad 0)), (1, .ref (ad1 0))] → f_X4_driveOn_J115 v1 v = some r → W p l e rm_X4_driveOn s m ([.ref (ad 0), .ref (ad1 0), .int p2, .int p3] : List Value).toArray below meth c H locs 0 0 (MQ below (qV D (oX4 cI cR ad r ++ oX3 cI cR ad1 v1) A) ([.ref (ad 0), .ref (ad1 0), .int p2, .int p3] : List Value).toArray s 0 0 A) (F0 m 115 ls []) := by
    intro v H locs ls hP hD hS hl hf
    unfold f_X4_driveOn_J115 at hf
    refine lv_aload_n hx hb dX4_driveOn_115 rfl (lv_at hl 1 rfl) ?_
    refine lv_aload_n hx hb dX4_driveOn_116 rfl (lv_at hl 0 rfl) ?_
    refine va_get (D := D) (ci := 4) (v := .int v.2.1) (C := RX4) (T := TX4) (N := 9) hx hb hts inA_X4 hown hK hP 0 rfl rfl 1 (by decide) (hts _ kF_X4_19) (fun _ h9 => h9) rfl dX4_driveOn_117 ?_
    obtain ⟨x0, hcx0, hf⟩ := gB hf
    refine k_r (r_V (As := [.int v.2.1]) (rest := []) (n := 1) ⟨hx, hb, hml, hown, hts⟩ (c_X3_kindOf l D cI cR ad1 v1 v.2.1 _ x0 hcx0) kM_X4_67 kN_X3_kindOf kV_X3_kindOf kZ_X3 kK_X3_kindOf ⟨rfl, rfl⟩ ⟨(Nat.le_of_ble_eq_true rfl), (Nat.le_of_ble_eq_true rfl)⟩ pd_X3_kindOf rfl hK hN hP hD [2, 3] rfl rfl 0 3 rfl rfl rfl hl.1 (Nat.le_of_ble_eq_true rfl) dX4_driveOn_120 ⟨(Nat.le_of_ble_eq_true rfl), (Nat.le_of_ble_eq_true rfl)⟩) ?_
    refine lv_iconst (v := (3 : Int32)) hx hb dX4_driveOn_123 (by decide) ?_
    refine lv_icmp_ne (tgt := 132) hx hb dX4_driveOn_124 (by decide) (fun c0 => ?_) (fun c0 => ?_)
    · replace hf := gF hf c0
      exact z_v hf (fun r => oX4 cI cR ad r ++ oX3 cI cR ad1 v1) hx hb hr hlk hS hP hD dX4_driveOn_132
    · replace hf := gT hf c0
      refine lv_aload_n hx hb dX4_driveOn_127 rfl (lv_at hl 0 rfl) ?_
      refine lv_iconst (v := (1 : Int32)) hx hb dX4_driveOn_128 (by decide) ?_
      refine va_put (D := D) (ci := 4) (v := .int (1 : Int32)) (ty := .boolean) (C := RX4) (T := TX4) (N := 9) hx hb hts inA_X4 tyX4 tyX4_ok nmX4 hown hK hP hD hS 0 rfl rfl 2 (by decide) (hts _ kF_X4_23) (fun _ h9 => h9) rfl (tyX4_ok 2 (by decide)) rfl rfl (Nat.le_of_ble_eq_true rfl) dX4_driveOn_129 (fun H locs hP hD hS => ?_)
      have hP : va_P D vwCl [(ad 0, .inr (4, [.ref (ad 1), .int v.2.1, .int (1 : Int32), .int v.2.2.2.1, .int v.2.2.2.2.1, .int v.2.2.2.2.2.1, .int v.2.2.2.2.2.2.1, .int v.2.2.2.2.2.2.2.1, .int v.2.2.2.2.2.2.2.2])), (ad 1, .inl (cI, 15, .inl v.1)), (ad1 0, .inr (3, [.ref (ad1 1), .int v1.2])), (ad1 1, .inl (cI, 15, .inl v1.1))] H := hP
      have hD : va_D A [(ad 0, .inr (4, [.ref (ad 1), .int v.2.1, .int (1 : Int32), .int v.2.2.2.1, .int v.2.2.2.2.1, .int v.2.2.2.2.2.1, .int v.2.2.2.2.2.2.1, .int v.2.2.2.2.2.2.2.1, .int v.2.2.2.2.2.2.2.2])), (ad 1, .inl (cI, 15, .inl v.1)), (ad1 0, .inr (3, [.ref (ad1 1), .int v1.2])), (ad1 1, .inl (cI, 15, .inl v1.1))] := hD
      exact z_v hf (fun r => oX4 cI cR ad r ++ oX3 cI cR ad1 v1) hx hb hr hlk hS hP hD dX4_driveOn_132
  have J93 : ∀ (v : tX4) (H : Heap) (locs : List Loc) (ls : Array Slot), va_P D vwCl [(ad 0, .inr (4, [.ref (ad 1), .int v.2.1, .int v.2.2.1, .int v.2.2.2.1, .int v.2.2.2.2.1, .int v.2.2.2.2.2.1, .int v.2.2.2.2.2.2.1, .int v.2.2.2.2.2.2.2.1, .int v.2.2.2.2.2.2.2.2])), (ad 1, .inl (cI, 15, .inl v.1)), (ad1 0, .inr (3, [.ref (ad1 1), .int v1.2])), (ad1 1, .inl (cI, 15, .inl v1.1))] H → va_D A [(ad 0, .inr (4, [.ref (ad 1), .int v.2.1, .int v.2.2.1, .int v.2.2.2.1, .int v.2.2.2.2.1, .int v.2.2.2.2.2.1, .int v.2.2.2.2.2.2.1, .int v.2.2.2.2.2.2.2.1, .int v.2.2.2.2.2.2.2.2])), (ad 1, .inl (cI, 15, .inl v.1)), (ad1 0, .inr (3, [.ref (ad1 1), .int v1.2])), (ad1 1, .inl (cI, 15, .inl v1.1))] → va_S A s.heap H locs → lv_has ls 6 [(0, .ref (ad 0)), (1, .ref (ad1 0))] → f_X4_driveOn_J93 v1 v = some r → W p l e rm_X4_driveOn s m ([.ref (ad 0), .ref (ad1 0), .int p2, .int p3] : List Value).toArray below meth c H locs 0 0 (MQ below (qV D (oX4 cI cR ad r ++ oX3 cI cR ad1 v1) A) ([.ref (ad 0), .ref (ad1 0), .int p2, .int p3] : List Value).toArray s 0 0 A) (F0 m 93 ls []) := by
    intro v H locs ls hP hD hS hl hf
    unfold f_X4_driveOn_J93 at hf
    refine lv_aload_n hx hb dX4_driveOn_93 rfl (lv_at hl 1 rfl) ?_
    refine lv_aload_n hx hb dX4_driveOn_94 rfl (lv_at hl 0 rfl) ?_
    refine va_get (D := D) (ci := 4) (v := .int v.2.1) (C := RX4) (T := TX4) (N := 9) hx hb hts inA_X4 hown hK hP 0 rfl rfl 1 (by decide) (hts _ kF_X4_19) (fun _ h9 => h9) rfl dX4_driveOn_95 ?_
    obtain ⟨x1, hcx1, hf⟩ := gB hf
    refine k_r (r_V (As := [.int v.2.1]) (rest := []) (n := 1) ⟨hx, hb, hml, hown, hts⟩ (c_X3_kindOf l D cI cR ad1 v1 v.2.1 _ x1 hcx1) kM_X4_67 kN_X3_kindOf kV_X3_kindOf kZ_X3 kK_X3_kindOf ⟨rfl, rfl⟩ ⟨(Nat.le_of_ble_eq_true rfl), (Nat.le_of_ble_eq_true rfl)⟩ pd_X3_kindOf rfl hK hN hP hD [2, 3] rfl rfl 0 3 rfl rfl rfl hl.1 (Nat.le_of_ble_eq_true rfl) dX4_driveOn_98 ⟨(Nat.le_of_ble_eq_true rfl), (Nat.le_of_ble_eq_true rfl)⟩) ?_
    refine lv_iconst (v := (1 : Int32)) hx hb dX4_driveOn_101 (by decide) ?_
    refine lv_icmp_ne (tgt := 115) hx hb dX4_driveOn_102 (by decide) (fun c1 => ?_) (fun c1 => ?_)
    · replace hf := gF hf c1
      exact J115 v _ _ ls hP hD hS (lv_sub hl [0, 1] rfl) hf
    · replace hf := gT hf c1
      refine lv_aload_n hx hb dX4_driveOn_105 rfl (lv_at hl 0 rfl) ?_
      refine lv_dup hx hb dX4_driveOn_106 rfl ?_
      refine va_get (D := D) (ci := 4) (v := .int v.2.2.2.1) (C := RX4) (T := TX4) (N := 9) hx hb hts inA_X4 hown hK hP 0 rfl rfl 3 (by decide) (hts _ kF_X4_27) (fun _ h9 => h9) rfl dX4_driveOn_107 ?_
      refine lv_iconst (v := (1 : Int32)) hx hb dX4_driveOn_110 (by decide) ?_
      refine lv_iadd hx hb dX4_driveOn_111 ?_
      refine va_put (D := D) (ci := 4) (v := .int (v.2.2.2.1 + (1 : Int32))) (ty := .int) (C := RX4) (T := TX4) (N := 9) hx hb hts inA_X4 tyX4 tyX4_ok nmX4 hown hK hP hD hS 0 rfl rfl 3 (by decide) (hts _ kF_X4_27) (fun _ h9 => h9) rfl (tyX4_ok 3 (by decide)) rfl rfl (Nat.le_of_ble_eq_true rfl) dX4_driveOn_112 (fun H locs hP hD hS => ?_)
      have hP : va_P D vwCl [(ad 0, .inr (4, [.ref (ad 1), .int v.2.1, .int v.2.2.1, .int (v.2.2.2.1 + (1 : Int32)), .int v.2.2.2.2.1, .int v.2.2.2.2.2.1, .int v.2.2.2.2.2.2.1, .int v.2.2.2.2.2.2.2.1, .int v.2.2.2.2.2.2.2.2])), (ad 1, .inl (cI, 15, .inl v.1)), (ad1 0, .inr (3, [.ref (ad1 1), .int v1.2])), (ad1 1, .inl (cI, 15, .inl v1.1))] H := hP
      have hD : va_D A [(ad 0, .inr (4, [.ref (ad 1), .int v.2.1, .int v.2.2.1, .int (v.2.2.2.1 + (1 : Int32)), .int v.2.2.2.2.1, .int v.2.2.2.2.2.1, .int v.2.2.2.2.2.2.1, .int v.2.2.2.2.2.2.2.1, .int v.2.2.2.2.2.2.2.2])), (ad 1, .inl (cI, 15, .inl v.1)), (ad1 0, .inr (3, [.ref (ad1 1), .int v1.2])), (ad1 1, .inl (cI, 15, .inl v1.1))] := hD
      exact J115 (v.1, v.2.1, v.2.2.1, (v.2.2.2.1 + (1 : Int32)), v.2.2.2.2.1, v.2.2.2.2.2.1, v.2.2.2.2.2.2.1, v.2.2.2.2.2.2.2.1, v.2.2.2.2.2.2.2.2) _ _ ls hP hD hS (lv_sub hl [0, 1] rfl) hf
  have J69 : ∀ (l2 : Int32) (l4 : Int32) (v : tX4) (H : Heap) (locs : List Loc) (ls : Array Slot), va_P D vwCl [(ad 0, .inr (4, [.ref (ad 1), .int v.2.1, .int v.2.2.1, .int v.2.2.2.1, .int v.2.2.2.2.1, .int v.2.2.2.2.2.1, .int v.2.2.2.2.2.2.1, .int v.2.2.2.2.2.2.2.1, .int v.2.2.2.2.2.2.2.2])), (ad 1, .inl (cI, 15, .inl v.1)), (ad1 0, .inr (3, [.ref (ad1 1), .int v1.2])), (ad1 1, .inl (cI, 15, .inl v1.1))] H → va_D A [(ad 0, .inr (4, [.ref (ad 1), .int v.2.1, .int v.2.2.1, .int v.2.2.2.1, .int v.2.2.2.2.1, .int v.2.2.2.2.2.1, .int v.2.2.2.2.2.2.1, .int v.2.2.2.2.2.2.2.1, .int v.2.2.2.2.2.2.2.2])), (ad 1, .inl (cI, 15, .inl v.1)), (ad1 0, .inr (3, [.ref (ad1 1), .int v1.2])), (ad1 1, .inl (cI, 15, .inl v1.1))] → va_S A s.heap H locs → lv_has ls 6 [(0, .ref (ad 0)), (1, .ref (ad1 0)), (2, .int l2), (4, .int l4)] → f_X4_driveOn_J69 v1 l2 l4 v = some r → W p l e rm_X4_driveOn s m ([.ref (ad 0), .ref (ad1 0), .int p2, .int p3] : List Value).toArray below meth c H locs 0 0 (MQ below (qV D (oX4 cI cR ad r ++ oX3 cI cR ad1 v1) A) ([.ref (ad 0), .ref (ad1 0), .int p2, .int p3] : List Value).toArray s 0 0 A) (F0 m 69 ls []) := by
    intro l2 l4 v H locs ls hP hD hS hl hf
    unfold f_X4_driveOn_J69 at hf
    refine lv_iload hx hb dX4_driveOn_69 (lv_at hl 3 rfl) ?_
    refine lv_iload_n hx hb dX4_driveOn_71 rfl (lv_at hl 2 rfl) ?_
    refine lv_icmp_ge (tgt := 93) hx hb dX4_driveOn_72 (by decide) (fun c2 => ?_) (fun c2 => ?_)
    · replace hf := gT hf c2
      exact J93 v _ _ ls hP hD hS (lv_sub hl [0, 1] rfl) hf
    · replace hf := gF hf c2
      refine lv_iload_n hx hb dX4_driveOn_75 rfl (lv_at hl 2 rfl) ?_
      refine lv_aload_n hx hb dX4_driveOn_76 rfl (lv_at hl 0 rfl) ?_
      refine va_get (D := D) (ci := 4) (v := .int v.2.1) (C := RX4) (T := TX4) (N := 9) hx hb hts inA_X4 hown hK hP 0 rfl rfl 1 (by decide) (hts _ kF_X4_19) (fun _ h9 => h9) rfl dX4_driveOn_77 ?_
      refine lv_icmp_ge (tgt := 93) hx hb dX4_driveOn_80 (by decide) (fun c3 => ?_) (fun c3 => ?_)
      · replace hf := gT hf c3
        exact J93 v _ _ ls hP hD hS (lv_sub hl [0, 1] rfl) hf
      · replace hf := gF hf c3
        refine lv_aload_n hx hb dX4_driveOn_83 rfl (lv_at hl 0 rfl) ?_
        refine lv_dup hx hb dX4_driveOn_84 rfl ?_
        refine va_get (D := D) (ci := 4) (v := .int v.2.2.2.2.2.2.1) (C := RX4) (T := TX4) (N := 9) hx hb hts inA_X4 hown hK hP 0 rfl rfl 6 (by decide) (hts _ kF_X4_36) (fun _ h9 => h9) rfl dX4_driveOn_85 ?_
        refine lv_iconst (v := (1 : Int32)) hx hb dX4_driveOn_88 (by decide) ?_
        refine lv_iadd hx hb dX4_driveOn_89 ?_
        refine va_put (D := D) (ci := 4) (v := .int (v.2.2.2.2.2.2.1 + (1 : Int32))) (ty := .int) (C := RX4) (T := TX4) (N := 9) hx hb hts inA_X4 tyX4 tyX4_ok nmX4 hown hK hP hD hS 0 rfl rfl 6 (by decide) (hts _ kF_X4_36) (fun _ h9 => h9) rfl (tyX4_ok 6 (by decide)) rfl rfl (Nat.le_of_ble_eq_true rfl) dX4_driveOn_90 (fun H locs hP hD hS => ?_)
        have hP : va_P D vwCl [(ad 0, .inr (4, [.ref (ad 1), .int v.2.1, .int v.2.2.1, .int v.2.2.2.1, .int v.2.2.2.2.1, .int v.2.2.2.2.2.1, .int (v.2.2.2.2.2.2.1 + (1 : Int32)), .int v.2.2.2.2.2.2.2.1, .int v.2.2.2.2.2.2.2.2])), (ad 1, .inl (cI, 15, .inl v.1)), (ad1 0, .inr (3, [.ref (ad1 1), .int v1.2])), (ad1 1, .inl (cI, 15, .inl v1.1))] H := hP
        have hD : va_D A [(ad 0, .inr (4, [.ref (ad 1), .int v.2.1, .int v.2.2.1, .int v.2.2.2.1, .int v.2.2.2.2.1, .int v.2.2.2.2.2.1, .int (v.2.2.2.2.2.2.1 + (1 : Int32)), .int v.2.2.2.2.2.2.2.1, .int v.2.2.2.2.2.2.2.2])), (ad 1, .inl (cI, 15, .inl v.1)), (ad1 0, .inr (3, [.ref (ad1 1), .int v1.2])), (ad1 1, .inl (cI, 15, .inl v1.1))] := hD
        exact J93 (v.1, v.2.1, v.2.2.1, v.2.2.2.1, v.2.2.2.2.1, v.2.2.2.2.2.1, (v.2.2.2.2.2.2.1 + (1 : Int32)), v.2.2.2.2.2.2.2.1, v.2.2.2.2.2.2.2.2) _ _ ls hP hD hS (lv_sub hl [0, 1] rfl) hf
  have L21 : ∀ (nL21 : Nat) (l2 : Int32) (l4 : Int32) (l5 : Int32) (v : tX4) (H : Heap) (locs : List Loc) (ls : Array Slot), va_P D vwCl [(ad 0, .inr (4, [.ref (ad 1), .int v.2.1, .int v.2.2.1, .int v.2.2.2.1, .int v.2.2.2.2.1, .int v.2.2.2.2.2.1, .int v.2.2.2.2.2.2.1, .int v.2.2.2.2.2.2.2.1, .int v.2.2.2.2.2.2.2.2])), (ad 1, .inl (cI, 15, .inl v.1)), (ad1 0, .inr (3, [.ref (ad1 1), .int v1.2])), (ad1 1, .inl (cI, 15, .inl v1.1))] H → va_D A [(ad 0, .inr (4, [.ref (ad 1), .int v.2.1, .int v.2.2.1, .int v.2.2.2.1, .int v.2.2.2.2.1, .int v.2.2.2.2.2.1, .int v.2.2.2.2.2.2.1, .int v.2.2.2.2.2.2.2.1, .int v.2.2.2.2.2.2.2.2])), (ad 1, .inl (cI, 15, .inl v.1)), (ad1 0, .inr (3, [.ref (ad1 1), .int v1.2])), (ad1 1, .inl (cI, 15, .inl v1.1))] → va_S A s.heap H locs → lv_has ls 6 [(0, .ref (ad 0)), (1, .ref (ad1 0)), (2, .int l2), (4, .int l4), (5, .int l5)] → f_X4_driveOn_L21 v1 nL21 l2 l4 l5 v = some r → W p l e rm_X4_driveOn s m ([.ref (ad 0), .ref (ad1 0), .int p2, .int p3] : List Value).toArray below meth c H locs 0 0 (MQ below (qV D (oX4 cI cR ad r ++ oX3 cI cR ad1 v1) A) ([.ref (ad 0), .ref (ad1 0), .int p2, .int p3] : List Value).toArray s 0 0 A) (F0 m 21 ls []) := by
    intro nL21
    induction nL21 with
    | zero =>
      intro l2 l4 l5 v H locs ls hP hD hS hl hf
      cases hf
    | succ nL21 ih_L21 =>
      intro l2 l4 l5 v H locs ls hP hD hS hl hf
      rw [f_X4_driveOn_L21] at hf
      refine lv_iload hx hb dX4_driveOn_21 (lv_at hl 4 rfl) ?_
      refine lv_bipush (v := (14 : Int32)) hx hb dX4_driveOn_23 (by decide) ?_
      refine lv_icmp_ge (tgt := 69) hx hb dX4_driveOn_25 (by decide) (fun c4 => ?_) (fun c4 => ?_)
      · replace hf := gT hf c4
        exact J69 l2 l4 v _ _ ls hP hD hS (lv_sub hl [0, 1, 2, 3] rfl) hf
      · replace hf := gF hf c4
        refine lv_aload_n hx hb dX4_driveOn_28 rfl (lv_at hl 1 rfl) ?_
        refine lv_aload_n hx hb dX4_driveOn_29 rfl (lv_at hl 0 rfl) ?_
        refine va_get (D := D) (ci := 4) (v := .int v.2.1) (C := RX4) (T := TX4) (N := 9) hx hb hts inA_X4 hown hK hP 0 rfl rfl 1 (by decide) (hts _ kF_X4_19) (fun _ h9 => h9) rfl dX4_driveOn_30 ?_
        obtain ⟨x2, hcx2, hf⟩ := gB hf
        refine k_r (r_V (As := [.int v.2.1]) (rest := []) (n := 1) ⟨hx, hb, hml, hown, hts⟩ (c_X3_kindOf l D cI cR ad1 v1 v.2.1 _ x2 hcx2) kM_X4_67 kN_X3_kindOf kV_X3_kindOf kZ_X3 kK_X3_kindOf ⟨rfl, rfl⟩ ⟨(Nat.le_of_ble_eq_true rfl), (Nat.le_of_ble_eq_true rfl)⟩ pd_X3_kindOf rfl hK hN hP hD [2, 3] rfl rfl 0 3 rfl rfl rfl hl.1 (Nat.le_of_ble_eq_true rfl) dX4_driveOn_33 ⟨(Nat.le_of_ble_eq_true rfl), (Nat.le_of_ble_eq_true rfl)⟩) ?_
        refine lv_iconst (v := (2 : Int32)) hx hb dX4_driveOn_36 (by decide) ?_
        refine lv_icmp_ne (tgt := 69) hx hb dX4_driveOn_37 (by decide) (fun c5 => ?_) (fun c5 => ?_)
        · replace hf := gF hf c5
          exact J69 l2 l4 v _ _ ls hP hD hS (lv_sub hl [0, 1, 2, 3] rfl) hf
        · replace hf := gT hf c5
          refine lv_aload_n hx hb dX4_driveOn_40 rfl (lv_at hl 0 rfl) ?_
          refine lv_aload_n hx hb dX4_driveOn_41 rfl (lv_at hl 1 rfl) ?_
          refine lv_aload_n hx hb dX4_driveOn_42 rfl (lv_at hl 0 rfl) ?_
          refine va_get (D := D) (ci := 4) (v := .int v.2.1) (C := RX4) (T := TX4) (N := 9) hx hb hts inA_X4 hown hK hP 0 rfl rfl 1 (by decide) (hts _ kF_X4_19) (fun _ h9 => h9) rfl dX4_driveOn_43 ?_
          refine lv_iload_n hx hb dX4_driveOn_46 rfl (lv_at hl 2 rfl) ?_
          obtain ⟨x3, hcx3, hf⟩ := gB hf
          refine k_r (r_V (As := [.int v.2.1, .int l2]) (rest := [.ref (ad 0)]) (n := 2) ⟨hx, hb, hml, hown, hts⟩ (c_X3_next l D cI cR ad1 v1 v.2.1 l2 _ x3 hcx3) kM_X4_71 kN_X3_next kV_X3_next kZ_X3 kK_X3_next ⟨rfl, rfl⟩ ⟨(Nat.le_of_ble_eq_true rfl), (Nat.le_of_ble_eq_true rfl)⟩ pd_X3_next rfl hK hN hP hD [2, 3] rfl rfl 0 3 rfl rfl rfl hl.1 (Nat.le_of_ble_eq_true rfl) dX4_driveOn_47 ⟨(Nat.le_of_ble_eq_true rfl), (Nat.le_of_ble_eq_true rfl)⟩) ?_
          obtain ⟨x4, hcx4, hf⟩ := gB hf
          refine j_v (wr := [(ad1 0, .inr (3, [.ref (ad1 1), .int v1.2])), (ad1 1, .inl (cI, 15, .inl v1.1))]) (w_V (As := [.int x3]) (rest := []) (n := 1) ⟨hx, hb, hml, hown, hts⟩ (c_X4_standOn l D cI cR ad v x3 _ x4 hcx4) kM_X4_63 kN_X4_standOn kV_X4_standOn kZ_X4 kK_X4_standOn ⟨rfl, rfl⟩ ⟨(Nat.le_of_ble_eq_true rfl), (Nat.le_of_ble_eq_true rfl)⟩ pd_X4_standOn rfl hK hN hP hD [0, 1] rfl rfl 0 4 rfl rfl rfl hl.1 (Nat.le_of_ble_eq_true rfl) dX4_driveOn_50 ⟨(Nat.le_of_ble_eq_true rfl), (Nat.le_of_ble_eq_true rfl)⟩) hP hD hS hA [0, 1] [2, 3] rfl rfl rfl (by decide) (fun H locs hP hD hS => ?_)
          have hP : va_P D vwCl [(ad1 0, .inr (3, [.ref (ad1 1), .int v1.2])), (ad1 1, .inl (cI, 15, .inl v1.1)), (ad 0, .inr (4, [.ref (ad 1), .int x4.2.1, .int x4.2.2.1, .int x4.2.2.2.1, .int x4.2.2.2.2.1, .int x4.2.2.2.2.2.1, .int x4.2.2.2.2.2.2.1, .int x4.2.2.2.2.2.2.2.1, .int x4.2.2.2.2.2.2.2.2])), (ad 1, .inl (cI, 15, .inl x4.1))] H := hP
          have hD : va_D A [(ad1 0, .inr (3, [.ref (ad1 1), .int v1.2])), (ad1 1, .inl (cI, 15, .inl v1.1)), (ad 0, .inr (4, [.ref (ad 1), .int x4.2.1, .int x4.2.2.1, .int x4.2.2.2.1, .int x4.2.2.2.2.1, .int x4.2.2.2.2.2.1, .int x4.2.2.2.2.2.2.1, .int x4.2.2.2.2.2.2.2.1, .int x4.2.2.2.2.2.2.2.2])), (ad 1, .inl (cI, 15, .inl x4.1))] := hD
          refine lv_aload_n hx hb dX4_driveOn_53 rfl (lv_at hl 0 rfl) ?_
          refine lv_dup hx hb dX4_driveOn_54 rfl ?_
          refine va_get (D := D) (ci := 4) (v := .int x4.2.2.2.2.2.2.2.2) (C := RX4) (T := TX4) (N := 9) hx hb hts inA_X4 hown hK hP 2 rfl rfl 8 (by decide) (hts _ kF_X4_42) (fun _ h9 => h9) rfl dX4_driveOn_55 ?_
          refine lv_iconst (v := (1 : Int32)) hx hb dX4_driveOn_58 (by decide) ?_
          refine lv_iadd hx hb dX4_driveOn_59 ?_
          refine va_put (D := D) (ci := 4) (v := .int (x4.2.2.2.2.2.2.2.2 + (1 : Int32))) (ty := .int) (C := RX4) (T := TX4) (N := 9) hx hb hts inA_X4 tyX4 tyX4_ok nmX4 hown hK hP hD hS 2 rfl rfl 8 (by decide) (hts _ kF_X4_42) (fun _ h9 => h9) rfl (tyX4_ok 8 (by decide)) rfl rfl (Nat.le_of_ble_eq_true rfl) dX4_driveOn_60 (fun H locs hP hD hS => ?_)
          have hP : va_P D vwCl [(ad1 0, .inr (3, [.ref (ad1 1), .int v1.2])), (ad1 1, .inl (cI, 15, .inl v1.1)), (ad 0, .inr (4, [.ref (ad 1), .int x4.2.1, .int x4.2.2.1, .int x4.2.2.2.1, .int x4.2.2.2.2.1, .int x4.2.2.2.2.2.1, .int x4.2.2.2.2.2.2.1, .int x4.2.2.2.2.2.2.2.1, .int (x4.2.2.2.2.2.2.2.2 + (1 : Int32))])), (ad 1, .inl (cI, 15, .inl x4.1))] H := hP
          have hD : va_D A [(ad1 0, .inr (3, [.ref (ad1 1), .int v1.2])), (ad1 1, .inl (cI, 15, .inl v1.1)), (ad 0, .inr (4, [.ref (ad 1), .int x4.2.1, .int x4.2.2.1, .int x4.2.2.2.1, .int x4.2.2.2.2.1, .int x4.2.2.2.2.2.1, .int x4.2.2.2.2.2.2.1, .int x4.2.2.2.2.2.2.2.1, .int (x4.2.2.2.2.2.2.2.2 + (1 : Int32))])), (ad 1, .inl (cI, 15, .inl x4.1))] := hD
          refine lv_iinc (v := (l5 + (1 : Int32))) (lv' := [(5, .int (l5 + (1 : Int32))), (0, .ref (ad 0)), (1, .ref (ad1 0)), (2, .int l2), (4, .int l4)]) hx hb dX4_driveOn_63 hl (k := 4) rfl rfl (by decide) rfl (fun ls hl => ?_)
          refine lv_goto (tgt := 21) hx hb dX4_driveOn_66 (by decide) ?_
          exact ih_L21 l2 l4 (l5 + (1 : Int32)) (x4.1, x4.2.1, x4.2.2.1, x4.2.2.2.1, x4.2.2.2.2.1, x4.2.2.2.2.2.1, x4.2.2.2.2.2.2.1, x4.2.2.2.2.2.2.2.1, (x4.2.2.2.2.2.2.2.2 + (1 : Int32))) _ _ ls (hP.subm [2, 3, 0, 1] rfl) (hD.sub [2, 3, 0, 1] rfl rfl) hS (lv_sub hl [1, 2, 3, 4, 0] rfl) hf
  unfold f_X4_driveOn at hf
  refine lv_aload_n hx hb dX4_driveOn_0 rfl (lv_at hl 0 rfl) ?_
  refine va_get (D := D) (ci := 4) (v := .int v.2.1) (C := RX4) (T := TX4) (N := 9) hx hb hts inA_X4 hown hK hP 0 rfl rfl 1 (by decide) (hts _ kF_X4_19) (fun _ h9 => h9) rfl dX4_driveOn_1 ?_
  refine lv_istore (lv' := [(4, .int v.2.1), (0, .ref (ad 0)), (1, .ref (ad1 0)), (2, .int p2), (3, .int p3)]) hx hb dX4_driveOn_4 hl (by decide) rfl (fun ls hl => ?_)
  refine lv_aload_n hx hb dX4_driveOn_6 rfl (lv_at hl 1 rfl) ?_
  refine lv_aload_n hx hb dX4_driveOn_7 rfl (lv_at hl 2 rfl) ?_
  refine lv_iload hx hb dX4_driveOn_8 (lv_at hl 0 rfl) ?_
  refine lv_iload_n hx hb dX4_driveOn_10 rfl (lv_at hl 3 rfl) ?_
  refine lv_iload_n hx hb dX4_driveOn_11 rfl (lv_at hl 4 rfl) ?_
  obtain ⟨x5, hcx5, hf⟩ := gB hf
  refine k_r (r_V (As := [.int v.2.1, .int p2, .int p3]) (rest := [.ref (ad 0)]) (n := 3) ⟨hx, hb, hml, hown, hts⟩ (c_X3_landing l D cI cR ad1 v1 v.2.1 p2 p3 _ x5 hcx5) kM_X4_57 kN_X3_landing kV_X3_landing kZ_X3 kK_X3_landing ⟨rfl, rfl⟩ ⟨(Nat.le_of_ble_eq_true rfl), (Nat.le_of_ble_eq_true rfl)⟩ pd_X3_landing rfl hK hN hP hD [2, 3] rfl rfl 0 3 rfl rfl rfl hl.1 (Nat.le_of_ble_eq_true rfl) dX4_driveOn_12 ⟨(Nat.le_of_ble_eq_true rfl), (Nat.le_of_ble_eq_true rfl)⟩) ?_
  obtain ⟨x6, hcx6, hf⟩ := gB hf
  refine j_v (wr := [(ad1 0, .inr (3, [.ref (ad1 1), .int v1.2])), (ad1 1, .inl (cI, 15, .inl v1.1))]) (w_V (As := [.int x5]) (rest := []) (n := 1) ⟨hx, hb, hml, hown, hts⟩ (c_X4_standOn l D cI cR ad v x5 _ x6 hcx6) kM_X4_63 kN_X4_standOn kV_X4_standOn kZ_X4 kK_X4_standOn ⟨rfl, rfl⟩ ⟨(Nat.le_of_ble_eq_true rfl), (Nat.le_of_ble_eq_true rfl)⟩ pd_X4_standOn rfl hK hN hP hD [0, 1] rfl rfl 0 4 rfl rfl rfl hl.1 (Nat.le_of_ble_eq_true rfl) dX4_driveOn_15 ⟨(Nat.le_of_ble_eq_true rfl), (Nat.le_of_ble_eq_true rfl)⟩) hP hD hS hA [0, 1] [2, 3] rfl rfl rfl (by decide) (fun H locs hP hD hS => ?_)
  have hP : va_P D vwCl [(ad1 0, .inr (3, [.ref (ad1 1), .int v1.2])), (ad1 1, .inl (cI, 15, .inl v1.1)), (ad 0, .inr (4, [.ref (ad 1), .int x6.2.1, .int x6.2.2.1, .int x6.2.2.2.1, .int x6.2.2.2.2.1, .int x6.2.2.2.2.2.1, .int x6.2.2.2.2.2.2.1, .int x6.2.2.2.2.2.2.2.1, .int x6.2.2.2.2.2.2.2.2])), (ad 1, .inl (cI, 15, .inl x6.1))] H := hP
  have hD : va_D A [(ad1 0, .inr (3, [.ref (ad1 1), .int v1.2])), (ad1 1, .inl (cI, 15, .inl v1.1)), (ad 0, .inr (4, [.ref (ad 1), .int x6.2.1, .int x6.2.2.1, .int x6.2.2.2.1, .int x6.2.2.2.2.1, .int x6.2.2.2.2.2.1, .int x6.2.2.2.2.2.2.1, .int x6.2.2.2.2.2.2.2.1, .int x6.2.2.2.2.2.2.2.2])), (ad 1, .inl (cI, 15, .inl x6.1))] := hD
  refine lv_iconst (v := (0 : Int32)) hx hb dX4_driveOn_18 (by decide) ?_
  refine lv_istore (lv' := [(5, .int (0 : Int32)), (4, .int v.2.1), (0, .ref (ad 0)), (1, .ref (ad1 0)), (2, .int p2), (3, .int p3)]) hx hb dX4_driveOn_19 hl (by decide) rfl (fun ls hl => ?_)
  exact L21 gas p2 v.2.1 (0 : Int32) x6 _ _ ls (hP.subm [2, 3, 0, 1] rfl) (hD.sub [2, 3, 0, 1] rfl rfl) hS (lv_sub hl [2, 3, 4, 1, 0] rfl) hf
def f_X4_stopOther (v : tX4) (v1 : tX4) (p2 : Int32) : Option (tX4 × tX4) :=
  some ((v.1, v.2.1, (0 : Int32), v.2.2.2.1, v.2.2.2.2.1, v.2.2.2.2.2.1, v.2.2.2.2.2.2.1, (v.2.2.2.2.2.2.2.1 + (1 : Int32)), v.2.2.2.2.2.2.2.2), (v1.1, v1.2.1, v1.2.2.1, (if (v1.2.2.2.1 + p2) < (3 : Int32) then (v1.2.2.2.1 + p2) else (3 : Int32)), v1.2.2.2.2.1, v1.2.2.2.2.2.1, v1.2.2.2.2.2.2.1, v1.2.2.2.2.2.2.2.1, v1.2.2.2.2.2.2.2.2))
abbrev rm_X4_stopOther : Room := { frames := 1, cells := 0, slots := 0, locals := 21 }
set_option maxHeartbeats 4000000 in
set_option maxRecDepth 100000 in
theorem c_X4_stopOther (l : Launch) (D : va_G) (cI cR : ClassId) (ad : Nat → Nat) (v : tX4) (ad1 : Nat → Nat) (v1 : tX4) (p2 : Int32) (sz : Nat) (r : (tX4 × tX4)) (hf : f_X4_stopOther v v1 p2 = some r) : Met l yX4_stopOther (wM yX4_stopOther cX4_stopOther 3 none) rm_X4_stopOther (cPre D (tysA cI cR) ([.ref (ad 0), .ref (ad1 0), .int p2] : List Value) (oX4 cI cR ad v ++ oX4 cI cR ad1 v1) sz) (qV D (oX4 cI cR ad r.1 ++ oX4 cI cR ad1 r.2) (va_A (oX4 cI cR ad v ++ oX4 cI cR ad1 v1) sz)) 0 0 (va_A (oX4 cI cR ad v ++ oX4 cI cR ad1 v1) sz) := by
  refine en_M (own := RX4) (lv := [(0, .ref (ad 0)), (1, .ref (ad1 0)), (2, .int p2)]) (by decide +kernel) rfl (Nat.le_of_ble_eq_true rfl) rfl (fun p e s m below meth c hx hb hr hlk hml hown hnm hts hsz hP hK hD hN ls hl => ?_)
  subst hsz
  generalize hAe : va_A (oX4 cI cR ad v ++ oX4 cI cR ad1 v1) s.heap.size = A at hD ⊢
  have hA : ∀ q : Nat, s.heap.size ≤ q → A q := fun q h => by rw [← hAe]; exact Or.inr h
  have hS : va_S A s.heap s.heap [] := va_S.rf
  have hP : va_P D vwCl [(ad 0, .inr (4, [.ref (ad 1), .int v.2.1, .int v.2.2.1, .int v.2.2.2.1, .int v.2.2.2.2.1, .int v.2.2.2.2.2.1, .int v.2.2.2.2.2.2.1, .int v.2.2.2.2.2.2.2.1, .int v.2.2.2.2.2.2.2.2])), (ad 1, .inl (cI, 15, .inl v.1)), (ad1 0, .inr (4, [.ref (ad1 1), .int v1.2.1, .int v1.2.2.1, .int v1.2.2.2.1, .int v1.2.2.2.2.1, .int v1.2.2.2.2.2.1, .int v1.2.2.2.2.2.2.1, .int v1.2.2.2.2.2.2.2.1, .int v1.2.2.2.2.2.2.2.2])), (ad1 1, .inl (cI, 15, .inl v1.1))] s.heap := hP
  have hD : va_D A [(ad 0, .inr (4, [.ref (ad 1), .int v.2.1, .int v.2.2.1, .int v.2.2.2.1, .int v.2.2.2.2.1, .int v.2.2.2.2.2.1, .int v.2.2.2.2.2.2.1, .int v.2.2.2.2.2.2.2.1, .int v.2.2.2.2.2.2.2.2])), (ad 1, .inl (cI, 15, .inl v.1)), (ad1 0, .inr (4, [.ref (ad1 1), .int v1.2.1, .int v1.2.2.1, .int v1.2.2.2.1, .int v1.2.2.2.2.1, .int v1.2.2.2.2.2.1, .int v1.2.2.2.2.2.2.1, .int v1.2.2.2.2.2.2.2.1, .int v1.2.2.2.2.2.2.2.2])), (ad1 1, .inl (cI, 15, .inl v1.1))] := hD
  unfold f_X4_stopOther at hf
  refine lv_aload_n hx hb dX4_stopOther_0 rfl (lv_at hl 0 rfl) ?_
  refine lv_iconst (v := (0 : Int32)) hx hb dX4_stopOther_1 (by decide) ?_
  refine va_put (D := D) (ci := 4) (v := .int (0 : Int32)) (ty := .boolean) (C := RX4) (T := TX4) (N := 9) hx hb hts inA_X4 tyX4 tyX4_ok nmX4 hown hK hP hD hS 0 rfl rfl 2 (by decide) (hts _ kF_X4_23) (fun _ h9 => h9) rfl (tyX4_ok 2 (by decide)) rfl rfl (Nat.le_of_ble_eq_true rfl) dX4_stopOther_2 (fun H locs hP hD hS => ?_)
  have hP : va_P D vwCl [(ad 0, .inr (4, [.ref (ad 1), .int v.2.1, .int (0 : Int32), .int v.2.2.2.1, .int v.2.2.2.2.1, .int v.2.2.2.2.2.1, .int v.2.2.2.2.2.2.1, .int v.2.2.2.2.2.2.2.1, .int v.2.2.2.2.2.2.2.2])), (ad 1, .inl (cI, 15, .inl v.1)), (ad1 0, .inr (4, [.ref (ad1 1), .int v1.2.1, .int v1.2.2.1, .int v1.2.2.2.1, .int v1.2.2.2.2.1, .int v1.2.2.2.2.2.1, .int v1.2.2.2.2.2.2.1, .int v1.2.2.2.2.2.2.2.1, .int v1.2.2.2.2.2.2.2.2])), (ad1 1, .inl (cI, 15, .inl v1.1))] H := hP
  have hD : va_D A [(ad 0, .inr (4, [.ref (ad 1), .int v.2.1, .int (0 : Int32), .int v.2.2.2.1, .int v.2.2.2.2.1, .int v.2.2.2.2.2.1, .int v.2.2.2.2.2.2.1, .int v.2.2.2.2.2.2.2.1, .int v.2.2.2.2.2.2.2.2])), (ad 1, .inl (cI, 15, .inl v.1)), (ad1 0, .inr (4, [.ref (ad1 1), .int v1.2.1, .int v1.2.2.1, .int v1.2.2.2.1, .int v1.2.2.2.2.1, .int v1.2.2.2.2.2.1, .int v1.2.2.2.2.2.2.1, .int v1.2.2.2.2.2.2.2.1, .int v1.2.2.2.2.2.2.2.2])), (ad1 1, .inl (cI, 15, .inl v1.1))] := hD
  refine lv_aload_n hx hb dX4_stopOther_5 rfl (lv_at hl 0 rfl) ?_
  refine lv_dup hx hb dX4_stopOther_6 rfl ?_
  refine va_get (D := D) (ci := 4) (v := .int v.2.2.2.2.2.2.2.1) (C := RX4) (T := TX4) (N := 9) hx hb hts inA_X4 hown hK hP 0 rfl rfl 7 (by decide) (hts _ kF_X4_39) (fun _ h9 => h9) rfl dX4_stopOther_7 ?_
  refine lv_iconst (v := (1 : Int32)) hx hb dX4_stopOther_10 (by decide) ?_
  refine lv_iadd hx hb dX4_stopOther_11 ?_
  refine va_put (D := D) (ci := 4) (v := .int (v.2.2.2.2.2.2.2.1 + (1 : Int32))) (ty := .int) (C := RX4) (T := TX4) (N := 9) hx hb hts inA_X4 tyX4 tyX4_ok nmX4 hown hK hP hD hS 0 rfl rfl 7 (by decide) (hts _ kF_X4_39) (fun _ h9 => h9) rfl (tyX4_ok 7 (by decide)) rfl rfl (Nat.le_of_ble_eq_true rfl) dX4_stopOther_12 (fun H locs hP hD hS => ?_)
  have hP : va_P D vwCl [(ad 0, .inr (4, [.ref (ad 1), .int v.2.1, .int (0 : Int32), .int v.2.2.2.1, .int v.2.2.2.2.1, .int v.2.2.2.2.2.1, .int v.2.2.2.2.2.2.1, .int (v.2.2.2.2.2.2.2.1 + (1 : Int32)), .int v.2.2.2.2.2.2.2.2])), (ad 1, .inl (cI, 15, .inl v.1)), (ad1 0, .inr (4, [.ref (ad1 1), .int v1.2.1, .int v1.2.2.1, .int v1.2.2.2.1, .int v1.2.2.2.2.1, .int v1.2.2.2.2.2.1, .int v1.2.2.2.2.2.2.1, .int v1.2.2.2.2.2.2.2.1, .int v1.2.2.2.2.2.2.2.2])), (ad1 1, .inl (cI, 15, .inl v1.1))] H := hP
  have hD : va_D A [(ad 0, .inr (4, [.ref (ad 1), .int v.2.1, .int (0 : Int32), .int v.2.2.2.1, .int v.2.2.2.2.1, .int v.2.2.2.2.2.1, .int v.2.2.2.2.2.2.1, .int (v.2.2.2.2.2.2.2.1 + (1 : Int32)), .int v.2.2.2.2.2.2.2.2])), (ad 1, .inl (cI, 15, .inl v.1)), (ad1 0, .inr (4, [.ref (ad1 1), .int v1.2.1, .int v1.2.2.1, .int v1.2.2.2.1, .int v1.2.2.2.2.1, .int v1.2.2.2.2.2.1, .int v1.2.2.2.2.2.2.1, .int v1.2.2.2.2.2.2.2.1, .int v1.2.2.2.2.2.2.2.2])), (ad1 1, .inl (cI, 15, .inl v1.1))] := hD
  refine lv_aload_n hx hb dX4_stopOther_15 rfl (lv_at hl 1 rfl) ?_
  refine lv_iconst (v := (3 : Int32)) hx hb dX4_stopOther_16 (by decide) ?_
  refine lv_aload_n hx hb dX4_stopOther_17 rfl (lv_at hl 1 rfl) ?_
  refine va_get (D := D) (ci := 4) (v := .int v1.2.2.2.1) (C := RX4) (T := TX4) (N := 9) hx hb hts inA_X4 hown hK hP 2 rfl rfl 3 (by decide) (hts _ kF_X4_27) (fun _ h9 => h9) rfl dX4_stopOther_18 ?_
  refine lv_iload_n hx hb dX4_stopOther_21 rfl (lv_at hl 2 rfl) ?_
  refine lv_iadd hx hb dX4_stopOther_22 ?_
  refine va_mmin hx hb (hml.trans hl.1.symm) hown (hts _ kM_X4_75) (hts _ kS_J9_min_7cf53) (hts _ kZ_J9) (hts _ kK_J9_min_7cf53) (Nat.le_of_ble_eq_true rfl) (Nat.le_of_ble_eq_true rfl) (Nat.le_of_ble_eq_true rfl) (Nat.le_of_ble_eq_true rfl) dX4_stopOther_23 ?_
  refine va_put (D := D) (ci := 4) (v := .int (if (v1.2.2.2.1 + p2) < (3 : Int32) then (v1.2.2.2.1 + p2) else (3 : Int32))) (ty := .int) (C := RX4) (T := TX4) (N := 9) hx hb hts inA_X4 tyX4 tyX4_ok nmX4 hown hK hP hD hS 2 rfl rfl 3 (by decide) (hts _ kF_X4_27) (fun _ h9 => h9) rfl (tyX4_ok 3 (by decide)) rfl rfl (Nat.le_of_ble_eq_true rfl) dX4_stopOther_26 (fun H locs hP hD hS => ?_)
  have hP : va_P D vwCl [(ad 0, .inr (4, [.ref (ad 1), .int v.2.1, .int (0 : Int32), .int v.2.2.2.1, .int v.2.2.2.2.1, .int v.2.2.2.2.2.1, .int v.2.2.2.2.2.2.1, .int (v.2.2.2.2.2.2.2.1 + (1 : Int32)), .int v.2.2.2.2.2.2.2.2])), (ad 1, .inl (cI, 15, .inl v.1)), (ad1 0, .inr (4, [.ref (ad1 1), .int v1.2.1, .int v1.2.2.1, .int (if (v1.2.2.2.1 + p2) < (3 : Int32) then (v1.2.2.2.1 + p2) else (3 : Int32)), .int v1.2.2.2.2.1, .int v1.2.2.2.2.2.1, .int v1.2.2.2.2.2.2.1, .int v1.2.2.2.2.2.2.2.1, .int v1.2.2.2.2.2.2.2.2])), (ad1 1, .inl (cI, 15, .inl v1.1))] H := hP
  have hD : va_D A [(ad 0, .inr (4, [.ref (ad 1), .int v.2.1, .int (0 : Int32), .int v.2.2.2.1, .int v.2.2.2.2.1, .int v.2.2.2.2.2.1, .int v.2.2.2.2.2.2.1, .int (v.2.2.2.2.2.2.2.1 + (1 : Int32)), .int v.2.2.2.2.2.2.2.2])), (ad 1, .inl (cI, 15, .inl v.1)), (ad1 0, .inr (4, [.ref (ad1 1), .int v1.2.1, .int v1.2.2.1, .int (if (v1.2.2.2.1 + p2) < (3 : Int32) then (v1.2.2.2.1 + p2) else (3 : Int32)), .int v1.2.2.2.2.1, .int v1.2.2.2.2.2.1, .int v1.2.2.2.2.2.2.1, .int v1.2.2.2.2.2.2.2.1, .int v1.2.2.2.2.2.2.2.2])), (ad1 1, .inl (cI, 15, .inl v1.1))] := hD
  exact z_v hf (fun r => oX4 cI cR ad r.1 ++ oX4 cI cR ad1 r.2) hx hb hr hlk hS hP hD dX4_stopOther_29
def f_X4_loseTurn (v : tX4) : Option tX4 :=
  some (v.1, v.2.1, v.2.2.1, (v.2.2.2.1 - (1 : Int32)), v.2.2.2.2.1, (v.2.2.2.2.2.1 + (1 : Int32)), v.2.2.2.2.2.2.1, v.2.2.2.2.2.2.2.1, v.2.2.2.2.2.2.2.2)
abbrev rm_X4_loseTurn : Room := { frames := 0, cells := 0, slots := 0, locals := 0 }
set_option maxHeartbeats 4000000 in
set_option maxRecDepth 100000 in
theorem c_X4_loseTurn (l : Launch) (D : va_G) (cI cR : ClassId) (ad : Nat → Nat) (v : tX4) (sz : Nat) (r : tX4) (hf : f_X4_loseTurn v = some r) : Met l yX4_loseTurn (wM yX4_loseTurn cX4_loseTurn 1 none) rm_X4_loseTurn (cPre D (tysA cI cR) ([.ref (ad 0)] : List Value) (oX4 cI cR ad v) sz) (qV D (oX4 cI cR ad r) (va_A (oX4 cI cR ad v) sz)) 0 0 (va_A (oX4 cI cR ad v) sz) := by
  refine en_M (own := RX4) (lv := [(0, .ref (ad 0))]) (by decide +kernel) rfl (Nat.le_of_ble_eq_true rfl) rfl (fun p e s m below meth c hx hb hr hlk hml hown hnm hts hsz hP hK hD hN ls hl => ?_)
  subst hsz
  generalize hAe : va_A (oX4 cI cR ad v) s.heap.size = A at hD ⊢
  have hA : ∀ q : Nat, s.heap.size ≤ q → A q := fun q h => by rw [← hAe]; exact Or.inr h
  have hS : va_S A s.heap s.heap [] := va_S.rf
  have hP : va_P D vwCl [(ad 0, .inr (4, [.ref (ad 1), .int v.2.1, .int v.2.2.1, .int v.2.2.2.1, .int v.2.2.2.2.1, .int v.2.2.2.2.2.1, .int v.2.2.2.2.2.2.1, .int v.2.2.2.2.2.2.2.1, .int v.2.2.2.2.2.2.2.2])), (ad 1, .inl (cI, 15, .inl v.1))] s.heap := hP
  have hD : va_D A [(ad 0, .inr (4, [.ref (ad 1), .int v.2.1, .int v.2.2.1, .int v.2.2.2.1, .int v.2.2.2.2.1, .int v.2.2.2.2.2.1, .int v.2.2.2.2.2.2.1, .int v.2.2.2.2.2.2.2.1, .int v.2.2.2.2.2.2.2.2])), (ad 1, .inl (cI, 15, .inl v.1))] := hD
  unfold f_X4_loseTurn at hf
  refine lv_aload_n hx hb dX4_loseTurn_0 rfl (lv_at hl 0 rfl) ?_
  refine lv_dup hx hb dX4_loseTurn_1 rfl ?_
  refine va_get (D := D) (ci := 4) (v := .int v.2.2.2.1) (C := RX4) (T := TX4) (N := 9) hx hb hts inA_X4 hown hK hP 0 rfl rfl 3 (by decide) (hts _ kF_X4_27) (fun _ h9 => h9) rfl dX4_loseTurn_2 ?_
  refine lv_iconst (v := (1 : Int32)) hx hb dX4_loseTurn_5 (by decide) ?_
  refine lv_isub hx hb dX4_loseTurn_6 ?_
  refine va_put (D := D) (ci := 4) (v := .int (v.2.2.2.1 - (1 : Int32))) (ty := .int) (C := RX4) (T := TX4) (N := 9) hx hb hts inA_X4 tyX4 tyX4_ok nmX4 hown hK hP hD hS 0 rfl rfl 3 (by decide) (hts _ kF_X4_27) (fun _ h9 => h9) rfl (tyX4_ok 3 (by decide)) rfl rfl (Nat.le_of_ble_eq_true rfl) dX4_loseTurn_7 (fun H locs hP hD hS => ?_)
  have hP : va_P D vwCl [(ad 0, .inr (4, [.ref (ad 1), .int v.2.1, .int v.2.2.1, .int (v.2.2.2.1 - (1 : Int32)), .int v.2.2.2.2.1, .int v.2.2.2.2.2.1, .int v.2.2.2.2.2.2.1, .int v.2.2.2.2.2.2.2.1, .int v.2.2.2.2.2.2.2.2])), (ad 1, .inl (cI, 15, .inl v.1))] H := hP
  have hD : va_D A [(ad 0, .inr (4, [.ref (ad 1), .int v.2.1, .int v.2.2.1, .int (v.2.2.2.1 - (1 : Int32)), .int v.2.2.2.2.1, .int v.2.2.2.2.2.1, .int v.2.2.2.2.2.2.1, .int v.2.2.2.2.2.2.2.1, .int v.2.2.2.2.2.2.2.2])), (ad 1, .inl (cI, 15, .inl v.1))] := hD
  refine lv_aload_n hx hb dX4_loseTurn_10 rfl (lv_at hl 0 rfl) ?_
  refine lv_dup hx hb dX4_loseTurn_11 rfl ?_
  refine va_get (D := D) (ci := 4) (v := .int v.2.2.2.2.2.1) (C := RX4) (T := TX4) (N := 9) hx hb hts inA_X4 hown hK hP 0 rfl rfl 5 (by decide) (hts _ kF_X4_33) (fun _ h9 => h9) rfl dX4_loseTurn_12 ?_
  refine lv_iconst (v := (1 : Int32)) hx hb dX4_loseTurn_15 (by decide) ?_
  refine lv_iadd hx hb dX4_loseTurn_16 ?_
  refine va_put (D := D) (ci := 4) (v := .int (v.2.2.2.2.2.1 + (1 : Int32))) (ty := .int) (C := RX4) (T := TX4) (N := 9) hx hb hts inA_X4 tyX4 tyX4_ok nmX4 hown hK hP hD hS 0 rfl rfl 5 (by decide) (hts _ kF_X4_33) (fun _ h9 => h9) rfl (tyX4_ok 5 (by decide)) rfl rfl (Nat.le_of_ble_eq_true rfl) dX4_loseTurn_17 (fun H locs hP hD hS => ?_)
  have hP : va_P D vwCl [(ad 0, .inr (4, [.ref (ad 1), .int v.2.1, .int v.2.2.1, .int (v.2.2.2.1 - (1 : Int32)), .int v.2.2.2.2.1, .int (v.2.2.2.2.2.1 + (1 : Int32)), .int v.2.2.2.2.2.2.1, .int v.2.2.2.2.2.2.2.1, .int v.2.2.2.2.2.2.2.2])), (ad 1, .inl (cI, 15, .inl v.1))] H := hP
  have hD : va_D A [(ad 0, .inr (4, [.ref (ad 1), .int v.2.1, .int v.2.2.1, .int (v.2.2.2.1 - (1 : Int32)), .int v.2.2.2.2.1, .int (v.2.2.2.2.2.1 + (1 : Int32)), .int v.2.2.2.2.2.2.1, .int v.2.2.2.2.2.2.2.1, .int v.2.2.2.2.2.2.2.2])), (ad 1, .inl (cI, 15, .inl v.1))] := hD
  exact z_v hf (fun r => oX4 cI cR ad r) hx hb hr hlk hS hP hD dX4_loseTurn_20
def f_J9_floorMod_7cf53 (p0 : Int32) (p1 : Int32) : Option Int32 :=
  (if (p1 != 0) = true then (if 0 ≤ (p0 ^^^ p1) then some (p0 - p0 / p1 * p1) else (if (p0 - p0 / p1 * p1) = 0 then some (p0 - p0 / p1 * p1) else some ((p0 - p0 / p1 * p1) + p1))) else none)
abbrev rm_J9_floorMod_7cf53 : Room := { frames := 0, cells := 0, slots := 0, locals := 0 }
set_option maxHeartbeats 4000000 in
set_option maxRecDepth 100000 in
theorem c_J9_floorMod_7cf53 (l : Launch) (D : va_G) (cI cR : ClassId) (p0 : Int32) (p1 : Int32) (sz : Nat) (r : Int32) (hf : f_J9_floorMod_7cf53 p0 p1 = some r) : Met l yJ9_floorMod_7cf53 (wM yJ9_floorMod_7cf53 cJ9_floorMod_7cf53 3 (some (.int))) rm_J9_floorMod_7cf53 (cPre D (tysA cI cR) ([.int p0, .int p1] : List Value) (([] : va_W)) sz) (QcRead r) 0 0 (fun _ => False) := by
  refine en_M (own := RJ9) (lv := [(0, .int p0), (1, .int p1)]) (by decide +kernel) rfl (Nat.le_of_ble_eq_true rfl) rfl (fun p e s m below meth c hx hb hr hlk hml hown hnm hts hsz hP hK hD hN ls hl => ?_)
  generalize va_A (([] : va_W)) sz = A at hD
  have hP : va_P D vwCl [] s.heap := hP
  have hD : va_D A [] := hD
  unfold f_J9_floorMod_7cf53 at hf
  refine lv_iload_n hx hb dJ9_floorMod_7cf53_0 rfl (lv_at hl 0 rfl) ?_
  refine lv_iload_n hx hb dJ9_floorMod_7cf53_1 rfl (lv_at hl 1 rfl) ?_
  obtain ⟨g0, hf⟩ := gd hf
  refine lv_irem hx hb dJ9_floorMod_7cf53_2 (by simpa using g0) ?_
  refine lv_istore_n (lv' := [(2, .int (p0 - p0 / p1 * p1)), (0, .int p0), (1, .int p1)]) hx hb dJ9_floorMod_7cf53_3 rfl hl (by decide) rfl (fun ls hl => ?_)
  refine lv_iload_n hx hb dJ9_floorMod_7cf53_4 rfl (lv_at hl 1 rfl) ?_
  refine lv_iload_n hx hb dJ9_floorMod_7cf53_5 rfl (lv_at hl 2 rfl) ?_
  refine lv_ixor hx hb dJ9_floorMod_7cf53_6 ?_
  refine lv_if_ge (tgt := 18) hx hb dJ9_floorMod_7cf53_7 (by decide) (fun c0 => ?_) (fun c0 => ?_)
  · replace hf := gT hf c0
    refine lv_iload_n hx hb dJ9_floorMod_7cf53_18 rfl (lv_at hl 0 rfl) ?_
    exact z_r hf hx hb hr hlk dJ9_floorMod_7cf53_19
  · replace hf := gF hf c0
    refine lv_iload_n hx hb dJ9_floorMod_7cf53_10 rfl (lv_at hl 0 rfl) ?_
    refine lv_if_eq (tgt := 18) hx hb dJ9_floorMod_7cf53_11 (by decide) (fun c1 => ?_) (fun c1 => ?_)
    · replace hf := gT hf c1
      refine lv_iload_n hx hb dJ9_floorMod_7cf53_18 rfl (lv_at hl 0 rfl) ?_
      exact z_r hf hx hb hr hlk dJ9_floorMod_7cf53_19
    · replace hf := gF hf c1
      refine lv_iload_n hx hb dJ9_floorMod_7cf53_14 rfl (lv_at hl 0 rfl) ?_
      refine lv_iload_n hx hb dJ9_floorMod_7cf53_15 rfl (lv_at hl 2 rfl) ?_
      refine lv_iadd hx hb dJ9_floorMod_7cf53_16 ?_
      exact z_r hf hx hb hr hlk dJ9_floorMod_7cf53_17
def f_J6_bitCount_0f7a4 (p0 : Int32) : Option Int32 :=
  some ((((((((p0 - ((ius p0 (1 : Int32)) &&& (1431655765 : Int32))) &&& (858993459 : Int32)) + ((ius (p0 - ((ius p0 (1 : Int32)) &&& (1431655765 : Int32))) (2 : Int32)) &&& (858993459 : Int32))) + (ius (((p0 - ((ius p0 (1 : Int32)) &&& (1431655765 : Int32))) &&& (858993459 : Int32)) + ((ius (p0 - ((ius p0 (1 : Int32)) &&& (1431655765 : Int32))) (2 : Int32)) &&& (858993459 : Int32))) (4 : Int32))) &&& (252645135 : Int32)) + (ius (((((p0 - ((ius p0 (1 : Int32)) &&& (1431655765 : Int32))) &&& (858993459 : Int32)) + ((ius (p0 - ((ius p0 (1 : Int32)) &&& (1431655765 : Int32))) (2 : Int32)) &&& (858993459 : Int32))) + (ius (((p0 - ((ius p0 (1 : Int32)) &&& (1431655765 : Int32))) &&& (858993459 : Int32)) + ((ius (p0 - ((ius p0 (1 : Int32)) &&& (1431655765 : Int32))) (2 : Int32)) &&& (858993459 : Int32))) (4 : Int32))) &&& (252645135 : Int32)) (8 : Int32))) + (ius ((((((p0 - ((ius p0 (1 : Int32)) &&& (1431655765 : Int32))) &&& (858993459 : Int32)) + ((ius (p0 - ((ius p0 (1 : Int32)) &&& (1431655765 : Int32))) (2 : Int32)) &&& (858993459 : Int32))) + (ius (((p0 - ((ius p0 (1 : Int32)) &&& (1431655765 : Int32))) &&& (858993459 : Int32)) + ((ius (p0 - ((ius p0 (1 : Int32)) &&& (1431655765 : Int32))) (2 : Int32)) &&& (858993459 : Int32))) (4 : Int32))) &&& (252645135 : Int32)) + (ius (((((p0 - ((ius p0 (1 : Int32)) &&& (1431655765 : Int32))) &&& (858993459 : Int32)) + ((ius (p0 - ((ius p0 (1 : Int32)) &&& (1431655765 : Int32))) (2 : Int32)) &&& (858993459 : Int32))) + (ius (((p0 - ((ius p0 (1 : Int32)) &&& (1431655765 : Int32))) &&& (858993459 : Int32)) + ((ius (p0 - ((ius p0 (1 : Int32)) &&& (1431655765 : Int32))) (2 : Int32)) &&& (858993459 : Int32))) (4 : Int32))) &&& (252645135 : Int32)) (8 : Int32))) (16 : Int32))) &&& (63 : Int32))
abbrev rm_J6_bitCount_0f7a4 : Room := { frames := 0, cells := 0, slots := 0, locals := 0 }
set_option maxHeartbeats 4000000 in
set_option maxRecDepth 100000 in
theorem c_J6_bitCount_0f7a4 (l : Launch) (D : va_G) (cI cR : ClassId) (p0 : Int32) (sz : Nat) (r : Int32) (hf : f_J6_bitCount_0f7a4 p0 = some r) : Met l yJ6_bitCount_0f7a4 (wM yJ6_bitCount_0f7a4 cJ6_bitCount_0f7a4 1 (some (.int))) rm_J6_bitCount_0f7a4 (cPre D (tysA cI cR) ([.int p0] : List Value) (([] : va_W)) sz) (QcRead r) 0 0 (fun _ => False) := by
  refine en_M (own := RJ6) (lv := [(0, .int p0)]) (by decide +kernel) rfl (Nat.le_of_ble_eq_true rfl) rfl (fun p e s m below meth c hx hb hr hlk hml hown hnm hts hsz hP hK hD hN ls hl => ?_)
  generalize va_A (([] : va_W)) sz = A at hD
  have hP : va_P D vwCl [] s.heap := hP
  have hD : va_D A [] := hD
  unfold f_J6_bitCount_0f7a4 at hf
  refine lv_iload_n hx hb dJ6_bitCount_0f7a4_0 rfl (lv_at hl 0 rfl) ?_
  refine lv_iload_n hx hb dJ6_bitCount_0f7a4_1 rfl (lv_at hl 0 rfl) ?_
  refine lv_iconst (v := (1 : Int32)) hx hb dJ6_bitCount_0f7a4_2 (by decide) ?_
  refine lv_iushr (v := (ius p0 (1 : Int32))) hx hb dJ6_bitCount_0f7a4_3 rfl ?_
  refine lv_ldcw (v := (1431655765 : Int32)) hx hb hown (hts _ kQ_J6_265) dJ6_bitCount_0f7a4_4 ?_
  refine lv_iand hx hb dJ6_bitCount_0f7a4_7 ?_
  refine lv_isub hx hb dJ6_bitCount_0f7a4_8 ?_
  refine lv_istore_n (lv' := [(0, .int (p0 - ((ius p0 (1 : Int32)) &&& (1431655765 : Int32))))]) hx hb dJ6_bitCount_0f7a4_9 rfl hl (by decide) rfl (fun ls hl => ?_)
  refine lv_iload_n hx hb dJ6_bitCount_0f7a4_10 rfl (lv_at hl 0 rfl) ?_
  refine lv_ldcw (v := (858993459 : Int32)) hx hb hown (hts _ kQ_J6_266) dJ6_bitCount_0f7a4_11 ?_
  refine lv_iand hx hb dJ6_bitCount_0f7a4_14 ?_
  refine lv_iload_n hx hb dJ6_bitCount_0f7a4_15 rfl (lv_at hl 0 rfl) ?_
  refine lv_iconst (v := (2 : Int32)) hx hb dJ6_bitCount_0f7a4_16 (by decide) ?_
  refine lv_iushr (v := (ius (p0 - ((ius p0 (1 : Int32)) &&& (1431655765 : Int32))) (2 : Int32))) hx hb dJ6_bitCount_0f7a4_17 rfl ?_
  refine lv_ldcw (v := (858993459 : Int32)) hx hb hown (hts _ kQ_J6_266) dJ6_bitCount_0f7a4_18 ?_
  refine lv_iand hx hb dJ6_bitCount_0f7a4_21 ?_
  refine lv_iadd hx hb dJ6_bitCount_0f7a4_22 ?_
  refine lv_istore_n (lv' := [(0, .int (((p0 - ((ius p0 (1 : Int32)) &&& (1431655765 : Int32))) &&& (858993459 : Int32)) + ((ius (p0 - ((ius p0 (1 : Int32)) &&& (1431655765 : Int32))) (2 : Int32)) &&& (858993459 : Int32))))]) hx hb dJ6_bitCount_0f7a4_23 rfl hl (by decide) rfl (fun ls hl => ?_)
  refine lv_iload_n hx hb dJ6_bitCount_0f7a4_24 rfl (lv_at hl 0 rfl) ?_
  refine lv_iload_n hx hb dJ6_bitCount_0f7a4_25 rfl (lv_at hl 0 rfl) ?_
  refine lv_iconst (v := (4 : Int32)) hx hb dJ6_bitCount_0f7a4_26 (by decide) ?_
  refine lv_iushr (v := (ius (((p0 - ((ius p0 (1 : Int32)) &&& (1431655765 : Int32))) &&& (858993459 : Int32)) + ((ius (p0 - ((ius p0 (1 : Int32)) &&& (1431655765 : Int32))) (2 : Int32)) &&& (858993459 : Int32))) (4 : Int32))) hx hb dJ6_bitCount_0f7a4_27 rfl ?_
  refine lv_iadd hx hb dJ6_bitCount_0f7a4_28 ?_
  refine lv_ldcw (v := (252645135 : Int32)) hx hb hown (hts _ kQ_J6_267) dJ6_bitCount_0f7a4_29 ?_
  refine lv_iand hx hb dJ6_bitCount_0f7a4_32 ?_
  refine lv_istore_n (lv' := [(0, .int (((((p0 - ((ius p0 (1 : Int32)) &&& (1431655765 : Int32))) &&& (858993459 : Int32)) + ((ius (p0 - ((ius p0 (1 : Int32)) &&& (1431655765 : Int32))) (2 : Int32)) &&& (858993459 : Int32))) + (ius (((p0 - ((ius p0 (1 : Int32)) &&& (1431655765 : Int32))) &&& (858993459 : Int32)) + ((ius (p0 - ((ius p0 (1 : Int32)) &&& (1431655765 : Int32))) (2 : Int32)) &&& (858993459 : Int32))) (4 : Int32))) &&& (252645135 : Int32)))]) hx hb dJ6_bitCount_0f7a4_33 rfl hl (by decide) rfl (fun ls hl => ?_)
  refine lv_iload_n hx hb dJ6_bitCount_0f7a4_34 rfl (lv_at hl 0 rfl) ?_
  refine lv_iload_n hx hb dJ6_bitCount_0f7a4_35 rfl (lv_at hl 0 rfl) ?_
  refine lv_bipush (v := (8 : Int32)) hx hb dJ6_bitCount_0f7a4_36 (by decide) ?_
  refine lv_iushr (v := (ius (((((p0 - ((ius p0 (1 : Int32)) &&& (1431655765 : Int32))) &&& (858993459 : Int32)) + ((ius (p0 - ((ius p0 (1 : Int32)) &&& (1431655765 : Int32))) (2 : Int32)) &&& (858993459 : Int32))) + (ius (((p0 - ((ius p0 (1 : Int32)) &&& (1431655765 : Int32))) &&& (858993459 : Int32)) + ((ius (p0 - ((ius p0 (1 : Int32)) &&& (1431655765 : Int32))) (2 : Int32)) &&& (858993459 : Int32))) (4 : Int32))) &&& (252645135 : Int32)) (8 : Int32))) hx hb dJ6_bitCount_0f7a4_38 rfl ?_
  refine lv_iadd hx hb dJ6_bitCount_0f7a4_39 ?_
  refine lv_istore_n (lv' := [(0, .int ((((((p0 - ((ius p0 (1 : Int32)) &&& (1431655765 : Int32))) &&& (858993459 : Int32)) + ((ius (p0 - ((ius p0 (1 : Int32)) &&& (1431655765 : Int32))) (2 : Int32)) &&& (858993459 : Int32))) + (ius (((p0 - ((ius p0 (1 : Int32)) &&& (1431655765 : Int32))) &&& (858993459 : Int32)) + ((ius (p0 - ((ius p0 (1 : Int32)) &&& (1431655765 : Int32))) (2 : Int32)) &&& (858993459 : Int32))) (4 : Int32))) &&& (252645135 : Int32)) + (ius (((((p0 - ((ius p0 (1 : Int32)) &&& (1431655765 : Int32))) &&& (858993459 : Int32)) + ((ius (p0 - ((ius p0 (1 : Int32)) &&& (1431655765 : Int32))) (2 : Int32)) &&& (858993459 : Int32))) + (ius (((p0 - ((ius p0 (1 : Int32)) &&& (1431655765 : Int32))) &&& (858993459 : Int32)) + ((ius (p0 - ((ius p0 (1 : Int32)) &&& (1431655765 : Int32))) (2 : Int32)) &&& (858993459 : Int32))) (4 : Int32))) &&& (252645135 : Int32)) (8 : Int32))))]) hx hb dJ6_bitCount_0f7a4_40 rfl hl (by decide) rfl (fun ls hl => ?_)
  refine lv_iload_n hx hb dJ6_bitCount_0f7a4_41 rfl (lv_at hl 0 rfl) ?_
  refine lv_iload_n hx hb dJ6_bitCount_0f7a4_42 rfl (lv_at hl 0 rfl) ?_
  refine lv_bipush (v := (16 : Int32)) hx hb dJ6_bitCount_0f7a4_43 (by decide) ?_
  refine lv_iushr (v := (ius ((((((p0 - ((ius p0 (1 : Int32)) &&& (1431655765 : Int32))) &&& (858993459 : Int32)) + ((ius (p0 - ((ius p0 (1 : Int32)) &&& (1431655765 : Int32))) (2 : Int32)) &&& (858993459 : Int32))) + (ius (((p0 - ((ius p0 (1 : Int32)) &&& (1431655765 : Int32))) &&& (858993459 : Int32)) + ((ius (p0 - ((ius p0 (1 : Int32)) &&& (1431655765 : Int32))) (2 : Int32)) &&& (858993459 : Int32))) (4 : Int32))) &&& (252645135 : Int32)) + (ius (((((p0 - ((ius p0 (1 : Int32)) &&& (1431655765 : Int32))) &&& (858993459 : Int32)) + ((ius (p0 - ((ius p0 (1 : Int32)) &&& (1431655765 : Int32))) (2 : Int32)) &&& (858993459 : Int32))) + (ius (((p0 - ((ius p0 (1 : Int32)) &&& (1431655765 : Int32))) &&& (858993459 : Int32)) + ((ius (p0 - ((ius p0 (1 : Int32)) &&& (1431655765 : Int32))) (2 : Int32)) &&& (858993459 : Int32))) (4 : Int32))) &&& (252645135 : Int32)) (8 : Int32))) (16 : Int32))) hx hb dJ6_bitCount_0f7a4_45 rfl ?_
  refine lv_iadd hx hb dJ6_bitCount_0f7a4_46 ?_
  refine lv_istore_n (lv' := [(0, .int (((((((p0 - ((ius p0 (1 : Int32)) &&& (1431655765 : Int32))) &&& (858993459 : Int32)) + ((ius (p0 - ((ius p0 (1 : Int32)) &&& (1431655765 : Int32))) (2 : Int32)) &&& (858993459 : Int32))) + (ius (((p0 - ((ius p0 (1 : Int32)) &&& (1431655765 : Int32))) &&& (858993459 : Int32)) + ((ius (p0 - ((ius p0 (1 : Int32)) &&& (1431655765 : Int32))) (2 : Int32)) &&& (858993459 : Int32))) (4 : Int32))) &&& (252645135 : Int32)) + (ius (((((p0 - ((ius p0 (1 : Int32)) &&& (1431655765 : Int32))) &&& (858993459 : Int32)) + ((ius (p0 - ((ius p0 (1 : Int32)) &&& (1431655765 : Int32))) (2 : Int32)) &&& (858993459 : Int32))) + (ius (((p0 - ((ius p0 (1 : Int32)) &&& (1431655765 : Int32))) &&& (858993459 : Int32)) + ((ius (p0 - ((ius p0 (1 : Int32)) &&& (1431655765 : Int32))) (2 : Int32)) &&& (858993459 : Int32))) (4 : Int32))) &&& (252645135 : Int32)) (8 : Int32))) + (ius ((((((p0 - ((ius p0 (1 : Int32)) &&& (1431655765 : Int32))) &&& (858993459 : Int32)) + ((ius (p0 - ((ius p0 (1 : Int32)) &&& (1431655765 : Int32))) (2 : Int32)) &&& (858993459 : Int32))) + (ius (((p0 - ((ius p0 (1 : Int32)) &&& (1431655765 : Int32))) &&& (858993459 : Int32)) + ((ius (p0 - ((ius p0 (1 : Int32)) &&& (1431655765 : Int32))) (2 : Int32)) &&& (858993459 : Int32))) (4 : Int32))) &&& (252645135 : Int32)) + (ius (((((p0 - ((ius p0 (1 : Int32)) &&& (1431655765 : Int32))) &&& (858993459 : Int32)) + ((ius (p0 - ((ius p0 (1 : Int32)) &&& (1431655765 : Int32))) (2 : Int32)) &&& (858993459 : Int32))) + (ius (((p0 - ((ius p0 (1 : Int32)) &&& (1431655765 : Int32))) &&& (858993459 : Int32)) + ((ius (p0 - ((ius p0 (1 : Int32)) &&& (1431655765 : Int32))) (2 : Int32)) &&& (858993459 : Int32))) (4 : Int32))) &&& (252645135 : Int32)) (8 : Int32))) (16 : Int32))))]) hx hb dJ6_bitCount_0f7a4_47 rfl hl (by decide) rfl (fun ls hl => ?_)
  refine lv_iload_n hx hb dJ6_bitCount_0f7a4_48 rfl (lv_at hl 0 rfl) ?_
  refine lv_bipush (v := (63 : Int32)) hx hb dJ6_bitCount_0f7a4_49 (by decide) ?_
  refine lv_iand hx hb dJ6_bitCount_0f7a4_51 ?_
  exact z_r hf hx hb hr hlk dJ6_bitCount_0f7a4_52

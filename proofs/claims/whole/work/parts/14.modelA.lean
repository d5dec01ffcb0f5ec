def f_X7_end (v : tX7) : Option Int32 :=
  some ((v.2.1 2) + (1 : Int32))
abbrev rm_X7_end : Room := { frames := 0, cells := 0, slots := 0, locals := 0 }
set_option maxHeartbeats 4000000 in
set_option maxRecDepth 100000 in
theorem c_X7_end (l : Launch) (D : va_G) (cI cR : ClassId) (ad : Nat → Nat) (v : tX7) (sz : Nat) (r : Int32) (hf : f_X7_end v = some r) : Met l yX7_end (wM yX7_end cX7_end 1 (some (.int))) rm_X7_end (cPre D (tysA cI cR) ([.ref (ad 0)] : List Value) (oX7 cI cR ad v) sz) (QcRead r) 0 0 (fun _ => False) := by
  refine en_M (own := RX7) (lv := [(0, .ref (ad 0))]) (by decide +kernel) rfl (Nat.le_of_ble_eq_true rfl) rfl (fun p e s m below meth c hx hb hr hlk hml hown hnm hts hsz hP hK hD hN ls hl => ?_)
  generalize va_A (oX7 cI cR ad v) sz = A at hD
  have hP : va_P D vwCl [(ad 0, .inr (7, [.int v.1, .ref (ad 1), .ref (ad 2), .ref (ad 3), .int v.2.2.2.2.1, .ref (ad 4), .int v.2.2.2.2.2.2.1, .ref (ad 5), .int v.2.2.2.2.2.2.2.2.1, .int v.2.2.2.2.2.2.2.2.2.1, .int v.2.2.2.2.2.2.2.2.2.2.1, .ref (ad 6), .int v.2.2.2.2.2.2.2.2.2.2.2.2.1, .int v.2.2.2.2.2.2.2.2.2.2.2.2.2.1, .int v.2.2.2.2.2.2.2.2.2.2.2.2.2.2.1, .int v.2.2.2.2.2.2.2.2.2.2.2.2.2.2.2.1, .int v.2.2.2.2.2.2.2.2.2.2.2.2.2.2.2.2.1, .int v.2.2.2.2.2.2.2.2.2.2.2.2.2.2.2.2.2])), (ad 1, .inl (cI, 72, .inl v.2.1)), (ad 2, .inl (cI, 72, .inl v.2.2.1)), (ad 3, .inl (cI, 288, .inl v.2.2.2.1)), (ad 4, .inl (cI, 72, .inl v.2.2.2.2.2.1)), (ad 5, .inl (cI, 60, .inl v.2.2.2.2.2.2.2.1)), (ad 6, .inl (cI, 32768, .inl v.2.2.2.2.2.2.2.2.2.2.2.1))] s.heap := hP
  have hD : va_D A [(ad 0, .inr (7, [.int v.1, .ref (ad 1), .ref (ad 2), .ref (ad 3), .int v.2.2.2.2.1, .ref (ad 4), .int v.2.2.2.2.2.2.1, .ref (ad 5), .int v.2.2.2.2.2.2.2.2.1, .int v.2.2.2.2.2.2.2.2.2.1, .int v.2.2.2.2.2.2.2.2.2.2.1, .ref (ad 6), .int v.2.2.2.2.2.2.2.2.2.2.2.2.1, .int v.2.2.2.2.2.2.2.2.2.2.2.2.2.1, .int v.2.2.2.2.2.2.2.2.2.2.2.2.2.2.1, .int v.2.2.2.2.2.2.2.2.2.2.2.2.2.2.2.1, .int v.2.2.2.2.2.2.2.2.2.2.2.2.2.2.2.2.1, .int v.2.2.2.2.2.2.2.2.2.2.2.2.2.2.2.2.2])), (ad 1, .inl (cI, 72, .inl v.2.1)), (ad 2, .inl (cI, 72, .inl v.2.2.1)), (ad 3, .inl (cI, 288, .inl v.2.2.2.1)), (ad 4, .inl (cI, 72, .inl v.2.2.2.2.2.1)), (ad 5, .inl (cI, 60, .inl v.2.2.2.2.2.2.2.1)), (ad 6, .inl (cI, 32768, .inl v.2.2.2.2.2.2.2.2.2.2.2.1))] := hD
  unfold f_X7_end at hf
  refine lv_aload_n hx hb dX7_end_0 rfl (lv_at hl 0 rfl) ?_
  refine va_get (D := D) (ci := 7) (v := .ref (ad 1)) (C := RX7) (T := TX7) (N := 18) hx hb hts inA_X7 hown hK hP 0 rfl rfl 1 (by decide) (hts _ kF_X7_7) (fun _ h9 => h9) rfl dX7_end_1 ?_
  refine lv_iconst (v := (2 : Int32)) hx hb dX7_end_4 (by decide) ?_
  refine va_iald hx hb hK hP 1 0 rfl rfl (ig_in (by decide)) dX7_end_5 ?_
  refine W.eq (g2 := F0 m 6 ls [.int (v.2.1 2)]) rfl ?_
  refine lv_iconst (v := (1 : Int32)) hx hb dX7_end_6 (by decide) ?_
  refine lv_iadd hx hb dX7_end_7 ?_
  exact z_r hf hx hb hr hlk dX7_end_8
def f_X7_visits (v : tX7) (p1 : Int32) : Option tX7 :=
  (if p1 = (-4 : Int32) then some v else (f_X7_end v).bind fun x0 => (if x0 ≤ v.2.2.2.2.2.2.2.2.2.2.2.2.2.1 then some v else (if ig (((39 : Int32) + ((2 : Int32) * (v.2.2.2.2.2.2.2.2.2.2.2.2.2.1 - (1 : Int32)))) + p1) 72 = true then (if ig (((39 : Int32) + ((2 : Int32) * (v.2.2.2.2.2.2.2.2.2.2.2.2.2.1 - (1 : Int32)))) + p1) 72 = true then some (v.1, (upd v.2.1 (((39 : Int32) + ((2 : Int32) * (v.2.2.2.2.2.2.2.2.2.2.2.2.2.1 - (1 : Int32)))) + p1).toNatClampNeg ((v.2.1 (((39 : Int32) + ((2 : Int32) * (v.2.2.2.2.2.2.2.2.2.2.2.2.2.1 - (1 : Int32)))) + p1).toNatClampNeg) + (1 : Int32))), v.2.2.1, v.2.2.2.1, v.2.2.2.2.1, v.2.2.2.2.2.1, v.2.2.2.2.2.2.1, v.2.2.2.2.2.2.2.1, v.2.2.2.2.2.2.2.2.1, v.2.2.2.2.2.2.2.2.2.1, v.2.2.2.2.2.2.2.2.2.2.1, v.2.2.2.2.2.2.2.2.2.2.2.1, v.2.2.2.2.2.2.2.2.2.2.2.2.1, v.2.2.2.2.2.2.2.2.2.2.2.2.2.1, v.2.2.2.2.2.2.2.2.2.2.2.2.2.2.1, v.2.2.2.2.2.2.2.2.2.2.2.2.2.2.2.1, v.2.2.2.2.2.2.2.2.2.2.2.2.2.2.2.2.1, v.2.2.2.2.2.2.2.2.2.2.2.2.2.2.2.2.2) else none) else none)))
abbrev rm_X7_visits : Room := { frames := 1, cells := 0, slots := 0, locals := 20 }
set_option maxHeartbeats 4000000 in
set_option maxRecDepth 100000 in
theorem c_X7_visits (l : Launch) (D : va_G) (cI cR : ClassId) (ad : Nat → Nat) (v : tX7) (p1 : Int32) (sz : Nat) (r : tX7) (hf : f_X7_visits v p1 = some r) : Met l yX7_visits (wM yX7_visits cX7_visits 2 none) rm_X7_visits (cPre D (tysA cI cR) ([.ref (ad 0), .int p1] : List Value) (oX7 cI cR ad v) sz) (qV D (oX7 cI cR ad r) (va_A (oX7 cI cR ad v) sz)) 0 0 (va_A (oX7 cI cR ad v) sz) := by
  refine en_M (own := RX7) (lv := [(0, .ref (ad 0)), (1, .int p1)]) (by decide +kernel) rfl (Nat.le_of_ble_eq_true rfl) rfl (fun p e s m below meth c hx hb hr hlk hml hown hnm hts hsz hP hK hD hN ls hl => ?_)
  subst hsz
  generalize hAe : va_A (oX7 cI cR ad v) s.heap.size = A at hD ⊢
  have hA : ∀ q : Nat, s.heap.size ≤ q → A q := fun q h => by rw [← hAe]; exact Or.inr h
  have hS : va_S A s.heap s.heap [] := va_S.rf
  have hP : va_P D vwCl [(ad 0, .inr (7, [.int v.1, .ref (ad 1), .ref (ad 2), .ref (ad 3), .int v.2.2.2.2.1, .ref (ad 4), .int v.2.2.2.2.2.2.1, .ref (ad 5), .int v.2.2.2.2.2.2.2.2.1, .int v.2.2.2.2.2.2.2.2.2.1, .int v.2.2.2.2.2.2.2.2.2.2.1, .ref (ad 6), .int v.2.2.2.2.2.2.2.2.2.2.2.2.1, .int v.2.2.2.2.2.2.2.2.2.2.2.2.2.1, .int v.2.2.2.2.2.2.2.2.2.2.2.2.2.2.1, .int v.2.2.2.2.2.2.2.2.2.2.2.2.2.2.2.1, .int v.2.2.2.2.2.2.2.2.2.2.2.2.2.2.2.2.1, .int v.2.2.2.2.2.2.2.2.2.2.2.2.2.2.2.2.2])), (ad 1, .inl (cI, 72, .inl v.2.1)), (ad 2, .inl (cI, 72, .inl v.2.2.1)), (ad 3, .inl (cI, 288, .inl v.2.2.2.1)), (ad 4, .inl (cI, 72, .inl v.2.2.2.2.2.1)), (ad 5, .inl (cI, 60, .inl v.2.2.2.2.2.2.2.1)), (ad 6, .inl (cI, 32768, .inl v.2.2.2.2.2.2.2.2.2.2.2.1))] s.heap := hP
  have hD : va_D A [(ad 0, .inr (7, [.int v.1, .ref (ad 1), .ref (ad 2), .ref (ad 3), .int v.2.2.2.2.1, .ref (ad 4), .int v.2.2.2.2.2.2.1, .ref (ad 5), .int v.2.2.2.2.2.2.2.2.1, .int v.2.2.2.2.2.2.2.2.2.1, .int v.2.2.2.2.2.2.2.2.2.2.1, .ref (ad 6), .int v.2.2.2.2.2.2.2.2.2.2.2.2.1, .int v.2.2.2.2.2.2.2.2.2.2.2.2.2.1, .int v.2.2.2.2.2.2.2.2.2.2.2.2.2.2.1, .int v.2.2.2.2.2.2.2.2.2.2.2.2.2.2.2.1, .int v.2.2.2.2.2.2.2.2.2.2.2.2.2.2.2.2.1, .int v.2.2.2.2.2.2.2.2.2.2.2.2.2.2.2.2.2])), (ad 1, .inl (cI, 72, .inl v.2.1)), (ad 2, .inl (cI, 72, .inl v.2.2.1)), (ad 3, .inl (cI, 288, .inl v.2.2.2.1)), (ad 4, .inl (cI, 72, .inl v.2.2.2.2.2.1)), (ad 5, .inl (cI, 60, .inl v.2.2.2.2.2.2.2.1)), (ad 6, .inl (cI, 32768, .inl v.2.2.2.2.2.2.2.2.2.2.2.1))] := hD
  unfold f_X7_visits at hf
  refine lv_iload_n hx hb dX7_visits_0 rfl (lv_at hl 1 rfl) ?_
  refine lv_bipush (v := (-4 : Int32)) hx hb dX7_visits_1 (by decide) ?_
  refine lv_icmp_eq (tgt := 39) hx hb dX7_visits_3 (by decide) (fun c0 => ?_) (fun c0 => ?_)
  · replace hf := gT hf c0
    exact z_v hf (fun r => oX7 cI cR ad r) hx hb hr hlk hS hP hD dX7_visits_39
  · replace hf := gF hf c0
    refine lv_aload_n hx hb dX7_visits_6 rfl (lv_at hl 0 rfl) ?_
    refine va_get (D := D) (ci := 7) (v := .int v.2.2.2.2.2.2.2.2.2.2.2.2.2.1) (C := RX7) (T := TX7) (N := 18) hx hb hts inA_X7 hown hK hP 0 rfl rfl 13 (by decide) (hts _ kF_X7_63) (fun _ h9 => h9) rfl dX7_visits_7 ?_
    refine lv_aload_n hx hb dX7_visits_10 rfl (lv_at hl 0 rfl) ?_
    obtain ⟨x0, hcx0, hf⟩ := gB hf
    refine k_r (r_V (As := []) (rest := [.int v.2.2.2.2.2.2.2.2.2.2.2.2.2.1]) (n := 0) ⟨hx, hb, hml, hown, hts⟩ (c_X7_end l D cI cR ad v _ x0 hcx0) kM_X7_53 kN_X7_end kV_X7_end kZ_X7 kK_X7_end ⟨rfl, rfl⟩ ⟨(Nat.le_of_ble_eq_true rfl), (Nat.le_of_ble_eq_true rfl)⟩ pd_X7_end rfl hK hN hP hD [0, 1, 2, 3, 4, 5, 6] rfl rfl 0 7 rfl rfl rfl hl.1 (Nat.le_of_ble_eq_true rfl) dX7_visits_11 ⟨(Nat.le_of_ble_eq_true rfl), (Nat.le_of_ble_eq_true rfl)⟩) ?_
    refine lv_icmp_ge (tgt := 39) hx hb dX7_visits_14 (by decide) (fun c1 => ?_) (fun c1 => ?_)
    · replace hf := gT hf c1
      exact z_v hf (fun r => oX7 cI cR ad r) hx hb hr hlk hS hP hD dX7_visits_39
    · replace hf := gF hf c1
      refine lv_aload_n hx hb dX7_visits_17 rfl (lv_at hl 0 rfl) ?_
      refine va_get (D := D) (ci := 7) (v := .ref (ad 1)) (C := RX7) (T := TX7) (N := 18) hx hb hts inA_X7 hown hK hP 0 rfl rfl 1 (by decide) (hts _ kF_X7_7) (fun _ h9 => h9) rfl dX7_visits_18 ?_
      refine lv_bipush (v := (39 : Int32)) hx hb dX7_visits_21 (by decide) ?_
      refine lv_iconst (v := (2 : Int32)) hx hb dX7_visits_23 (by decide) ?_
      refine lv_aload_n hx hb dX7_visits_24 rfl (lv_at hl 0 rfl) ?_
      refine va_get (D := D) (ci := 7) (v := .int v.2.2.2.2.2.2.2.2.2.2.2.2.2.1) (C := RX7) (T := TX7) (N := 18) hx hb hts inA_X7 hown hK hP 0 rfl rfl 13 (by decide) (hts _ kF_X7_63) (fun _ h9 => h9) rfl dX7_visits_25 ?_
      refine lv_iconst (v := (1 : Int32)) hx hb dX7_visits_28 (by decide) ?_
      refine lv_isub hx hb dX7_visits_29 ?_
      refine lv_imul hx hb dX7_visits_30 ?_
      refine lv_iadd hx hb dX7_visits_31 ?_
      refine lv_iload_n hx hb dX7_visits_32 rfl (lv_at hl 1 rfl) ?_
      refine lv_iadd hx hb dX7_visits_33 ?_
      refine lv_dup2_11 hx hb dX7_visits_34 rfl rfl ?_
      obtain ⟨g0, hf⟩ := gd hf
      refine va_iald hx hb hK hP 1 0 rfl rfl (ig_in g0) dX7_visits_35 ?_
      refine lv_iconst (v := (1 : Int32)) hx hb dX7_visits_36 (by decide) ?_
      refine lv_iadd hx hb dX7_visits_37 ?_
      obtain ⟨g0, hf⟩ := gd hf
      refine va_iast hx hb hK hP hD hS 1 0 rfl rfl (ig_in g0) dX7_visits_38 (fun H locs hP hD hS => ?_)
      have hP : va_P D vwCl [(ad 0, .inr (7, [.int v.1, .ref (ad 1), .ref (ad 2), .ref (ad 3), .int v.2.2.2.2.1, .ref (ad 4), .int v.2.2.2.2.2.2.1, .ref (ad 5), .int v.2.2.2.2.2.2.2.2.1, .int v.2.2.2.2.2.2.2.2.2.1, .int v.2.2.2.2.2.2.2.2.2.2.1, .ref (ad 6), .int v.2.2.2.2.2.2.2.2.2.2.2.2.1, .int v.2.2.2.2.2.2.2.2.2.2.2.2.2.1, .int v.2.2.2.2.2.2.2.2.2.2.2.2.2.2.1, .int v.2.2.2.2.2.2.2.2.2.2.2.2.2.2.2.1, .int v.2.2.2.2.2.2.2.2.2.2.2.2.2.2.2.2.1, .int v.2.2.2.2.2.2.2.2.2.2.2.2.2.2.2.2.2])), (ad 1, .inl (cI, 72, .inl (upd v.2.1 (((39 : Int32) + ((2 : Int32) * (v.2.2.2.2.2.2.2.2.2.2.2.2.2.1 - (1 : Int32)))) + p1).toNatClampNeg ((v.2.1 (((39 : Int32) + ((2 : Int32) * (v.2.2.2.2.2.2.2.2.2.2.2.2.2.1 - (1 : Int32)))) + p1).toNatClampNeg) + (1 : Int32))))), (ad 2, .inl (cI, 72, .inl v.2.2.1)), (ad 3, .inl (cI, 288, .inl v.2.2.2.1)), (ad 4, .inl (cI, 72, .inl v.2.2.2.2.2.1)), (ad 5, .inl (cI, 60, .inl v.2.2.2.2.2.2.2.1)), (ad 6, .inl (cI, 32768, .inl v.2.2.2.2.2.2.2.2.2.2.2.1))] H := hP
      have hD : va_D A [(ad 0, .inr (7, [.int v.1, .ref (ad 1), .ref (ad 2), .ref (ad 3), .int v.2.2.2.2.1, .ref (ad 4), .int v.2.2.2.2.2.2.1, .ref (ad 5), .int v.2.2.2.2.2.2.2.2.1, .int v.2.2.2.2.2.2.2.2.2.1, .int v.2.2.2.2.2.2.2.2.2.2.1, .ref (ad 6), .int v.2.2.2.2.2.2.2.2.2.2.2.2.1, .int v.2.2.2.2.2.2.2.2.2.2.2.2.2.1, .int v.2.2.2.2.2.2.2.2.2.2.2.2.2.2.1, .int v.2.2.2.2.2.2.2.2.2.2.2.2.2.2.2.1, .int v.2.2.2.2.2.2.2.2.2.2.2.2.2.2.2.2.1, .int v.2.2.2.2.2.2.2.2.2.2.2.2.2.2.2.2.2])), (ad 1, .inl (cI, 72, .inl (upd v.2.1 (((39 : Int32) + ((2 : Int32) * (v.2.2.2.2.2.2.2.2.2.2.2.2.2.1 - (1 : Int32)))) + p1).toNatClampNeg ((v.2.1 (((39 : Int32) + ((2 : Int32) * (v.2.2.2.2.2.2.2.2.2.2.2.2.2.1 - (1 : Int32)))) + p1).toNatClampNeg) + (1 : Int32))))), (ad 2, .inl (cI, 72, .inl v.2.2.1)), (ad 3, .inl (cI, 288, .inl v.2.2.2.1)), (ad 4, .inl (cI, 72, .inl v.2.2.2.2.2.1)), (ad 5, .inl (cI, 60, .inl v.2.2.2.2.2.2.2.1)), (ad 6, .inl (cI, 32768, .inl v.2.2.2.2.2.2.2.2.2.2.2.1))] := hD
      exact z_v hf (fun r => oX7 cI cR ad r) hx hb hr hlk hS hP hD dX7_visits_39
def f_X7_in (p0 : Int32) (p1 : Int32) (p2 : Int32) : Option Int32 :=
  (if p0 < p1 then some (0 : Int32) else (if p2 < p0 then some (0 : Int32) else some (1 : Int32)))
abbrev rm_X7_in : Room := { frames := 0, cells := 0, slots := 0, locals := 0 }
set_option maxHeartbeats 4000000 in
set_option maxRecDepth 100000 in
theorem c_X7_in (l : Launch) (D : va_G) (cI cR : ClassId) (p0 : Int32) (p1 : Int32) (p2 : Int32) (sz : Nat) (r : Int32) (hf : f_X7_in p0 p1 p2 = some r) : Met l yX7_in (wM yX7_in cX7_in 3 (some (.boolean))) rm_X7_in (cPre D (tysA cI cR) ([.int p0, .int p1, .int p2] : List Value) (([] : va_W)) sz) (QcRead r) 0 0 (fun _ => False) := by
  refine en_M (own := RX7) (lv := [(0, .int p0), (1, .int p1), (2, .int p2)]) (by decide +kernel) rfl (Nat.le_of_ble_eq_true rfl) rfl (fun p e s m below meth c hx hb hr hlk hml hown hnm hts hsz hP hK hD hN ls hl => ?_)
  generalize va_A (([] : va_W)) sz = A at hD
  have hP : va_P D vwCl [] s.heap := hP
  have hD : va_D A [] := hD
  unfold f_X7_in at hf
  refine lv_iload_n hx hb dX7_in_0 rfl (lv_at hl 0 rfl) ?_
  refine lv_iload_n hx hb dX7_in_1 rfl (lv_at hl 1 rfl) ?_
  refine lv_icmp_lt (tgt := 14) hx hb dX7_in_2 (by decide) (fun c0 => ?_) (fun c0 => ?_)
  · replace hf := gT hf c0
    refine lv_iconst (v := (0 : Int32)) hx hb dX7_in_14 (by decide) ?_
    exact z_rz hf hx hb hr hlk rfl dX7_in_15
  · replace hf := gF hf c0
    refine lv_iload_n hx hb dX7_in_5 rfl (lv_at hl 0 rfl) ?_
    refine lv_iload_n hx hb dX7_in_6 rfl (lv_at hl 2 rfl) ?_
    refine lv_icmp_gt (tgt := 14) hx hb dX7_in_7 (by decide) (fun c1 => ?_) (fun c1 => ?_)
    · replace hf := gT hf c1
      refine lv_iconst (v := (0 : Int32)) hx hb dX7_in_14 (by decide) ?_
      exact z_rz hf hx hb hr hlk rfl dX7_in_15
    · replace hf := gF hf c1
      refine lv_iconst (v := (1 : Int32)) hx hb dX7_in_10 (by decide) ?_
      refine lv_goto (tgt := 15) hx hb dX7_in_11 (by decide) ?_
      exact z_rz hf hx hb hr hlk rfl dX7_in_15
def f_X7_kind (v : tX7) (p1 : Int32) : Option Int32 :=
  (f_X7_in p1 (1 : Int32) (v.2.1 2)).bind fun x0 => (if x0 = 0 then some (0 : Int32) else (if ig (((3 : Int32) + p1) - (1 : Int32)) 72 = true then some (v.2.1 (((3 : Int32) + p1) - (1 : Int32)).toNatClampNeg) else none))
abbrev rm_X7_kind : Room := { frames := 1, cells := 0, slots := 0, locals := 22 }
set_option maxHeartbeats 4000000 in
set_option maxRecDepth 100000 in
theorem c_X7_kind (l : Launch) (D : va_G) (cI cR : ClassId) (ad : Nat → Nat) (v : tX7) (p1 : Int32) (sz : Nat) (r : Int32) (hf : f_X7_kind v p1 = some r) : Met l yX7_kind (wM yX7_kind cX7_kind 2 (some (.int))) rm_X7_kind (cPre D (tysA cI cR) ([.ref (ad 0), .int p1] : List Value) (oX7 cI cR ad v) sz) (QcRead r) 0 0 (fun _ => False) := by
  refine en_M (own := RX7) (lv := [(0, .ref (ad 0)), (1, .int p1)]) (by decide +kernel) rfl (Nat.le_of_ble_eq_true rfl) rfl (fun p e s m below meth c hx hb hr hlk hml hown hnm hts hsz hP hK hD hN ls hl => ?_)
  generalize va_A (oX7 cI cR ad v) sz = A at hD
  have hP : va_P D vwCl [(ad 0, .inr (7, [.int v.1, .ref (ad 1), .ref (ad 2), .ref (ad 3), .int v.2.2.2.2.1, .ref (ad 4), .int v.2.2.2.2.2.2.1, .ref (ad 5), .int v.2.2.2.2.2.2.2.2.1, .int v.2.2.2.2.2.2.2.2.2.1, .int v.2.2.2.2.2.2.2.2.2.2.1, .ref (ad 6), .int v.2.2.2.2.2.2.2.2.2.2.2.2.1, .int v.2.2.2.2.2.2.2.2.2.2.2.2.2.1, .int v.2.2.2.2.2.2.2.2.2.2.2.2.2.2.1, .int v.2.2.2.2.2.2.2.2.2.2.2.2.2.2.2.1, .int v.2.2.2.2.2.2.2.2.2.2.2.2.2.2.2.2.1, .int v.2.2.2.2.2.2.2.2.2.2.2.2.2.2.2.2.2])), (ad 1, .inl (cI, 72, .inl v.2.1)), (ad 2, .inl (cI, 72, .inl v.2.2.1)), (ad 3, .inl (cI, 288, .inl v.2.2.2.1)), (ad 4, .inl (cI, 72, .inl v.2.2.2.2.2.1)), (ad 5, .inl (cI, 60, .inl v.2.2.2.2.2.2.2.1)), (ad 6, .inl (cI, 32768, .inl v.2.2.2.2.2.2.2.2.2.2.2.1))] s.heap := hP
  have hD : va_D A [(ad 0, .inr (7, [.int v.1, .ref (ad 1), .ref (ad 2), .ref (ad 3), .int v.2.2.2.2.1, .ref (ad 4), .int v.2.2.2.2.2.2.1, .ref (ad 5), .int v.2.2.2.2.2.2.2.2.1, .int v.2.2.2.2.2.2.2.2.2.1, .int v.2.2.2.2.2.2.2.2.2.2.1, .ref (ad 6), .int v.2.2.2.2.2.2.2.2.2.2.2.2.1, .int v.2.2.2.2.2.2.2.2.2.2.2.2.2.1, .int v.2.2.2.2.2.2.2.2.2.2.2.2.2.2.1, .int v.2.2.2.2.2.2.2.2.2.2.2.2.2.2.2.1, .int v.2.2.2.2.2.2.2.2.2.2.2.2.2.2.2.2.1, .int v.2.2.2.2.2.2.2.2.2.2.2.2.2.2.2.2.2])), (ad 1, .inl (cI, 72, .inl v.2.1)), (ad 2, .inl (cI, 72, .inl v.2.2.1)), (ad 3, .inl (cI, 288, .inl v.2.2.2.1)), (ad 4, .inl (cI, 72, .inl v.2.2.2.2.2.1)), (ad 5, .inl (cI, 60, .inl v.2.2.2.2.2.2.2.1)), (ad 6, .inl (cI, 32768, .inl v.2.2.2.2.2.2.2.2.2.2.2.1))] := hD
  unfold f_X7_kind at hf
  refine lv_iload_n hx hb dX7_kind_0 rfl (lv_at hl 1 rfl) ?_
  refine lv_iconst (v := (1 : Int32)) hx hb dX7_kind_1 (by decide) ?_
  refine lv_aload_n hx hb dX7_kind_2 rfl (lv_at hl 0 rfl) ?_
  refine va_get (D := D) (ci := 7) (v := .ref (ad 1)) (C := RX7) (T := TX7) (N := 18) hx hb hts inA_X7 hown hK hP 0 rfl rfl 1 (by decide) (hts _ kF_X7_7) (fun _ h9 => h9) rfl dX7_kind_3 ?_
  refine lv_iconst (v := (2 : Int32)) hx hb dX7_kind_6 (by decide) ?_
  refine va_iald hx hb hK hP 1 0 rfl rfl (ig_in (by decide)) dX7_kind_7 ?_
  refine W.eq (g2 := F0 m 8 ls [.int (v.2.1 2), .int (1 : Int32), .int p1]) rfl ?_
  obtain ⟨x0, hcx0, hf⟩ := gB hf
  refine k_r (r_S (As := [.int p1, .int (1 : Int32), .int (v.2.1 2)]) (rest := []) (n := 3) ⟨hx, hb, hml, hown, hts⟩ (c_X7_in l D cI cR p1 (1 : Int32) (v.2.1 2) _ x0 hcx0) kM_X7_49 kS_X7_in kZ_X7 kK_X7_in ⟨rfl, rfl⟩ ⟨(Nat.le_of_ble_eq_true rfl), (Nat.le_of_ble_eq_true rfl)⟩ pd_X7_in rfl hK hN hP hD [] rfl rfl rfl hl.1 (Nat.le_of_ble_eq_true rfl) dX7_kind_8 ⟨(Nat.le_of_ble_eq_true rfl), (Nat.le_of_ble_eq_true rfl)⟩) ?_
  refine lv_if_eq (tgt := 27) hx hb dX7_kind_11 (by decide) (fun c0 => ?_) (fun c0 => ?_)
  · replace hf := gT hf c0
    refine lv_iconst (v := (0 : Int32)) hx hb dX7_kind_27 (by decide) ?_
    exact z_r hf hx hb hr hlk dX7_kind_28
  · replace hf := gF hf c0
    refine lv_aload_n hx hb dX7_kind_14 rfl (lv_at hl 0 rfl) ?_
    refine va_get (D := D) (ci := 7) (v := .ref (ad 1)) (C := RX7) (T := TX7) (N := 18) hx hb hts inA_X7 hown hK hP 0 rfl rfl 1 (by decide) (hts _ kF_X7_7) (fun _ h9 => h9) rfl dX7_kind_15 ?_
    refine lv_iconst (v := (3 : Int32)) hx hb dX7_kind_18 (by decide) ?_
    refine lv_iload_n hx hb dX7_kind_19 rfl (lv_at hl 1 rfl) ?_
    refine lv_iadd hx hb dX7_kind_20 ?_
    refine lv_iconst (v := (1 : Int32)) hx hb dX7_kind_21 (by decide) ?_
    refine lv_isub hx hb dX7_kind_22 ?_
    obtain ⟨g0, hf⟩ := gd hf
    refine va_iald hx hb hK hP 1 0 rfl rfl (ig_in g0) dX7_kind_23 ?_
    refine lv_goto (tgt := 28) hx hb dX7_kind_24 (by decide) ?_
    exact z_r hf hx hb hr hlk dX7_kind_28
def f_X7_next_J30 (l3 : Int32) (v : tX7) : Option (Int32 × tX7) :=
  (f_X7_end v).bind fun x0 => (if x0 ≤ l3 then (f_X7_end v).bind fun x1 => some (x1, v) else some (l3, v))
def f_X7_next (v : tX7) (p1 : Int32) (p2 : Int32) : Option (Int32 × tX7) :=
  (if (p1 + (1 : Int32)) = p2 then (f_X7_end v).bind fun x2 => (if x2 ≤ (p1 + (1 : Int32)) then f_X7_next_J30 (p1 + (1 : Int32)) v else f_X7_next_J30 ((p1 + (1 : Int32)) + (1 : Int32)) (v.1, v.2.1, v.2.2.1, v.2.2.2.1, v.2.2.2.2.1, v.2.2.2.2.2.1, v.2.2.2.2.2.2.1, v.2.2.2.2.2.2.2.1, v.2.2.2.2.2.2.2.2.1, v.2.2.2.2.2.2.2.2.2.1, v.2.2.2.2.2.2.2.2.2.2.1, v.2.2.2.2.2.2.2.2.2.2.2.1, v.2.2.2.2.2.2.2.2.2.2.2.2.1, v.2.2.2.2.2.2.2.2.2.2.2.2.2.1, v.2.2.2.2.2.2.2.2.2.2.2.2.2.2.1, v.2.2.2.2.2.2.2.2.2.2.2.2.2.2.2.1, (v.2.2.2.2.2.2.2.2.2.2.2.2.2.2.2.2.1 + (1 : Int32)), v.2.2.2.2.2.2.2.2.2.2.2.2.2.2.2.2.2)) else f_X7_next_J30 (p1 + (1 : Int32)) v)
abbrev rm_X7_next : Room := { frames := 1, cells := 0, slots := 0, locals := 20 }
set_option maxHeartbeats 4000000 in
set_option maxRecDepth 100000 in
theorem c_X7_next (l : Launch) (D : va_G) (cI cR : ClassId) (ad : Nat → Nat) (v : tX7) (p1 : Int32) (p2 : Int32) (sz : Nat) (r : (Int32 × tX7)) (hf : f_X7_next v p1 p2 = some r) : Met l yX7_next (wM yX7_next cX7_next 4 (some (.int))) rm_X7_next (cPre D (tysA cI cR) ([.ref (ad 0), .int p1, .int p2] : List Value) (oX7 cI cR ad v) sz) (qI D (oX7 cI cR ad r.2) r.1 (va_A (oX7 cI cR ad v) sz)) 0 0 (va_A (oX7 cI cR ad v) sz) := by
  refine en_M (own := RX7) (lv := [(0, .ref (ad 0)), (1, .int p1), (2, .int p2)]) (by decide +kernel) rfl (Nat.le_of_ble_eq_true rfl) rfl (fun p e s m below meth c hx hb hr hlk hml hown hnm hts hsz hP hK hD hN ls hl => ?_)
  subst hsz
  generalize hAe : va_A (oX7 cI cR ad v) s.heap.size = A at hD ⊢
  have hA : ∀ q : Nat, s.heap.size ≤ q → A q := fun q h => by rw [← hAe]; exact Or.inr h
  have hS : va_S A s.heap s.heap [] := va_S.rf
  have hP : va_P D vwCl [(ad 0, .inr (7, [.int v.1, .ref (ad 1), .ref (ad 2), .ref (ad 3), .int v.2.2.2.2.1, .ref (ad 4), .int v.2.2.2.2.2.2.1, .ref (ad 5), .int v.2.2.2.2.2.2.2.2.1, .int v.2.2.2.2.2.2.2.2.2.1, .int v.2.2.2.2.2.2.2.2.2.2.1, .ref (ad 6), .int v.2.2.2.2.2.2.2.2.2.2.2.2.1, .int v.2.2.2.2.2.2.2.2.2.2.2.2.2.1, .int v.2.2.2.2.2.2.2.2.2.2.2.2.2.2.1, .int v.2.2.2.2.2.2.2.2.2.2.2.2.2.2.2.1, .int v.2.2.2.2.2.2.2.2.2.2.2.2.2.2.2.2.1, .int v.2.2.2.2.2.2.2.2.2.2.2.2.2.2.2.2.2])), (ad 1, .inl (cI, 72, .inl v.2.1)), (ad 2, .inl (cI, 72, .inl v.2.2.1)), (ad 3, .inl (cI, 288, .inl v.2.2.2.1)), (ad 4, .inl (cI, 72, .inl v.2.2.2.2.2.1)), (ad 5, .inl (cI, 60, .inl v.2.2.2.2.2.2.2.1)), (ad 6, .inl (cI, 32768, .inl v.2.2.2.2.2.2.2.2.2.2.2.1))] s.heap := hP
  have hD : va_D A [(ad 0, .inr (7, [.int v.1, .ref (ad 1), .ref (ad 2), .ref (ad 3), .int v.2.2.2.2.1, .ref (ad 4), .int v.2.2.2.2.2.2.1, .ref (ad 5), .int v.2.2.2.2.2.2.2.2.1, .int v.2.2.2.2.2.2.2.2.2.1, .int v.2.2.2.2.2.2.2.2.2.2.1, .ref (ad 6), .int v.2.2.2.2.2.2.2.2.2.2.2.2.1, .int v.2.2.2.2.2.2.2.2.2.2.2.2.2.1, .int v.2.2.2.2.2.2.2.2.2.2.2.2.2.2.1, .int v.2.2.2.2.2.2.2.2.2.2.2.2.2.2.2.1, .int v.2.2.2.2.2.2.2.2.2.2.2.2.2.2.2.2.1, .int v.2.2.2.2.2.2.2.2.2.2.2.2.2.2.2.2.2])), (ad 1, .inl (cI, 72, .inl v.2.1)), (ad 2, .inl (cI, 72, .inl v.2.2.1)), (ad 3, .inl (cI, 288, .inl v.2.2.2.1)), (ad 4, .inl (cI, 72, .inl v.2.2.2.2.2.1)), (ad 5, .inl (cI, 60, .inl v.2.2.2.2.2.2.2.1)), (ad 6, .inl (cI, 32768, .inl v.2.2.2.2.2.2.2.2.2.2.2.1))] := hD
  have J30 : ∀ (l3 : Int32) (v : tX7) (H : Heap) (locs : List Loc) (ls : Array Slot), va_P D vwCl [(ad 0, .inr (7, [.int v.1, .ref (ad 1), .ref (ad 2), .ref (ad 3), .int v.2.2.2.2.1, .ref (ad 4), .int v.2.2.2.2.2.2.1, .ref (ad 5), .int v.2.2.2.2.2.2.2.2.1, .int v.2.2.2.2.2.2.2.2.2.1, .int v.2.2.2.2.2.2.2.2.2.2.1, .ref (ad 6), .int v.2.2.2.2.2.2.2.2.2.2.2.2.1, .int v.2.2.2.2.2.2.2.2.2.2.2.2.2.1, .int v.2.2.2.2.2.2.2.2.2.2.2.2.2.2.1, .int v.2.2.2.2.2.2.2.2.2.2.2.2.2.2.2.1, .int v.2.2.2.2.2.2.2.2.2.2.2.2.2.2.2.2.1, .int v.2.2.2.2.2.2.2.2.2.2.2.2.2.2.2.2.2])), (ad 1, .inl (cI, 72, .inl v.2.1)), (ad 2, .inl (cI, 72, .inl v.2.2.1)), (ad 3, .inl (cI, 288, .inl v.2.2.2.1)), (ad 4, .inl (cI, 72, .inl v.2.2.2.2.2.1)), (ad 5, .inl (cI, 60, .inl v.2.2.2.2.2.2.2.1)), (ad 6, .inl (cI, 32768, .inl v.2.2.2.2.2.2.2.2.2.2.2.1))] H → va_D A [(ad 0, .inr (7, [.int v.1, .ref (ad 1), .ref (ad 2), .ref (ad 3), .int v.2.2.2.2.1, .ref (ad 4), .int v.2.2.2.2.2.2.1, .ref (ad 5), .int v.2.2.2.2.2.2.2.2.1, .int v.2.2.2.2.2.2.2.2.2.1, .int v.2.2.2.2.2.2.2.2.2.2.1, .ref (ad 6), .int v.2.2.2.2.2.2.2.2.2.2.2.2.1, .int v.2.2.2.2.2.2.2.2.2.2.2.2.2.1, .int v.2.2.2.2.2.2.2.2.2.2.2.2.2.2.1, .int v.2.2.2.2.2.2.2.2.2.2.2.2.2.2.2.1, .int v.2.2.2.2.2.2.2.2.2.2.2.2.2.2.2.2.1, .int v.2.2.2.2.2.2.2.2.2.2.2.2.2.2.2.2.2])), (ad 1, .inl (cI, 72, .inl v.2.1)), (ad 2, .inl (cI, 72, .inl v.2.2.1)), (ad 3, .inl (cI, 288, .inl v.2.2.2.1)), (ad 4, .inl (cI, 72, .inl v.2.2.2.2.2.1)), (ad 5, .inl (cI, 60, .inl v.2.2.2.2.2.2.2.1)), (ad 6, .inl (cI, 32768, .inl v.2.2.2.2.2.2.2.2.2.2.2.1))] → va_S A s.heap H locs → lv_has ls 4 [(0, .ref (ad 0)), (3, .int l3)] → f_X7_next_J30 l3 v = some r → W p l e rm_X7_next s m ([.ref (ad 0), .int p1, .int p2] : List Value).toArray below meth c H locs 0 0 (MQ below (qI D (oX7 cI cR ad r.2) r.1 A) ([.ref (ad 0), .int p1, .int p2] : List Value).toArray s 0 0 A) (F0 m 30 ls []) := by
    intro l3 v H locs ls hP hD hS hl hf
    unfold f_X7_next_J30 at hf
    refine lv_iload_n hx hb dX7_next_30 rfl (lv_at hl 1 rfl) ?_
    refine lv_aload_n hx hb dX7_next_31 rfl (lv_at hl 0 rfl) ?_
    obtain ⟨x0, hcx0, hf⟩ := gB hf
    refine k_r (r_V (As := []) (rest := [.int l3]) (n := 0) ⟨hx, hb, hml, hown, hts⟩ (c_X7_end l D cI cR ad v _ x0 hcx0) kM_X7_53 kN_X7_end kV_X7_end kZ_X7 kK_X7_end ⟨rfl, rfl⟩ ⟨(Nat.le_of_ble_eq_true rfl), (Nat.le_of_ble_eq_true rfl)⟩ pd_X7_end rfl hK hN hP hD [0, 1, 2, 3, 4, 5, 6] rfl rfl 0 7 rfl rfl rfl hl.1 (Nat.le_of_ble_eq_true rfl) dX7_next_32 ⟨(Nat.le_of_ble_eq_true rfl), (Nat.le_of_ble_eq_true rfl)⟩) ?_
    refine lv_icmp_ge (tgt := 42) hx hb dX7_next_35 (by decide) (fun c0 => ?_) (fun c0 => ?_)
    · replace hf := gT hf c0
      refine lv_aload_n hx hb dX7_next_42 rfl (lv_at hl 0 rfl) ?_
      obtain ⟨x1, hcx1, hf⟩ := gB hf
      refine k_r (r_V (As := []) (rest := []) (n := 0) ⟨hx, hb, hml, hown, hts⟩ (c_X7_end l D cI cR ad v _ x1 hcx1) kM_X7_53 kN_X7_end kV_X7_end kZ_X7 kK_X7_end ⟨rfl, rfl⟩ ⟨(Nat.le_of_ble_eq_true rfl), (Nat.le_of_ble_eq_true rfl)⟩ pd_X7_end rfl hK hN hP hD [0, 1, 2, 3, 4, 5, 6] rfl rfl 0 7 rfl rfl rfl hl.1 (Nat.le_of_ble_eq_true rfl) dX7_next_43 ⟨(Nat.le_of_ble_eq_true rfl), (Nat.le_of_ble_eq_true rfl)⟩) ?_
      exact z_i hf (fun r => r.1) (fun r => oX7 cI cR ad r.2) hx hb hr hlk hS hP hD dX7_next_46
    · replace hf := gF hf c0
      refine lv_iload_n hx hb dX7_next_38 rfl (lv_at hl 1 rfl) ?_
      refine lv_goto (tgt := 46) hx hb dX7_next_39 (by decide) ?_
      exact z_i hf (fun r => r.1) (fun r => oX7 cI cR ad r.2) hx hb hr hlk hS hP hD dX7_next_46
  unfold f_X7_next at hf
  refine lv_iload_n hx hb dX7_next_0 rfl (lv_at hl 1 rfl) ?_
  refine lv_iconst (v := (1 : Int32)) hx hb dX7_next_1 (by decide) ?_
  refine lv_iadd hx hb dX7_next_2 ?_
  refine lv_istore_n (lv' := [(3, .int (p1 + (1 : Int32))), (0, .ref (ad 0)), (1, .int p1), (2, .int p2)]) hx hb dX7_next_3 rfl hl (by decide) rfl (fun ls hl => ?_)
  refine lv_iload_n hx hb dX7_next_4 rfl (lv_at hl 0 rfl) ?_
  refine lv_iload_n hx hb dX7_next_5 rfl (lv_at hl 3 rfl) ?_
  refine lv_icmp_ne (tgt := 30) hx hb dX7_next_6 (by decide) (fun c1 => ?_) (fun c1 => ?_)
  · replace hf := gF hf c1
    exact J30 (p1 + (1 : Int32)) v _ _ ls hP hD hS (lv_sub hl [1, 0] rfl) hf
  · replace hf := gT hf c1
    refine lv_iload_n hx hb dX7_next_9 rfl (lv_at hl 0 rfl) ?_
    refine lv_aload_n hx hb dX7_next_10 rfl (lv_at hl 1 rfl) ?_
    obtain ⟨x2, hcx2, hf⟩ := gB hf
    refine k_r (r_V (As := []) (rest := [.int (p1 + (1 : Int32))]) (n := 0) ⟨hx, hb, hml, hown, hts⟩ (c_X7_end l D cI cR ad v _ x2 hcx2) kM_X7_53 kN_X7_end kV_X7_end kZ_X7 kK_X7_end ⟨rfl, rfl⟩ ⟨(Nat.le_of_ble_eq_true rfl), (Nat.le_of_ble_eq_true rfl)⟩ pd_X7_end rfl hK hN hP hD [0, 1, 2, 3, 4, 5, 6] rfl rfl 0 7 rfl rfl rfl hl.1 (Nat.le_of_ble_eq_true rfl) dX7_next_11 ⟨(Nat.le_of_ble_eq_true rfl), (Nat.le_of_ble_eq_true rfl)⟩) ?_
    refine lv_icmp_ge (tgt := 30) hx hb dX7_next_14 (by decide) (fun c2 => ?_) (fun c2 => ?_)
    · replace hf := gT hf c2
      exact J30 (p1 + (1 : Int32)) v _ _ ls hP hD hS (lv_sub hl [1, 0] rfl) hf
    · replace hf := gF hf c2
      refine lv_aload_n hx hb dX7_next_17 rfl (lv_at hl 1 rfl) ?_
      refine lv_dup hx hb dX7_next_18 rfl ?_
      refine va_get (D := D) (ci := 7) (v := .int v.2.2.2.2.2.2.2.2.2.2.2.2.2.2.2.2.1) (C := RX7) (T := TX7) (N := 18) hx hb hts inA_X7 hown hK hP 0 rfl rfl 16 (by decide) (hts _ kF_X7_57) (fun _ h9 => h9) rfl dX7_next_19 ?_
      refine lv_iconst (v := (1 : Int32)) hx hb dX7_next_22 (by decide) ?_
      refine lv_iadd hx hb dX7_next_23 ?_
      refine va_put (D := D) (ci := 7) (v := .int (v.2.2.2.2.2.2.2.2.2.2.2.2.2.2.2.2.1 + (1 : Int32))) (ty := .int) (C := RX7) (T := TX7) (N := 18) hx hb hts inA_X7 tyX7 tyX7_ok nmX7 hown hK hP hD hS 0 rfl rfl 16 (by decide) (hts _ kF_X7_57) (fun _ h9 => h9) rfl (tyX7_ok 16 (by decide)) rfl rfl (Nat.le_of_ble_eq_true rfl) dX7_next_24 (fun H locs hP hD hS => ?_)
      have hP : va_P D vwCl [(ad 0, .inr (7, [.int v.1, .ref (ad 1), .ref (ad 2), .ref (ad 3), .int v.2.2.2.2.1, .ref (ad 4), .int v.2.2.2.2.2.2.1, .ref (ad 5), .int v.2.2.2.2.2.2.2.2.1, .int v.2.2.2.2.2.2.2.2.2.1, .int v.2.2.2.2.2.2.2.2.2.2.1, .ref (ad 6), .int v.2.2.2.2.2.2.2.2.2.2.2.2.1, .int v.2.2.2.2.2.2.2.2.2.2.2.2.2.1, .int v.2.2.2.2.2.2.2.2.2.2.2.2.2.2.1, .int v.2.2.2.2.2.2.2.2.2.2.2.2.2.2.2.1, .int (v.2.2.2.2.2.2.2.2.2.2.2.2.2.2.2.2.1 + (1 : Int32)), .int v.2.2.2.2.2.2.2.2.2.2.2.2.2.2.2.2.2])), (ad 1, .inl (cI, 72, .inl v.2.1)), (ad 2, .inl (cI, 72, .inl v.2.2.1)), (ad 3, .inl (cI, 288, .inl v.2.2.2.1)), (ad 4, .inl (cI, 72, .inl v.2.2.2.2.2.1)), (ad 5, .inl (cI, 60, .inl v.2.2.2.2.2.2.2.1)), (ad 6, .inl (cI, 32768, .inl v.2.2.2.2.2.2.2.2.2.2.2.1))] H := hP
      have hD : va_D A [(ad 0, .inr (7, [.int v.1, .ref (ad 1), .ref (ad 2), .ref (ad 3), .int v.2.2.2.2.1, .ref (ad 4), .int v.2.2.2.2.2.2.1, .ref (ad 5), .int v.2.2.2.2.2.2.2.2.1, .int v.2.2.2.2.2.2.2.2.2.1, .int v.2.2.2.2.2.2.2.2.2.2.1, .ref (ad 6), .int v.2.2.2.2.2.2.2.2.2.2.2.2.1, .int v.2.2.2.2.2.2.2.2.2.2.2.2.2.1, .int v.2.2.2.2.2.2.2.2.2.2.2.2.2.2.1, .int v.2.2.2.2.2.2.2.2.2.2.2.2.2.2.2.1, .int (v.2.2.2.2.2.2.2.2.2.2.2.2.2.2.2.2.1 + (1 : Int32)), .int v.2.2.2.2.2.2.2.2.2.2.2.2.2.2.2.2.2])), (ad 1, .inl (cI, 72, .inl v.2.1)), (ad 2, .inl (cI, 72, .inl v.2.2.1)), (ad 3, .inl (cI, 288, .inl v.2.2.2.1)), (ad 4, .inl (cI, 72, .inl v.2.2.2.2.2.1)), (ad 5, .inl (cI, 60, .inl v.2.2.2.2.2.2.2.1)), (ad 6, .inl (cI, 32768, .inl v.2.2.2.2.2.2.2.2.2.2.2.1))] := hD
      refine lv_iinc (v := ((p1 + (1 : Int32)) + (1 : Int32))) (lv' := [(3, .int ((p1 + (1 : Int32)) + (1 : Int32))), (0, .ref (ad 0)), (1, .int p1), (2, .int p2)]) hx hb dX7_next_27 hl (k := 0) rfl rfl (by decide) rfl (fun ls hl => ?_)
      exact J30 ((p1 + (1 : Int32)) + (1 : Int32)) (v.1, v.2.1, v.2.2.1, v.2.2.2.1, v.2.2.2.2.1, v.2.2.2.2.2.1, v.2.2.2.2.2.2.1, v.2.2.2.2.2.2.2.1, v.2.2.2.2.2.2.2.2.1, v.2.2.2.2.2.2.2.2.2.1, v.2.2.2.2.2.2.2.2.2.2.1, v.2.2.2.2.2.2.2.2.2.2.2.1, v.2.2.2.2.2.2.2.2.2.2.2.2.1, v.2.2.2.2.2.2.2.2.2.2.2.2.2.1, v.2.2.2.2.2.2.2.2.2.2.2.2.2.2.1, v.2.2.2.2.2.2.2.2.2.2.2.2.2.2.2.1, (v.2.2.2.2.2.2.2.2.2.2.2.2.2.2.2.2.1 + (1 : Int32)), v.2.2.2.2.2.2.2.2.2.2.2.2.2.2.2.2.2) _ _ ls hP hD hS (lv_sub hl [1, 0] rfl) hf
def f_X7_drives_J122 (k0 : Int32) (v : tX7) : Option tX7 :=
  (f_X7_kind (v.1, v.2.1, v.2.2.1, v.2.2.2.1, v.2.2.2.2.1, v.2.2.2.2.2.1, v.2.2.2.2.2.2.1, v.2.2.2.2.2.2.2.1, v.2.2.2.2.2.2.2.2.1, v.2.2.2.2.2.2.2.2.2.1, v.2.2.2.2.2.2.2.2.2.2.1, v.2.2.2.2.2.2.2.2.2.2.2.1, v.2.2.2.2.2.2.2.2.2.2.2.2.1, v.2.2.2.2.2.2.2.2.2.2.2.2.2.1, k0, v.2.2.2.2.2.2.2.2.2.2.2.2.2.2.2.1, v.2.2.2.2.2.2.2.2.2.2.2.2.2.2.2.2.1, v.2.2.2.2.2.2.2.2.2.2.2.2.2.2.2.2.2) v.2.2.2.2.2.2.2.2.2.2.2.2.2.1).bind fun x0 => (if x0 = (3 : Int32) then some (v.1, v.2.1, v.2.2.1, v.2.2.2.1, v.2.2.2.2.1, v.2.2.2.2.2.1, v.2.2.2.2.2.2.1, v.2.2.2.2.2.2.2.1, v.2.2.2.2.2.2.2.2.1, v.2.2.2.2.2.2.2.2.2.1, v.2.2.2.2.2.2.2.2.2.2.1, v.2.2.2.2.2.2.2.2.2.2.2.1, v.2.2.2.2.2.2.2.2.2.2.2.2.1, v.2.2.2.2.2.2.2.2.2.2.2.2.2.1, k0, (1 : Int32), v.2.2.2.2.2.2.2.2.2.2.2.2.2.2.2.2.1, v.2.2.2.2.2.2.2.2.2.2.2.2.2.2.2.2.2) else some (v.1, v.2.1, v.2.2.1, v.2.2.2.1, v.2.2.2.2.1, v.2.2.2.2.2.1, v.2.2.2.2.2.2.1, v.2.2.2.2.2.2.2.1, v.2.2.2.2.2.2.2.2.1, v.2.2.2.2.2.2.2.2.2.1, v.2.2.2.2.2.2.2.2.2.2.1, v.2.2.2.2.2.2.2.2.2.2.2.1, v.2.2.2.2.2.2.2.2.2.2.2.2.1, v.2.2.2.2.2.2.2.2.2.2.2.2.2.1, k0, (0 : Int32), v.2.2.2.2.2.2.2.2.2.2.2.2.2.2.2.2.1, v.2.2.2.2.2.2.2.2.2.2.2.2.2.2.2.2.2))
def f_X7_drives_L60 : Nat → Int32 → Int32 → tX7 → Option tX7
  | 0, _, _, _ => none
  | nL60 + 1, l2, l4, v =>
    (f_X7_kind v v.2.2.2.2.2.2.2.2.2.2.2.2.2.1).bind fun x1 => (if x1 = (2 : Int32) then (f_X7_next (v.1, v.2.1, v.2.2.1, v.2.2.2.1, v.2.2.2.2.1, v.2.2.2.2.2.1, v.2.2.2.2.2.2.1, v.2.2.2.2.2.2.2.1, v.2.2.2.2.2.2.2.2.1, v.2.2.2.2.2.2.2.2.2.1, v.2.2.2.2.2.2.2.2.2.2.1, v.2.2.2.2.2.2.2.2.2.2.2.1, v.2.2.2.2.2.2.2.2.2.2.2.2.1, v.2.2.2.2.2.2.2.2.2.2.2.2.2.1, v.2.2.2.2.2.2.2.2.2.2.2.2.2.2.1, v.2.2.2.2.2.2.2.2.2.2.2.2.2.2.2.1, v.2.2.2.2.2.2.2.2.2.2.2.2.2.2.2.2.1, (v.2.2.2.2.2.2.2.2.2.2.2.2.2.2.2.2.2 + (1 : Int32))) v.2.2.2.2.2.2.2.2.2.2.2.2.2.1 l2).bind fun x3 => (f_X7_visits (x3.2.1, x3.2.2.1, x3.2.2.2.1, x3.2.2.2.2.1, x3.2.2.2.2.2.1, x3.2.2.2.2.2.2.1, x3.2.2.2.2.2.2.2.1, x3.2.2.2.2.2.2.2.2.1, x3.2.2.2.2.2.2.2.2.2.1, x3.2.2.2.2.2.2.2.2.2.2.1, x3.2.2.2.2.2.2.2.2.2.2.2.1, x3.2.2.2.2.2.2.2.2.2.2.2.2.1, x3.2.2.2.2.2.2.2.2.2.2.2.2.2.1, x3.1, x3.2.2.2.2.2.2.2.2.2.2.2.2.2.2.2.1, x3.2.2.2.2.2.2.2.2.2.2.2.2.2.2.2.2.1, x3.2.2.2.2.2.2.2.2.2.2.2.2.2.2.2.2.2.1, x3.2.2.2.2.2.2.2.2.2.2.2.2.2.2.2.2.2.2) l4).bind fun x4 => f_X7_drives_L60 nL60 l2 l4 x4 else (f_X7_kind v v.2.2.2.2.2.2.2.2.2.2.2.2.2.1).bind fun x2 => (if x2 = (1 : Int32) then f_X7_drives_J122 (1 : Int32) v else f_X7_drives_J122 (0 : Int32) v))
def f_X7_drives_J54 (l2 : Int32) (l4 : Int32) (v : tX7) : Option tX7 :=
  (f_X7_visits v l4).bind fun x5 => f_X7_drives_L60 gas l2 l4 x5
def f_X7_drives_L18 : Nat → Int32 → Int32 → Int32 → Int32 → tX7 → Option tX7
  | 0, _, _, _, _, _ => none
  | nL18 + 1, l2, l3, l4, l5, v =>
    (if l3 ≤ l5 then f_X7_drives_J54 l2 l4 v else (f_X7_end v).bind fun x6 => (if x6 ≤ v.2.2.2.2.2.2.2.2.2.2.2.2.2.1 then f_X7_drives_J54 l2 l4 v else (f_X7_next v v.2.2.2.2.2.2.2.2.2.2.2.2.2.1 l2).bind fun x7 => f_X7_drives_L18 nL18 l2 l3 l4 (l5 + (1 : Int32)) (x7.2.1, x7.2.2.1, x7.2.2.2.1, x7.2.2.2.2.1, x7.2.2.2.2.2.1, x7.2.2.2.2.2.2.1, x7.2.2.2.2.2.2.2.1, x7.2.2.2.2.2.2.2.2.1, x7.2.2.2.2.2.2.2.2.2.1, x7.2.2.2.2.2.2.2.2.2.2.1, x7.2.2.2.2.2.2.2.2.2.2.2.1, x7.2.2.2.2.2.2.2.2.2.2.2.2.1, x7.2.2.2.2.2.2.2.2.2.2.2.2.2.1, x7.1, x7.2.2.2.2.2.2.2.2.2.2.2.2.2.2.2.1, x7.2.2.2.2.2.2.2.2.2.2.2.2.2.2.2.2.1, x7.2.2.2.2.2.2.2.2.2.2.2.2.2.2.2.2.2.1, x7.2.2.2.2.2.2.2.2.2.2.2.2.2.2.2.2.2.2)))
def f_X7_drives (v : tX7) (p1 : Int32) (p2 : Int32) (p3 : Int32) (p4 : Int32) : Option tX7 :=
  f_X7_drives_L18 gas p2 p3 p4 (0 : Int32) (v.1, v.2.1, v.2.2.1, v.2.2.2.1, v.2.2.2.2.1, v.2.2.2.2.2.1, v.2.2.2.2.2.2.1, v.2.2.2.2.2.2.2.1, v.2.2.2.2.2.2.2.2.1, v.2.2.2.2.2.2.2.2.2.1, v.2.2.2.2.2.2.2.2.2.2.1, v.2.2.2.2.2.2.2.2.2.2.2.1, v.2.2.2.2.2.2.2.2.2.2.2.2.1, p1, v.2.2.2.2.2.2.2.2.2.2.2.2.2.2.1, v.2.2.2.2.2.2.2.2.2.2.2.2.2.2.2.1, (0 : Int32), (0 : Int32))
abbrev rm_X7_drives : Room := { frames := 2, cells := 0, slots := 0, locals := 43 }
set_option maxHeartbeats 4000000 in
set_option maxRecDepth 100000 in
theorem c_X7_drives (l : Launch) (D : va_G) (cI cR : ClassId) (ad : Nat → Nat) (v : tX7) (p1 : Int32) (p2 : Int32) (p3 : Int32) (p4 : Int32) (sz : Nat) (r : tX7) (hf : f_X7_drives v p1 p2 p3 p4 = some r) : Met l yX7_drives (wM yX7_drives cX7_drives 6 none) rm_X7_drives (cPre D (tysA cI cR) ([.ref (ad 0), .int p1, .int p2, .int p3, .int p4] : List Value) (oX7 cI cR ad v) sz) (qV D (oX7 cI cR ad r) (va_A (oX7 cI cR ad v) sz)) 0 0 (va_A (oX7 cI cR ad v) sz) := by
  refine en_M (own := RX7) (lv := [(0, .ref (ad 0)), (1, .int p1), (2, .int p2), (3, .int p3), (4, .int p4)]) (by decide +kernel) rfl (Nat.le_of_ble_eq_true rfl) rfl (fun p e s m below meth c hx hb hr hlk hml hown hnm hts hsz hP hK hD hN ls hl => ?_)
  subst hsz
  generalize hAe : va_A (oX7 cI cR ad v) s.heap.size = A at hD ⊢
  have hA : ∀ q : Nat, s.heap.size ≤ q → A q := fun q h => by rw [← hAe]; exact Or.inr h
  have hS : va_S A s.heap s.heap [] := va_S.rf
  have hP : va_P D vwCl [(ad 0, .inr (7, [.int v.1, .ref (ad 1), .ref (ad 2), .ref (ad 3), .int v.2.2.2.2.1, .ref (ad 4), .int v.2.2.2.2.2.2.1, .ref (ad 5), .int v.2.2.2.2.2.2.2.2.1, .int v.2.2.2.2.2.2.2.2.2.1, .int v.2.2.2.2.2.2.2.2.2.2.1, .ref (ad 6), .int v.2.2.2.2.2.2.2.2.2.2.2.2.1, .int v.2.2.2.2.2.2.2.2.2.2.2.2.2.1, .int v.2.2.2.2.2.2.2.2.2.2.2.2.2.2.1, .int v.2.2.2.2.2.2.2.2.2.2.2.2.2.2.2.1, .int v.2.2.2.2.2.2.2.2.2.2.2.2.2.2.2.2.1, .int v.2.2.2.2.2.2.2.2.2.2.2.2.2.2.2.2.2])), (ad 1, .inl (cI, 72, .inl v.2.1)), (ad 2, .inl (cI, 72, .inl v.2.2.1)), (ad 3, .inl (cI, 288, .inl v.2.2.2.1)), (ad 4, .inl (cI, 72, .inl v.2.2.2.2.2.1)), (ad 5, .inl (cI, 60, .inl v.2.2.2.2.2.2.2.1)), (ad 6, .inl (cI, 32768, .inl v.2.2.2.2.2.2.2.2.2.2.2.1))] s.heap := hP
  have hD : va_D A [(ad 0, .inr (7, [.int v.1, .ref (ad 1), .ref (ad 2), .ref (ad 3), .int v.2.2.2.2.1, .ref (ad 4), .int v.2.2.2.2.2.2.1, .ref (ad 5), .int v.2.2.2.2.2.2.2.2.1, .int v.2.2.2.2.2.2.2.2.2.1, .int v.2.2.2.2.2.2.2.2.2.2.1, .ref (ad 6), .int v.2.2.2.2.2.2.2.2.2.2.2.2.1, .int v.2.2.2.2.2.2.2.2.2.2.2.2.2.1, .int v.2.2.2.2.2.2.2.2.2.2.2.2.2.2.1, .int v.2.2.2.2.2.2.2.2.2.2.2.2.2.2.2.1, .int v.2.2.2.2.2.2.2.2.2.2.2.2.2.2.2.2.1, .int v.2.2.2.2.2.2.2.2.2.2.2.2.2.2.2.2.2])), (ad 1, .inl (cI, 72, .inl v.2.1)), (ad 2, .inl (cI, 72, .inl v.2.2.1)), (ad 3, .inl (cI, 288, .inl v.2.2.2.1)), (ad 4, .inl (cI, 72, .inl v.2.2.2.2.2.1)), (ad 5, .inl (cI, 60, .inl v.2.2.2.2.2.2.2.1)), (ad 6, .inl (cI, 32768, .inl v.2.2.2.2.2.2.2.2.2.2.2.1))] := hD
  have J122 : ∀ (k0 : Int32) (v : tX7) (H : Heap) (locs : List Loc) (ls : Array Slot), va_P D vwCl [(ad 0, .inr (7, [.int v.1, .ref (ad 1), .ref (ad 2), .ref (ad 3), .int v.2.2.2.2.1, .ref (ad 4), .int v.2.2.2.2.2.2.1, .ref (ad 5), .int v.2.2.2.2.2.2.2.2.1, .int v.2.2.2.2.2.2.2.2.2.1, .int v.2.2.2.2.2.2.2.2.2.2.1, .ref (ad 6), .int v.2.2.2.2.2.2.2.2.2.2.2.2.1, .int v.2.2.2.2.2.2.2.2.2.2.2.2.2.1, .int v.2.2.2.2.2.2.2.2.2.2.2.2.2.2.1, .int v.2.2.2.2.2.2.2.2.2.2.2.2.2.2.2.1, .int v.2.2.2.2.2.2.2.2.2.2.2.2.2.2.2.2.1, .int v.2.2.2.2.2.2.2.2.2.2.2.2.2.2.2.2.2])), (ad 1, .inl (cI, 72, .inl v.2.1)), (ad 2, .inl (cI, 72, .inl v.2.2.1)), (ad 3, .inl (cI, 288, .inl v.2.2.2.1)), (ad 4, .inl (cI, 72, .inl v.2.2.2.2.2.1)), (ad 5, .inl (cI, 60, .inl v.2.2.2.2.2.2.2.1)), (ad 6, .inl (cI, 32768, .inl v.2.2.2.2.2.2.2.2.2.2.2.1))] H → va_D A [(ad 0, .inr (7, [.int v.1, .ref (ad 1), .ref (ad 2), .ref (ad 3), .int v.2.2.2.2.1, .ref (ad 4), .int v.2.2.2.2.2.2.1, .ref (ad 5), .int v.2.2.2.2.2.2.2.2.1, .int v.2.2.2.2.2.2.2.2.2.1, .int v.2.2.2.2.2.2.2.2.2.2.1, .ref (ad 6), .int v.2.2.2.2.2.2.2.2.2.2.2.2.1, .int v.2.2.2.2.2.2.2.2.2.2.2.2.2.1, .int v.2.2.2.2.2.2.2.2.2.2.2.2.2.2.1, .int v.2.2.2.2.2.2.2.2.2.2.2.2.2.2.2.1, .int v.2.2.2.2.2.2.2.2.2.2.2.2.2.2.2.2.1, .int v.2.2.2.2.2.2.2.2.2.2.2.2.2.2.2.2.2])), (ad 1, .inl (cI, 72, .inl v.2.1)), (ad 2, .inl (cI, 72, .inl v.2.2.1)), (ad 3, .inl (cI, 288, .inl v.2.2.2.1)), (ad 4, .inl (cI, 72, .inl v.2.2.2.2.2.1)), (ad 5, .inl (cI, 60, .inl v.2.2.2.2.2.2.2.1)), (ad 6, .inl (cI, 32768, .inl v.2.2.2.2.2.2.2.2.2.2.2.1))] → va_S A s.heap H locs → lv_has ls 6 [(0, .ref (ad 0))] → f_X7_drives_J122 k0 v = some r → W p l e rm_X7_drives s m ([.ref (ad 0), .int p1, .int p2, .int p3, .int p4] : List Value).toArray below meth c H locs 0 0 (MQ below (qV D (oX7 cI cR ad r) A) ([.ref (ad 0), .int p1, .int p2, .int p3, .int p4] : List Value).toArray s 0 0 A) (F0 m 122 ls [.int k0, .ref (ad 0)]) := by
    intro k0 v H locs ls hP hD hS hl hf
    unfold f_X7_drives_J122 at hf
    refine va_put (D := D) (ci := 7) (v := .int k0) (ty := .int) (C := RX7) (T := TX7) (N := 18) hx hb hts inA_X7 tyX7 tyX7_ok nmX7 hown hK hP hD hS 0 rfl rfl 14 (by decide) (hts _ kF_X7_78) (fun _ h9 => h9) rfl (tyX7_ok 14 (by decide)) rfl rfl (Nat.le_of_ble_eq_true rfl) dX7_drives_122 (fun H locs hP hD hS => ?_)
    have hP : va_P D vwCl [(ad 0, .inr (7, [.int v.1, .ref (ad 1), .ref (ad 2), .ref (ad 3), .int v.2.2.2.2.1, .ref (ad 4), .int v.2.2.2.2.2.2.1, .ref (ad 5), .int v.2.2.2.2.2.2.2.2.1, .int v.2.2.2.2.2.2.2.2.2.1, .int v.2.2.2.2.2.2.2.2.2.2.1, .ref (ad 6), .int v.2.2.2.2.2.2.2.2.2.2.2.2.1, .int v.2.2.2.2.2.2.2.2.2.2.2.2.2.1, .int k0, .int v.2.2.2.2.2.2.2.2.2.2.2.2.2.2.2.1, .int v.2.2.2.2.2.2.2.2.2.2.2.2.2.2.2.2.1, .int v.2.2.2.2.2.2.2.2.2.2.2.2.2.2.2.2.2])), (ad 1, .inl (cI, 72, .inl v.2.1)), (ad 2, .inl (cI, 72, .inl v.2.2.1)), (ad 3, .inl (cI, 288, .inl v.2.2.2.1)), (ad 4, .inl (cI, 72, .inl v.2.2.2.2.2.1)), (ad 5, .inl (cI, 60, .inl v.2.2.2.2.2.2.2.1)), (ad 6, .inl (cI, 32768, .inl v.2.2.2.2.2.2.2.2.2.2.2.1))] H := hP
    have hD : va_D A [(ad 0, .inr (7, [.int v.1, .ref (ad 1), .ref (ad 2), .ref (ad 3), .int v.2.2.2.2.1, .ref (ad 4), .int v.2.2.2.2.2.2.1, .ref (ad 5), .int v.2.2.2.2.2.2.2.2.1, .int v.2.2.2.2.2.2.2.2.2.1, .int v.2.2.2.2.2.2.2.2.2.2.1, .ref (ad 6), .int v.2.2.2.2.2.2.2.2.2.2.2.2.1, .int v.2.2.2.2.2.2.2.2.2.2.2.2.2.1, .int k0, .int v.2.2.2.2.2.2.2.2.2.2.2.2.2.2.2.1, .int v.2.2.2.2.2.2.2.2.2.2.2.2.2.2.2.2.1, .int v.2.2.2.2.2.2.2.2.2.2.2.2.2.2.2.2.2])), (ad 1, .inl (cI, 72, .inl v.2.1)), (ad 2, .inl (cI, 72, .inl v.2.2.1)), (ad 3, .inl (cI, 288, .inl v.2.2.2.1)), (ad 4, .inl (cI, 72, .inl v.2.2.2.2.2.1)), (ad 5, .inl (cI, 60, .inl v.2.2.2.2.2.2.2.1)), (ad 6, .inl (cI, 32768, .inl v.2.2.2.2.2.2.2.2.2.2.2.1))] := hD
    refine lv_aload_n hx hb dX7_drives_125 rfl (lv_at hl 0 rfl) ?_
    refine lv_aload_n hx hb dX7_drives_126 rfl (lv_at hl 0 rfl) ?_
    refine lv_aload_n hx hb dX7_drives_127 rfl (lv_at hl 0 rfl) ?_
    refine va_get (D := D) (ci := 7) (v := .int v.2.2.2.2.2.2.2.2.2.2.2.2.2.1) (C := RX7) (T := TX7) (N := 18) hx hb hts inA_X7 hown hK hP 0 rfl rfl 13 (by decide) (hts _ kF_X7_63) (fun _ h9 => h9) rfl dX7_drives_128 ?_
    obtain ⟨x0, hcx0, hf⟩ := gB hf
    refine k_r (r_V (As := [.int v.2.2.2.2.2.2.2.2.2.2.2.2.2.1]) (rest := [.ref (ad 0)]) (n := 1) ⟨hx, hb, hml, hown, hts⟩ (c_X7_kind l D cI cR ad (v.1, v.2.1, v.2.2.1, v.2.2.2.1, v.2.2.2.2.1, v.2.2.2.2.2.1, v.2.2.2.2.2.2.1, v.2.2.2.2.2.2.2.1, v.2.2.2.2.2.2.2.2.1, v.2.2.2.2.2.2.2.2.2.1, v.2.2.2.2.2.2.2.2.2.2.1, v.2.2.2.2.2.2.2.2.2.2.2.1, v.2.2.2.2.2.2.2.2.2.2.2.2.1, v.2.2.2.2.2.2.2.2.2.2.2.2.2.1, k0, v.2.2.2.2.2.2.2.2.2.2.2.2.2.2.2.1, v.2.2.2.2.2.2.2.2.2.2.2.2.2.2.2.2.1, v.2.2.2.2.2.2.2.2.2.2.2.2.2.2.2.2.2) v.2.2.2.2.2.2.2.2.2.2.2.2.2.1 _ x0 hcx0) kM_X7_74 kN_X7_kind kV_X7_kind kZ_X7 kK_X7_kind ⟨rfl, rfl⟩ ⟨(Nat.le_of_ble_eq_true rfl), (Nat.le_of_ble_eq_true rfl)⟩ pd_X7_kind rfl hK hN hP hD [0, 1, 2, 3, 4, 5, 6] rfl rfl 0 7 rfl rfl rfl hl.1 (Nat.le_of_ble_eq_true rfl) dX7_drives_131 ⟨(Nat.le_of_ble_eq_true rfl), (Nat.le_of_ble_eq_true rfl)⟩) ?_
    refine lv_iconst (v := (3 : Int32)) hx hb dX7_drives_134 (by decide) ?_
    refine lv_icmp_ne (tgt := 142) hx hb dX7_drives_135 (by decide) (fun c0 => ?_) (fun c0 => ?_)
    · replace hf := gF hf c0
      refine lv_iconst (v := (0 : Int32)) hx hb dX7_drives_142 (by decide) ?_
      refine va_put (D := D) (ci := 7) (v := .int (0 : Int32)) (ty := .boolean) (C := RX7) (T := TX7) (N := 18) hx hb hts inA_X7 tyX7 tyX7_ok nmX7 hown hK hP hD hS 0 rfl rfl 15 (by decide) (hts _ kF_X7_81) (fun _ h9 => h9) rfl (tyX7_ok 15 (by decide)) rfl rfl (Nat.le_of_ble_eq_true rfl) dX7_drives_143 (fun H locs hP hD hS => ?_)
      have hP : va_P D vwCl [(ad 0, .inr (7, [.int v.1, .ref (ad 1), .ref (ad 2), .ref (ad 3), .int v.2.2.2.2.1, .ref (ad 4), .int v.2.2.2.2.2.2.1, .ref (ad 5), .int v.2.2.2.2.2.2.2.2.1, .int v.2.2.2.2.2.2.2.2.2.1, .int v.2.2.2.2.2.2.2.2.2.2.1, .ref (ad 6), .int v.2.2.2.2.2.2.2.2.2.2.2.2.1, .int v.2.2.2.2.2.2.2.2.2.2.2.2.2.1, .int k0, .int (0 : Int32), .int v.2.2.2.2.2.2.2.2.2.2.2.2.2.2.2.2.1, .int v.2.2.2.2.2.2.2.2.2.2.2.2.2.2.2.2.2])), (ad 1, .inl (cI, 72, .inl v.2.1)), (ad 2, .inl (cI, 72, .inl v.2.2.1)), (ad 3, .inl (cI, 288, .inl v.2.2.2.1)), (ad 4, .inl (cI, 72, .inl v.2.2.2.2.2.1)), (ad 5, .inl (cI, 60, .inl v.2.2.2.2.2.2.2.1)), (ad 6, .inl (cI, 32768, .inl v.2.2.2.2.2.2.2.2.2.2.2.1))] H := hP
      have hD : va_D A [(ad 0, .inr (7, [.int v.1, .ref (ad 1), .ref (ad 2), .ref (ad 3), .int v.2.2.2.2.1, .ref (ad 4), .int v.2.2.2.2.2.2.1, .ref (ad 5), .int v.2.2.2.2.2.2.2.2.1, .int v.2.2.2.2.2.2.2.2.2.1, .int v.2.2.2.2.2.2.2.2.2.2.1, .ref (ad 6), .int v.2.2.2.2.2.2.2.2.2.2.2.2.1, .int v.2.2.2.2.2.2.2.2.2.2.2.2.2.1, .int k0, .int (0 : Int32), .int v.2.2.2.2.2.2.2.2.2.2.2.2.2.2.2.2.1, .int v.2.2.2.2.2.2.2.2.2.2.2.2.2.2.2.2.2])), (ad 1, .inl (cI, 72, .inl v.2.1)), (ad 2, .inl (cI, 72, .inl v.2.2.1)), (ad 3, .inl (cI, 288, .inl v.2.2.2.1)), (ad 4, .inl (cI, 72, .inl v.2.2.2.2.2.1)), (ad 5, .inl (cI, 60, .inl v.2.2.2.2.2.2.2.1)), (ad 6, .inl (cI, 32768, .inl v.2.2.2.2.2.2.2.2.2.2.2.1))] := hD
      exact z_v hf (fun r => oX7 cI cR ad r) hx hb hr hlk hS hP hD dX7_drives_146
    · replace hf := gT hf c0
      refine lv_iconst (v := (1 : Int32)) hx hb dX7_drives_138 (by decide) ?_
      refine lv_goto (tgt := 143) hx hb dX7_drives_139 (by decide) ?_
      refine va_put (D := D) (ci := 7) (v := .int (1 : Int32)) (ty := .boolean) (C := RX7) (T := TX7) (N := 18) hx hb hts inA_X7 tyX7 tyX7_ok nmX7 hown hK hP hD hS 0 rfl rfl 15 (by decide) (hts _ kF_X7_81) (fun _ h9 => h9) rfl (tyX7_ok 15 (by decide)) rfl rfl (Nat.le_of_ble_eq_true rfl) dX7_drives_143 (fun H locs hP hD hS => ?_)
      have hP : va_P D vwCl [(ad 0, .inr (7, [.int v.1, .ref (ad 1), .ref (ad 2), .ref (ad 3), .int v.2.2.2.2.1, .ref (ad 4), .int v.2.2.2.2.2.2.1, .ref (ad 5), .int v.2.2.2.2.2.2.2.2.1, .int v.2.2.2.2.2.2.2.2.2.1, .int v.2.2.2.2.2.2.2.2.2.2.1, .ref (ad 6), .int v.2.2.2.2.2.2.2.2.2.2.2.2.1, .int v.2.2.2.2.2.2.2.2.2.2.2.2.2.1, .int k0, .int (1 : Int32), .int v.2.2.2.2.2.2.2.2.2.2.2.2.2.2.2.2.1, .int v.2.2.2.2.2.2.2.2.2.2.2.2.2.2.2.2.2])), (ad 1, .inl (cI, 72, .inl v.2.1)), (ad 2, .inl (cI, 72, .inl v.2.2.1)), (ad 3, .inl (cI, 288, .inl v.2.2.2.1)), (ad 4, .inl (cI, 72, .inl v.2.2.2.2.2.1)), (ad 5, .inl (cI, 60, .inl v.2.2.2.2.2.2.2.1)), (ad 6, .inl (cI, 32768, .inl v.2.2.2.2.2.2.2.2.2.2.2.1))] H := hP
      have hD : va_D A [(ad 0, .inr (7, [.int v.1, .ref (ad 1), .ref (ad 2), .ref (ad 3), .int v.2.2.2.2.1, .ref (ad 4), .int v.2.2.2.2.2.2.1, .ref (ad 5), .int v.2.2.2.2.2.2.2.2.1, .int v.2.2.2.2.2.2.2.2.2.1, .int v.2.2.2.2.2.2.2.2.2.2.1, .ref (ad 6), .int v.2.2.2.2.2.2.2.2.2.2.2.2.1, .int v.2.2.2.2.2.2.2.2.2.2.2.2.2.1, .int k0, .int (1 : Int32), .int v.2.2.2.2.2.2.2.2.2.2.2.2.2.2.2.2.1, .int v.2.2.2.2.2.2.2.2.2.2.2.2.2.2.2.2.2])), (ad 1, .inl (cI, 72, .inl v.2.1)), (ad 2, .inl (cI, 72, .inl v.2.2.1)), (ad 3, .inl (cI, 288, .inl v.2.2.2.1)), (ad 4, .inl (cI, 72, .inl v.2.2.2.2.2.1)), (ad 5, .inl (cI, 60, .inl v.2.2.2.2.2.2.2.1)), (ad 6, .inl (cI, 32768, .inl v.2.2.2.2.2.2.2.2.2.2.2.1))] := hD
      exact z_v hf (fun r => oX7 cI cR ad r) hx hb hr hlk hS hP hD dX7_drives_146
  have L60 : ∀ (nL60 : Nat) (l2 : Int32) (l4 : Int32) (v : tX7) (H : Heap) (locs : List Loc) (ls : Array Slot), va_P D vwCl [(ad 0, .inr (7, [.int v.1, .ref (ad 1), .ref (ad 2), .ref (ad 3), .int v.2.2.2.2.1, .ref (ad 4), .int v.2.2.2.2.2.2.1, .ref (ad 5), .int v.2.2.2.2.2.2.2.2.1, .int v.2.2.2.2.2.2.2.2.2.1, .int v.2.2.2.2.2.2.2.2.2.2.1, .ref (ad 6), .int v.2.2.2.2.2.2.2.2.2.2.2.2.1, .int v.2.2.2.2.2.2.2.2.2.2.2.2.2.1, .int v.2.2.2.2.2.2.2.2.2.2.2.2.2.2.1, .int v.2.2.2.2.2.2.2.2.2.2.2.2.2.2.2.1, .int v.2.2.2.2.2.2.2.2.2.2.2.2.2.2.2.2.1, .int v.2.2.2.2.2.2.2.2.2.2.2.2.2.2.2.2.2])), (ad 1, .inl (cI, 72, .inl v.2.1)), (ad 2, .inl (cI, 72, .inl v.2.2.1)), (ad 3, .inl (cI, 288, .inl v.2.2.2.1)), (ad 4, .inl (cI, 72, .inl v.2.2.2.2.2.1)), (ad 5, .inl (cI, 60, .inl v.2.2.2.2.2.2.2.1)), (ad 6, .inl (cI, 32768, .inl v.2.2.2.2.2.2.2.2.2.2.2.1))] H → va_D A [(ad 0, .inr (7, [.int v.1, .ref (ad 1), .ref (ad 2), .ref (ad 3), .int v.2.2.2.2.1, .ref (ad 4), .int v.2.2.2.2.2.2.1, .ref (ad 5), .int v.2.2.2.2.2.2.2.2.1, .int v.2.2.2.2.2.2.2.2.2.1, .int v.2.2.2.2.2.2.2.2.2.2.1, .ref (ad 6), .int v.2.2.2.2.2.2.2.2.2.2.2.2.1, .int v.2.2.2.2.2.2.2.2.2.2.2.2.2.1, .int v.2.2.2.2.2.2.2.2.2.2.2.2.2.2.1, .int v.2.2.2.2.2.2.2.2.2.2.2.2.2.2.2.1, .int v.2.2.2.2.2.2.2.2.2.2.2.2.2.2.2.2.1, .int v.2.2.2.2.2.2.2.2.2.2.2.2.2.2.2.2.2])), (ad 1, .inl (cI, 72, .inl v.2.1)), (ad 2, .inl (cI, 72, .inl v.2.2.1)), (ad 3, .inl (cI, 288, .inl v.2.2.2.1)), (ad 4, .inl (cI, 72, .inl v.2.2.2.2.2.1)), (ad 5, .inl (cI, 60, .inl v.2.2.2.2.2.2.2.1)), (ad 6, .inl (cI, 32768, .inl v.2.2.2.2.2.2.2.2.2.2.2.1))] → va_S A s.heap H locs → lv_has ls 6 [(0, .ref (ad 0)), (2, .int l2), (4, .int l4)] → f_X7_drives_L60 nL60 l2 l4 v = some r → W p l e rm_X7_drives s m ([.ref (ad 0), .int p1, .int p2, .int p3, .int p4] : List Value).toArray below meth c H locs 0 0 (MQ below (qV D (oX7 cI cR ad r) A) ([.ref (ad 0), .int p1, .int p2, .int p3, .int p4] : List Value).toArray s 0 0 A) (F0 m 60 ls []) := by
    intro nL60
    induction nL60 with
    | zero =>
      intro l2 l4 v H locs ls hP hD hS hl hf
      cases hf
    | succ nL60 ih_L60 =>
      intro l2 l4 v H locs ls hP hD hS hl hf
      rw [f_X7_drives_L60] at hf
      refine lv_aload_n hx hb dX7_drives_60 rfl (lv_at hl 0 rfl) ?_
      refine lv_aload_n hx hb dX7_drives_61 rfl (lv_at hl 0 rfl) ?_
      refine va_get (D := D) (ci := 7) (v := .int v.2.2.2.2.2.2.2.2.2.2.2.2.2.1) (C := RX7) (T := TX7) (N := 18) hx hb hts inA_X7 hown hK hP 0 rfl rfl 13 (by decide) (hts _ kF_X7_63) (fun _ h9 => h9) rfl dX7_drives_62 ?_
      obtain ⟨x1, hcx1, hf⟩ := gB hf
      refine k_r (r_V (As := [.int v.2.2.2.2.2.2.2.2.2.2.2.2.2.1]) (rest := []) (n := 1) ⟨hx, hb, hml, hown, hts⟩ (c_X7_kind l D cI cR ad v v.2.2.2.2.2.2.2.2.2.2.2.2.2.1 _ x1 hcx1) kM_X7_74 kN_X7_kind kV_X7_kind kZ_X7 kK_X7_kind ⟨rfl, rfl⟩ ⟨(Nat.le_of_ble_eq_true rfl), (Nat.le_of_ble_eq_true rfl)⟩ pd_X7_kind rfl hK hN hP hD [0, 1, 2, 3, 4, 5, 6] rfl rfl 0 7 rfl rfl rfl hl.1 (Nat.le_of_ble_eq_true rfl) dX7_drives_65 ⟨(Nat.le_of_ble_eq_true rfl), (Nat.le_of_ble_eq_true rfl)⟩) ?_
      refine lv_iconst (v := (2 : Int32)) hx hb dX7_drives_68 (by decide) ?_
      refine lv_icmp_ne (tgt := 104) hx hb dX7_drives_69 (by decide) (fun c1 => ?_) (fun c1 => ?_)
      · replace hf := gF hf c1
        refine lv_aload_n hx hb dX7_drives_104 rfl (lv_at hl 0 rfl) ?_
        refine lv_aload_n hx hb dX7_drives_105 rfl (lv_at hl 0 rfl) ?_
        refine lv_aload_n hx hb dX7_drives_106 rfl (lv_at hl 0 rfl) ?_
        refine va_get (D := D) (ci := 7) (v := .int v.2.2.2.2.2.2.2.2.2.2.2.2.2.1) (C := RX7) (T := TX7) (N := 18) hx hb hts inA_X7 hown hK hP 0 rfl rfl 13 (by decide) (hts _ kF_X7_63) (fun _ h9 => h9) rfl dX7_drives_107 ?_
        obtain ⟨x2, hcx2, hf⟩ := gB hf
        refine k_r (r_V (As := [.int v.2.2.2.2.2.2.2.2.2.2.2.2.2.1]) (rest := [.ref (ad 0)]) (n := 1) ⟨hx, hb, hml, hown, hts⟩ (c_X7_kind l D cI cR ad v v.2.2.2.2.2.2.2.2.2.2.2.2.2.1 _ x2 hcx2) kM_X7_74 kN_X7_kind kV_X7_kind kZ_X7 kK_X7_kind ⟨rfl, rfl⟩ ⟨(Nat.le_of_ble_eq_true rfl), (Nat.le_of_ble_eq_true rfl)⟩ pd_X7_kind rfl hK hN hP hD [0, 1, 2, 3, 4, 5, 6] rfl rfl 0 7 rfl rfl rfl hl.1 (Nat.le_of_ble_eq_true rfl) dX7_drives_110 ⟨(Nat.le_of_ble_eq_true rfl), (Nat.le_of_ble_eq_true rfl)⟩) ?_
        refine lv_iconst (v := (1 : Int32)) hx hb dX7_drives_113 (by decide) ?_
        refine lv_icmp_ne (tgt := 121) hx hb dX7_drives_114 (by decide) (fun c2 => ?_) (fun c2 => ?_)
        · replace hf := gF hf c2
          refine lv_iconst (v := (0 : Int32)) hx hb dX7_drives_121 (by decide) ?_
          exact J122 (0 : Int32) v _ _ ls hP hD hS (lv_sub hl [0] rfl) hf
        · replace hf := gT hf c2
          refine lv_iconst (v := (1 : Int32)) hx hb dX7_drives_117 (by decide) ?_
          refine lv_goto (tgt := 122) hx hb dX7_drives_118 (by decide) ?_
          exact J122 (1 : Int32) v _ _ ls hP hD hS (lv_sub hl [0] rfl) hf
      · replace hf := gT hf c1
        refine lv_aload_n hx hb dX7_drives_72 rfl (lv_at hl 0 rfl) ?_
        refine lv_dup hx hb dX7_drives_73 rfl ?_
        refine va_get (D := D) (ci := 7) (v := .int v.2.2.2.2.2.2.2.2.2.2.2.2.2.2.2.2.2) (C := RX7) (T := TX7) (N := 18) hx hb hts inA_X7 hown hK hP 0 rfl rfl 17 (by decide) (hts _ kF_X7_60) (fun _ h9 => h9) rfl dX7_drives_74 ?_
        refine lv_iconst (v := (1 : Int32)) hx hb dX7_drives_77 (by decide) ?_
        refine lv_iadd hx hb dX7_drives_78 ?_
        refine va_put (D := D) (ci := 7) (v := .int (v.2.2.2.2.2.2.2.2.2.2.2.2.2.2.2.2.2 + (1 : Int32))) (ty := .int) (C := RX7) (T := TX7) (N := 18) hx hb hts inA_X7 tyX7 tyX7_ok nmX7 hown hK hP hD hS 0 rfl rfl 17 (by decide) (hts _ kF_X7_60) (fun _ h9 => h9) rfl (tyX7_ok 17 (by decide)) rfl rfl (Nat.le_of_ble_eq_true rfl) dX7_drives_79 (fun H locs hP hD hS => ?_)
        have hP : va_P D vwCl [(ad 0, .inr (7, [.int v.1, .ref (ad 1), .ref (ad 2), .ref (ad 3), .int v.2.2.2.2.1, .ref (ad 4), .int v.2.2.2.2.2.2.1, .ref (ad 5), .int v.2.2.2.2.2.2.2.2.1, .int v.2.2.2.2.2.2.2.2.2.1, .int v.2.2.2.2.2.2.2.2.2.2.1, .ref (ad 6), .int v.2.2.2.2.2.2.2.2.2.2.2.2.1, .int v.2.2.2.2.2.2.2.2.2.2.2.2.2.1, .int v.2.2.2.2.2.2.2.2.2.2.2.2.2.2.1, .int v.2.2.2.2.2.2.2.2.2.2.2.2.2.2.2.1, .int v.2.2.2.2.2.2.2.2.2.2.2.2.2.2.2.2.1, .int (v.2.2.2.2.2.2.2.2.2.2.2.2.2.2.2.2.2 + (1 : Int32))])), (ad 1, .inl (cI, 72, .inl v.2.1)), (ad 2, .inl (cI, 72, .inl v.2.2.1)), (ad 3, .inl (cI, 288, .inl v.2.2.2.1)), (ad 4, .inl (cI, 72, .inl v.2.2.2.2.2.1)), (ad 5, .inl (cI, 60, .inl v.2.2.2.2.2.2.2.1)), (ad 6, .inl (cI, 32768, .inl v.2.2.2.2.2.2.2.2.2.2.2.1))] H := hP
        have hD : va_D A [(ad 0, .inr (7, [.int v.1, .ref (ad 1), .ref (ad 2), .ref (ad 3), .int v.2.2.2.2.1, .ref (ad 4), .int v.2.2.2.2.2.2.1, .ref (ad 5), .int v.2.2.2.2.2.2.2.2.1, .int v.2.2.2.2.2.2.2.2.2.1, .int v.2.2.2.2.2.2.2.2.2.2.1, .ref (ad 6), .int v.2.2.2.2.2.2.2.2.2.2.2.2.1, .int v.2.2.2.2.2.2.2.2.2.2.2.2.2.1, .int v.2.2.2.2.2.2.2.2.2.2.2.2.2.2.1, .int v.2.2.2.2.2.2.2.2.2.2.2.2.2.2.2.1, .int v.2.2.2.2.2.2.2.2.2.2.2.2.2.2.2.2.1, .int (v.2.2.2.2.2.2.2.2.2.2.2.2.2.2.2.2.2 + (1 : Int32))])), (ad 1, .inl (cI, 72, .inl v.2.1)), (ad 2, .inl (cI, 72, .inl v.2.2.1)), (ad 3, .inl (cI, 288, .inl v.2.2.2.1)), (ad 4, .inl (cI, 72, .inl v.2.2.2.2.2.1)), (ad 5, .inl (cI, 60, .inl v.2.2.2.2.2.2.2.1)), (ad 6, .inl (cI, 32768, .inl v.2.2.2.2.2.2.2.2.2.2.2.1))] := hD
        refine lv_aload_n hx hb dX7_drives_82 rfl (lv_at hl 0 rfl) ?_
        refine lv_aload_n hx hb dX7_drives_83 rfl (lv_at hl 0 rfl) ?_
        refine lv_aload_n hx hb dX7_drives_84 rfl (lv_at hl 0 rfl) ?_
        refine va_get (D := D) (ci := 7) (v := .int v.2.2.2.2.2.2.2.2.2.2.2.2.2.1) (C := RX7) (T := TX7) (N := 18) hx hb hts inA_X7 hown hK hP 0 rfl rfl 13 (by decide) (hts _ kF_X7_63) (fun _ h9 => h9) rfl dX7_drives_85 ?_
        refine lv_iload_n hx hb dX7_drives_88 rfl (lv_at hl 1 rfl) ?_
        obtain ⟨x3, hcx3, hf⟩ := gB hf
        refine j_i (wr := []) (w_V (As := [.int v.2.2.2.2.2.2.2.2.2.2.2.2.2.1, .int l2]) (rest := [.ref (ad 0)]) (n := 2) ⟨hx, hb, hml, hown, hts⟩ (c_X7_next l D cI cR ad (v.1, v.2.1, v.2.2.1, v.2.2.2.1, v.2.2.2.2.1, v.2.2.2.2.2.1, v.2.2.2.2.2.2.1, v.2.2.2.2.2.2.2.1, v.2.2.2.2.2.2.2.2.1, v.2.2.2.2.2.2.2.2.2.1, v.2.2.2.2.2.2.2.2.2.2.1, v.2.2.2.2.2.2.2.2.2.2.2.1, v.2.2.2.2.2.2.2.2.2.2.2.2.1, v.2.2.2.2.2.2.2.2.2.2.2.2.2.1, v.2.2.2.2.2.2.2.2.2.2.2.2.2.2.1, v.2.2.2.2.2.2.2.2.2.2.2.2.2.2.2.1, v.2.2.2.2.2.2.2.2.2.2.2.2.2.2.2.2.1, (v.2.2.2.2.2.2.2.2.2.2.2.2.2.2.2.2.2 + (1 : Int32))) v.2.2.2.2.2.2.2.2.2.2.2.2.2.1 l2 _ x3 hcx3) kM_X7_66 kN_X7_next kV_X7_next kZ_X7 kK_X7_next ⟨rfl, rfl⟩ ⟨(Nat.le_of_ble_eq_true rfl), (Nat.le_of_ble_eq_true rfl)⟩ pd_X7_next rfl hK hN hP hD [0, 1, 2, 3, 4, 5, 6] rfl rfl 0 7 rfl rfl rfl hl.1 (Nat.le_of_ble_eq_true rfl) dX7_drives_89 ⟨(Nat.le_of_ble_eq_true rfl), (Nat.le_of_ble_eq_true rfl)⟩) hP hD hS hA [0, 1, 2, 3, 4, 5, 6] [] rfl rfl rfl (by decide) (fun H locs hP hD hS => ?_)
        have hP : va_P D vwCl [(ad 0, .inr (7, [.int x3.2.1, .ref (ad 1), .ref (ad 2), .ref (ad 3), .int x3.2.2.2.2.2.1, .ref (ad 4), .int x3.2.2.2.2.2.2.2.1, .ref (ad 5), .int x3.2.2.2.2.2.2.2.2.2.1, .int x3.2.2.2.2.2.2.2.2.2.2.1, .int x3.2.2.2.2.2.2.2.2.2.2.2.1, .ref (ad 6), .int x3.2.2.2.2.2.2.2.2.2.2.2.2.2.1, .int x3.2.2.2.2.2.2.2.2.2.2.2.2.2.2.1, .int x3.2.2.2.2.2.2.2.2.2.2.2.2.2.2.2.1, .int x3.2.2.2.2.2.2.2.2.2.2.2.2.2.2.2.2.1, .int x3.2.2.2.2.2.2.2.2.2.2.2.2.2.2.2.2.2.1, .int x3.2.2.2.2.2.2.2.2.2.2.2.2.2.2.2.2.2.2])), (ad 1, .inl (cI, 72, .inl x3.2.2.1)), (ad 2, .inl (cI, 72, .inl x3.2.2.2.1)), (ad 3, .inl (cI, 288, .inl x3.2.2.2.2.1)), (ad 4, .inl (cI, 72, .inl x3.2.2.2.2.2.2.1)), (ad 5, .inl (cI, 60, .inl x3.2.2.2.2.2.2.2.2.1)), (ad 6, .inl (cI, 32768, .inl x3.2.2.2.2.2.2.2.2.2.2.2.2.1))] H := hP
        have hD : va_D A [(ad 0, .inr (7, [.int x3.2.1, .ref (ad 1), .ref (ad 2), .ref (ad 3), .int x3.2.2.2.2.2.1, .ref (ad 4), .int x3.2.2.2.2.2.2.2.1, .ref (ad 5), .int x3.2.2.2.2.2.2.2.2.2.1, .int x3.2.2.2.2.2.2.2.2.2.2.1, .int x3.2.2.2.2.2.2.2.2.2.2.2.1, .ref (ad 6), .int x3.2.2.2.2.2.2.2.2.2.2.2.2.2.1, .int x3.2.2.2.2.2.2.2.2.2.2.2.2.2.2.1, .int x3.2.2.2.2.2.2.2.2.2.2.2.2.2.2.2.1, .int x3.2.2.2.2.2.2.2.2.2.2.2.2.2.2.2.2.1, .int x3.2.2.2.2.2.2.2.2.2.2.2.2.2.2.2.2.2.1, .int x3.2.2.2.2.2.2.2.2.2.2.2.2.2.2.2.2.2.2])), (ad 1, .inl (cI, 72, .inl x3.2.2.1)), (ad 2, .inl (cI, 72, .inl x3.2.2.2.1)), (ad 3, .inl (cI, 288, .inl x3.2.2.2.2.1)), (ad 4, .inl (cI, 72, .inl x3.2.2.2.2.2.2.1)), (ad 5, .inl (cI, 60, .inl x3.2.2.2.2.2.2.2.2.1)), (ad 6, .inl (cI, 32768, .inl x3.2.2.2.2.2.2.2.2.2.2.2.2.1))] := hD
        refine va_put (D := D) (ci := 7) (v := .int x3.1) (ty := .int) (C := RX7) (T := TX7) (N := 18) hx hb hts inA_X7 tyX7 tyX7_ok nmX7 hown hK hP hD hS 0 rfl rfl 13 (by decide) (hts _ kF_X7_63) (fun _ h9 => h9) rfl (tyX7_ok 13 (by decide)) rfl rfl (Nat.le_of_ble_eq_true rfl) dX7_drives_92 (fun H locs hP hD hS => ?_)
        have hP : va_P D vwCl [(ad 0, .inr (7, [.int x3.2.1, .ref (ad 1), .ref (ad 2), .ref (ad 3), .int x3.2.2.2.2.2.1, .ref (ad 4), .int x3.2.2.2.2.2.2.2.1, .ref (ad 5), .int x3.2.2.2.2.2.2.2.2.2.1, .int x3.2.2.2.2.2.2.2.2.2.2.1, .int x3.2.2.2.2.2.2.2.2.2.2.2.1, .ref (ad 6), .int x3.2.2.2.2.2.2.2.2.2.2.2.2.2.1, .int x3.1, .int x3.2.2.2.2.2.2.2.2.2.2.2.2.2.2.2.1, .int x3.2.2.2.2.2.2.2.2.2.2.2.2.2.2.2.2.1, .int x3.2.2.2.2.2.2.2.2.2.2.2.2.2.2.2.2.2.1, .int x3.2.2.2.2.2.2.2.2.2.2.2.2.2.2.2.2.2.2])), (ad 1, .inl (cI, 72, .inl x3.2.2.1)), (ad 2, .inl (cI, 72, .inl x3.2.2.2.1)), (ad 3, .inl (cI, 288, .inl x3.2.2.2.2.1)), (ad 4, .inl (cI, 72, .inl x3.2.2.2.2.2.2.1)), (ad 5, .inl (cI, 60, .inl x3.2.2.2.2.2.2.2.2.1)), (ad 6, .inl (cI, 32768, .inl x3.2.2.2.2.2.2.2.2.2.2.2.2.1))] H := hP
        have hD : va_D A [(ad 0, .inr (7, [.int x3.2.1, .ref (ad 1), .ref (ad 2), .ref (ad 3), .int x3.2.2.2.2.2.1, .ref (ad 4), .int x3.2.2.2.2.2.2.2.1, .ref (ad 5), .int x3.2.2.2.2.2.2.2.2.2.1, .int x3.2.2.2.2.2.2.2.2.2.2.1, .int x3.2.2.2.2.2.2.2.2.2.2.2.1, .ref (ad 6), .int x3.2.2.2.2.2.2.2.2.2.2.2.2.2.1, .int x3.1, .int x3.2.2.2.2.2.2.2.2.2.2.2.2.2.2.2.1, .int x3.2.2.2.2.2.2.2.2.2.2.2.2.2.2.2.2.1, .int x3.2.2.2.2.2.2.2.2.2.2.2.2.2.2.2.2.2.1, .int x3.2.2.2.2.2.2.2.2.2.2.2.2.2.2.2.2.2.2])), (ad 1, .inl (cI, 72, .inl x3.2.2.1)), (ad 2, .inl (cI, 72, .inl x3.2.2.2.1)), (ad 3, .inl (cI, 288, .inl x3.2.2.2.2.1)), (ad 4, .inl (cI, 72, .inl x3.2.2.2.2.2.2.1)), (ad 5, .inl (cI, 60, .inl x3.2.2.2.2.2.2.2.2.1)), (ad 6, .inl (cI, 32768, .inl x3.2.2.2.2.2.2.2.2.2.2.2.2.1))] := hD
        refine lv_aload_n hx hb dX7_drives_95 rfl (lv_at hl 0 rfl) ?_
        refine lv_iload hx hb dX7_drives_96 (lv_at hl 2 rfl) ?_
        obtain ⟨x4, hcx4, hf⟩ := gB hf
        refine j_v (wr := []) (w_V (As := [.int l4]) (rest := []) (n := 1) ⟨hx, hb, hml, hown, hts⟩ (c_X7_visits l D cI cR ad (x3.2.1, x3.2.2.1, x3.2.2.2.1, x3.2.2.2.2.1, x3.2.2.2.2.2.1, x3.2.2.2.2.2.2.1, x3.2.2.2.2.2.2.2.1, x3.2.2.2.2.2.2.2.2.1, x3.2.2.2.2.2.2.2.2.2.1, x3.2.2.2.2.2.2.2.2.2.2.1, x3.2.2.2.2.2.2.2.2.2.2.2.1, x3.2.2.2.2.2.2.2.2.2.2.2.2.1, x3.2.2.2.2.2.2.2.2.2.2.2.2.2.1, x3.1, x3.2.2.2.2.2.2.2.2.2.2.2.2.2.2.2.1, x3.2.2.2.2.2.2.2.2.2.2.2.2.2.2.2.2.1, x3.2.2.2.2.2.2.2.2.2.2.2.2.2.2.2.2.2.1, x3.2.2.2.2.2.2.2.2.2.2.2.2.2.2.2.2.2.2) l4 _ x4 hcx4) kM_X7_70 kN_X7_visits kV_X7_visits kZ_X7 kK_X7_visits ⟨rfl, rfl⟩ ⟨(Nat.le_of_ble_eq_true rfl), (Nat.le_of_ble_eq_true rfl)⟩ pd_X7_visits rfl hK hN hP hD [0, 1, 2, 3, 4, 5, 6] rfl rfl 0 7 rfl rfl rfl hl.1 (Nat.le_of_ble_eq_true rfl) dX7_drives_98 ⟨(Nat.le_of_ble_eq_true rfl), (Nat.le_of_ble_eq_true rfl)⟩) hP hD hS hA [0, 1, 2, 3, 4, 5, 6] [] rfl rfl rfl (by decide) (fun H locs hP hD hS => ?_)
        have hP : va_P D vwCl [(ad 0, .inr (7, [.int x4.1, .ref (ad 1), .ref (ad 2), .ref (ad 3), .int x4.2.2.2.2.1, .ref (ad 4), .int x4.2.2.2.2.2.2.1, .ref (ad 5), .int x4.2.2.2.2.2.2.2.2.1, .int x4.2.2.2.2.2.2.2.2.2.1, .int x4.2.2.2.2.2.2.2.2.2.2.1, .ref (ad 6), .int x4.2.2.2.2.2.2.2.2.2.2.2.2.1, .int x4.2.2.2.2.2.2.2.2.2.2.2.2.2.1, .int x4.2.2.2.2.2.2.2.2.2.2.2.2.2.2.1, .int x4.2.2.2.2.2.2.2.2.2.2.2.2.2.2.2.1, .int x4.2.2.2.2.2.2.2.2.2.2.2.2.2.2.2.2.1, .int x4.2.2.2.2.2.2.2.2.2.2.2.2.2.2.2.2.2])), (ad 1, .inl (cI, 72, .inl x4.2.1)), (ad 2, .inl (cI, 72, .inl x4.2.2.1)), (ad 3, .inl (cI, 288, .inl x4.2.2.2.1)), (ad 4, .inl (cI, 72, .inl x4.2.2.2.2.2.1)), (ad 5, .inl (cI, 60, .inl x4.2.2.2.2.2.2.2.1)), (ad 6, .inl (cI, 32768, .inl x4.2.2.2.2.2.2.2.2.2.2.2.1))] H := hP
        have hD : va_D A [(ad 0, .inr (7, [.int x4.1, .ref (ad 1), .ref (ad 2), .ref (ad 3), .int x4.2.2.2.2.1, .ref (ad 4), .int x4.2.2.2.2.2.2.1, .ref (ad 5), .int x4.2.2.2.2.2.2.2.2.1, .int x4.2.2.2.2.2.2.2.2.2.1, .int x4.2.2.2.2.2.2.2.2.2.2.1, .ref (ad 6), .int x4.2.2.2.2.2.2.2.2.2.2.2.2.1, .int x4.2.2.2.2.2.2.2.2.2.2.2.2.2.1, .int x4.2.2.2.2.2.2.2.2.2.2.2.2.2.2.1, .int x4.2.2.2.2.2.2.2.2.2.2.2.2.2.2.2.1, .int x4.2.2.2.2.2.2.2.2.2.2.2.2.2.2.2.2.1, .int x4.2.2.2.2.2.2.2.2.2.2.2.2.2.2.2.2.2])), (ad 1, .inl (cI, 72, .inl x4.2.1)), (ad 2, .inl (cI, 72, .inl x4.2.2.1)), (ad 3, .inl (cI, 288, .inl x4.2.2.2.1)), (ad 4, .inl (cI, 72, .inl x4.2.2.2.2.2.1)), (ad 5, .inl (cI, 60, .inl x4.2.2.2.2.2.2.2.1)), (ad 6, .inl (cI, 32768, .inl x4.2.2.2.2.2.2.2.2.2.2.2.1))] := hD
        refine lv_goto (tgt := 60) hx hb dX7_drives_101 (by decide) ?_
        exact ih_L60 l2 l4 x4 _ _ ls hP hD hS (lv_sub hl [0, 1, 2] rfl) hf
  have J54 : ∀ (l2 : Int32) (l4 : Int32) (v : tX7) (H : Heap) (locs : List Loc) (ls : Array Slot), va_P D vwCl [(ad 0, .inr (7, [.int v.1, .ref (ad 1), .ref (ad 2), .ref (ad 3), .int v.2.2.2.2.1, .ref (ad 4), .int v.2.2.2.2.2.2.1, .ref (ad 5), .int v.2.2.2.2.2.2.2.2.1, .int v.2.2.2.2.2.2.2.2.2.1, .int v.2.2.2.2.2.2.2.2.2.2.1, .ref (ad 6), .int v.2.2.2.2.2.2.2.2.2.2.2.2.1, .int v.2.2.2.2.2.2.2.2.2.2.2.2.2.1, .int v.2.2.2.2.2.2.2.2.2.2.2.2.2.2.1, .int v.2.2.2.2.2.2.2.2.2.2.2.2.2.2.2.1, .int v.2.2.2.2.2.2.2.2.2.2.2.2.2.2.2.2.1, .int v.2.2.2.2.2.2.2.2.2.2.2.2.2.2.2.2.2])), (ad 1, .inl (cI, 72, .inl v.2.1)), (ad 2, .inl (cI, 72, .inl v.2.2.1)), (ad 3, .inl (cI, 288, .inl v.2.2.2.1)), (ad 4, .inl (cI, 72, .inl v.2.2.2.2.2.1)), (ad 5, .inl (cI, 60, .inl v.2.2.2.2.2.2.2.1)), (ad 6, .inl (cI, 32768, .inl v.2.2.2.2.2.2.2.2.2.2.2.1))] H → va_D A [(ad 0, .inr (7, [.int v.1, .ref (ad 1), .ref (ad 2), .ref (ad 3), .int v.2.2.2.2.1, .ref (ad 4), .int v.2.2.2.2.2.2.1, .ref (ad 5), .int v.2.2.2.2.2.2.2.2.1, .int v.2.2.2.2.2.2.2.2.2.1, .int v.2.2.2.2.2.2.2.2.2.2.1, .ref (ad 6), .int v.2.2.2.2.2.2.2.2.2.2.2.2.1, .int v.2.2.2.2.2.2.2.2.2.2.2.2.2.1, .int v.2.2.2.2.2.2.2.2.2.2.2.2.2.2.1, .int v.2.2.2.2.2.2.2.2.2.2.2.2.2.2.2.1, .int v.2.2.2.2.2.2.2.2.2.2.2.2.2.2.2.2.1, .int v.2.2.2.2.2.2.2.2.2.2.2.2.2.2.2.2.2])), (ad 1, .inl (cI, 72, .inl v.2.1)), (ad 2, .inl (cI, 72, .inl v.2.2.1)), (ad 3, .inl (cI, 288, .inl v.2.2.2.1)), (ad 4, .inl (cI, 72, .inl v.2.2.2.2.2.1)), (ad 5, .inl (cI, 60, .inl v.2.2.2.2.2.2.2.1)), (ad 6, .inl (cI, 32768, .inl v.2.2.2.2.2.2.2.2.2.2.2.1))] → va_S A s.heap H locs → lv_has ls 6 [(0, .ref (ad 0)), (2, .int l2), (4, .int l4)] → f_X7_drives_J54 l2 l4 v = some r → W p l e rm_X7_drives s m ([.ref (ad 0), .int p1, .int p2, .int p3, .int p4] : List Value).toArray below meth c H locs 0 0 (MQ below (qV D (oX7 cI cR ad r) A) ([.ref (ad 0), .int p1, .int p2, .int p3, .int p4] : List Value).toArray s 0 0 A) (F0 m 54 ls []) := by
    intro l2 l4 v H locs ls hP hD hS hl hf
    unfold f_X7_drives_J54 at hf
    refine lv_aload_n hx hb dX7_drives_54 rfl (lv_at hl 0 rfl) ?_
    refine lv_iload hx hb dX7_drives_55 (lv_at hl 2 rfl) ?_
    obtain ⟨x5, hcx5, hf⟩ := gB hf
    refine j_v (wr := []) (w_V (As := [.int l4]) (rest := []) (n := 1) ⟨hx, hb, hml, hown, hts⟩ (c_X7_visits l D cI cR ad v l4 _ x5 hcx5) kM_X7_70 kN_X7_visits kV_X7_visits kZ_X7 kK_X7_visits ⟨rfl, rfl⟩ ⟨(Nat.le_of_ble_eq_true rfl), (Nat.le_of_ble_eq_true rfl)⟩ pd_X7_visits rfl hK hN hP hD [0, 1, 2, 3, 4, 5, 6] rfl rfl 0 7 rfl rfl rfl hl.1 (Nat.le_of_ble_eq_true rfl) dX7_drives_57 ⟨(Nat.le_of_ble_eq_true rfl), (Nat.le_of_ble_eq_true rfl)⟩) hP hD hS hA [0, 1, 2, 3, 4, 5, 6] [] rfl rfl rfl (by decide) (fun H locs hP hD hS => ?_)
    have hP : va_P D vwCl [(ad 0, .inr (7, [.int x5.1, .ref (ad 1), .ref (ad 2), .ref (ad 3), .int x5.2.2.2.2.1, .ref (ad 4), .int x5.2.2.2.2.2.2.1, .ref (ad 5), .int x5.2.2.2.2.2.2.2.2.1, .int x5.2.2.2.2.2.2.2.2.2.1, .int x5.2.2.2.2.2.2.2.2.2.2.1, .ref (ad 6), .int x5.2.2.2.2.2.2.2.2.2.2.2.2.1, .int x5.2.2.2.2.2.2.2.2.2.2.2.2.2.1, .int x5.2.2.2.2.2.2.2.2.2.2.2.2.2.2.1, .int x5.2.2.2.2.2.2.2.2.2.2.2.2.2.2.2.1, .int x5.2.2.2.2.2.2.2.2.2.2.2.2.2.2.2.2.1, .int x5.2.2.2.2.2.2.2.2.2.2.2.2.2.2.2.2.2])), (ad 1, .inl (cI, 72, .inl x5.2.1)), (ad 2, .inl (cI, 72, .inl x5.2.2.1)), (ad 3, .inl (cI, 288, .inl x5.2.2.2.1)), (ad 4, .inl (cI, 72, .inl x5.2.2.2.2.2.1)), (ad 5, .inl (cI, 60, .inl x5.2.2.2.2.2.2.2.1)), (ad 6, .inl (cI, 32768, .inl x5.2.2.2.2.2.2.2.2.2.2.2.1))] H := hP
    have hD : va_D A [(ad 0, .inr (7, [.int x5.1, .ref (ad 1), .ref (ad 2), .ref (ad 3), .int x5.2.2.2.2.1, .ref (ad 4), .int x5.2.2.2.2.2.2.1, .ref (ad 5), .int x5.2.2.2.2.2.2.2.2.1, .int x5.2.2.2.2.2.2.2.2.2.1, .int x5.2.2.2.2.2.2.2.2.2.2.1, .ref (ad 6), .int x5.2.2.2.2.2.2.2.2.2.2.2.2.1, .int x5.2.2.2.2.2.2.2.2.2.2.2.2.2.1, .int x5.2.2.2.2.2.2.2.2.2.2.2.2.2.2.1, .int x5.2.2.2.2.2.2.2.2.2.2.2.2.2.2.2.1, .int x5.2.2.2.2.2.2.2.2.2.2.2.2.2.2.2.2.1, .int x5.2.2.2.2.2.2.2.2.2.2.2.2.2.2.2.2.2])), (ad 1, .inl (cI, 72, .inl x5.2.1)), (ad 2, .inl (cI, 72, .inl x5.2.2.1)), (ad 3, .inl (cI, 288, .inl x5.2.2.2.1)), (ad 4, .inl (cI, 72, .inl x5.2.2.2.2.2.1)), (ad 5, .inl (cI, 60, .inl x5.2.2.2.2.2.2.2.1)), (ad 6, .inl (cI, 32768, .inl x5.2.2.2.2.2.2.2.2.2.2.2.1))] := hD
    exact L60 gas l2 l4 x5 _ _ ls hP hD hS (lv_sub hl [0, 1, 2] rfl) hf
  have L18 : ∀ (nL18 : Nat) (l2 : Int32) (l3 : Int32) (l4 : Int32) (l5 : Int32) (v : tX7) (H : Heap) (locs : List Loc) (ls : Array Slot), va_P D vwCl [(ad 0, .inr (7, [.int v.1, .ref (ad 1), .ref (ad 2), .ref (ad 3), .int v.2.2.2.2.1, .ref (ad 4), .int v.2.2.2.2.2.2.1, .ref (ad 5), .int v.2.2.2.2.2.2.2.2.1, .int v.2.2.2.2.2.2.2.2.2.1, .int v.2.2.2.2.2.2.2.2.2.2.1, .ref (ad 6), .int v.2.2.2.2.2.2.2.2.2.2.2.2.1, .int v.2.2.2.2.2.2.2.2.2.2.2.2.2.1, .int v.2.2.2.2.2.2.2.2.2.2.2.2.2.2.1, .int v.2.2.2.2.2.2.2.2.2.2.2.2.2.2.2.1, .int v.2.2.2.2.2.2.2.2.2.2.2.2.2.2.2.2.1, .int v.2.2.2.2.2.2.2.2.2.2.2.2.2.2.2.2.2])), (ad 1, .inl (cI, 72, .inl v.2.1)), (ad 2, .inl (cI, 72, .inl v.2.2.1)), (ad 3, .inl (cI, 288, .inl v.2.2.2.1)), (ad 4, .inl (cI, 72, .inl v.2.2.2.2.2.1)), (ad 5, .inl (cI, 60, .inl v.2.2.2.2.2.2.2.1)), (ad 6, .inl (cI, 32768, .inl v.2.2.2.2.2.2.2.2.2.2.2.1))] H → va_D A [(ad 0, .inr (7, [.int v.1, .ref (ad 1), .ref (ad 2), .ref (ad 3), .int v.2.2.2.2.1, .ref (ad 4), .int v.2.2.2.2.2.2.1, .ref (ad 5), .int v.2.2.2.2.2.2.2.2.1, .int v.2.2.2.2.2.2.2.2.2.1, .int v.2.2.2.2.2.2.2.2.2.2.1, .ref (ad 6), .int v.2.2.2.2.2.2.2.2.2.2.2.2.1, .int v.2.2.2.2.2.2.2.2.2.2.2.2.2.1, .int v.2.2.2.2.2.2.2.2.2.2.2.2.2.2.1, .int v.2.2.2.2.2.2.2.2.2.2.2.2.2.2.2.1, .int v.2.2.2.2.2.2.2.2.2.2.2.2.2.2.2.2.1, .int v.2.2.2.2.2.2.2.2.2.2.2.2.2.2.2.2.2])), (ad 1, .inl (cI, 72, .inl v.2.1)), (ad 2, .inl (cI, 72, .inl v.2.2.1)), (ad 3, .inl (cI, 288, .inl v.2.2.2.1)), (ad 4, .inl (cI, 72, .inl v.2.2.2.2.2.1)), (ad 5, .inl (cI, 60, .inl v.2.2.2.2.2.2.2.1)), (ad 6, .inl (cI, 32768, .inl v.2.2.2.2.2.2.2.2.2.2.2.1))] → va_S A s.heap H locs → lv_has ls 6 [(0, .ref (ad 0)), (2, .int l2), (3, .int l3), (4, .int l4), (5, .int l5)] → f_X7_drives_L18 nL18 l2 l3 l4 l5 v = some r → W p l e rm_X7_drives s m ([.ref (ad 0), .int p1, .int p2, .int p3, .int p4] : List Value).toArray below meth c H locs 0 0 (MQ below (qV D (oX7 cI cR ad r) A) ([.ref (ad 0), .int p1, .int p2, .int p3, .int p4] : List Value).toArray s 0 0 A) (F0 m 18 ls []) := by
    intro nL18
    induction nL18 with
    | zero =>
      intro l2 l3 l4 l5 v H locs ls hP hD hS hl hf
      cases hf
    | succ nL18 ih_L18 =>
      intro l2 l3 l4 l5 v H locs ls hP hD hS hl hf
      rw [f_X7_drives_L18] at hf
      refine lv_iload hx hb dX7_drives_18 (lv_at hl 4 rfl) ?_
      refine lv_iload_n hx hb dX7_drives_20 rfl (lv_at hl 2 rfl) ?_
      refine lv_icmp_ge (tgt := 54) hx hb dX7_drives_21 (by decide) (fun c3 => ?_) (fun c3 => ?_)
      · replace hf := gT hf c3
        exact J54 l2 l4 v _ _ ls hP hD hS (lv_sub hl [0, 1, 3] rfl) hf
      · replace hf := gF hf c3
        refine lv_aload_n hx hb dX7_drives_24 rfl (lv_at hl 0 rfl) ?_
        refine va_get (D := D) (ci := 7) (v := .int v.2.2.2.2.2.2.2.2.2.2.2.2.2.1) (C := RX7) (T := TX7) (N := 18) hx hb hts inA_X7 hown hK hP 0 rfl rfl 13 (by decide) (hts _ kF_X7_63) (fun _ h9 => h9) rfl dX7_drives_25 ?_
        refine lv_aload_n hx hb dX7_drives_28 rfl (lv_at hl 0 rfl) ?_
        obtain ⟨x6, hcx6, hf⟩ := gB hf
        refine k_r (r_V (As := []) (rest := [.int v.2.2.2.2.2.2.2.2.2.2.2.2.2.1]) (n := 0) ⟨hx, hb, hml, hown, hts⟩ (c_X7_end l D cI cR ad v _ x6 hcx6) kM_X7_53 kN_X7_end kV_X7_end kZ_X7 kK_X7_end ⟨rfl, rfl⟩ ⟨(Nat.le_of_ble_eq_true rfl), (Nat.le_of_ble_eq_true rfl)⟩ pd_X7_end rfl hK hN hP hD [0, 1, 2, 3, 4, 5, 6] rfl rfl 0 7 rfl rfl rfl hl.1 (Nat.le_of_ble_eq_true rfl) dX7_drives_29 ⟨(Nat.le_of_ble_eq_true rfl), (Nat.le_of_ble_eq_true rfl)⟩) ?_
        refine lv_icmp_ge (tgt := 54) hx hb dX7_drives_32 (by decide) (fun c4 => ?_) (fun c4 => ?_)
        · replace hf := gT hf c4
          exact J54 l2 l4 v _ _ ls hP hD hS (lv_sub hl [0, 1, 3] rfl) hf
        · replace hf := gF hf c4
          refine lv_aload_n hx hb dX7_drives_35 rfl (lv_at hl 0 rfl) ?_
          refine lv_aload_n hx hb dX7_drives_36 rfl (lv_at hl 0 rfl) ?_
          refine lv_aload_n hx hb dX7_drives_37 rfl (lv_at hl 0 rfl) ?_
          refine va_get (D := D) (ci := 7) (v := .int v.2.2.2.2.2.2.2.2.2.2.2.2.2.1) (C := RX7) (T := TX7) (N := 18) hx hb hts inA_X7 hown hK hP 0 rfl rfl 13 (by decide) (hts _ kF_X7_63) (fun _ h9 => h9) rfl dX7_drives_38 ?_
          refine lv_iload_n hx hb dX7_drives_41 rfl (lv_at hl 1 rfl) ?_
          obtain ⟨x7, hcx7, hf⟩ := gB hf
          refine j_i (wr := []) (w_V (As := [.int v.2.2.2.2.2.2.2.2.2.2.2.2.2.1, .int l2]) (rest := [.ref (ad 0)]) (n := 2) ⟨hx, hb, hml, hown, hts⟩ (c_X7_next l D cI cR ad v v.2.2.2.2.2.2.2.2.2.2.2.2.2.1 l2 _ x7 hcx7) kM_X7_66 kN_X7_next kV_X7_next kZ_X7 kK_X7_next ⟨rfl, rfl⟩ ⟨(Nat.le_of_ble_eq_true rfl), (Nat.le_of_ble_eq_true rfl)⟩ pd_X7_next rfl hK hN hP hD [0, 1, 2, 3, 4, 5, 6] rfl rfl 0 7 rfl rfl rfl hl.1 (Nat.le_of_ble_eq_true rfl) dX7_drives_42 ⟨(Nat.le_of_ble_eq_true rfl), (Nat.le_of_ble_eq_true rfl)⟩) hP hD hS hA [0, 1, 2, 3, 4, 5, 6] [] rfl rfl rfl (by decide) (fun H locs hP hD hS => ?_)
          have hP : va_P D vwCl [(ad 0, .inr (7, [.int x7.2.1, .ref (ad 1), .ref (ad 2), .ref (ad 3), .int x7.2.2.2.2.2.1, .ref (ad 4), .int x7.2.2.2.2.2.2.2.1, .ref (ad 5), .int x7.2.2.2.2.2.2.2.2.2.1, .int x7.2.2.2.2.2.2.2.2.2.2.1, .int x7.2.2.2.2.2.2.2.2.2.2.2.1, .ref (ad 6), .int x7.2.2.2.2.2.2.2.2.2.2.2.2.2.1, .int x7.2.2.2.2.2.2.2.2.2.2.2.2.2.2.1, .int x7.2.2.2.2.2.2.2.2.2.2.2.2.2.2.2.1, .int x7.2.2.2.2.2.2.2.2.2.2.2.2.2.2.2.2.1, .int x7.2.2.2.2.2.2.2.2.2.2.2.2.2.2.2.2.2.1, .int x7.2.2.2.2.2.2.2.2.2.2.2.2.2.2.2.2.2.2])), (ad 1, .inl (cI, 72, .inl x7.2.2.1)), (ad 2, .inl (cI, 72, .inl x7.2.2.2.1)), (ad 3, .inl (cI, 288, .inl x7.2.2.2.2.1)), (ad 4, .inl (cI, 72, .inl x7.2.2.2.2.2.2.1)), (ad 5, .inl (cI, 60, .inl x7.2.2.2.2.2.2.2.2.1)), (ad 6, .inl (cI, 32768, .inl x7.2.2.2.2.2.2.2.2.2.2.2.2.1))] H := hP
          have hD : va_D A [(ad 0, .inr (7, [.int x7.2.1, .ref (ad 1), .ref (ad 2), .ref (ad 3), .int x7.2.2.2.2.2.1, .ref (ad 4), .int x7.2.2.2.2.2.2.2.1, .ref (ad 5), .int x7.2.2.2.2.2.2.2.2.2.1, .int x7.2.2.2.2.2.2.2.2.2.2.1, .int x7.2.2.2.2.2.2.2.2.2.2.2.1, .ref (ad 6), .int x7.2.2.2.2.2.2.2.2.2.2.2.2.2.1, .int x7.2.2.2.2.2.2.2.2.2.2.2.2.2.2.1, .int x7.2.2.2.2.2.2.2.2.2.2.2.2.2.2.2.1, .int x7.2.2.2.2.2.2.2.2.2.2.2.2.2.2.2.2.1, .int x7.2.2.2.2.2.2.2.2.2.2.2.2.2.2.2.2.2.1, .int x7.2.2.2.2.2.2.2.2.2.2.2.2.2.2.2.2.2.2])), (ad 1, .inl (cI, 72, .inl x7.2.2.1)), (ad 2, .inl (cI, 72, .inl x7.2.2.2.1)), (ad 3, .inl (cI, 288, .inl x7.2.2.2.2.1)), (ad 4, .inl (cI, 72, .inl x7.2.2.2.2.2.2.1)), (ad 5, .inl (cI, 60, .inl x7.2.2.2.2.2.2.2.2.1)), (ad 6, .inl (cI, 32768, .inl x7.2.2.2.2.2.2.2.2.2.2.2.2.1))] := hD
          refine va_put (D := D) (ci := 7) (v := .int x7.1) (ty := .int) (C := RX7) (T := TX7) (N := 18) hx hb hts inA_X7 tyX7 tyX7_ok nmX7 hown hK hP hD hS 0 rfl rfl 13 (by decide) (hts _ kF_X7_63) (fun _ h9 => h9) rfl (tyX7_ok 13 (by decide)) rfl rfl (Nat.le_of_ble_eq_true rfl) dX7_drives_45 (fun H locs hP hD hS => ?_)
          have hP : va_P D vwCl [(ad 0, .inr (7, [.int x7.2.1, .ref (ad 1), .ref (ad 2), .ref (ad 3), .int x7.2.2.2.2.2.1, .ref (ad 4), .int x7.2.2.2.2.2.2.2.1, .ref (ad 5), .int x7.2.2.2.2.2.2.2.2.2.1, .int x7.2.2.2.2.2.2.2.2.2.2.1, .int x7.2.2.2.2.2.2.2.2.2.2.2.1, .ref (ad 6), .int x7.2.2.2.2.2.2.2.2.2.2.2.2.2.1, .int x7.1, .int x7.2.2.2.2.2.2.2.2.2.2.2.2.2.2.2.1, .int x7.2.2.2.2.2.2.2.2.2.2.2.2.2.2.2.2.1, .int x7.2.2.2.2.2.2.2.2.2.2.2.2.2.2.2.2.2.1, .int x7.2.2.2.2.2.2.2.2.2.2.2.2.2.2.2.2.2.2])), (ad 1, .inl (cI, 72, .inl x7.2.2.1)), (ad 2, .inl (cI, 72, .inl x7.2.2.2.1)), (ad 3, .inl (cI, 288, .inl x7.2.2.2.2.1)), (ad 4, .inl (cI, 72, .inl x7.2.2.2.2.2.2.1)), (ad 5, .inl (cI, 60, .inl x7.2.2.2.2.2.2.2.2.1)), (ad 6, .inl (cI, 32768, .inl x7.2.2.2.2.2.2.2.2.2.2.2.2.1))] H := hP
          have hD : va_D A [(ad 0, .inr (7, [.int x7.2.1, .ref (ad 1), .ref (ad 2), .ref (ad 3), .int x7.2.2.2.2.2.1, .ref (ad 4), .int x7.2.2.2.2.2.2.2.1, .ref (ad 5), .int x7.2.2.2.2.2.2.2.2.2.1, .int x7.2.2.2.2.2.2.2.2.2.2.1, .int x7.2.2.2.2.2.2.2.2.2.2.2.1, .ref (ad 6), .int x7.2.2.2.2.2.2.2.2.2.2.2.2.2.1, .int x7.1, .int x7.2.2.2.2.2.2.2.2.2.2.2.2.2.2.2.1, .int x7.2.2.2.2.2.2.2.2.2.2.2.2.2.2.2.2.1, .int x7.2.2.2.2.2.2.2.2.2.2.2.2.2.2.2.2.2.1, .int x7.2.2.2.2.2.2.2.2.2.2.2.2.2.2.2.2.2.2])), (ad 1, .inl (cI, 72, .inl x7.2.2.1)), (ad 2, .inl (cI, 72, .inl x7.2.2.2.1)), (ad 3, .inl (cI, 288, .inl x7.2.2.2.2.1)), (ad 4, .inl (cI, 72, .inl x7.2.2.2.2.2.2.1)), (ad 5, .inl (cI, 60, .inl x7.2.2.2.2.2.2.2.2.1)), (ad 6, .inl (cI, 32768, .inl x7.2.2.2.2.2.2.2.2.2.2.2.2.1))] := hD
          refine lv_iinc (v := (l5 + (1 : Int32))) (lv' := [(5, .int (l5 + (1 : Int32))), (0, .ref (ad 0)), (2, .int l2), (3, .int l3), (4, .int l4)]) hx hb dX7_drives_48 hl (k := 4) rfl rfl (by decide) rfl (fun ls hl => ?_)
          refine lv_goto (tgt := 18) hx hb dX7_drives_51 (by decide) ?_
          exact ih_L18 l2 l3 l4 (l5 + (1 : Int32)) (x7.2.1, x7.2.2.1, x7.2.2.2.1, x7.2.2.2.2.1, x7.2.2.2.2.2.1, x7.2.2.2.2.2.2.1, x7.2.2.2.2.2.2.2.1, x7.2.2.2.2.2.2.2.2.1, x7.2.2.2.2.2.2.2.2.2.1, x7.2.2.2.2.2.2.2.2.2.2.1, x7.2.2.2.2.2.2.2.2.2.2.2.1, x7.2.2.2.2.2.2.2.2.2.2.2.2.1, x7.2.2.2.2.2.2.2.2.2.2.2.2.2.1, x7.1, x7.2.2.2.2.2.2.2.2.2.2.2.2.2.2.2.1, x7.2.2.2.2.2.2.2.2.2.2.2.2.2.2.2.2.1, x7.2.2.2.2.2.2.2.2.2.2.2.2.2.2.2.2.2.1, x7.2.2.2.2.2.2.2.2.2.2.2.2.2.2.2.2.2.2) _ _ ls hP hD hS (lv_sub hl [1, 2, 3, 4, 0] rfl) hf
  unfold f_X7_drives at hf
  refine lv_aload_n hx hb dX7_drives_0 rfl (lv_at hl 0 rfl) ?_
  refine lv_iconst (v := (0 : Int32)) hx hb dX7_drives_1 (by decide) ?_
  refine va_put (D := D) (ci := 7) (v := .int (0 : Int32)) (ty := .int) (C := RX7) (T := TX7) (N := 18) hx hb hts inA_X7 tyX7 tyX7_ok nmX7 hown hK hP hD hS 0 rfl rfl 16 (by decide) (hts _ kF_X7_57) (fun _ h9 => h9) rfl (tyX7_ok 16 (by decide)) rfl rfl (Nat.le_of_ble_eq_true rfl) dX7_drives_2 (fun H locs hP hD hS => ?_)
  have hP : va_P D vwCl [(ad 0, .inr (7, [.int v.1, .ref (ad 1), .ref (ad 2), .ref (ad 3), .int v.2.2.2.2.1, .ref (ad 4), .int v.2.2.2.2.2.2.1, .ref (ad 5), .int v.2.2.2.2.2.2.2.2.1, .int v.2.2.2.2.2.2.2.2.2.1, .int v.2.2.2.2.2.2.2.2.2.2.1, .ref (ad 6), .int v.2.2.2.2.2.2.2.2.2.2.2.2.1, .int v.2.2.2.2.2.2.2.2.2.2.2.2.2.1, .int v.2.2.2.2.2.2.2.2.2.2.2.2.2.2.1, .int v.2.2.2.2.2.2.2.2.2.2.2.2.2.2.2.1, .int (0 : Int32), .int v.2.2.2.2.2.2.2.2.2.2.2.2.2.2.2.2.2])), (ad 1, .inl (cI, 72, .inl v.2.1)), (ad 2, .inl (cI, 72, .inl v.2.2.1)), (ad 3, .inl (cI, 288, .inl v.2.2.2.1)), (ad 4, .inl (cI, 72, .inl v.2.2.2.2.2.1)), (ad 5, .inl (cI, 60, .inl v.2.2.2.2.2.2.2.1)), (ad 6, .inl (cI, 32768, .inl v.2.2.2.2.2.2.2.2.2.2.2.1))] H := hP
  have hD : va_D A [(ad 0, .inr (7, [.int v.1, .ref (ad 1), .ref (ad 2), .ref (ad 3), .int v.2.2.2.2.1, .ref (ad 4), .int v.2.2.2.2.2.2.1, .ref (ad 5), .int v.2.2.2.2.2.2.2.2.1, .int v.2.2.2.2.2.2.2.2.2.1, .int v.2.2.2.2.2.2.2.2.2.2.1, .ref (ad 6), .int v.2.2.2.2.2.2.2.2.2.2.2.2.1, .int v.2.2.2.2.2.2.2.2.2.2.2.2.2.1, .int v.2.2.2.2.2.2.2.2.2.2.2.2.2.2.1, .int v.2.2.2.2.2.2.2.2.2.2.2.2.2.2.2.1, .int (0 : Int32), .int v.2.2.2.2.2.2.2.2.2.2.2.2.2.2.2.2.2])), (ad 1, .inl (cI, 72, .inl v.2.1)), (ad 2, .inl (cI, 72, .inl v.2.2.1)), (ad 3, .inl (cI, 288, .inl v.2.2.2.1)), (ad 4, .inl (cI, 72, .inl v.2.2.2.2.2.1)), (ad 5, .inl (cI, 60, .inl v.2.2.2.2.2.2.2.1)), (ad 6, .inl (cI, 32768, .inl v.2.2.2.2.2.2.2.2.2.2.2.1))] := hD
  refine lv_aload_n hx hb dX7_drives_5 rfl (lv_at hl 0 rfl) ?_
  refine lv_iconst (v := (0 : Int32)) hx hb dX7_drives_6 (by decide) ?_
  refine va_put (D := D) (ci := 7) (v := .int (0 : Int32)) (ty := .int) (C := RX7) (T := TX7) (N := 18) hx hb hts inA_X7 tyX7 tyX7_ok nmX7 hown hK hP hD hS 0 rfl rfl 17 (by decide) (hts _ kF_X7_60) (fun _ h9 => h9) rfl (tyX7_ok 17 (by decide)) rfl rfl (Nat.le_of_ble_eq_true rfl) dX7_drives_7 (fun H locs hP hD hS => ?_)
  have hP : va_P D vwCl [(ad 0, .inr (7, [.int v.1, .ref (ad 1), .ref (ad 2), .ref (ad 3), .int v.2.2.2.2.1, .ref (ad 4), .int v.2.2.2.2.2.2.1, .ref (ad 5), .int v.2.2.2.2.2.2.2.2.1, .int v.2.2.2.2.2.2.2.2.2.1, .int v.2.2.2.2.2.2.2.2.2.2.1, .ref (ad 6), .int v.2.2.2.2.2.2.2.2.2.2.2.2.1, .int v.2.2.2.2.2.2.2.2.2.2.2.2.2.1, .int v.2.2.2.2.2.2.2.2.2.2.2.2.2.2.1, .int v.2.2.2.2.2.2.2.2.2.2.2.2.2.2.2.1, .int (0 : Int32), .int (0 : Int32)])), (ad 1, .inl (cI, 72, .inl v.2.1)), (ad 2, .inl (cI, 72, .inl v.2.2.1)), (ad 3, .inl (cI, 288, .inl v.2.2.2.1)), (ad 4, .inl (cI, 72, .inl v.2.2.2.2.2.1)), (ad 5, .inl (cI, 60, .inl v.2.2.2.2.2.2.2.1)), (ad 6, .inl (cI, 32768, .inl v.2.2.2.2.2.2.2.2.2.2.2.1))] H := hP
  have hD : va_D A [(ad 0, .inr (7, [.int v.1, .ref (ad 1), .ref (ad 2), .ref (ad 3), .int v.2.2.2.2.1, .ref (ad 4), .int v.2.2.2.2.2.2.1, .ref (ad 5), .int v.2.2.2.2.2.2.2.2.1, .int v.2.2.2.2.2.2.2.2.2.1, .int v.2.2.2.2.2.2.2.2.2.2.1, .ref (ad 6), .int v.2.2.2.2.2.2.2.2.2.2.2.2.1, .int v.2.2.2.2.2.2.2.2.2.2.2.2.2.1, .int v.2.2.2.2.2.2.2.2.2.2.2.2.2.2.1, .int v.2.2.2.2.2.2.2.2.2.2.2.2.2.2.2.1, .int (0 : Int32), .int (0 : Int32)])), (ad 1, .inl (cI, 72, .inl v.2.1)), (ad 2, .inl (cI, 72, .inl v.2.2.1)), (ad 3, .inl (cI, 288, .inl v.2.2.2.1)), (ad 4, .inl (cI, 72, .inl v.2.2.2.2.2.1)), (ad 5, .inl (cI, 60, .inl v.2.2.2.2.2.2.2.1)), (ad 6, .inl (cI, 32768, .inl v.2.2.2.2.2.2.2.2.2.2.2.1))] := hD
  refine lv_aload_n hx hb dX7_drives_10 rfl (lv_at hl 0 rfl) ?_
  refine lv_iload_n hx hb dX7_drives_11 rfl (lv_at hl 1 rfl) ?_
  refine va_put (D := D) (ci := 7) (v := .int p1) (ty := .int) (C := RX7) (T := TX7) (N := 18) hx hb hts inA_X7 tyX7 tyX7_ok nmX7 hown hK hP hD hS 0 rfl rfl 13 (by decide) (hts _ kF_X7_63) (fun _ h9 => h9) rfl (tyX7_ok 13 (by decide)) rfl rfl (Nat.le_of_ble_eq_true rfl) dX7_drives_12 (fun H locs hP hD hS => ?_)
  have hP : va_P D vwCl [(ad 0, .inr (7, [.int v.1, .ref (ad 1), .ref (ad 2), .ref (ad 3), .int v.2.2.2.2.1, .ref (ad 4), .int v.2.2.2.2.2.2.1, .ref (ad 5), .int v.2.2.2.2.2.2.2.2.1, .int v.2.2.2.2.2.2.2.2.2.1, .int v.2.2.2.2.2.2.2.2.2.2.1, .ref (ad 6), .int v.2.2.2.2.2.2.2.2.2.2.2.2.1, .int p1, .int v.2.2.2.2.2.2.2.2.2.2.2.2.2.2.1, .int v.2.2.2.2.2.2.2.2.2.2.2.2.2.2.2.1, .int (0 : Int32), .int (0 : Int32)])), (ad 1, .inl (cI, 72, .inl v.2.1)), (ad 2, .inl (cI, 72, .inl v.2.2.1)), (ad 3, .inl (cI, 288, .inl v.2.2.2.1)), (ad 4, .inl (cI, 72, .inl v.2.2.2.2.2.1)), (ad 5, .inl (cI, 60, .inl v.2.2.2.2.2.2.2.1)), (ad 6, .inl (cI, 32768, .inl v.2.2.2.2.2.2.2.2.2.2.2.1))] H := hP
  have hD : va_D A [(ad 0, .inr (7, [.int v.1, .ref (ad 1), .ref (ad 2), .ref (ad 3), .int v.2.2.2.2.1, .ref (ad 4), .int v.2.2.2.2.2.2.1, .ref (ad 5), .int v.2.2.2.2.2.2.2.2.1, .int v.2.2.2.2.2.2.2.2.2.1, .int v.2.2.2.2.2.2.2.2.2.2.1, .ref (ad 6), .int v.2.2.2.2.2.2.2.2.2.2.2.2.1, .int p1, .int v.2.2.2.2.2.2.2.2.2.2.2.2.2.2.1, .int v.2.2.2.2.2.2.2.2.2.2.2.2.2.2.2.1, .int (0 : Int32), .int (0 : Int32)])), (ad 1, .inl (cI, 72, .inl v.2.1)), (ad 2, .inl (cI, 72, .inl v.2.2.1)), (ad 3, .inl (cI, 288, .inl v.2.2.2.1)), (ad 4, .inl (cI, 72, .inl v.2.2.2.2.2.1)), (ad 5, .inl (cI, 60, .inl v.2.2.2.2.2.2.2.1)), (ad 6, .inl (cI, 32768, .inl v.2.2.2.2.2.2.2.2.2.2.2.1))] := hD
  refine lv_iconst (v := (0 : Int32)) hx hb dX7_drives_15 (by decide) ?_
  refine lv_istore (lv' := [(5, .int (0 : Int32)), (0, .ref (ad 0)), (1, .int p1), (2, .int p2), (3, .int p3), (4, .int p4)]) hx hb dX7_drives_16 hl (by decide) rfl (fun ls hl => ?_)
  exact L18 gas p2 p3 p4 (0 : Int32) (v.1, v.2.1, v.2.2.1, v.2.2.2.1, v.2.2.2.2.1, v.2.2.2.2.2.1, v.2.2.2.2.2.2.1, v.2.2.2.2.2.2.2.1, v.2.2.2.2.2.2.2.2.1, v.2.2.2.2.2.2.2.2.2.1, v.2.2.2.2.2.2.2.2.2.2.1, v.2.2.2.2.2.2.2.2.2.2.2.1, v.2.2.2.2.2.2.2.2.2.2.2.2.1, p1, v.2.2.2.2.2.2.2.2.2.2.2.2.2.2.1, v.2.2.2.2.2.2.2.2.2.2.2.2.2.2.2.1, (0 : Int32), (0 : Int32)) _ _ ls hP hD hS (lv_sub hl [1, 3, 4, 5, 0] rfl) hf
def f_X7_numberOf (p0 : Int32) (p1 : Int32) (p2 : Int32) (p3 : Int32) (p4 : Int32) (p5 : Int32) : Option Int32 :=
  some ((((((((((p0 * (16 : Int32)) + p1) * (2 : Int32)) + p2) * (2 : Int32)) + p3) * (4 : Int32)) + p4) * (4 : Int32)) + p5)
abbrev rm_X7_numberOf : Room := { frames := 0, cells := 0, slots := 0, locals := 0 }
set_option maxHeartbeats 4000000 in
set_option maxRecDepth 100000 in
theorem c_X7_numberOf (l : Launch) (D : va_G) (cI cR : ClassId) (p0 : Int32) (p1 : Int32) (p2 : Int32) (p3 : Int32) (p4 : Int32) (p5 : Int32) (sz : Nat) (r : Int32) (hf : f_X7_numberOf p0 p1 p2 p3 p4 p5 = some r) : Met l yX7_numberOf (wM yX7_numberOf cX7_numberOf 6 (some (.int))) rm_X7_numberOf (cPre D (tysA cI cR) ([.int p0, .int p1, .int p2, .int p3, .int p4, .int p5] : List Value) (([] : va_W)) sz) (QcRead r) 0 0 (fun _ => False) := by
  refine en_M (own := RX7) (lv := [(0, .int p0), (1, .int p1), (2, .int p2), (3, .int p3), (4, .int p4), (5, .int p5)]) (by decide +kernel) rfl (Nat.le_of_ble_eq_true rfl) rfl (fun p e s m below meth c hx hb hr hlk hml hown hnm hts hsz hP hK hD hN ls hl => ?_)
  generalize va_A (([] : va_W)) sz = A at hD
  have hP : va_P D vwCl [] s.heap := hP
  have hD : va_D A [] := hD
  unfold f_X7_numberOf at hf
  refine lv_iload_n hx hb dX7_numberOf_0 rfl (lv_at hl 0 rfl) ?_
  refine lv_bipush (v := (16 : Int32)) hx hb dX7_numberOf_1 (by decide) ?_
  refine lv_imul hx hb dX7_numberOf_3 ?_
  refine lv_iload_n hx hb dX7_numberOf_4 rfl (lv_at hl 1 rfl) ?_
  refine lv_iadd hx hb dX7_numberOf_5 ?_
  refine lv_iconst (v := (2 : Int32)) hx hb dX7_numberOf_6 (by decide) ?_
  refine lv_imul hx hb dX7_numberOf_7 ?_
  refine lv_iload_n hx hb dX7_numberOf_8 rfl (lv_at hl 2 rfl) ?_
  refine lv_iadd hx hb dX7_numberOf_9 ?_
  refine lv_iconst (v := (2 : Int32)) hx hb dX7_numberOf_10 (by decide) ?_
  refine lv_imul hx hb dX7_numberOf_11 ?_
  refine lv_iload_n hx hb dX7_numberOf_12 rfl (lv_at hl 3 rfl) ?_
  refine lv_iadd hx hb dX7_numberOf_13 ?_
  refine lv_iconst (v := (4 : Int32)) hx hb dX7_numberOf_14 (by decide) ?_
  refine lv_imul hx hb dX7_numberOf_15 ?_
  refine lv_iload hx hb dX7_numberOf_16 (lv_at hl 4 rfl) ?_
  refine lv_iadd hx hb dX7_numberOf_18 ?_
  refine lv_iconst (v := (4 : Int32)) hx hb dX7_numberOf_19 (by decide) ?_
  refine lv_imul hx hb dX7_numberOf_20 ?_
  refine lv_iload hx hb dX7_numberOf_21 (lv_at hl 5 rfl) ?_
  refine lv_iadd hx hb dX7_numberOf_23 ?_
  exact z_r hf hx hb hr hlk dX7_numberOf_24
def f_X7_turned (p0 : Int32) : Option Int32 :=
  (if p0 ≤ 0 then some (-(p0 + (1 : Int32))) else some (-(p0 - (1 : Int32))))
abbrev rm_X7_turned : Room := { frames := 0, cells := 0, slots := 0, locals := 0 }
set_option maxHeartbeats 4000000 in
set_option maxRecDepth 100000 in
theorem c_X7_turned (l : Launch) (D : va_G) (cI cR : ClassId) (p0 : Int32) (sz : Nat) (r : Int32) (hf : f_X7_turned p0 = some r) : Met l yX7_turned (wM yX7_turned cX7_turned 1 (some (.int))) rm_X7_turned (cPre D (tysA cI cR) ([.int p0] : List Value) (([] : va_W)) sz) (QcRead r) 0 0 (fun _ => False) := by
  refine en_M (own := RX7) (lv := [(0, .int p0)]) (by decide +kernel) rfl (Nat.le_of_ble_eq_true rfl) rfl (fun p e s m below meth c hx hb hr hlk hml hown hnm hts hsz hP hK hD hN ls hl => ?_)
  generalize va_A (([] : va_W)) sz = A at hD
  have hP : va_P D vwCl [] s.heap := hP
  have hD : va_D A [] := hD
  unfold f_X7_turned at hf
  refine lv_iload_n hx hb dX7_turned_0 rfl (lv_at hl 0 rfl) ?_
  refine lv_if_le (tgt := 11) hx hb dX7_turned_1 (by decide) (fun c0 => ?_) (fun c0 => ?_)
  · replace hf := gT hf c0
    refine lv_iload_n hx hb dX7_turned_11 rfl (lv_at hl 0 rfl) ?_
    refine lv_iconst (v := (1 : Int32)) hx hb dX7_turned_12 (by decide) ?_
    refine lv_iadd hx hb dX7_turned_13 ?_
    refine lv_ineg hx hb dX7_turned_14 ?_
    exact z_r hf hx hb hr hlk dX7_turned_15
  · replace hf := gF hf c0
    refine lv_iload_n hx hb dX7_turned_4 rfl (lv_at hl 0 rfl) ?_
    refine lv_iconst (v := (1 : Int32)) hx hb dX7_turned_5 (by decide) ?_
    refine lv_isub hx hb dX7_turned_6 ?_
    refine lv_ineg hx hb dX7_turned_7 ?_
    refine lv_goto (tgt := 15) hx hb dX7_turned_8 (by decide) ?_
    exact z_r hf hx hb hr hlk dX7_turned_15
def f_X7_worthBehindDrive_J51 (l5 : Int32) (k0 : Int32) (k1 : Int32) (k2 : Int32) (k3 : Int32) (v : tX7) : Option (Int32 × tX7) :=
  (f_X7_numberOf k3 k2 k1 k0 l5 v.2.2.2.2.2.2.2.2.2.2.2.2.2.2.1).bind fun x0 => (if ig x0 32768 = true then (f_X7_turned (v.2.2.2.2.2.2.2.2.2.2.2.1 x0.toNatClampNeg)).bind fun x1 => some (x1, v) else none)
def f_X7_worthBehindDrive (v : tX7) (p1 : Int32) (p2 : Int32) (p3 : Int32) (p4 : Int32) (p5 : Int32) (p6 : Int32) : Option (Int32 × tX7) :=
  (f_X7_drives v p1 p2 p6 (-4 : Int32)).bind fun x2 => (f_X7_end x2).bind fun x3 => (if x2.2.2.2.2.2.2.2.2.2.2.2.2.2.1 = x3 then (f_X7_turned (-500 : Int32)).bind fun x4 => some (x4, x2) else (if x2.2.2.2.2.2.2.2.2.2.2.2.2.2.2.2.1 = 0 then f_X7_worthBehindDrive_J51 p5 p3 p4 x2.2.2.2.2.2.2.2.2.2.2.2.2.2.1 p2 x2 else f_X7_worthBehindDrive_J51 p5 (1 : Int32) p4 x2.2.2.2.2.2.2.2.2.2.2.2.2.2.1 p2 x2))
abbrev rm_X7_worthBehindDrive : Room := { frames := 3, cells := 0, slots := 0, locals := 68 }
set_option maxHeartbeats 4000000 in
set_option maxRecDepth 100000 in
theorem c_X7_worthBehindDrive (l : Launch) (D : va_G) (cI cR : ClassId) (ad : Nat → Nat) (v : tX7) (p1 : Int32) (p2 : Int32) (p3 : Int32) (p4 : Int32) (p5 : Int32) (p6 : Int32) (sz : Nat) (r : (Int32 × tX7)) (hf : f_X7_worthBehindDrive v p1 p2 p3 p4 p5 p6 = some r) : Met l yX7_worthBehindDrive (wM yX7_worthBehindDrive cX7_worthBehindDrive 7 (some (.int))) rm_X7_worthBehindDrive (cPre D (tysA cI cR) ([.ref (ad 0), .int p1, .int p2, .int p3, .int p4, .int p5, .int p6] : List Value) (oX7 cI cR ad v) sz) (qI D (oX7 cI cR ad r.2) r.1 (va_A (oX7 cI cR ad v) sz)) 0 0 (va_A (oX7 cI cR ad v) sz) := by
  refine en_M (own := RX7) (lv := [(0, .ref (ad 0)), (1, .int p1), (2, .int p2), (3, .int p3), (4, .int p4), (5, .int p5), (6, .int p6)]) (by decide +kernel) rfl (Nat.le_of_ble_eq_true rfl) rfl (fun p e s m below meth c hx hb hr hlk hml hown hnm hts hsz hP hK hD hN ls hl => ?_)
  subst hsz
  generalize hAe : va_A (oX7 cI cR ad v) s.heap.size = A at hD ⊢
  have hA : ∀ q : Nat, s.heap.size ≤ q → A q := fun q h => by rw [← hAe]; exact Or.inr h
  have hS : va_S A s.heap s.heap [] := va_S.rf
  have hP : va_P D vwCl [(ad 0, .inr (7, [.int v.1, .ref (ad 1), .ref (ad 2), .ref (ad 3), .int v.2.2.2.2.1, .ref (ad 4), .int v.2.2.2.2.2.2.1, .ref (ad 5), .int v.2.2.2.2.2.2.2.2.1, .int v.2.2.2.2.2.2.2.2.2.1, .int v.2.2.2.2.2.2.2.2.2.2.1, .ref (ad 6), .int v.2.2.2.2.2.2.2.2.2.2.2.2.1, .int v.2.2.2.2.2.2.2.2.2.2.2.2.2.1, .int v.2.2.2.2.2.2.2.2.2.2.2.2.2.2.1, .int v.2.2.2.2.2.2.2.2.2.2.2.2.2.2.2.1, .int v.2.2.2.2.2.2.2.2.2.2.2.2.2.2.2.2.1, .int v.2.2.2.2.2.2.2.2.2.2.2.2.2.2.2.2.2])), (ad 1, .inl (cI, 72, .inl v.2.1)), (ad 2, .inl (cI, 72, .inl v.2.2.1)), (ad 3, .inl (cI, 288, .inl v.2.2.2.1)), (ad 4, .inl (cI, 72, .inl v.2.2.2.2.2.1)), (ad 5, .inl (cI, 60, .inl v.2.2.2.2.2.2.2.1)), (ad 6, .inl (cI, 32768, .inl v.2.2.2.2.2.2.2.2.2.2.2.1))] s.heap := hP
  have hD : va_D A [(ad 0, .inr (7, [.int v.1, .ref (ad 1), .ref (ad 2), .ref (ad 3), .int v.2.2.2.2.1, .ref (ad 4), .int v.2.2.2.2.2.2.1, .ref (ad 5), .int v.2.2.2.2.2.2.2.2.1, .int v.2.2.2.2.2.2.2.2.2.1, .int v.2.2.2.2.2.2.2.2.2.2.1, .ref (ad 6), .int v.2.2.2.2.2.2.2.2.2.2.2.2.1, .int v.2.2.2.2.2.2.2.2.2.2.2.2.2.1, .int v.2.2.2.2.2.2.2.2.2.2.2.2.2.2.1, .int v.2.2.2.2.2.2.2.2.2.2.2.2.2.2.2.1, .int v.2.2.2.2.2.2.2.2.2.2.2.2.2.2.2.2.1, .int v.2.2.2.2.2.2.2.2.2.2.2.2.2.2.2.2.2])), (ad 1, .inl (cI, 72, .inl v.2.1)), (ad 2, .inl (cI, 72, .inl v.2.2.1)), (ad 3, .inl (cI, 288, .inl v.2.2.2.1)), (ad 4, .inl (cI, 72, .inl v.2.2.2.2.2.1)), (ad 5, .inl (cI, 60, .inl v.2.2.2.2.2.2.2.1)), (ad 6, .inl (cI, 32768, .inl v.2.2.2.2.2.2.2.2.2.2.2.1))] := hD
  have J51 : ∀ (l5 : Int32) (k0 : Int32) (k1 : Int32) (k2 : Int32) (k3 : Int32) (v : tX7) (H : Heap) (locs : List Loc) (ls : Array Slot), va_P D vwCl [(ad 0, .inr (7, [.int v.1, .ref (ad 1), .ref (ad 2), .ref (ad 3), .int v.2.2.2.2.1, .ref (ad 4), .int v.2.2.2.2.2.2.1, .ref (ad 5), .int v.2.2.2.2.2.2.2.2.1, .int v.2.2.2.2.2.2.2.2.2.1, .int v.2.2.2.2.2.2.2.2.2.2.1, .ref (ad 6), .int v.2.2.2.2.2.2.2.2.2.2.2.2.1, .int v.2.2.2.2.2.2.2.2.2.2.2.2.2.1, .int v.2.2.2.2.2.2.2.2.2.2.2.2.2.2.1, .int v.2.2.2.2.2.2.2.2.2.2.2.2.2.2.2.1, .int v.2.2.2.2.2.2.2.2.2.2.2.2.2.2.2.2.1, .int v.2.2.2.2.2.2.2.2.2.2.2.2.2.2.2.2.2])), (ad 1, .inl (cI, 72, .inl v.2.1)), (ad 2, .inl (cI, 72, .inl v.2.2.1)), (ad 3, .inl (cI, 288, .inl v.2.2.2.1)), (ad 4, .inl (cI, 72, .inl v.2.2.2.2.2.1)), (ad 5, .inl (cI, 60, .inl v.2.2.2.2.2.2.2.1)), (ad 6, .inl (cI, 32768, .inl v.2.2.2.2.2.2.2.2.2.2.2.1))] H → va_D A [(ad 0, .inr (7, [.int v.1, .ref (ad 1), .ref (ad 2), .ref (ad 3), .int v.2.2.2.2.1, .ref (ad 4), .int v.2.2.2.2.2.2.1, .ref (ad 5), .int v.2.2.2.2.2.2.2.2.1, .int v.2.2.2.2.2.2.2.2.2.1, .int v.2.2.2.2.2.2.2.2.2.2.1, .ref (ad 6), .int v.2.2.2.2.2.2.2.2.2.2.2.2.1, .int v.2.2.2.2.2.2.2.2.2.2.2.2.2.1, .int v.2.2.2.2.2.2.2.2.2.2.2.2.2.2.1, .int v.2.2.2.2.2.2.2.2.2.2.2.2.2.2.2.1, .int v.2.2.2.2.2.2.2.2.2.2.2.2.2.2.2.2.1, .int v.2.2.2.2.2.2.2.2.2.2.2.2.2.2.2.2.2])), (ad 1, .inl (cI, 72, .inl v.2.1)), (ad 2, .inl (cI, 72, .inl v.2.2.1)), (ad 3, .inl (cI, 288, .inl v.2.2.2.1)), (ad 4, .inl (cI, 72, .inl v.2.2.2.2.2.1)), (ad 5, .inl (cI, 60, .inl v.2.2.2.2.2.2.2.1)), (ad 6, .inl (cI, 32768, .inl v.2.2.2.2.2.2.2.2.2.2.2.1))] → va_S A s.heap H locs → lv_has ls 7 [(0, .ref (ad 0)), (5, .int l5)] → f_X7_worthBehindDrive_J51 l5 k0 k1 k2 k3 v = some r → W p l e rm_X7_worthBehindDrive s m ([.ref (ad 0), .int p1, .int p2, .int p3, .int p4, .int p5, .int p6] : List Value).toArray below meth c H locs 0 0 (MQ below (qI D (oX7 cI cR ad r.2) r.1 A) ([.ref (ad 0), .int p1, .int p2, .int p3, .int p4, .int p5, .int p6] : List Value).toArray s 0 0 A) (F0 m 51 ls [.int k0, .int k1, .int k2, .int k3, .ref (ad 6)]) := by
    intro l5 k0 k1 k2 k3 v H locs ls hP hD hS hl hf
    unfold f_X7_worthBehindDrive_J51 at hf
    refine lv_iload hx hb dX7_worthBehindDrive_51 (lv_at hl 1 rfl) ?_
    refine lv_aload_n hx hb dX7_worthBehindDrive_53 rfl (lv_at hl 0 rfl) ?_
    refine va_get (D := D) (ci := 7) (v := .int v.2.2.2.2.2.2.2.2.2.2.2.2.2.2.1) (C := RX7) (T := TX7) (N := 18) hx hb hts inA_X7 hown hK hP 0 rfl rfl 14 (by decide) (hts _ kF_X7_78) (fun _ h9 => h9) rfl dX7_worthBehindDrive_54 ?_
    obtain ⟨x0, hcx0, hf⟩ := gB hf
    refine k_r (r_S (As := [.int k3, .int k2, .int k1, .int k0, .int l5, .int v.2.2.2.2.2.2.2.2.2.2.2.2.2.2.1]) (rest := [.ref (ad 6)]) (n := 6) ⟨hx, hb, hml, hown, hts⟩ (c_X7_numberOf l D cI cR k3 k2 k1 k0 l5 v.2.2.2.2.2.2.2.2.2.2.2.2.2.2.1 _ x0 hcx0) kM_X7_92 kS_X7_numberOf kZ_X7 kK_X7_numberOf ⟨rfl, rfl⟩ ⟨(Nat.le_of_ble_eq_true rfl), (Nat.le_of_ble_eq_true rfl)⟩ pd_X7_numberOf rfl hK hN hP hD [] rfl rfl rfl hl.1 (Nat.le_of_ble_eq_true rfl) dX7_worthBehindDrive_57 ⟨(Nat.le_of_ble_eq_true rfl), (Nat.le_of_ble_eq_true rfl)⟩) ?_
    obtain ⟨g0, hf⟩ := gd hf
    refine va_iald hx hb hK hP 6 0 rfl rfl (ig_in g0) dX7_worthBehindDrive_60 ?_
    obtain ⟨x1, hcx1, hf⟩ := gB hf
    refine k_r (r_S (As := [.int (v.2.2.2.2.2.2.2.2.2.2.2.1 x0.toNatClampNeg)]) (rest := []) (n := 1) ⟨hx, hb, hml, hown, hts⟩ (c_X7_turned l D cI cR (v.2.2.2.2.2.2.2.2.2.2.2.1 x0.toNatClampNeg) _ x1 hcx1) kM_X7_89 kS_X7_turned kZ_X7 kK_X7_turned ⟨rfl, rfl⟩ ⟨(Nat.le_of_ble_eq_true rfl), (Nat.le_of_ble_eq_true rfl)⟩ pd_X7_turned rfl hK hN hP hD [] rfl rfl rfl hl.1 (Nat.le_of_ble_eq_true rfl) dX7_worthBehindDrive_61 ⟨(Nat.le_of_ble_eq_true rfl), (Nat.le_of_ble_eq_true rfl)⟩) ?_
    exact z_i hf (fun r => r.1) (fun r => oX7 cI cR ad r.2) hx hb hr hlk hS hP hD dX7_worthBehindDrive_64
  unfold f_X7_worthBehindDrive at hf
  refine lv_aload_n hx hb dX7_worthBehindDrive_0 rfl (lv_at hl 0 rfl) ?_
  refine lv_iload_n hx hb dX7_worthBehindDrive_1 rfl (lv_at hl 1 rfl) ?_
  refine lv_iload_n hx hb dX7_worthBehindDrive_2 rfl (lv_at hl 2 rfl) ?_
  refine lv_iload hx hb dX7_worthBehindDrive_3 (lv_at hl 6 rfl) ?_
  refine lv_bipush (v := (-4 : Int32)) hx hb dX7_worthBehindDrive_5 (by decide) ?_
  obtain ⟨x2, hcx2, hf⟩ := gB hf
  refine j_v (wr := []) (w_V (As := [.int p1, .int p2, .int p6, .int (-4 : Int32)]) (rest := []) (n := 4) ⟨hx, hb, hml, hown, hts⟩ (c_X7_drives l D cI cR ad v p1 p2 p6 (-4 : Int32) _ x2 hcx2) kM_X7_85 kN_X7_drives kV_X7_drives kZ_X7 kK_X7_drives ⟨rfl, rfl⟩ ⟨(Nat.le_of_ble_eq_true rfl), (Nat.le_of_ble_eq_true rfl)⟩ pd_X7_drives rfl hK hN hP hD [0, 1, 2, 3, 4, 5, 6] rfl rfl 0 7 rfl rfl rfl hl.1 (Nat.le_of_ble_eq_true rfl) dX7_worthBehindDrive_7 ⟨(Nat.le_of_ble_eq_true rfl), (Nat.le_of_ble_eq_true rfl)⟩) hP hD hS hA [0, 1, 2, 3, 4, 5, 6] [] rfl rfl rfl (by decide) (fun H locs hP hD hS => ?_)
  have hP : va_P D vwCl [(ad 0, .inr (7, [.int x2.1, .ref (ad 1), .ref (ad 2), .ref (ad 3), .int x2.2.2.2.2.1, .ref (ad 4), .int x2.2.2.2.2.2.2.1, .ref (ad 5), .int x2.2.2.2.2.2.2.2.2.1, .int x2.2.2.2.2.2.2.2.2.2.1, .int x2.2.2.2.2.2.2.2.2.2.2.1, .ref (ad 6), .int x2.2.2.2.2.2.2.2.2.2.2.2.2.1, .int x2.2.2.2.2.2.2.2.2.2.2.2.2.2.1, .int x2.2.2.2.2.2.2.2.2.2.2.2.2.2.2.1, .int x2.2.2.2.2.2.2.2.2.2.2.2.2.2.2.2.1, .int x2.2.2.2.2.2.2.2.2.2.2.2.2.2.2.2.2.1, .int x2.2.2.2.2.2.2.2.2.2.2.2.2.2.2.2.2.2])), (ad 1, .inl (cI, 72, .inl x2.2.1)), (ad 2, .inl (cI, 72, .inl x2.2.2.1)), (ad 3, .inl (cI, 288, .inl x2.2.2.2.1)), (ad 4, .inl (cI, 72, .inl x2.2.2.2.2.2.1)), (ad 5, .inl (cI, 60, .inl x2.2.2.2.2.2.2.2.1)), (ad 6, .inl (cI, 32768, .inl x2.2.2.2.2.2.2.2.2.2.2.2.1))] H := hP
  have hD : va_D A [(ad 0, .inr (7, [.int x2.1, .ref (ad 1), .ref (ad 2), .ref (ad 3), .int x2.2.2.2.2.1, .ref (ad 4), .int x2.2.2.2.2.2.2.1, .ref (ad 5), .int x2.2.2.2.2.2.2.2.2.1, .int x2.2.2.2.2.2.2.2.2.2.1, .int x2.2.2.2.2.2.2.2.2.2.2.1, .ref (ad 6), .int x2.2.2.2.2.2.2.2.2.2.2.2.2.1, .int x2.2.2.2.2.2.2.2.2.2.2.2.2.2.1, .int x2.2.2.2.2.2.2.2.2.2.2.2.2.2.2.1, .int x2.2.2.2.2.2.2.2.2.2.2.2.2.2.2.2.1, .int x2.2.2.2.2.2.2.2.2.2.2.2.2.2.2.2.2.1, .int x2.2.2.2.2.2.2.2.2.2.2.2.2.2.2.2.2.2])), (ad 1, .inl (cI, 72, .inl x2.2.1)), (ad 2, .inl (cI, 72, .inl x2.2.2.1)), (ad 3, .inl (cI, 288, .inl x2.2.2.2.1)), (ad 4, .inl (cI, 72, .inl x2.2.2.2.2.2.1)), (ad 5, .inl (cI, 60, .inl x2.2.2.2.2.2.2.2.1)), (ad 6, .inl (cI, 32768, .inl x2.2.2.2.2.2.2.2.2.2.2.2.1))] := hD
  refine lv_aload_n hx hb dX7_worthBehindDrive_10 rfl (lv_at hl 0 rfl) ?_
  refine va_get (D := D) (ci := 7) (v := .int x2.2.2.2.2.2.2.2.2.2.2.2.2.2.1) (C := RX7) (T := TX7) (N := 18) hx hb hts inA_X7 hown hK hP 0 rfl rfl 13 (by decide) (hts _ kF_X7_63) (fun _ h9 => h9) rfl dX7_worthBehindDrive_11 ?_
  refine lv_aload_n hx hb dX7_worthBehindDrive_14 rfl (lv_at hl 0 rfl) ?_
  obtain ⟨x3, hcx3, hf⟩ := gB hf
  refine k_r (r_V (As := []) (rest := [.int x2.2.2.2.2.2.2.2.2.2.2.2.2.2.1]) (n := 0) ⟨hx, hb, hml, hown, hts⟩ (c_X7_end l D cI cR ad x2 _ x3 hcx3) kM_X7_53 kN_X7_end kV_X7_end kZ_X7 kK_X7_end ⟨rfl, rfl⟩ ⟨(Nat.le_of_ble_eq_true rfl), (Nat.le_of_ble_eq_true rfl)⟩ pd_X7_end rfl hK hN hP hD [0, 1, 2, 3, 4, 5, 6] rfl rfl 0 7 rfl rfl rfl hl.1 (Nat.le_of_ble_eq_true rfl) dX7_worthBehindDrive_15 ⟨(Nat.le_of_ble_eq_true rfl), (Nat.le_of_ble_eq_true rfl)⟩) ?_
  refine lv_icmp_ne (tgt := 28) hx hb dX7_worthBehindDrive_18 (by decide) (fun c0 => ?_) (fun c0 => ?_)
  · replace hf := gF hf c0
    refine lv_aload_n hx hb dX7_worthBehindDrive_28 rfl (lv_at hl 0 rfl) ?_
    refine va_get (D := D) (ci := 7) (v := .ref (ad 6)) (C := RX7) (T := TX7) (N := 18) hx hb hts inA_X7 hown hK hP 0 rfl rfl 11 (by decide) (hts _ kF_X7_26) (fun _ h9 => h9) rfl dX7_worthBehindDrive_29 ?_
    refine lv_iload_n hx hb dX7_worthBehindDrive_32 rfl (lv_at hl 2 rfl) ?_
    refine lv_aload_n hx hb dX7_worthBehindDrive_33 rfl (lv_at hl 0 rfl) ?_
    refine va_get (D := D) (ci := 7) (v := .int x2.2.2.2.2.2.2.2.2.2.2.2.2.2.1) (C := RX7) (T := TX7) (N := 18) hx hb hts inA_X7 hown hK hP 0 rfl rfl 13 (by decide) (hts _ kF_X7_63) (fun _ h9 => h9) rfl dX7_worthBehindDrive_34 ?_
    refine lv_iload hx hb dX7_worthBehindDrive_37 (lv_at hl 4 rfl) ?_
    refine lv_aload_n hx hb dX7_worthBehindDrive_39 rfl (lv_at hl 0 rfl) ?_
    refine va_get (D := D) (ci := 7) (v := .int x2.2.2.2.2.2.2.2.2.2.2.2.2.2.2.2.1) (C := RX7) (T := TX7) (N := 18) hx hb hts inA_X7 hown hK hP 0 rfl rfl 15 (by decide) (hts _ kF_X7_81) (fun _ h9 => h9) rfl dX7_worthBehindDrive_40 ?_
    refine lv_if_eq (tgt := 50) hx hb dX7_worthBehindDrive_43 (by decide) (fun c1 => ?_) (fun c1 => ?_)
    · replace hf := gT hf c1
      refine lv_iload_n hx hb dX7_worthBehindDrive_50 rfl (lv_at hl 3 rfl) ?_
      exact J51 p5 p3 p4 x2.2.2.2.2.2.2.2.2.2.2.2.2.2.1 p2 x2 _ _ ls hP hD hS (lv_sub hl [0, 5] rfl) hf
    · replace hf := gF hf c1
      refine lv_iconst (v := (1 : Int32)) hx hb dX7_worthBehindDrive_46 (by decide) ?_
      refine lv_goto (tgt := 51) hx hb dX7_worthBehindDrive_47 (by decide) ?_
      exact J51 p5 (1 : Int32) p4 x2.2.2.2.2.2.2.2.2.2.2.2.2.2.1 p2 x2 _ _ ls hP hD hS (lv_sub hl [0, 5] rfl) hf
  · replace hf := gT hf c0
    refine lv_sipush (v := (-500 : Int32)) hx hb dX7_worthBehindDrive_21 (by decide) ?_
    obtain ⟨x4, hcx4, hf⟩ := gB hf
    refine k_r (r_S (As := [.int (-500 : Int32)]) (rest := []) (n := 1) ⟨hx, hb, hml, hown, hts⟩ (c_X7_turned l D cI cR (-500 : Int32) _ x4 hcx4) kM_X7_89 kS_X7_turned kZ_X7 kK_X7_turned ⟨rfl, rfl⟩ ⟨(Nat.le_of_ble_eq_true rfl), (Nat.le_of_ble_eq_true rfl)⟩ pd_X7_turned rfl hK hN hP hD [] rfl rfl rfl hl.1 (Nat.le_of_ble_eq_true rfl) dX7_worthBehindDrive_24 ⟨(Nat.le_of_ble_eq_true rfl), (Nat.le_of_ble_eq_true rfl)⟩) ?_
    exact z_i hf (fun r => r.1) (fun r => oX7 cI cR ad r.2) hx hb hr hlk hS hP hD dX7_worthBehindDrive_27
def f_X7_worthBehindToken_J26 (v : tX7) (l1 : Int32) (l2 : Int32) (l3 : Int32) (k0 : Int32) : Option Int32 :=
  (f_X7_numberOf l2 l1 l3 (0 : Int32) k0 (0 : Int32)).bind fun x0 => (if ig x0 32768 = true then (f_X7_turned (v.2.2.2.2.2.2.2.2.2.2.2.1 x0.toNatClampNeg)).bind fun x1 => some x1 else none)
def f_X7_worthBehindToken (v : tX7) (p1 : Int32) (p2 : Int32) (p3 : Int32) (p4 : Int32) : Option Int32 :=
  (if (3 : Int32) ≤ (p4 + (v.2.1 1)) then f_X7_worthBehindToken_J26 v p1 p2 p3 (3 : Int32) else f_X7_worthBehindToken_J26 v p1 p2 p3 (p4 + (v.2.1 1)))
abbrev rm_X7_worthBehindToken : Room := { frames := 1, cells := 0, slots := 0, locals := 25 }
set_option maxHeartbeats 4000000 in
set_option maxRecDepth 100000 in
theorem c_X7_worthBehindToken (l : Launch) (D : va_G) (cI cR : ClassId) (ad : Nat → Nat) (v : tX7) (p1 : Int32) (p2 : Int32) (p3 : Int32) (p4 : Int32) (sz : Nat) (r : Int32) (hf : f_X7_worthBehindToken v p1 p2 p3 p4 = some r) : Met l yX7_worthBehindToken (wM yX7_worthBehindToken cX7_worthBehindToken 6 (some (.int))) rm_X7_worthBehindToken (cPre D (tysA cI cR) ([.ref (ad 0), .int p1, .int p2, .int p3, .int p4] : List Value) (oX7 cI cR ad v) sz) (QcRead r) 0 0 (fun _ => False) := by
  refine en_M (own := RX7) (lv := [(0, .ref (ad 0)), (1, .int p1), (2, .int p2), (3, .int p3), (4, .int p4)]) (by decide +kernel) rfl (Nat.le_of_ble_eq_true rfl) rfl (fun p e s m below meth c hx hb hr hlk hml hown hnm hts hsz hP hK hD hN ls hl => ?_)
  generalize va_A (oX7 cI cR ad v) sz = A at hD
  have hP : va_P D vwCl [(ad 0, .inr (7, [.int v.1, .ref (ad 1), .ref (ad 2), .ref (ad 3), .int v.2.2.2.2.1, .ref (ad 4), .int v.2.2.2.2.2.2.1, .ref (ad 5), .int v.2.2.2.2.2.2.2.2.1, .int v.2.2.2.2.2.2.2.2.2.1, .int v.2.2.2.2.2.2.2.2.2.2.1, .ref (ad 6), .int v.2.2.2.2.2.2.2.2.2.2.2.2.1, .int v.2.2.2.2.2.2.2.2.2.2.2.2.2.1, .int v.2.2.2.2.2.2.2.2.2.2.2.2.2.2.1, .int v.2.2.2.2.2.2.2.2.2.2.2.2.2.2.2.1, .int v.2.2.2.2.2.2.2.2.2.2.2.2.2.2.2.2.1, .int v.2.2.2.2.2.2.2.2.2.2.2.2.2.2.2.2.2])), (ad 1, .inl (cI, 72, .inl v.2.1)), (ad 2, .inl (cI, 72, .inl v.2.2.1)), (ad 3, .inl (cI, 288, .inl v.2.2.2.1)), (ad 4, .inl (cI, 72, .inl v.2.2.2.2.2.1)), (ad 5, .inl (cI, 60, .inl v.2.2.2.2.2.2.2.1)), (ad 6, .inl (cI, 32768, .inl v.2.2.2.2.2.2.2.2.2.2.2.1))] s.heap := hP
  have hD : va_D A [(ad 0, .inr (7, [.int v.1, .ref (ad 1), .ref (ad 2), .ref (ad 3), .int v.2.2.2.2.1, .ref (ad 4), .int v.2.2.2.2.2.2.1, .ref (ad 5), .int v.2.2.2.2.2.2.2.2.1, .int v.2.2.2.2.2.2.2.2.2.1, .int v.2.2.2.2.2.2.2.2.2.2.1, .ref (ad 6), .int v.2.2.2.2.2.2.2.2.2.2.2.2.1, .int v.2.2.2.2.2.2.2.2.2.2.2.2.2.1, .int v.2.2.2.2.2.2.2.2.2.2.2.2.2.2.1, .int v.2.2.2.2.2.2.2.2.2.2.2.2.2.2.2.1, .int v.2.2.2.2.2.2.2.2.2.2.2.2.2.2.2.2.1, .int v.2.2.2.2.2.2.2.2.2.2.2.2.2.2.2.2.2])), (ad 1, .inl (cI, 72, .inl v.2.1)), (ad 2, .inl (cI, 72, .inl v.2.2.1)), (ad 3, .inl (cI, 288, .inl v.2.2.2.1)), (ad 4, .inl (cI, 72, .inl v.2.2.2.2.2.1)), (ad 5, .inl (cI, 60, .inl v.2.2.2.2.2.2.2.1)), (ad 6, .inl (cI, 32768, .inl v.2.2.2.2.2.2.2.2.2.2.2.1))] := hD
  have J26 : ∀ (l1 : Int32) (l2 : Int32) (l3 : Int32) (k0 : Int32) (ls : Array Slot), lv_has ls 6 [(0, .ref (ad 0)), (1, .int l1), (2, .int l2), (3, .int l3)] → f_X7_worthBehindToken_J26 v l1 l2 l3 k0 = some r → W p l e rm_X7_worthBehindToken s m ([.ref (ad 0), .int p1, .int p2, .int p3, .int p4] : List Value).toArray below meth c s.heap [] 0 0 (MQ below (QcRead r) ([.ref (ad 0), .int p1, .int p2, .int p3, .int p4] : List Value).toArray s 0 0 (fun _ => False)) (F0 m 26 ls [.int k0]) := by
    intro l1 l2 l3 k0 ls hl hf
    unfold f_X7_worthBehindToken_J26 at hf
    refine lv_istore (lv' := [(5, .int k0), (0, .ref (ad 0)), (1, .int l1), (2, .int l2), (3, .int l3)]) hx hb dX7_worthBehindToken_26 hl (by decide) rfl (fun ls hl => ?_)
    refine lv_aload_n hx hb dX7_worthBehindToken_28 rfl (lv_at hl 1 rfl) ?_
    refine va_get (D := D) (ci := 7) (v := .ref (ad 6)) (C := RX7) (T := TX7) (N := 18) hx hb hts inA_X7 hown hK hP 0 rfl rfl 11 (by decide) (hts _ kF_X7_26) (fun _ h9 => h9) rfl dX7_worthBehindToken_29 ?_
    refine lv_iload_n hx hb dX7_worthBehindToken_32 rfl (lv_at hl 3 rfl) ?_
    refine lv_iload_n hx hb dX7_worthBehindToken_33 rfl (lv_at hl 2 rfl) ?_
    refine lv_iload_n hx hb dX7_worthBehindToken_34 rfl (lv_at hl 4 rfl) ?_
    refine lv_iconst (v := (0 : Int32)) hx hb dX7_worthBehindToken_35 (by decide) ?_
    refine lv_iload hx hb dX7_worthBehindToken_36 (lv_at hl 0 rfl) ?_
    refine lv_iconst (v := (0 : Int32)) hx hb dX7_worthBehindToken_38 (by decide) ?_
    obtain ⟨x0, hcx0, hf⟩ := gB hf
    refine k_r (r_S (As := [.int l2, .int l1, .int l3, .int (0 : Int32), .int k0, .int (0 : Int32)]) (rest := [.ref (ad 6)]) (n := 6) ⟨hx, hb, hml, hown, hts⟩ (c_X7_numberOf l D cI cR l2 l1 l3 (0 : Int32) k0 (0 : Int32) _ x0 hcx0) kM_X7_92 kS_X7_numberOf kZ_X7 kK_X7_numberOf ⟨rfl, rfl⟩ ⟨(Nat.le_of_ble_eq_true rfl), (Nat.le_of_ble_eq_true rfl)⟩ pd_X7_numberOf rfl hK hN hP hD [] rfl rfl rfl hl.1 (Nat.le_of_ble_eq_true rfl) dX7_worthBehindToken_39 ⟨(Nat.le_of_ble_eq_true rfl), (Nat.le_of_ble_eq_true rfl)⟩) ?_
    obtain ⟨g0, hf⟩ := gd hf
    refine va_iald hx hb hK hP 6 0 rfl rfl (ig_in g0) dX7_worthBehindToken_42 ?_
    obtain ⟨x1, hcx1, hf⟩ := gB hf
    refine k_r (r_S (As := [.int (v.2.2.2.2.2.2.2.2.2.2.2.1 x0.toNatClampNeg)]) (rest := []) (n := 1) ⟨hx, hb, hml, hown, hts⟩ (c_X7_turned l D cI cR (v.2.2.2.2.2.2.2.2.2.2.2.1 x0.toNatClampNeg) _ x1 hcx1) kM_X7_89 kS_X7_turned kZ_X7 kK_X7_turned ⟨rfl, rfl⟩ ⟨(Nat.le_of_ble_eq_true rfl), (Nat.le_of_ble_eq_true rfl)⟩ pd_X7_turned rfl hK hN hP hD [] rfl rfl rfl hl.1 (Nat.le_of_ble_eq_true rfl) dX7_worthBehindToken_43 ⟨(Nat.le_of_ble_eq_true rfl), (Nat.le_of_ble_eq_true rfl)⟩) ?_
    exact z_r hf hx hb hr hlk dX7_worthBehindToken_46
  unfold f_X7_worthBehindToken at hf
  refine lv_iload hx hb dX7_worthBehindToken_0 (lv_at hl 4 rfl) ?_
  refine lv_aload_n hx hb dX7_worthBehindToken_2 rfl (lv_at hl 0 rfl) ?_
  refine va_get (D := D) (ci := 7) (v := .ref (ad 1)) (C := RX7) (T := TX7) (N := 18) hx hb hts inA_X7 hown hK hP 0 rfl rfl 1 (by decide) (hts _ kF_X7_7) (fun _ h9 => h9) rfl dX7_worthBehindToken_3 ?_
  refine lv_iconst (v := (1 : Int32)) hx hb dX7_worthBehindToken_6 (by decide) ?_
  refine va_iald hx hb hK hP 1 0 rfl rfl (ig_in (by decide)) dX7_worthBehindToken_7 ?_
  refine W.eq (g2 := F0 m 8 ls [.int (v.2.1 1), .int p4]) rfl ?_
  refine lv_iadd hx hb dX7_worthBehindToken_8 ?_
  refine lv_iconst (v := (3 : Int32)) hx hb dX7_worthBehindToken_9 (by decide) ?_
  refine lv_icmp_ge (tgt := 25) hx hb dX7_worthBehindToken_10 (by decide) (fun c0 => ?_) (fun c0 => ?_)
  · replace hf := gT hf c0
    refine lv_iconst (v := (3 : Int32)) hx hb dX7_worthBehindToken_25 (by decide) ?_
    exact J26 p1 p2 p3 (3 : Int32) ls (lv_sub hl [0, 1, 2, 3] rfl) hf
  · replace hf := gF hf c0
    refine lv_iload hx hb dX7_worthBehindToken_13 (lv_at hl 4 rfl) ?_
    refine lv_aload_n hx hb dX7_worthBehindToken_15 rfl (lv_at hl 0 rfl) ?_
    refine va_get (D := D) (ci := 7) (v := .ref (ad 1)) (C := RX7) (T := TX7) (N := 18) hx hb hts inA_X7 hown hK hP 0 rfl rfl 1 (by decide) (hts _ kF_X7_7) (fun _ h9 => h9) rfl dX7_worthBehindToken_16 ?_
    refine lv_iconst (v := (1 : Int32)) hx hb dX7_worthBehindToken_19 (by decide) ?_
    refine va_iald hx hb hK hP 1 0 rfl rfl (ig_in (by decide)) dX7_worthBehindToken_20 ?_
    refine W.eq (g2 := F0 m 21 ls [.int (v.2.1 1), .int p4]) rfl ?_
    refine lv_iadd hx hb dX7_worthBehindToken_21 ?_
    refine lv_goto (tgt := 26) hx hb dX7_worthBehindToken_22 (by decide) ?_
    exact J26 p1 p2 p3 (p4 + (v.2.1 1)) ls (lv_sub hl [0, 1, 2, 3] rfl) hf
def f_X7_worthAt_J105 (l7 : Int32) (k0 : Int32) (v : tX7) : Option (Int32 × tX7) :=
  (if k0 ≤ l7 then some (l7, v) else some (k0, v))
def f_X7_worthAt_J76 (kL36 : Int32 → Int32 → Int32 → Int32 → Int32 → Int32 → Int32 → tX7 → Option (Int32 × tX7)) (l1 : Int32) (l2 : Int32) (l3 : Int32) (l4 : Int32) (l6 : Int32) (l8 : Int32) (k0 : Int32) (v : tX7) : Option (Int32 × tX7) :=
  kL36 l1 l2 l3 l4 l6 k0 (l8 + (1 : Int32)) v
def f_X7_worthAt_L36 : Nat → Int32 → Int32 → Int32 → Int32 → Int32 → Int32 → Int32 → tX7 → Option (Int32 × tX7)
  | 0, _, _, _, _, _, _, _, _ => none
  | nL36 + 1, l1, l2, l3, l4, l6, l7, l8, v =>
    (if (v.2.1 0) < l8 then (if l3 = (1 : Int32) then (f_X7_worthBehindToken v l1 l2 l4 l6).bind fun x0 => f_X7_worthAt_J105 l7 x0 v else f_X7_worthAt_J105 l7 (-500 : Int32) v) else (f_X7_worthBehindDrive v l1 l2 l3 l4 l6 l8).bind fun x1 => (if x1.1 ≤ l7 then f_X7_worthAt_J76 (f_X7_worthAt_L36 nL36) l1 l2 l3 l4 l6 l8 l7 x1.2 else f_X7_worthAt_J76 (f_X7_worthAt_L36 nL36) l1 l2 l3 l4 l6 l8 x1.1 x1.2))
def f_X7_worthAt (v : tX7) (p1 : Int32) (p2 : Int32) (p3 : Int32) (p4 : Int32) (p5 : Int32) (p6 : Int32) : Option (Int32 × tX7) :=
  (if p5 ≤ 0 then f_X7_worthAt_L36 gas p1 p2 p3 p4 p6 (-500 : Int32) (1 : Int32) v else (f_X7_numberOf p2 p1 p4 p3 p6 (p5 - (1 : Int32))).bind fun x2 => (if ig x2 32768 = true then (f_X7_turned (v.2.2.2.2.2.2.2.2.2.2.2.1 x2.toNatClampNeg)).bind fun x3 => some (x3, v) else none))
abbrev rm_X7_worthAt : Room := { frames := 4, cells := 0, slots := 0, locals := 94 }
set_option maxHeartbeats 4000000 in
set_option maxRecDepth 100000 in
theorem c_X7_worthAt (l : Launch) (D : va_G) (cI cR : ClassId) (ad : Nat → Nat) (v : tX7) (p1 : Int32) (p2 : Int32) (p3 : Int32) (p4 : Int32) (p5 : Int32) (p6 : Int32) (sz : Nat) (r : (Int32 × tX7)) (hf : f_X7_worthAt v p1 p2 p3 p4 p5 p6 = some r) : Met l yX7_worthAt (wM yX7_worthAt cX7_worthAt 10 (some (.int))) rm_X7_worthAt (cPre D (tysA cI cR) ([.ref (ad 0), .int p1, .int p2, .int p3, .int p4, .int p5, .int p6] : List Value) (oX7 cI cR ad v) sz) (qI D (oX7 cI cR ad r.2) r.1 (va_A (oX7 cI cR ad v) sz)) 0 0 (va_A (oX7 cI cR ad v) sz) := by
  refine en_M (own := RX7) (lv := [(0, .ref (ad 0)), (1, .int p1), (2, .int p2), (3, .int p3), (4, .int p4), (5, .int p5), (6, .int p6)]) (by decide +kernel) rfl (Nat.le_of_ble_eq_true rfl) rfl (fun p e s m below meth c hx hb hr hlk hml hown hnm hts hsz hP hK hD hN ls hl => ?_)
  subst hsz
  generalize hAe : va_A (oX7 cI cR ad v) s.heap.size = A at hD ⊢
  have hA : ∀ q : Nat, s.heap.size ≤ q → A q := fun q h => by rw [← hAe]; exact Or.inr h
  have hS : va_S A s.heap s.heap [] := va_S.rf
  have hP : va_P D vwCl [(ad 0, .inr (7, [.int v.1, .ref (ad 1), .ref (ad 2), .ref (ad 3), .int v.2.2.2.2.1, .ref (ad 4), .int v.2.2.2.2.2.2.1, .ref (ad 5), .int v.2.2.2.2.2.2.2.2.1, .int v.2.2.2.2.2.2.2.2.2.1, .int v.2.2.2.2.2.2.2.2.2.2.1, .ref (ad 6), .int v.2.2.2.2.2.2.2.2.2.2.2.2.1, .int v.2.2.2.2.2.2.2.2.2.2.2.2.2.1, .int v.2.2.2.2.2.2.2.2.2.2.2.2.2.2.1, .int v.2.2.2.2.2.2.2.2.2.2.2.2.2.2.2.1, .int v.2.2.2.2.2.2.2.2.2.2.2.2.2.2.2.2.1, .int v.2.2.2.2.2.2.2.2.2.2.2.2.2.2.2.2.2])), (ad 1, .inl (cI, 72, .inl v.2.1)), (ad 2, .inl (cI, 72, .inl v.2.2.1)), (ad 3, .inl (cI, 288, .inl v.2.2.2.1)), (ad 4, .inl (cI, 72, .inl v.2.2.2.2.2.1)), (ad 5, .inl (cI, 60, .inl v.2.2.2.2.2.2.2.1)), (ad 6, .inl (cI, 32768, .inl v.2.2.2.2.2.2.2.2.2.2.2.1))] s.heap := hP
  have hD : va_D A [(ad 0, .inr (7, [.int v.1, .ref (ad 1), .ref (ad 2), .ref (ad 3), .int v.2.2.2.2.1, .ref (ad 4), .int v.2.2.2.2.2.2.1, .ref (ad 5), .int v.2.2.2.2.2.2.2.2.1, .int v.2.2.2.2.2.2.2.2.2.1, .int v.2.2.2.2.2.2.2.2.2.2.1, .ref (ad 6), .int v.2.2.2.2.2.2.2.2.2.2.2.2.1, .int v.2.2.2.2.2.2.2.2.2.2.2.2.2.1, .int v.2.2.2.2.2.2.2.2.2.2.2.2.2.2.1, .int v.2.2.2.2.2.2.2.2.2.2.2.2.2.2.2.1, .int v.2.2.2.2.2.2.2.2.2.2.2.2.2.2.2.2.1, .int v.2.2.2.2.2.2.2.2.2.2.2.2.2.2.2.2.2])), (ad 1, .inl (cI, 72, .inl v.2.1)), (ad 2, .inl (cI, 72, .inl v.2.2.1)), (ad 3, .inl (cI, 288, .inl v.2.2.2.1)), (ad 4, .inl (cI, 72, .inl v.2.2.2.2.2.1)), (ad 5, .inl (cI, 60, .inl v.2.2.2.2.2.2.2.1)), (ad 6, .inl (cI, 32768, .inl v.2.2.2.2.2.2.2.2.2.2.2.1))] := hD
  have J105 : ∀ (l7 : Int32) (k0 : Int32) (v : tX7) (H : Heap) (locs : List Loc) (ls : Array Slot), va_P D vwCl [(ad 0, .inr (7, [.int v.1, .ref (ad 1), .ref (ad 2), .ref (ad 3), .int v.2.2.2.2.1, .ref (ad 4), .int v.2.2.2.2.2.2.1, .ref (ad 5), .int v.2.2.2.2.2.2.2.2.1, .int v.2.2.2.2.2.2.2.2.2.1, .int v.2.2.2.2.2.2.2.2.2.2.1, .ref (ad 6), .int v.2.2.2.2.2.2.2.2.2.2.2.2.1, .int v.2.2.2.2.2.2.2.2.2.2.2.2.2.1, .int v.2.2.2.2.2.2.2.2.2.2.2.2.2.2.1, .int v.2.2.2.2.2.2.2.2.2.2.2.2.2.2.2.1, .int v.2.2.2.2.2.2.2.2.2.2.2.2.2.2.2.2.1, .int v.2.2.2.2.2.2.2.2.2.2.2.2.2.2.2.2.2])), (ad 1, .inl (cI, 72, .inl v.2.1)), (ad 2, .inl (cI, 72, .inl v.2.2.1)), (ad 3, .inl (cI, 288, .inl v.2.2.2.1)), (ad 4, .inl (cI, 72, .inl v.2.2.2.2.2.1)), (ad 5, .inl (cI, 60, .inl v.2.2.2.2.2.2.2.1)), (ad 6, .inl (cI, 32768, .inl v.2.2.2.2.2.2.2.2.2.2.2.1))] H → va_D A [(ad 0, .inr (7, [.int v.1, .ref (ad 1), .ref (ad 2), .ref (ad 3), .int v.2.2.2.2.1, .ref (ad 4), .int v.2.2.2.2.2.2.1, .ref (ad 5), .int v.2.2.2.2.2.2.2.2.1, .int v.2.2.2.2.2.2.2.2.2.1, .int v.2.2.2.2.2.2.2.2.2.2.1, .ref (ad 6), .int v.2.2.2.2.2.2.2.2.2.2.2.2.1, .int v.2.2.2.2.2.2.2.2.2.2.2.2.2.1, .int v.2.2.2.2.2.2.2.2.2.2.2.2.2.2.1, .int v.2.2.2.2.2.2.2.2.2.2.2.2.2.2.2.1, .int v.2.2.2.2.2.2.2.2.2.2.2.2.2.2.2.2.1, .int v.2.2.2.2.2.2.2.2.2.2.2.2.2.2.2.2.2])), (ad 1, .inl (cI, 72, .inl v.2.1)), (ad 2, .inl (cI, 72, .inl v.2.2.1)), (ad 3, .inl (cI, 288, .inl v.2.2.2.1)), (ad 4, .inl (cI, 72, .inl v.2.2.2.2.2.1)), (ad 5, .inl (cI, 60, .inl v.2.2.2.2.2.2.2.1)), (ad 6, .inl (cI, 32768, .inl v.2.2.2.2.2.2.2.2.2.2.2.1))] → va_S A s.heap H locs → lv_has ls 10 [(7, .int l7)] → f_X7_worthAt_J105 l7 k0 v = some r → W p l e rm_X7_worthAt s m ([.ref (ad 0), .int p1, .int p2, .int p3, .int p4, .int p5, .int p6] : List Value).toArray below meth c H locs 0 0 (MQ below (qI D (oX7 cI cR ad r.2) r.1 A) ([.ref (ad 0), .int p1, .int p2, .int p3, .int p4, .int p5, .int p6] : List Value).toArray s 0 0 A) (F0 m 105 ls [.int k0]) := by
    intro l7 k0 v H locs ls hP hD hS hl hf
    unfold f_X7_worthAt_J105 at hf
    refine lv_istore (lv' := [(8, .int k0), (7, .int l7)]) hx hb dX7_worthAt_105 hl (by decide) rfl (fun ls hl => ?_)
    refine lv_iload hx hb dX7_worthAt_107 (lv_at hl 0 rfl) ?_
    refine lv_iload hx hb dX7_worthAt_109 (lv_at hl 1 rfl) ?_
    refine lv_icmp_le (tgt := 119) hx hb dX7_worthAt_111 (by decide) (fun c0 => ?_) (fun c0 => ?_)
    · replace hf := gT hf c0
      refine lv_iload hx hb dX7_worthAt_119 (lv_at hl 1 rfl) ?_
      exact z_i hf (fun r => r.1) (fun r => oX7 cI cR ad r.2) hx hb hr hlk hS hP hD dX7_worthAt_121
    · replace hf := gF hf c0
      refine lv_iload hx hb dX7_worthAt_114 (lv_at hl 0 rfl) ?_
      refine lv_goto (tgt := 121) hx hb dX7_worthAt_116 (by decide) ?_
      exact z_i hf (fun r => r.1) (fun r => oX7 cI cR ad r.2) hx hb hr hlk hS hP hD dX7_worthAt_121
  have L36 : ∀ (nL36 : Nat) (l1 : Int32) (l2 : Int32) (l3 : Int32) (l4 : Int32) (l6 : Int32) (l7 : Int32) (l8 : Int32) (v : tX7) (H : Heap) (locs : List Loc) (ls : Array Slot), va_P D vwCl [(ad 0, .inr (7, [.int v.1, .ref (ad 1), .ref (ad 2), .ref (ad 3), .int v.2.2.2.2.1, .ref (ad 4), .int v.2.2.2.2.2.2.1, .ref (ad 5), .int v.2.2.2.2.2.2.2.2.1, .int v.2.2.2.2.2.2.2.2.2.1, .int v.2.2.2.2.2.2.2.2.2.2.1, .ref (ad 6), .int v.2.2.2.2.2.2.2.2.2.2.2.2.1, .int v.2.2.2.2.2.2.2.2.2.2.2.2.2.1, .int v.2.2.2.2.2.2.2.2.2.2.2.2.2.2.1, .int v.2.2.2.2.2.2.2.2.2.2.2.2.2.2.2.1, .int v.2.2.2.2.2.2.2.2.2.2.2.2.2.2.2.2.1, .int v.2.2.2.2.2.2.2.2.2.2.2.2.2.2.2.2.2])), (ad 1, .inl (cI, 72, .inl v.2.1)), (ad 2, .inl (cI, 72, .inl v.2.2.1)), (ad 3, .inl (cI, 288, .inl v.2.2.2.1)), (ad 4, .inl (cI, 72, .inl v.2.2.2.2.2.1)), (ad 5, .inl (cI, 60, .inl v.2.2.2.2.2.2.2.1)), (ad 6, .inl (cI, 32768, .inl v.2.2.2.2.2.2.2.2.2.2.2.1))] H → va_D A [(ad 0, .inr (7, [.int v.1, .ref (ad 1), .ref (ad 2), .ref (ad 3), .int v.2.2.2.2.1, .ref (ad 4), .int v.2.2.2.2.2.2.1, .ref (ad 5), .int v.2.2.2.2.2.2.2.2.1, .int v.2.2.2.2.2.2.2.2.2.1, .int v.2.2.2.2.2.2.2.2.2.2.1, .ref (ad 6), .int v.2.2.2.2.2.2.2.2.2.2.2.2.1, .int v.2.2.2.2.2.2.2.2.2.2.2.2.2.1, .int v.2.2.2.2.2.2.2.2.2.2.2.2.2.2.1, .int v.2.2.2.2.2.2.2.2.2.2.2.2.2.2.2.1, .int v.2.2.2.2.2.2.2.2.2.2.2.2.2.2.2.2.1, .int v.2.2.2.2.2.2.2.2.2.2.2.2.2.2.2.2.2])), (ad 1, .inl (cI, 72, .inl v.2.1)), (ad 2, .inl (cI, 72, .inl v.2.2.1)), (ad 3, .inl (cI, 288, .inl v.2.2.2.1)), (ad 4, .inl (cI, 72, .inl v.2.2.2.2.2.1)), (ad 5, .inl (cI, 60, .inl v.2.2.2.2.2.2.2.1)), (ad 6, .inl (cI, 32768, .inl v.2.2.2.2.2.2.2.2.2.2.2.1))] → va_S A s.heap H locs → lv_has ls 10 [(0, .ref (ad 0)), (1, .int l1), (2, .int l2), (3, .int l3), (4, .int l4), (6, .int l6), (7, .int l7), (8, .int l8)] → f_X7_worthAt_L36 nL36 l1 l2 l3 l4 l6 l7 l8 v = some r → W p l e rm_X7_worthAt s m ([.ref (ad 0), .int p1, .int p2, .int p3, .int p4, .int p5, .int p6] : List Value).toArray below meth c H locs 0 0 (MQ below (qI D (oX7 cI cR ad r.2) r.1 A) ([.ref (ad 0), .int p1, .int p2, .int p3, .int p4, .int p5, .int p6] : List Value).toArray s 0 0 A) (F0 m 36 ls []) := by
    intro nL36
    induction nL36 with
    | zero =>
      intro l1 l2 l3 l4 l6 l7 l8 v H locs ls hP hD hS hl hf
      cases hf
    | succ nL36 ih_L36 =>
      have J76 : ∀ (l1 : Int32) (l2 : Int32) (l3 : Int32) (l4 : Int32) (l6 : Int32) (l8 : Int32) (k0 : Int32) (v : tX7) (H : Heap) (locs : List Loc) (ls : Array Slot), va_P D vwCl [(ad 0, .inr (7, [.int v.1, .ref (ad 1), .ref (ad 2), .ref (ad 3), .int v.2.2.2.2.1, .ref (ad 4), .int v.2.2.2.2.2.2.1, .ref (ad 5), .int v.2.2.2.2.2.2.2.2.1, .int v.2.2.2.2.2.2.2.2.2.1, .int v.2.2.2.2.2.2.2.2.2.2.1, .ref (ad 6), .int v.2.2.2.2.2.2.2.2.2.2.2.2.1, .int v.2.2.2.2.2.2.2.2.2.2.2.2.2.1, .int v.2.2.2.2.2.2.2.2.2.2.2.2.2.2.1, .int v.2.2.2.2.2.2.2.2.2.2.2.2.2.2.2.1, .int v.2.2.2.2.2.2.2.2.2.2.2.2.2.2.2.2.1, .int v.2.2.2.2.2.2.2.2.2.2.2.2.2.2.2.2.2])), (ad 1, .inl (cI, 72, .inl v.2.1)), (ad 2, .inl (cI, 72, .inl v.2.2.1)), (ad 3, .inl (cI, 288, .inl v.2.2.2.1)), (ad 4, .inl (cI, 72, .inl v.2.2.2.2.2.1)), (ad 5, .inl (cI, 60, .inl v.2.2.2.2.2.2.2.1)), (ad 6, .inl (cI, 32768, .inl v.2.2.2.2.2.2.2.2.2.2.2.1))] H → va_D A [(ad 0, .inr (7, [.int v.1, .ref (ad 1), .ref (ad 2), .ref (ad 3), .int v.2.2.2.2.1, .ref (ad 4), .int v.2.2.2.2.2.2.1, .ref (ad 5), .int v.2.2.2.2.2.2.2.2.1, .int v.2.2.2.2.2.2.2.2.2.1, .int v.2.2.2.2.2.2.2.2.2.2.1, .ref (ad 6), .int v.2.2.2.2.2.2.2.2.2.2.2.2.1, .int v.2.2.2.2.2.2.2.2.2.2.2.2.2.1, .int v.2.2.2.2.2.2.2.2.2.2.2.2.2.2.1, .int v.2.2.2.2.2.2.2.2.2.2.2.2.2.2.2.1, .int v.2.2.2.2.2.2.2.2.2.2.2.2.2.2.2.2.1, .int v.2.2.2.2.2.2.2.2.2.2.2.2.2.2.2.2.2])), (ad 1, .inl (cI, 72, .inl v.2.1)), (ad 2, .inl (cI, 72, .inl v.2.2.1)), (ad 3, .inl (cI, 288, .inl v.2.2.2.1)), (ad 4, .inl (cI, 72, .inl v.2.2.2.2.2.1)), (ad 5, .inl (cI, 60, .inl v.2.2.2.2.2.2.2.1)), (ad 6, .inl (cI, 32768, .inl v.2.2.2.2.2.2.2.2.2.2.2.1))] → va_S A s.heap H locs → lv_has ls 10 [(0, .ref (ad 0)), (1, .int l1), (2, .int l2), (3, .int l3), (4, .int l4), (6, .int l6), (8, .int l8)] → f_X7_worthAt_J76 (f_X7_worthAt_L36 nL36) l1 l2 l3 l4 l6 l8 k0 v = some r → W p l e rm_X7_worthAt s m ([.ref (ad 0), .int p1, .int p2, .int p3, .int p4, .int p5, .int p6] : List Value).toArray below meth c H locs 0 0 (MQ below (qI D (oX7 cI cR ad r.2) r.1 A) ([.ref (ad 0), .int p1, .int p2, .int p3, .int p4, .int p5, .int p6] : List Value).toArray s 0 0 A) (F0 m 76 ls [.int k0]) := by
        intro l1 l2 l3 l4 l6 l8 k0 v H locs ls hP hD hS hl hf
        unfold f_X7_worthAt_J76 at hf
        refine lv_istore (lv' := [(7, .int k0), (0, .ref (ad 0)), (1, .int l1), (2, .int l2), (3, .int l3), (4, .int l4), (6, .int l6), (8, .int l8)]) hx hb dX7_worthAt_76 hl (by decide) rfl (fun ls hl => ?_)
        refine lv_iinc (v := (l8 + (1 : Int32))) (lv' := [(8, .int (l8 + (1 : Int32))), (7, .int k0), (0, .ref (ad 0)), (1, .int l1), (2, .int l2), (3, .int l3), (4, .int l4), (6, .int l6)]) hx hb dX7_worthAt_78 hl (k := 7) rfl rfl (by decide) rfl (fun ls hl => ?_)
        refine lv_goto (tgt := 36) hx hb dX7_worthAt_81 (by decide) ?_
        exact ih_L36 l1 l2 l3 l4 l6 k0 (l8 + (1 : Int32)) v _ _ ls hP hD hS (lv_sub hl [2, 3, 4, 5, 6, 7, 1, 0] rfl) hf
      intro l1 l2 l3 l4 l6 l7 l8 v H locs ls hP hD hS hl hf
      rw [f_X7_worthAt_L36] at hf
      refine lv_iload hx hb dX7_worthAt_36 (lv_at hl 7 rfl) ?_
      refine lv_aload_n hx hb dX7_worthAt_38 rfl (lv_at hl 0 rfl) ?_
      refine va_get (D := D) (ci := 7) (v := .ref (ad 1)) (C := RX7) (T := TX7) (N := 18) hx hb hts inA_X7 hown hK hP 0 rfl rfl 1 (by decide) (hts _ kF_X7_7) (fun _ h9 => h9) rfl dX7_worthAt_39 ?_
      refine lv_iconst (v := (0 : Int32)) hx hb dX7_worthAt_42 (by decide) ?_
      refine va_iald hx hb hK hP 1 0 rfl rfl (ig_in (by decide)) dX7_worthAt_43 ?_
      refine W.eq (g2 := F0 m 44 ls [.int (v.2.1 0), .int l8]) rfl ?_
      refine lv_icmp_gt (tgt := 84) hx hb dX7_worthAt_44 (by decide) (fun c1 => ?_) (fun c1 => ?_)
      · replace hf := gT hf c1
        refine lv_iload_n hx hb dX7_worthAt_84 rfl (lv_at hl 3 rfl) ?_
        refine lv_iconst (v := (1 : Int32)) hx hb dX7_worthAt_85 (by decide) ?_
        refine lv_icmp_ne (tgt := 102) hx hb dX7_worthAt_86 (by decide) (fun c2 => ?_) (fun c2 => ?_)
        · replace hf := gF hf c2
          refine lv_sipush (v := (-500 : Int32)) hx hb dX7_worthAt_102 (by decide) ?_
          exact J105 l7 (-500 : Int32) v _ _ ls hP hD hS (lv_sub hl [6] rfl) hf
        · replace hf := gT hf c2
          refine lv_aload_n hx hb dX7_worthAt_89 rfl (lv_at hl 0 rfl) ?_
          refine lv_iload_n hx hb dX7_worthAt_90 rfl (lv_at hl 1 rfl) ?_
          refine lv_iload_n hx hb dX7_worthAt_91 rfl (lv_at hl 2 rfl) ?_
          refine lv_iload hx hb dX7_worthAt_92 (lv_at hl 4 rfl) ?_
          refine lv_iload hx hb dX7_worthAt_94 (lv_at hl 5 rfl) ?_
          obtain ⟨x0, hcx0, hf⟩ := gB hf
          refine k_r (r_V (As := [.int l1, .int l2, .int l4, .int l6]) (rest := []) (n := 4) ⟨hx, hb, hml, hown, hts⟩ (c_X7_worthBehindToken l D cI cR ad v l1 l2 l4 l6 _ x0 hcx0) kM_X7_99 kN_X7_worthBehindToken kV_X7_worthBehindToken kZ_X7 kK_X7_worthBehindToken ⟨rfl, rfl⟩ ⟨(Nat.le_of_ble_eq_true rfl), (Nat.le_of_ble_eq_true rfl)⟩ pd_X7_worthBehindToken rfl hK hN hP hD [0, 1, 2, 3, 4, 5, 6] rfl rfl 0 7 rfl rfl rfl hl.1 (Nat.le_of_ble_eq_true rfl) dX7_worthAt_96 ⟨(Nat.le_of_ble_eq_true rfl), (Nat.le_of_ble_eq_true rfl)⟩) ?_
          refine lv_goto (tgt := 105) hx hb dX7_worthAt_99 (by decide) ?_
          exact J105 l7 x0 v _ _ ls hP hD hS (lv_sub hl [6] rfl) hf
      · replace hf := gF hf c1
        refine lv_aload_n hx hb dX7_worthAt_47 rfl (lv_at hl 0 rfl) ?_
        refine lv_iload_n hx hb dX7_worthAt_48 rfl (lv_at hl 1 rfl) ?_
        refine lv_iload_n hx hb dX7_worthAt_49 rfl (lv_at hl 2 rfl) ?_
        refine lv_iload_n hx hb dX7_worthAt_50 rfl (lv_at hl 3 rfl) ?_
        refine lv_iload hx hb dX7_worthAt_51 (lv_at hl 4 rfl) ?_
        refine lv_iload hx hb dX7_worthAt_53 (lv_at hl 5 rfl) ?_
        refine lv_iload hx hb dX7_worthAt_55 (lv_at hl 7 rfl) ?_
        obtain ⟨x1, hcx1, hf⟩ := gB hf
        refine j_i (wr := []) (w_V (As := [.int l1, .int l2, .int l3, .int l4, .int l6, .int l8]) (rest := []) (n := 6) ⟨hx, hb, hml, hown, hts⟩ (c_X7_worthBehindDrive l D cI cR ad v l1 l2 l3 l4 l6 l8 _ x1 hcx1) kM_X7_96 kN_X7_worthBehindDrive kV_X7_worthBehindDrive kZ_X7 kK_X7_worthBehindDrive ⟨rfl, rfl⟩ ⟨(Nat.le_of_ble_eq_true rfl), (Nat.le_of_ble_eq_true rfl)⟩ pd_X7_worthBehindDrive rfl hK hN hP hD [0, 1, 2, 3, 4, 5, 6] rfl rfl 0 7 rfl rfl rfl hl.1 (Nat.le_of_ble_eq_true rfl) dX7_worthAt_57 ⟨(Nat.le_of_ble_eq_true rfl), (Nat.le_of_ble_eq_true rfl)⟩) hP hD hS hA [0, 1, 2, 3, 4, 5, 6] [] rfl rfl rfl (by decide) (fun H locs hP hD hS => ?_)
        have hP : va_P D vwCl [(ad 0, .inr (7, [.int x1.2.1, .ref (ad 1), .ref (ad 2), .ref (ad 3), .int x1.2.2.2.2.2.1, .ref (ad 4), .int x1.2.2.2.2.2.2.2.1, .ref (ad 5), .int x1.2.2.2.2.2.2.2.2.2.1, .int x1.2.2.2.2.2.2.2.2.2.2.1, .int x1.2.2.2.2.2.2.2.2.2.2.2.1, .ref (ad 6), .int x1.2.2.2.2.2.2.2.2.2.2.2.2.2.1, .int x1.2.2.2.2.2.2.2.2.2.2.2.2.2.2.1, .int x1.2.2.2.2.2.2.2.2.2.2.2.2.2.2.2.1, .int x1.2.2.2.2.2.2.2.2.2.2.2.2.2.2.2.2.1, .int x1.2.2.2.2.2.2.2.2.2.2.2.2.2.2.2.2.2.1, .int x1.2.2.2.2.2.2.2.2.2.2.2.2.2.2.2.2.2.2])), (ad 1, .inl (cI, 72, .inl x1.2.2.1)), (ad 2, .inl (cI, 72, .inl x1.2.2.2.1)), (ad 3, .inl (cI, 288, .inl x1.2.2.2.2.1)), (ad 4, .inl (cI, 72, .inl x1.2.2.2.2.2.2.1)), (ad 5, .inl (cI, 60, .inl x1.2.2.2.2.2.2.2.2.1)), (ad 6, .inl (cI, 32768, .inl x1.2.2.2.2.2.2.2.2.2.2.2.2.1))] H := hP
        have hD : va_D A [(ad 0, .inr (7, [.int x1.2.1, .ref (ad 1), .ref (ad 2), .ref (ad 3), .int x1.2.2.2.2.2.1, .ref (ad 4), .int x1.2.2.2.2.2.2.2.1, .ref (ad 5), .int x1.2.2.2.2.2.2.2.2.2.1, .int x1.2.2.2.2.2.2.2.2.2.2.1, .int x1.2.2.2.2.2.2.2.2.2.2.2.1, .ref (ad 6), .int x1.2.2.2.2.2.2.2.2.2.2.2.2.2.1, .int x1.2.2.2.2.2.2.2.2.2.2.2.2.2.2.1, .int x1.2.2.2.2.2.2.2.2.2.2.2.2.2.2.2.1, .int x1.2.2.2.2.2.2.2.2.2.2.2.2.2.2.2.2.1, .int x1.2.2.2.2.2.2.2.2.2.2.2.2.2.2.2.2.2.1, .int x1.2.2.2.2.2.2.2.2.2.2.2.2.2.2.2.2.2.2])), (ad 1, .inl (cI, 72, .inl x1.2.2.1)), (ad 2, .inl (cI, 72, .inl x1.2.2.2.1)), (ad 3, .inl (cI, 288, .inl x1.2.2.2.2.1)), (ad 4, .inl (cI, 72, .inl x1.2.2.2.2.2.2.1)), (ad 5, .inl (cI, 60, .inl x1.2.2.2.2.2.2.2.2.1)), (ad 6, .inl (cI, 32768, .inl x1.2.2.2.2.2.2.2.2.2.2.2.2.1))] := hD
        refine lv_istore (lv' := [(9, .int x1.1), (0, .ref (ad 0)), (1, .int l1), (2, .int l2), (3, .int l3), (4, .int l4), (6, .int l6), (7, .int l7), (8, .int l8)]) hx hb dX7_worthAt_60 hl (by decide) rfl (fun ls hl => ?_)
        refine lv_iload hx hb dX7_worthAt_62 (lv_at hl 0 rfl) ?_
        refine lv_iload hx hb dX7_worthAt_64 (lv_at hl 7 rfl) ?_
        refine lv_icmp_le (tgt := 74) hx hb dX7_worthAt_66 (by decide) (fun c3 => ?_) (fun c3 => ?_)
        · replace hf := gT hf c3
          refine lv_iload hx hb dX7_worthAt_74 (lv_at hl 7 rfl) ?_
          exact J76 l1 l2 l3 l4 l6 l8 l7 x1.2 _ _ ls hP hD hS (lv_sub hl [1, 2, 3, 4, 5, 6, 8] rfl) hf
        · replace hf := gF hf c3
          refine lv_iload hx hb dX7_worthAt_69 (lv_at hl 0 rfl) ?_
          refine lv_goto (tgt := 76) hx hb dX7_worthAt_71 (by decide) ?_
          exact J76 l1 l2 l3 l4 l6 l8 x1.1 x1.2 _ _ ls hP hD hS (lv_sub hl [1, 2, 3, 4, 5, 6, 8] rfl) hf
  unfold f_X7_worthAt at hf
  refine lv_iload hx hb dX7_worthAt_0 (lv_at hl 5 rfl) ?_
  refine lv_if_le (tgt := 28) hx hb dX7_worthAt_2 (by decide) (fun c4 => ?_) (fun c4 => ?_)
  · replace hf := gT hf c4
    refine lv_sipush (v := (-500 : Int32)) hx hb dX7_worthAt_28 (by decide) ?_
    refine lv_istore (lv' := [(7, .int (-500 : Int32)), (0, .ref (ad 0)), (1, .int p1), (2, .int p2), (3, .int p3), (4, .int p4), (5, .int p5), (6, .int p6)]) hx hb dX7_worthAt_31 hl (by decide) rfl (fun ls hl => ?_)
    refine lv_iconst (v := (1 : Int32)) hx hb dX7_worthAt_33 (by decide) ?_
    refine lv_istore (lv' := [(8, .int (1 : Int32)), (7, .int (-500 : Int32)), (0, .ref (ad 0)), (1, .int p1), (2, .int p2), (3, .int p3), (4, .int p4), (5, .int p5), (6, .int p6)]) hx hb dX7_worthAt_34 hl (by decide) rfl (fun ls hl => ?_)
    exact L36 gas p1 p2 p3 p4 p6 (-500 : Int32) (1 : Int32) v _ _ ls hP hD hS (lv_sub hl [2, 3, 4, 5, 6, 8, 1, 0] rfl) hf
  · replace hf := gF hf c4
    refine lv_aload_n hx hb dX7_worthAt_5 rfl (lv_at hl 0 rfl) ?_
    refine va_get (D := D) (ci := 7) (v := .ref (ad 6)) (C := RX7) (T := TX7) (N := 18) hx hb hts inA_X7 hown hK hP 0 rfl rfl 11 (by decide) (hts _ kF_X7_26) (fun _ h9 => h9) rfl dX7_worthAt_6 ?_
    refine lv_iload_n hx hb dX7_worthAt_9 rfl (lv_at hl 2 rfl) ?_
    refine lv_iload_n hx hb dX7_worthAt_10 rfl (lv_at hl 1 rfl) ?_
    refine lv_iload hx hb dX7_worthAt_11 (lv_at hl 4 rfl) ?_
    refine lv_iload_n hx hb dX7_worthAt_13 rfl (lv_at hl 3 rfl) ?_
    refine lv_iload hx hb dX7_worthAt_14 (lv_at hl 6 rfl) ?_
    refine lv_iload hx hb dX7_worthAt_16 (lv_at hl 5 rfl) ?_
    refine lv_iconst (v := (1 : Int32)) hx hb dX7_worthAt_18 (by decide) ?_
    refine lv_isub hx hb dX7_worthAt_19 ?_
    obtain ⟨x2, hcx2, hf⟩ := gB hf
    refine k_r (r_S (As := [.int p2, .int p1, .int p4, .int p3, .int p6, .int (p5 - (1 : Int32))]) (rest := [.ref (ad 6)]) (n := 6) ⟨hx, hb, hml, hown, hts⟩ (c_X7_numberOf l D cI cR p2 p1 p4 p3 p6 (p5 - (1 : Int32)) _ x2 hcx2) kM_X7_92 kS_X7_numberOf kZ_X7 kK_X7_numberOf ⟨rfl, rfl⟩ ⟨(Nat.le_of_ble_eq_true rfl), (Nat.le_of_ble_eq_true rfl)⟩ pd_X7_numberOf rfl hK hN hP hD [] rfl rfl rfl hl.1 (Nat.le_of_ble_eq_true rfl) dX7_worthAt_20 ⟨(Nat.le_of_ble_eq_true rfl), (Nat.le_of_ble_eq_true rfl)⟩) ?_
    obtain ⟨g0, hf⟩ := gd hf
    refine va_iald hx hb hK hP 6 0 rfl rfl (ig_in g0) dX7_worthAt_23 ?_
    obtain ⟨x3, hcx3, hf⟩ := gB hf
    refine k_r (r_S (As := [.int (v.2.2.2.2.2.2.2.2.2.2.2.1 x2.toNatClampNeg)]) (rest := []) (n := 1) ⟨hx, hb, hml, hown, hts⟩ (c_X7_turned l D cI cR (v.2.2.2.2.2.2.2.2.2.2.2.1 x2.toNatClampNeg) _ x3 hcx3) kM_X7_89 kS_X7_turned kZ_X7 kK_X7_turned ⟨rfl, rfl⟩ ⟨(Nat.le_of_ble_eq_true rfl), (Nat.le_of_ble_eq_true rfl)⟩ pd_X7_turned rfl hK hN hP hD [] rfl rfl rfl hl.1 (Nat.le_of_ble_eq_true rfl) dX7_worthAt_24 ⟨(Nat.le_of_ble_eq_true rfl), (Nat.le_of_ble_eq_true rfl)⟩) ?_
    exact z_i hf (fun r => r.1) (fun r => oX7 cI cR ad r.2) hx hb hr hlk hS hP hD dX7_worthAt_27
def f_X7_tellsSome_J131 (kL3 : Int32 → Int32 → Int32 → Int32 → Int32 → tX7 → Option tX7) (l1 : Int32) (l2 : Int32) (l3 : Int32) (l4 : Int32) (l5 : Int32) (v : tX7) : Option tX7 :=
  kL3 l1 l2 l3 l4 (l5 + (1 : Int32)) v
def f_X7_tellsSome_L3 : Nat → Int32 → Int32 → Int32 → Int32 → Int32 → tX7 → Option tX7
  | 0, _, _, _, _, _, _ => none
  | nL3 + 1, l1, l2, l3, l4, l5, v =>
    (if (8 : Int32) ≤ l5 then some v else (f_X7_in (l3 - (l5 - l5 / (2 : Int32) * (2 : Int32))) (0 : Int32) (1 : Int32)).bind fun x0 => (if x0 = 0 then f_X7_tellsSome_J131 (f_X7_tellsSome_L3 nL3) l1 l2 l3 l4 l5 v else (f_X7_in (l4 - (l5 / (2 : Int32))) (0 : Int32) (3 : Int32)).bind fun x1 => (if x1 = 0 then f_X7_tellsSome_J131 (f_X7_tellsSome_L3 nL3) l1 l2 l3 l4 l5 v else (f_X7_numberOf l1 l2 (l5 - l5 / (2 : Int32) * (2 : Int32)) (l3 - (l5 - l5 / (2 : Int32) * (2 : Int32))) (l5 / (2 : Int32)) (l4 - (l5 / (2 : Int32)))).bind fun x2 => (f_X7_worthAt v l1 l2 (l5 - l5 / (2 : Int32) * (2 : Int32)) (l3 - (l5 - l5 / (2 : Int32) * (2 : Int32))) (l5 / (2 : Int32)) (l4 - (l5 / (2 : Int32)))).bind fun x3 => (if ig x2 32768 = true then (f_X7_numberOf l2 l1 (l3 - (l5 - l5 / (2 : Int32) * (2 : Int32))) (l5 - l5 / (2 : Int32) * (2 : Int32)) (l4 - (l5 / (2 : Int32))) (l5 / (2 : Int32))).bind fun x4 => (f_X7_worthAt (x3.2.1, x3.2.2.1, x3.2.2.2.1, x3.2.2.2.2.1, x3.2.2.2.2.2.1, x3.2.2.2.2.2.2.1, x3.2.2.2.2.2.2.2.1, x3.2.2.2.2.2.2.2.2.1, x3.2.2.2.2.2.2.2.2.2.1, x3.2.2.2.2.2.2.2.2.2.2.1, x3.2.2.2.2.2.2.2.2.2.2.2.1, (upd x3.2.2.2.2.2.2.2.2.2.2.2.2.1 x2.toNatClampNeg x3.1), x3.2.2.2.2.2.2.2.2.2.2.2.2.2.1, x3.2.2.2.2.2.2.2.2.2.2.2.2.2.2.1, x3.2.2.2.2.2.2.2.2.2.2.2.2.2.2.2.1, x3.2.2.2.2.2.2.2.2.2.2.2.2.2.2.2.2.1, x3.2.2.2.2.2.2.2.2.2.2.2.2.2.2.2.2.2.1, x3.2.2.2.2.2.2.2.2.2.2.2.2.2.2.2.2.2.2) l2 l1 (l3 - (l5 - l5 / (2 : Int32) * (2 : Int32))) (l5 - l5 / (2 : Int32) * (2 : Int32)) (l4 - (l5 / (2 : Int32))) (l5 / (2 : Int32))).bind fun x5 => (if ig x4 32768 = true then f_X7_tellsSome_J131 (f_X7_tellsSome_L3 nL3) l1 l2 l3 l4 l5 (x5.2.1, x5.2.2.1, x5.2.2.2.1, x5.2.2.2.2.1, x5.2.2.2.2.2.1, x5.2.2.2.2.2.2.1, x5.2.2.2.2.2.2.2.1, x5.2.2.2.2.2.2.2.2.1, x5.2.2.2.2.2.2.2.2.2.1, x5.2.2.2.2.2.2.2.2.2.2.1, x5.2.2.2.2.2.2.2.2.2.2.2.1, (upd x5.2.2.2.2.2.2.2.2.2.2.2.2.1 x4.toNatClampNeg x5.1), x5.2.2.2.2.2.2.2.2.2.2.2.2.2.1, x5.2.2.2.2.2.2.2.2.2.2.2.2.2.2.1, x5.2.2.2.2.2.2.2.2.2.2.2.2.2.2.2.1, x5.2.2.2.2.2.2.2.2.2.2.2.2.2.2.2.2.1, x5.2.2.2.2.2.2.2.2.2.2.2.2.2.2.2.2.2.1, x5.2.2.2.2.2.2.2.2.2.2.2.2.2.2.2.2.2.2) else none) else none))))
def f_X7_tellsSome (v : tX7) (p1 : Int32) (p2 : Int32) (p3 : Int32) (p4 : Int32) : Option tX7 :=
  f_X7_tellsSome_L3 gas p1 p2 p3 p4 (0 : Int32) v
abbrev rm_X7_tellsSome : Room := { frames := 5, cells := 0, slots := 0, locals := 123 }
set_option maxHeartbeats 4000000 in
set_option maxRecDepth 100000 in
theorem c_X7_tellsSome (l : Launch) (D : va_G) (cI cR : ClassId) (ad : Nat → Nat) (v : tX7) (p1 : Int32) (p2 : Int32) (p3 : Int32) (p4 : Int32) (sz : Nat) (r : tX7) (hf : f_X7_tellsSome v p1 p2 p3 p4 = some r) : Met l yX7_tellsSome (wM yX7_tellsSome cX7_tellsSome 8 none) rm_X7_tellsSome (cPre D (tysA cI cR) ([.ref (ad 0), .int p1, .int p2, .int p3, .int p4] : List Value) (oX7 cI cR ad v) sz) (qV D (oX7 cI cR ad r) (va_A (oX7 cI cR ad v) sz)) 0 0 (va_A (oX7 cI cR ad v) sz) := by
  refine en_M (own := RX7) (lv := [(0, .ref (ad 0)), (1, .int p1), (2, .int p2), (3, .int p3), (4, .int p4)]) (by decide +kernel) rfl (Nat.le_of_ble_eq_true rfl) rfl (fun p e s m below meth c hx hb hr hlk hml hown hnm hts hsz hP hK hD hN ls hl => ?_)
  subst hsz
  generalize hAe : va_A (oX7 cI cR ad v) s.heap.size = A at hD ⊢
  have hA : ∀ q : Nat, s.heap.size ≤ q → A q := fun q h => by rw [← hAe]; exact Or.inr h
  have hS : va_S A s.heap s.heap [] := va_S.rf
  have hP : va_P D vwCl [(ad 0, .inr (7, [.int v.1, .ref (ad 1), .ref (ad 2), .ref (ad 3), .int v.2.2.2.2.1, .ref (ad 4), .int v.2.2.2.2.2.2.1, .ref (ad 5), .int v.2.2.2.2.2.2.2.2.1, .int v.2.2.2.2.2.2.2.2.2.1, .int v.2.2.2.2.2.2.2.2.2.2.1, .ref (ad 6), .int v.2.2.2.2.2.2.2.2.2.2.2.2.1, .int v.2.2.2.2.2.2.2.2.2.2.2.2.2.1, .int v.2.2.2.2.2.2.2.2.2.2.2.2.2.2.1, .int v.2.2.2.2.2.2.2.2.2.2.2.2.2.2.2.1, .int v.2.2.2.2.2.2.2.2.2.2.2.2.2.2.2.2.1, .int v.2.2.2.2.2.2.2.2.2.2.2.2.2.2.2.2.2])), (ad 1, .inl (cI, 72, .inl v.2.1)), (ad 2, .inl (cI, 72, .inl v.2.2.1)), (ad 3, .inl (cI, 288, .inl v.2.2.2.1)), (ad 4, .inl (cI, 72, .inl v.2.2.2.2.2.1)), (ad 5, .inl (cI, 60, .inl v.2.2.2.2.2.2.2.1)), (ad 6, .inl (cI, 32768, .inl v.2.2.2.2.2.2.2.2.2.2.2.1))] s.heap := hP
  have hD : va_D A [(ad 0, .inr (7, [.int v.1, .ref (ad 1), .ref (ad 2), .ref (ad 3), .int v.2.2.2.2.1, .ref (ad 4), .int v.2.2.2.2.2.2.1, .ref (ad 5), .int v.2.2.2.2.2.2.2.2.1, .int v.2.2.2.2.2.2.2.2.2.1, .int v.2.2.2.2.2.2.2.2.2.2.1, .ref (ad 6), .int v.2.2.2.2.2.2.2.2.2.2.2.2.1, .int v.2.2.2.2.2.2.2.2.2.2.2.2.2.1, .int v.2.2.2.2.2.2.2.2.2.2.2.2.2.2.1, .int v.2.2.2.2.2.2.2.2.2.2.2.2.2.2.2.1, .int v.2.2.2.2.2.2.2.2.2.2.2.2.2.2.2.2.1, .int v.2.2.2.2.2.2.2.2.2.2.2.2.2.2.2.2.2])), (ad 1, .inl (cI, 72, .inl v.2.1)), (ad 2, .inl (cI, 72, .inl v.2.2.1)), (ad 3, .inl (cI, 288, .inl v.2.2.2.1)), (ad 4, .inl (cI, 72, .inl v.2.2.2.2.2.1)), (ad 5, .inl (cI, 60, .inl v.2.2.2.2.2.2.2.1)), (ad 6, .inl (cI, 32768, .inl v.2.2.2.2.2.2.2.2.2.2.2.1))] := hD
  have L3 : ∀ (nL3 : Nat) (l1 : Int32) (l2 : Int32) (l3 : Int32) (l4 : Int32) (l5 : Int32) (v : tX7) (H : Heap) (locs : List Loc) (ls : Array Slot), va_P D vwCl [(ad 0, .inr (7, [.int v.1, .ref (ad 1), .ref (ad 2), .ref (ad 3), .int v.2.2.2.2.1, .ref (ad 4), .int v.2.2.2.2.2.2.1, .ref (ad 5), .int v.2.2.2.2.2.2.2.2.1, .int v.2.2.2.2.2.2.2.2.2.1, .int v.2.2.2.2.2.2.2.2.2.2.1, .ref (ad 6), .int v.2.2.2.2.2.2.2.2.2.2.2.2.1, .int v.2.2.2.2.2.2.2.2.2.2.2.2.2.1, .int v.2.2.2.2.2.2.2.2.2.2.2.2.2.2.1, .int v.2.2.2.2.2.2.2.2.2.2.2.2.2.2.2.1, .int v.2.2.2.2.2.2.2.2.2.2.2.2.2.2.2.2.1, .int v.2.2.2.2.2.2.2.2.2.2.2.2.2.2.2.2.2])), (ad 1, .inl (cI, 72, .inl v.2.1)), (ad 2, .inl (cI, 72, .inl v.2.2.1)), (ad 3, .inl (cI, 288, .inl v.2.2.2.1)), (ad 4, .inl (cI, 72, .inl v.2.2.2.2.2.1)), (ad 5, .inl (cI, 60, .inl v.2.2.2.2.2.2.2.1)), (ad 6, .inl (cI, 32768, .inl v.2.2.2.2.2.2.2.2.2.2.2.1))] H → va_D A [(ad 0, .inr (7, [.int v.1, .ref (ad 1), .ref (ad 2), .ref (ad 3), .int v.2.2.2.2.1, .ref (ad 4), .int v.2.2.2.2.2.2.1, .ref (ad 5), .int v.2.2.2.2.2.2.2.2.1, .int v.2.2.2.2.2.2.2.2.2.1, .int v.2.2.2.2.2.2.2.2.2.2.1, .ref (ad 6), .int v.2.2.2.2.2.2.2.2.2.2.2.2.1, .int v.2.2.2.2.2.2.2.2.2.2.2.2.2.1, .int v.2.2.2.2.2.2.2.2.2.2.2.2.2.2.1, .int v.2.2.2.2.2.2.2.2.2.2.2.2.2.2.2.1, .int v.2.2.2.2.2.2.2.2.2.2.2.2.2.2.2.2.1, .int v.2.2.2.2.2.2.2.2.2.2.2.2.2.2.2.2.2])), (ad 1, .inl (cI, 72, .inl v.2.1)), (ad 2, .inl (cI, 72, .inl v.2.2.1)), (ad 3, .inl (cI, 288, .inl v.2.2.2.1)), (ad 4, .inl (cI, 72, .inl v.2.2.2.2.2.1)), (ad 5, .inl (cI, 60, .inl v.2.2.2.2.2.2.2.1)), (ad 6, .inl (cI, 32768, .inl v.2.2.2.2.2.2.2.2.2.2.2.1))] → va_S A s.heap H locs → lv_has ls 8 [(0, .ref (ad 0)), (1, .int l1), (2, .int l2), (3, .int l3), (4, .int l4), (5, .int l5)] → f_X7_tellsSome_L3 nL3 l1 l2 l3 l4 l5 v = some r → W p l e rm_X7_tellsSome s m ([.ref (ad 0), .int p1, .int p2, .int p3, .int p4] : List Value).toArray below meth c H locs 0 0 (MQ below (qV D (oX7 cI cR ad r) A) ([.ref (ad 0), .int p1, .int p2, .int p3, .int p4] : List Value).toArray s 0 0 A) (F0 m 3 ls []) := by
    intro nL3
    induction nL3 with
    | zero =>
      intro l1 l2 l3 l4 l5 v H locs ls hP hD hS hl hf
      cases hf
    | succ nL3 ih_L3 =>
      have J131 : ∀ (l1 : Int32) (l2 : Int32) (l3 : Int32) (l4 : Int32) (l5 : Int32) (v : tX7) (H : Heap) (locs : List Loc) (ls : Array Slot), va_P D vwCl [(ad 0, .inr (7, [.int v.1, .ref (ad 1), .ref (ad 2), .ref (ad 3), .int v.2.2.2.2.1, .ref (ad 4), .int v.2.2.2.2.2.2.1, .ref (ad 5), .int v.2.2.2.2.2.2.2.2.1, .int v.2.2.2.2.2.2.2.2.2.1, .int v.2.2.2.2.2.2.2.2.2.2.1, .ref (ad 6), .int v.2.2.2.2.2.2.2.2.2.2.2.2.1, .int v.2.2.2.2.2.2.2.2.2.2.2.2.2.1, .int v.2.2.2.2.2.2.2.2.2.2.2.2.2.2.1, .int v.2.2.2.2.2.2.2.2.2.2.2.2.2.2.2.1, .int v.2.2.2.2.2.2.2.2.2.2.2.2.2.2.2.2.1, .int v.2.2.2.2.2.2.2.2.2.2.2.2.2.2.2.2.2])), (ad 1, .inl (cI, 72, .inl v.2.1)), (ad 2, .inl (cI, 72, .inl v.2.2.1)), (ad 3, .inl (cI, 288, .inl v.2.2.2.1)), (ad 4, .inl (cI, 72, .inl v.2.2.2.2.2.1)), (ad 5, .inl (cI, 60, .inl v.2.2.2.2.2.2.2.1)), (ad 6, .inl (cI, 32768, .inl v.2.2.2.2.2.2.2.2.2.2.2.1))] H → va_D A [(ad 0, .inr (7, [.int v.1, .ref (ad 1), .ref (ad 2), .ref (ad 3), .int v.2.2.2.2.1, .ref (ad 4), .int v.2.2.2.2.2.2.1, .ref (ad 5), .int v.2.2.2.2.2.2.2.2.1, .int v.2.2.2.2.2.2.2.2.2.1, .int v.2.2.2.2.2.2.2.2.2.2.1, .ref (ad 6), .int v.2.2.2.2.2.2.2.2.2.2.2.2.1, .int v.2.2.2.2.2.2.2.2.2.2.2.2.2.1, .int v.2.2.2.2.2.2.2.2.2.2.2.2.2.2.1, .int v.2.2.2.2.2.2.2.2.2.2.2.2.2.2.2.1, .int v.2.2.2.2.2.2.2.2.2.2.2.2.2.2.2.2.1, .int v.2.2.2.2.2.2.2.2.2.2.2.2.2.2.2.2.2])), (ad 1, .inl (cI, 72, .inl v.2.1)), (ad 2, .inl (cI, 72, .inl v.2.2.1)), (ad 3, .inl (cI, 288, .inl v.2.2.2.1)), (ad 4, .inl (cI, 72, .inl v.2.2.2.2.2.1)), (ad 5, .inl (cI, 60, .inl v.2.2.2.2.2.2.2.1)), (ad 6, .inl (cI, 32768, .inl v.2.2.2.2.2.2.2.2.2.2.2.1))] → va_S A s.heap H locs → lv_has ls 8 [(0, .ref (ad 0)), (1, .int l1), (2, .int l2), (3, .int l3), (4, .int l4), (5, .int l5)] → f_X7_tellsSome_J131 (f_X7_tellsSome_L3 nL3) l1 l2 l3 l4 l5 v = some r → W p l e rm_X7_tellsSome s m ([.ref (ad 0), .int p1, .int p2, .int p3, .int p4] : List Value).toArray below meth c H locs 0 0 (MQ below (qV D (oX7 cI cR ad r) A) ([.ref (ad 0), .int p1, .int p2, .int p3, .int p4] : List Value).toArray s 0 0 A) (F0 m 131 ls []) := by
        intro l1 l2 l3 l4 l5 v H locs ls hP hD hS hl hf
        unfold f_X7_tellsSome_J131 at hf
        refine lv_iinc (v := (l5 + (1 : Int32))) (lv' := [(5, .int (l5 + (1 : Int32))), (0, .ref (ad 0)), (1, .int l1), (2, .int l2), (3, .int l3), (4, .int l4)]) hx hb dX7_tellsSome_131 hl (k := 5) rfl rfl (by decide) rfl (fun ls hl => ?_)
        refine lv_goto (tgt := 3) hx hb dX7_tellsSome_134 (by decide) ?_
        exact ih_L3 l1 l2 l3 l4 (l5 + (1 : Int32)) v _ _ ls hP hD hS (lv_sub hl [1, 2, 3, 4, 5, 0] rfl) hf
      intro l1 l2 l3 l4 l5 v H locs ls hP hD hS hl hf
      rw [f_X7_tellsSome_L3] at hf
      refine lv_iload hx hb dX7_tellsSome_3 (lv_at hl 5 rfl) ?_
      refine lv_bipush (v := (8 : Int32)) hx hb dX7_tellsSome_5 (by decide) ?_
      refine lv_icmp_ge (tgt := 137) hx hb dX7_tellsSome_7 (by decide) (fun c0 => ?_) (fun c0 => ?_)
      · replace hf := gT hf c0
        exact z_v hf (fun r => oX7 cI cR ad r) hx hb hr hlk hS hP hD dX7_tellsSome_137
      · replace hf := gF hf c0
        refine lv_iload hx hb dX7_tellsSome_10 (lv_at hl 5 rfl) ?_
        refine lv_iconst (v := (2 : Int32)) hx hb dX7_tellsSome_12 (by decide) ?_
        refine lv_irem hx hb dX7_tellsSome_13 (by decide) ?_
        refine lv_istore (lv' := [(6, .int (l5 - l5 / (2 : Int32) * (2 : Int32))), (0, .ref (ad 0)), (1, .int l1), (2, .int l2), (3, .int l3), (4, .int l4), (5, .int l5)]) hx hb dX7_tellsSome_14 hl (by decide) rfl (fun ls hl => ?_)
        refine lv_iload hx hb dX7_tellsSome_16 (lv_at hl 6 rfl) ?_
        refine lv_iconst (v := (2 : Int32)) hx hb dX7_tellsSome_18 (by decide) ?_
        refine lv_idiv hx hb dX7_tellsSome_19 (by decide) ?_
        refine lv_istore (lv' := [(7, .int (l5 / (2 : Int32))), (6, .int (l5 - l5 / (2 : Int32) * (2 : Int32))), (0, .ref (ad 0)), (1, .int l1), (2, .int l2), (3, .int l3), (4, .int l4), (5, .int l5)]) hx hb dX7_tellsSome_20 hl (by decide) rfl (fun ls hl => ?_)
        refine lv_iload_n hx hb dX7_tellsSome_22 rfl (lv_at hl 5 rfl) ?_
        refine lv_iload hx hb dX7_tellsSome_23 (lv_at hl 1 rfl) ?_
        refine lv_isub hx hb dX7_tellsSome_25 ?_
        refine lv_iconst (v := (0 : Int32)) hx hb dX7_tellsSome_26 (by decide) ?_
        refine lv_iconst (v := (1 : Int32)) hx hb dX7_tellsSome_27 (by decide) ?_
        obtain ⟨x0, hcx0, hf⟩ := gB hf
        refine k_r (r_S (As := [.int (l3 - (l5 - l5 / (2 : Int32) * (2 : Int32))), .int (0 : Int32), .int (1 : Int32)]) (rest := []) (n := 3) ⟨hx, hb, hml, hown, hts⟩ (c_X7_in l D cI cR (l3 - (l5 - l5 / (2 : Int32) * (2 : Int32))) (0 : Int32) (1 : Int32) _ x0 hcx0) kM_X7_49 kS_X7_in kZ_X7 kK_X7_in ⟨rfl, rfl⟩ ⟨(Nat.le_of_ble_eq_true rfl), (Nat.le_of_ble_eq_true rfl)⟩ pd_X7_in rfl hK hN hP hD [] rfl rfl rfl hl.1 (Nat.le_of_ble_eq_true rfl) dX7_tellsSome_28 ⟨(Nat.le_of_ble_eq_true rfl), (Nat.le_of_ble_eq_true rfl)⟩) ?_
        refine lv_if_eq (tgt := 131) hx hb dX7_tellsSome_31 (by decide) (fun c1 => ?_) (fun c1 => ?_)
        · replace hf := gT hf c1
          exact J131 l1 l2 l3 l4 l5 v _ _ ls hP hD hS (lv_sub hl [2, 3, 4, 5, 6, 7] rfl) hf
        · replace hf := gF hf c1
          refine lv_iload hx hb dX7_tellsSome_34 (lv_at hl 6 rfl) ?_
          refine lv_iload hx hb dX7_tellsSome_36 (lv_at hl 0 rfl) ?_
          refine lv_isub hx hb dX7_tellsSome_38 ?_
          refine lv_iconst (v := (0 : Int32)) hx hb dX7_tellsSome_39 (by decide) ?_
          refine lv_iconst (v := (3 : Int32)) hx hb dX7_tellsSome_40 (by decide) ?_
          obtain ⟨x1, hcx1, hf⟩ := gB hf
          refine k_r (r_S (As := [.int (l4 - (l5 / (2 : Int32))), .int (0 : Int32), .int (3 : Int32)]) (rest := []) (n := 3) ⟨hx, hb, hml, hown, hts⟩ (c_X7_in l D cI cR (l4 - (l5 / (2 : Int32))) (0 : Int32) (3 : Int32) _ x1 hcx1) kM_X7_49 kS_X7_in kZ_X7 kK_X7_in ⟨rfl, rfl⟩ ⟨(Nat.le_of_ble_eq_true rfl), (Nat.le_of_ble_eq_true rfl)⟩ pd_X7_in rfl hK hN hP hD [] rfl rfl rfl hl.1 (Nat.le_of_ble_eq_true rfl) dX7_tellsSome_41 ⟨(Nat.le_of_ble_eq_true rfl), (Nat.le_of_ble_eq_true rfl)⟩) ?_
          refine lv_if_eq (tgt := 131) hx hb dX7_tellsSome_44 (by decide) (fun c2 => ?_) (fun c2 => ?_)
          · replace hf := gT hf c2
            exact J131 l1 l2 l3 l4 l5 v _ _ ls hP hD hS (lv_sub hl [2, 3, 4, 5, 6, 7] rfl) hf
          · replace hf := gF hf c2
            refine lv_aload_n hx hb dX7_tellsSome_47 rfl (lv_at hl 2 rfl) ?_
            refine va_get (D := D) (ci := 7) (v := .ref (ad 6)) (C := RX7) (T := TX7) (N := 18) hx hb hts inA_X7 hown hK hP 0 rfl rfl 11 (by decide) (hts _ kF_X7_26) (fun _ h9 => h9) rfl dX7_tellsSome_48 ?_
            refine lv_iload_n hx hb dX7_tellsSome_51 rfl (lv_at hl 3 rfl) ?_
            refine lv_iload_n hx hb dX7_tellsSome_52 rfl (lv_at hl 4 rfl) ?_
            refine lv_iload hx hb dX7_tellsSome_53 (lv_at hl 1 rfl) ?_
            refine lv_iload_n hx hb dX7_tellsSome_55 rfl (lv_at hl 5 rfl) ?_
            refine lv_iload hx hb dX7_tellsSome_56 (lv_at hl 1 rfl) ?_
            refine lv_isub hx hb dX7_tellsSome_58 ?_
            refine lv_iload hx hb dX7_tellsSome_59 (lv_at hl 0 rfl) ?_
            refine lv_iload hx hb dX7_tellsSome_61 (lv_at hl 6 rfl) ?_
            refine lv_iload hx hb dX7_tellsSome_63 (lv_at hl 0 rfl) ?_
            refine lv_isub hx hb dX7_tellsSome_65 ?_
            obtain ⟨x2, hcx2, hf⟩ := gB hf
            refine k_r (r_S (As := [.int l1, .int l2, .int (l5 - l5 / (2 : Int32) * (2 : Int32)), .int (l3 - (l5 - l5 / (2 : Int32) * (2 : Int32))), .int (l5 / (2 : Int32)), .int (l4 - (l5 / (2 : Int32)))]) (rest := [.ref (ad 6)]) (n := 6) ⟨hx, hb, hml, hown, hts⟩ (c_X7_numberOf l D cI cR l1 l2 (l5 - l5 / (2 : Int32) * (2 : Int32)) (l3 - (l5 - l5 / (2 : Int32) * (2 : Int32))) (l5 / (2 : Int32)) (l4 - (l5 / (2 : Int32))) _ x2 hcx2) kM_X7_92 kS_X7_numberOf kZ_X7 kK_X7_numberOf ⟨rfl, rfl⟩ ⟨(Nat.le_of_ble_eq_true rfl), (Nat.le_of_ble_eq_true rfl)⟩ pd_X7_numberOf rfl hK hN hP hD [] rfl rfl rfl hl.1 (Nat.le_of_ble_eq_true rfl) dX7_tellsSome_66 ⟨(Nat.le_of_ble_eq_true rfl), (Nat.le_of_ble_eq_true rfl)⟩) ?_
            refine lv_aload_n hx hb dX7_tellsSome_69 rfl (lv_at hl 2 rfl) ?_
            refine lv_iload_n hx hb dX7_tellsSome_70 rfl (lv_at hl 3 rfl) ?_
            refine lv_iload_n hx hb dX7_tellsSome_71 rfl (lv_at hl 4 rfl) ?_
            refine lv_iload hx hb dX7_tellsSome_72 (lv_at hl 1 rfl) ?_
            refine lv_iload_n hx hb dX7_tellsSome_74 rfl (lv_at hl 5 rfl) ?_
            refine lv_iload hx hb dX7_tellsSome_75 (lv_at hl 1 rfl) ?_
            refine lv_isub hx hb dX7_tellsSome_77 ?_
            refine lv_iload hx hb dX7_tellsSome_78 (lv_at hl 0 rfl) ?_
            refine lv_iload hx hb dX7_tellsSome_80 (lv_at hl 6 rfl) ?_
            refine lv_iload hx hb dX7_tellsSome_82 (lv_at hl 0 rfl) ?_
            refine lv_isub hx hb dX7_tellsSome_84 ?_
            obtain ⟨x3, hcx3, hf⟩ := gB hf
            refine j_i (wr := []) (w_V (As := [.int l1, .int l2, .int (l5 - l5 / (2 : Int32) * (2 : Int32)), .int (l3 - (l5 - l5 / (2 : Int32) * (2 : Int32))), .int (l5 / (2 : Int32)), .int (l4 - (l5 / (2 : Int32)))]) (rest := [.int x2, .ref (ad 6)]) (n := 6) ⟨hx, hb, hml, hown, hts⟩ (c_X7_worthAt l D cI cR ad v l1 l2 (l5 - l5 / (2 : Int32) * (2 : Int32)) (l3 - (l5 - l5 / (2 : Int32) * (2 : Int32))) (l5 / (2 : Int32)) (l4 - (l5 / (2 : Int32))) _ x3 hcx3) kM_X7_106 kN_X7_worthAt kV_X7_worthAt kZ_X7 kK_X7_worthAt ⟨rfl, rfl⟩ ⟨(Nat.le_of_ble_eq_true rfl), (Nat.le_of_ble_eq_true rfl)⟩ pd_X7_worthAt rfl hK hN hP hD [0, 1, 2, 3, 4, 5, 6] rfl rfl 0 7 rfl rfl rfl hl.1 (Nat.le_of_ble_eq_true rfl) dX7_tellsSome_85 ⟨(Nat.le_of_ble_eq_true rfl), (Nat.le_of_ble_eq_true rfl)⟩) hP hD hS hA [0, 1, 2, 3, 4, 5, 6] [] rfl rfl rfl (by decide) (fun H locs hP hD hS => ?_)
            have hP : va_P D vwCl [(ad 0, .inr (7, [.int x3.2.1, .ref (ad 1), .ref (ad 2), .ref (ad 3), .int x3.2.2.2.2.2.1, .ref (ad 4), .int x3.2.2.2.2.2.2.2.1, .ref (ad 5), .int x3.2.2.2.2.2.2.2.2.2.1, .int x3.2.2.2.2.2.2.2.2.2.2.1, .int x3.2.2.2.2.2.2.2.2.2.2.2.1, .ref (ad 6), .int x3.2.2.2.2.2.2.2.2.2.2.2.2.2.1, .int x3.2.2.2.2.2.2.2.2.2.2.2.2.2.2.1, .int x3.2.2.2.2.2.2.2.2.2.2.2.2.2.2.2.1, .int x3.2.2.2.2.2.2.2.2.2.2.2.2.2.2.2.2.1, .int x3.2.2.2.2.2.2.2.2.2.2.2.2.2.2.2.2.2.1, .int x3.2.2.2.2.2.2.2.2.2.2.2.2.2.2.2.2.2.2])), (ad 1, .inl (cI, 72, .inl x3.2.2.1)), (ad 2, .inl (cI, 72, .inl x3.2.2.2.1)), (ad 3, .inl (cI, 288, .inl x3.2.2.2.2.1)), (ad 4, .inl (cI, 72, .inl x3.2.2.2.2.2.2.1)), (ad 5, .inl (cI, 60, .inl x3.2.2.2.2.2.2.2.2.1)), (ad 6, .inl (cI, 32768, .inl x3.2.2.2.2.2.2.2.2.2.2.2.2.1))] H := hP
            have hD : va_D A [(ad 0, .inr (7, [.int x3.2.1, .ref (ad 1), .ref (ad 2), .ref (ad 3), .int x3.2.2.2.2.2.1, .ref (ad 4), .int x3.2.2.2.2.2.2.2.1, .ref (ad 5), .int x3.2.2.2.2.2.2.2.2.2.1, .int x3.2.2.2.2.2.2.2.2.2.2.1, .int x3.2.2.2.2.2.2.2.2.2.2.2.1, .ref (ad 6), .int x3.2.2.2.2.2.2.2.2.2.2.2.2.2.1, .int x3.2.2.2.2.2.2.2.2.2.2.2.2.2.2.1, .int x3.2.2.2.2.2.2.2.2.2.2.2.2.2.2.2.1, .int x3.2.2.2.2.2.2.2.2.2.2.2.2.2.2.2.2.1, .int x3.2.2.2.2.2.2.2.2.2.2.2.2.2.2.2.2.2.1, .int x3.2.2.2.2.2.2.2.2.2.2.2.2.2.2.2.2.2.2])), (ad 1, .inl (cI, 72, .inl x3.2.2.1)), (ad 2, .inl (cI, 72, .inl x3.2.2.2.1)), (ad 3, .inl (cI, 288, .inl x3.2.2.2.2.1)), (ad 4, .inl (cI, 72, .inl x3.2.2.2.2.2.2.1)), (ad 5, .inl (cI, 60, .inl x3.2.2.2.2.2.2.2.2.1)), (ad 6, .inl (cI, 32768, .inl x3.2.2.2.2.2.2.2.2.2.2.2.2.1))] := hD
            obtain ⟨g0, hf⟩ := gd hf
            refine va_iast hx hb hK hP hD hS 6 0 rfl rfl (ig_in g0) dX7_tellsSome_88 (fun H locs hP hD hS => ?_)
            have hP : va_P D vwCl [(ad 0, .inr (7, [.int x3.2.1, .ref (ad 1), .ref (ad 2), .ref (ad 3), .int x3.2.2.2.2.2.1, .ref (ad 4), .int x3.2.2.2.2.2.2.2.1, .ref (ad 5), .int x3.2.2.2.2.2.2.2.2.2.1, .int x3.2.2.2.2.2.2.2.2.2.2.1, .int x3.2.2.2.2.2.2.2.2.2.2.2.1, .ref (ad 6), .int x3.2.2.2.2.2.2.2.2.2.2.2.2.2.1, .int x3.2.2.2.2.2.2.2.2.2.2.2.2.2.2.1, .int x3.2.2.2.2.2.2.2.2.2.2.2.2.2.2.2.1, .int x3.2.2.2.2.2.2.2.2.2.2.2.2.2.2.2.2.1, .int x3.2.2.2.2.2.2.2.2.2.2.2.2.2.2.2.2.2.1, .int x3.2.2.2.2.2.2.2.2.2.2.2.2.2.2.2.2.2.2])), (ad 1, .inl (cI, 72, .inl x3.2.2.1)), (ad 2, .inl (cI, 72, .inl x3.2.2.2.1)), (ad 3, .inl (cI, 288, .inl x3.2.2.2.2.1)), (ad 4, .inl (cI, 72, .inl x3.2.2.2.2.2.2.1)), (ad 5, .inl (cI, 60, .inl x3.2.2.2.2.2.2.2.2.1)), (ad 6, .inl (cI, 32768, .inl (upd x3.2.2.2.2.2.2.2.2.2.2.2.2.1 x2.toNatClampNeg x3.1)))] H := hP
            have hD : va_D A [(ad 0, .inr (7, [.int x3.2.1, .ref (ad 1), .ref (ad 2), .ref (ad 3), .int x3.2.2.2.2.2.1, .ref (ad 4), .int x3.2.2.2.2.2.2.2.1, .ref (ad 5), .int x3.2.2.2.2.2.2.2.2.2.1, .int x3.2.2.2.2.2.2.2.2.2.2.1, .int x3.2.2.2.2.2.2.2.2.2.2.2.1, .ref (ad 6), .int x3.2.2.2.2.2.2.2.2.2.2.2.2.2.1, .int x3.2.2.2.2.2.2.2.2.2.2.2.2.2.2.1, .int x3.2.2.2.2.2.2.2.2.2.2.2.2.2.2.2.1, .int x3.2.2.2.2.2.2.2.2.2.2.2.2.2.2.2.2.1, .int x3.2.2.2.2.2.2.2.2.2.2.2.2.2.2.2.2.2.1, .int x3.2.2.2.2.2.2.2.2.2.2.2.2.2.2.2.2.2.2])), (ad 1, .inl (cI, 72, .inl x3.2.2.1)), (ad 2, .inl (cI, 72, .inl x3.2.2.2.1)), (ad 3, .inl (cI, 288, .inl x3.2.2.2.2.1)), (ad 4, .inl (cI, 72, .inl x3.2.2.2.2.2.2.1)), (ad 5, .inl (cI, 60, .inl x3.2.2.2.2.2.2.2.2.1)), (ad 6, .inl (cI, 32768, .inl (upd x3.2.2.2.2.2.2.2.2.2.2.2.2.1 x2.toNatClampNeg x3.1)))] := hD
            refine lv_aload_n hx hb dX7_tellsSome_89 rfl (lv_at hl 2 rfl) ?_
            refine va_get (D := D) (ci := 7) (v := .ref (ad 6)) (C := RX7) (T := TX7) (N := 18) hx hb hts inA_X7 hown hK hP 0 rfl rfl 11 (by decide) (hts _ kF_X7_26) (fun _ h9 => h9) rfl dX7_tellsSome_90 ?_
            refine lv_iload_n hx hb dX7_tellsSome_93 rfl (lv_at hl 4 rfl) ?_
            refine lv_iload_n hx hb dX7_tellsSome_94 rfl (lv_at hl 3 rfl) ?_
            refine lv_iload_n hx hb dX7_tellsSome_95 rfl (lv_at hl 5 rfl) ?_
            refine lv_iload hx hb dX7_tellsSome_96 (lv_at hl 1 rfl) ?_
            refine lv_isub hx hb dX7_tellsSome_98 ?_
            refine lv_iload hx hb dX7_tellsSome_99 (lv_at hl 1 rfl) ?_
            refine lv_iload hx hb dX7_tellsSome_101 (lv_at hl 6 rfl) ?_
            refine lv_iload hx hb dX7_tellsSome_103 (lv_at hl 0 rfl) ?_
            refine lv_isub hx hb dX7_tellsSome_105 ?_
            refine lv_iload hx hb dX7_tellsSome_106 (lv_at hl 0 rfl) ?_
            obtain ⟨x4, hcx4, hf⟩ := gB hf
            refine k_r (r_S (As := [.int l2, .int l1, .int (l3 - (l5 - l5 / (2 : Int32) * (2 : Int32))), .int (l5 - l5 / (2 : Int32) * (2 : Int32)), .int (l4 - (l5 / (2 : Int32))), .int (l5 / (2 : Int32))]) (rest := [.ref (ad 6)]) (n := 6) ⟨hx, hb, hml, hown, hts⟩ (c_X7_numberOf l D cI cR l2 l1 (l3 - (l5 - l5 / (2 : Int32) * (2 : Int32))) (l5 - l5 / (2 : Int32) * (2 : Int32)) (l4 - (l5 / (2 : Int32))) (l5 / (2 : Int32)) _ x4 hcx4) kM_X7_92 kS_X7_numberOf kZ_X7 kK_X7_numberOf ⟨rfl, rfl⟩ ⟨(Nat.le_of_ble_eq_true rfl), (Nat.le_of_ble_eq_true rfl)⟩ pd_X7_numberOf rfl hK hN hP hD [] rfl rfl rfl hl.1 (Nat.le_of_ble_eq_true rfl) dX7_tellsSome_108 ⟨(Nat.le_of_ble_eq_true rfl), (Nat.le_of_ble_eq_true rfl)⟩) ?_
            refine lv_aload_n hx hb dX7_tellsSome_111 rfl (lv_at hl 2 rfl) ?_
            refine lv_iload_n hx hb dX7_tellsSome_112 rfl (lv_at hl 4 rfl) ?_
            refine lv_iload_n hx hb dX7_tellsSome_113 rfl (lv_at hl 3 rfl) ?_
            refine lv_iload_n hx hb dX7_tellsSome_114 rfl (lv_at hl 5 rfl) ?_
            refine lv_iload hx hb dX7_tellsSome_115 (lv_at hl 1 rfl) ?_
            refine lv_isub hx hb dX7_tellsSome_117 ?_
            refine lv_iload hx hb dX7_tellsSome_118 (lv_at hl 1 rfl) ?_
            refine lv_iload hx hb dX7_tellsSome_120 (lv_at hl 6 rfl) ?_
            refine lv_iload hx hb dX7_tellsSome_122 (lv_at hl 0 rfl) ?_
            refine lv_isub hx hb dX7_tellsSome_124 ?_
            refine lv_iload hx hb dX7_tellsSome_125 (lv_at hl 0 rfl) ?_
            obtain ⟨x5, hcx5, hf⟩ := gB hf
            refine j_i (wr := []) (w_V (As := [.int l2, .int l1, .int (l3 - (l5 - l5 / (2 : Int32) * (2 : Int32))), .int (l5 - l5 / (2 : Int32) * (2 : Int32)), .int (l4 - (l5 / (2 : Int32))), .int (l5 / (2 : Int32))]) (rest := [.int x4, .ref (ad 6)]) (n := 6) ⟨hx, hb, hml, hown, hts⟩ (c_X7_worthAt l D cI cR ad (x3.2.1, x3.2.2.1, x3.2.2.2.1, x3.2.2.2.2.1, x3.2.2.2.2.2.1, x3.2.2.2.2.2.2.1, x3.2.2.2.2.2.2.2.1, x3.2.2.2.2.2.2.2.2.1, x3.2.2.2.2.2.2.2.2.2.1, x3.2.2.2.2.2.2.2.2.2.2.1, x3.2.2.2.2.2.2.2.2.2.2.2.1, (upd x3.2.2.2.2.2.2.2.2.2.2.2.2.1 x2.toNatClampNeg x3.1), x3.2.2.2.2.2.2.2.2.2.2.2.2.2.1, x3.2.2.2.2.2.2.2.2.2.2.2.2.2.2.1, x3.2.2.2.2.2.2.2.2.2.2.2.2.2.2.2.1, x3.2.2.2.2.2.2.2.2.2.2.2.2.2.2.2.2.1, x3.2.2.2.2.2.2.2.2.2.2.2.2.2.2.2.2.2.1, x3.2.2.2.2.2.2.2.2.2.2.2.2.2.2.2.2.2.2) l2 l1 (l3 - (l5 - l5 / (2 : Int32) * (2 : Int32))) (l5 - l5 / (2 : Int32) * (2 : Int32)) (l4 - (l5 / (2 : Int32))) (l5 / (2 : Int32)) _ x5 hcx5) kM_X7_106 kN_X7_worthAt kV_X7_worthAt kZ_X7 kK_X7_worthAt ⟨rfl, rfl⟩ ⟨(Nat.le_of_ble_eq_true rfl), (Nat.le_of_ble_eq_true rfl)⟩ pd_X7_worthAt rfl hK hN hP hD [0, 1, 2, 3, 4, 5, 6] rfl rfl 0 7 rfl rfl rfl hl.1 (Nat.le_of_ble_eq_true rfl) dX7_tellsSome_127 ⟨(Nat.le_of_ble_eq_true rfl), (Nat.le_of_ble_eq_true rfl)⟩) hP hD hS hA [0, 1, 2, 3, 4, 5, 6] [] rfl rfl rfl (by decide) (fun H locs hP hD hS => ?_)
            have hP : va_P D vwCl [(ad 0, .inr (7, [.int x5.2.1, .ref (ad 1), .ref (ad 2), .ref (ad 3), .int x5.2.2.2.2.2.1, .ref (ad 4), .int x5.2.2.2.2.2.2.2.1, .ref (ad 5), .int x5.2.2.2.2.2.2.2.2.2.1, .int x5.2.2.2.2.2.2.2.2.2.2.1, .int x5.2.2.2.2.2.2.2.2.2.2.2.1, .ref (ad 6), .int x5.2.2.2.2.2.2.2.2.2.2.2.2.2.1, .int x5.2.2.2.2.2.2.2.2.2.2.2.2.2.2.1, .int x5.2.2.2.2.2.2.2.2.2.2.2.2.2.2.2.1, .int x5.2.2.2.2.2.2.2.2.2.2.2.2.2.2.2.2.1, .int x5.2.2.2.2.2.2.2.2.2.2.2.2.2.2.2.2.2.1, .int x5.2.2.2.2.2.2.2.2.2.2.2.2.2.2.2.2.2.2])), (ad 1, .inl (cI, 72, .inl x5.2.2.1)), (ad 2, .inl (cI, 72, .inl x5.2.2.2.1)), (ad 3, .inl (cI, 288, .inl x5.2.2.2.2.1)), (ad 4, .inl (cI, 72, .inl x5.2.2.2.2.2.2.1)), (ad 5, .inl (cI, 60, .inl x5.2.2.2.2.2.2.2.2.1)), (ad 6, .inl (cI, 32768, .inl x5.2.2.2.2.2.2.2.2.2.2.2.2.1))] H := hP
            have hD : va_D A [(ad 0, .inr (7, [.int x5.2.1, .ref (ad 1), .ref (ad 2), .ref (ad 3), .int x5.2.2.2.2.2.1, .ref (ad 4), .int x5.2.2.2.2.2.2.2.1, .ref (ad 5), .int x5.2.2.2.2.2.2.2.2.2.1, .int x5.2.2.2.2.2.2.2.2.2.2.1, .int x5.2.2.2.2.2.2.2.2.2.2.2.1, .ref (ad 6), .int x5.2.2.2.2.2.2.2.2.2.2.2.2.2.1, .int x5.2.2.2.2.2.2.2.2.2.2.2.2.2.2.1, .int x5.2.2.2.2.2.2.2.2.2.2.2.2.2.2.2.1, .int x5.2.2.2.2.2.2.2.2.2.2.2.2.2.2.2.2.1, .int x5.2.2.2.2.2.2.2.2.2.2.2.2.2.2.2.2.2.1, .int x5.2.2.2.2.2.2.2.2.2.2.2.2.2.2.2.2.2.2])), (ad 1, .inl (cI, 72, .inl x5.2.2.1)), (ad 2, .inl (cI, 72, .inl x5.2.2.2.1)), (ad 3, .inl (cI, 288, .inl x5.2.2.2.2.1)), (ad 4, .inl (cI, 72, .inl x5.2.2.2.2.2.2.1)), (ad 5, .inl (cI, 60, .inl x5.2.2.2.2.2.2.2.2.1)), (ad 6, .inl (cI, 32768, .inl x5.2.2.2.2.2.2.2.2.2.2.2.2.1))] := hD
            obtain ⟨g0, hf⟩ := gd hf
            refine va_iast hx hb hK hP hD hS 6 0 rfl rfl (ig_in g0) dX7_tellsSome_130 (fun H locs hP hD hS => ?_)
            have hP : va_P D vwCl [(ad 0, .inr (7, [.int x5.2.1, .ref (ad 1), .ref (ad 2), .ref (ad 3), .int x5.2.2.2.2.2.1, .ref (ad 4), .int x5.2.2.2.2.2.2.2.1, .ref (ad 5), .int x5.2.2.2.2.2.2.2.2.2.1, .int x5.2.2.2.2.2.2.2.2.2.2.1, .int x5.2.2.2.2.2.2.2.2.2.2.2.1, .ref (ad 6), .int x5.2.2.2.2.2.2.2.2.2.2.2.2.2.1, .int x5.2.2.2.2.2.2.2.2.2.2.2.2.2.2.1, .int x5.2.2.2.2.2.2.2.2.2.2.2.2.2.2.2.1, .int x5.2.2.2.2.2.2.2.2.2.2.2.2.2.2.2.2.1, .int x5.2.2.2.2.2.2.2.2.2.2.2.2.2.2.2.2.2.1, .int x5.2.2.2.2.2.2.2.2.2.2.2.2.2.2.2.2.2.2])), (ad 1, .inl (cI, 72, .inl x5.2.2.1)), (ad 2, .inl (cI, 72, .inl x5.2.2.2.1)), (ad 3, .inl (cI, 288, .inl x5.2.2.2.2.1)), (ad 4, .inl (cI, 72, .inl x5.2.2.2.2.2.2.1)), (ad 5, .inl (cI, 60, .inl x5.2.2.2.2.2.2.2.2.1)), (ad 6, .inl (cI, 32768, .inl (upd x5.2.2.2.2.2.2.2.2.2.2.2.2.1 x4.toNatClampNeg x5.1)))] H := hP
            have hD : va_D A [(ad 0, .inr (7, [.int x5.2.1, .ref (ad 1), .ref (ad 2), .ref (ad 3), .int x5.2.2.2.2.2.1, .ref (ad 4), .int x5.2.2.2.2.2.2.2.1, .ref (ad 5), .int x5.2.2.2.2.2.2.2.2.2.1, .int x5.2.2.2.2.2.2.2.2.2.2.1, .int x5.2.2.2.2.2.2.2.2.2.2.2.1, .ref (ad 6), .int x5.2.2.2.2.2.2.2.2.2.2.2.2.2.1, .int x5.2.2.2.2.2.2.2.2.2.2.2.2.2.2.1, .int x5.2.2.2.2.2.2.2.2.2.2.2.2.2.2.2.1, .int x5.2.2.2.2.2.2.2.2.2.2.2.2.2.2.2.2.1, .int x5.2.2.2.2.2.2.2.2.2.2.2.2.2.2.2.2.2.1, .int x5.2.2.2.2.2.2.2.2.2.2.2.2.2.2.2.2.2.2])), (ad 1, .inl (cI, 72, .inl x5.2.2.1)), (ad 2, .inl (cI, 72, .inl x5.2.2.2.1)), (ad 3, .inl (cI, 288, .inl x5.2.2.2.2.1)), (ad 4, .inl (cI, 72, .inl x5.2.2.2.2.2.2.1)), (ad 5, .inl (cI, 60, .inl x5.2.2.2.2.2.2.2.2.1)), (ad 6, .inl (cI, 32768, .inl (upd x5.2.2.2.2.2.2.2.2.2.2.2.2.1 x4.toNatClampNeg x5.1)))] := hD
            exact J131 l1 l2 l3 l4 l5 (x5.2.1, x5.2.2.1, x5.2.2.2.1, x5.2.2.2.2.1, x5.2.2.2.2.2.1, x5.2.2.2.2.2.2.1, x5.2.2.2.2.2.2.2.1, x5.2.2.2.2.2.2.2.2.1, x5.2.2.2.2.2.2.2.2.2.1, x5.2.2.2.2.2.2.2.2.2.2.1, x5.2.2.2.2.2.2.2.2.2.2.2.1, (upd x5.2.2.2.2.2.2.2.2.2.2.2.2.1 x4.toNatClampNeg x5.1), x5.2.2.2.2.2.2.2.2.2.2.2.2.2.1, x5.2.2.2.2.2.2.2.2.2.2.2.2.2.2.1, x5.2.2.2.2.2.2.2.2.2.2.2.2.2.2.2.1, x5.2.2.2.2.2.2.2.2.2.2.2.2.2.2.2.2.1, x5.2.2.2.2.2.2.2.2.2.2.2.2.2.2.2.2.2.1, x5.2.2.2.2.2.2.2.2.2.2.2.2.2.2.2.2.2.2) _ _ ls hP hD hS (lv_sub hl [2, 3, 4, 5, 6, 7] rfl) hf
  unfold f_X7_tellsSome at hf
  refine lv_iconst (v := (0 : Int32)) hx hb dX7_tellsSome_0 (by decide) ?_
  refine lv_istore (lv' := [(5, .int (0 : Int32)), (0, .ref (ad 0)), (1, .int p1), (2, .int p2), (3, .int p3), (4, .int p4)]) hx hb dX7_tellsSome_1 hl (by decide) rfl (fun ls hl => ?_)
  exact L3 gas p1 p2 p3 p4 (0 : Int32) v _ _ ls hP hD hS (lv_sub hl [1, 2, 3, 4, 5, 0] rfl) hf
def f_X7_tellsPlaces_L10 (kL2 : Int32 → Int32 → Int32 → tX7 → Option tX7) : Nat → Int32 → Int32 → Int32 → Int32 → tX7 → Option tX7
  | 0, _, _, _, _, _ => none
  | nL10 + 1, l1, l2, l3, l4, v =>
    (if (6 : Int32) < l4 then kL2 l1 l2 (l3 + (1 : Int32)) v else (f_X7_tellsSome v l1 l2 l3 l4).bind fun x0 => f_X7_tellsPlaces_L10 kL2 nL10 l1 l2 l3 (l4 + (1 : Int32)) x0)
def f_X7_tellsPlaces_L2 : Nat → Int32 → Int32 → Int32 → tX7 → Option tX7
  | 0, _, _, _, _ => none
  | nL2 + 1, l1, l2, l3, v =>
    (if (3 : Int32) ≤ l3 then some v else f_X7_tellsPlaces_L10 (f_X7_tellsPlaces_L2 nL2) gas l1 l2 l3 (0 : Int32) v)
def f_X7_tellsPlaces (v : tX7) (p1 : Int32) (p2 : Int32) : Option tX7 :=
  f_X7_tellsPlaces_L2 gas p1 p2 (0 : Int32) v
abbrev rm_X7_tellsPlaces : Room := { frames := 6, cells := 0, slots := 0, locals := 150 }
set_option maxHeartbeats 4000000 in
set_option maxRecDepth 100000 in
theorem c_X7_tellsPlaces (l : Launch) (D : va_G) (cI cR : ClassId) (ad : Nat → Nat) (v : tX7) (p1 : Int32) (p2 : Int32) (sz : Nat) (r : tX7) (hf : f_X7_tellsPlaces v p1 p2 = some r) : Met l yX7_tellsPlaces (wM yX7_tellsPlaces cX7_tellsPlaces 5 none) rm_X7_tellsPlaces (cPre D (tysA cI cR) ([.ref (ad 0), .int p1, .int p2] : List Value) (oX7 cI cR ad v) sz) (qV D (oX7 cI cR ad r) (va_A (oX7 cI cR ad v) sz)) 0 0 (va_A (oX7 cI cR ad v) sz) := by
  refine en_M (own := RX7) (lv := [(0, .ref (ad 0)), (1, .int p1), (2, .int p2)]) (by decide +kernel) rfl (Nat.le_of_ble_eq_true rfl) rfl (fun p e s m below meth c hx hb hr hlk hml hown hnm hts hsz hP hK hD hN ls hl => ?_)
  subst hsz
  generalize hAe : va_A (oX7 cI cR ad v) s.heap.size = A at hD ⊢
  have hA : ∀ q : Nat, s.heap.size ≤ q → A q := fun q h => by rw [← hAe]; exact Or.inr h
  have hS : va_S A s.heap s.heap [] := va_S.rf
  have hP : va_P D vwCl [(ad 0, .inr (7, [.int v.1, .ref (ad 1), .ref (ad 2), .ref (ad 3), .int v.2.2.2.2.1, .ref (ad 4), .int v.2.2.2.2.2.2.1, .ref (ad 5), .int v.2.2.2.2.2.2.2.2.1, .int v.2.2.2.2.2.2.2.2.2.1, .int v.2.2.2.2.2.2.2.2.2.2.1, .ref (ad 6), .int v.2.2.2.2.2.2.2.2.2.2.2.2.1, .int v.2.2.2.2.2.2.2.2.2.2.2.2.2.1, .int v.2.2.2.2.2.2.2.2.2.2.2.2.2.2.1, .int v.2.2.2.2.2.2.2.2.2.2.2.2.2.2.2.1, .int v.2.2.2.2.2.2.2.2.2.2.2.2.2.2.2.2.1, .int v.2.2.2.2.2.2.2.2.2.2.2.2.2.2.2.2.2])), (ad 1, .inl (cI, 72, .inl v.2.1)), (ad 2, .inl (cI, 72, .inl v.2.2.1)), (ad 3, .inl (cI, 288, .inl v.2.2.2.1)), (ad 4, .inl (cI, 72, .inl v.2.2.2.2.2.1)), (ad 5, .inl (cI, 60, .inl v.2.2.2.2.2.2.2.1)), (ad 6, .inl (cI, 32768, .inl v.2.2.2.2.2.2.2.2.2.2.2.1))] s.heap := hP
  have hD : va_D A [(ad 0, .inr (7, [.int v.1, .ref (ad 1), .ref (ad 2), .ref (ad 3), .int v.2.2.2.2.1, .ref (ad 4), .int v.2.2.2.2.2.2.1, .ref (ad 5), .int v.2.2.2.2.2.2.2.2.1, .int v.2.2.2.2.2.2.2.2.2.1, .int v.2.2.2.2.2.2.2.2.2.2.1, .ref (ad 6), .int v.2.2.2.2.2.2.2.2.2.2.2.2.1, .int v.2.2.2.2.2.2.2.2.2.2.2.2.2.1, .int v.2.2.2.2.2.2.2.2.2.2.2.2.2.2.1, .int v.2.2.2.2.2.2.2.2.2.2.2.2.2.2.2.1, .int v.2.2.2.2.2.2.2.2.2.2.2.2.2.2.2.2.1, .int v.2.2.2.2.2.2.2.2.2.2.2.2.2.2.2.2.2])), (ad 1, .inl (cI, 72, .inl v.2.1)), (ad 2, .inl (cI, 72, .inl v.2.2.1)), (ad 3, .inl (cI, 288, .inl v.2.2.2.1)), (ad 4, .inl (cI, 72, .inl v.2.2.2.2.2.1)), (ad 5, .inl (cI, 60, .inl v.2.2.2.2.2.2.2.1)), (ad 6, .inl (cI, 32768, .inl v.2.2.2.2.2.2.2.2.2.2.2.1))] := hD
  have L2 : ∀ (nL2 : Nat) (l1 : Int32) (l2 : Int32) (l3 : Int32) (v : tX7) (H : Heap) (locs : List Loc) (ls : Array Slot), va_P D vwCl [(ad 0, .inr (7, [.int v.1, .ref (ad 1), .ref (ad 2), .ref (ad 3), .int v.2.2.2.2.1, .ref (ad 4), .int v.2.2.2.2.2.2.1, .ref (ad 5), .int v.2.2.2.2.2.2.2.2.1, .int v.2.2.2.2.2.2.2.2.2.1, .int v.2.2.2.2.2.2.2.2.2.2.1, .ref (ad 6), .int v.2.2.2.2.2.2.2.2.2.2.2.2.1, .int v.2.2.2.2.2.2.2.2.2.2.2.2.2.1, .int v.2.2.2.2.2.2.2.2.2.2.2.2.2.2.1, .int v.2.2.2.2.2.2.2.2.2.2.2.2.2.2.2.1, .int v.2.2.2.2.2.2.2.2.2.2.2.2.2.2.2.2.1, .int v.2.2.2.2.2.2.2.2.2.2.2.2.2.2.2.2.2])), (ad 1, .inl (cI, 72, .inl v.2.1)), (ad 2, .inl (cI, 72, .inl v.2.2.1)), (ad 3, .inl (cI, 288, .inl v.2.2.2.1)), (ad 4, .inl (cI, 72, .inl v.2.2.2.2.2.1)), (ad 5, .inl (cI, 60, .inl v.2.2.2.2.2.2.2.1)), (ad 6, .inl (cI, 32768, .inl v.2.2.2.2.2.2.2.2.2.2.2.1))] H → va_D A [(ad 0, .inr (7, [.int v.1, .ref (ad 1), .ref (ad 2), .ref (ad 3), .int v.2.2.2.2.1, .ref (ad 4), .int v.2.2.2.2.2.2.1, .ref (ad 5), .int v.2.2.2.2.2.2.2.2.1, .int v.2.2.2.2.2.2.2.2.2.1, .int v.2.2.2.2.2.2.2.2.2.2.1, .ref (ad 6), .int v.2.2.2.2.2.2.2.2.2.2.2.2.1, .int v.2.2.2.2.2.2.2.2.2.2.2.2.2.1, .int v.2.2.2.2.2.2.2.2.2.2.2.2.2.2.1, .int v.2.2.2.2.2.2.2.2.2.2.2.2.2.2.2.1, .int v.2.2.2.2.2.2.2.2.2.2.2.2.2.2.2.2.1, .int v.2.2.2.2.2.2.2.2.2.2.2.2.2.2.2.2.2])), (ad 1, .inl (cI, 72, .inl v.2.1)), (ad 2, .inl (cI, 72, .inl v.2.2.1)), (ad 3, .inl (cI, 288, .inl v.2.2.2.1)), (ad 4, .inl (cI, 72, .inl v.2.2.2.2.2.1)), (ad 5, .inl (cI, 60, .inl v.2.2.2.2.2.2.2.1)), (ad 6, .inl (cI, 32768, .inl v.2.2.2.2.2.2.2.2.2.2.2.1))] → va_S A s.heap H locs → lv_has ls 5 [(0, .ref (ad 0)), (1, .int l1), (2, .int l2), (3, .int l3)] → f_X7_tellsPlaces_L2 nL2 l1 l2 l3 v = some r → W p l e rm_X7_tellsPlaces s m ([.ref (ad 0), .int p1, .int p2] : List Value).toArray below meth c H locs 0 0 (MQ below (qV D (oX7 cI cR ad r) A) ([.ref (ad 0), .int p1, .int p2] : List Value).toArray s 0 0 A) (F0 m 2 ls []) := by
    intro nL2
    induction nL2 with
    | zero =>
      intro l1 l2 l3 v H locs ls hP hD hS hl hf
      cases hf
    | succ nL2 ih_L2 =>
      have L10 : ∀ (nL10 : Nat) (l1 : Int32) (l2 : Int32) (l3 : Int32) (l4 : Int32) (v : tX7) (H : Heap) (locs : List Loc) (ls : Array Slot), va_P D vwCl [(ad 0, .inr (7, [.int v.1, .ref (ad 1), .ref (ad 2), .ref (ad 3), .int v.2.2.2.2.1, .ref (ad 4), .int v.2.2.2.2.2.2.1, .ref (ad 5), .int v.2.2.2.2.2.2.2.2.1, .int v.2.2.2.2.2.2.2.2.2.1, .int v.2.2.2.2.2.2.2.2.2.2.1, .ref (ad 6), .int v.2.2.2.2.2.2.2.2.2.2.2.2.1, .int v.2.2.2.2.2.2.2.2.2.2.2.2.2.1, .int v.2.2.2.2.2.2.2.2.2.2.2.2.2.2.1, .int v.2.2.2.2.2.2.2.2.2.2.2.2.2.2.2.1, .int v.2.2.2.2.2.2.2.2.2.2.2.2.2.2.2.2.1, .int v.2.2.2.2.2.2.2.2.2.2.2.2.2.2.2.2.2])), (ad 1, .inl (cI, 72, .inl v.2.1)), (ad 2, .inl (cI, 72, .inl v.2.2.1)), (ad 3, .inl (cI, 288, .inl v.2.2.2.1)), (ad 4, .inl (cI, 72, .inl v.2.2.2.2.2.1)), (ad 5, .inl (cI, 60, .inl v.2.2.2.2.2.2.2.1)), (ad 6, .inl (cI, 32768, .inl v.2.2.2.2.2.2.2.2.2.2.2.1))] H → va_D A [(ad 0, .inr (7, [.int v.1, .ref (ad 1), .ref (ad 2), .ref (ad 3), .int v.2.2.2.2.1, .ref (ad 4), .int v.2.2.2.2.2.2.1, .ref (ad 5), .int v.2.2.2.2.2.2.2.2.1, .int v.2.2.2.2.2.2.2.2.2.1, .int v.2.2.2.2.2.2.2.2.2.2.1, .ref (ad 6), .int v.2.2.2.2.2.2.2.2.2.2.2.2.1, .int v.2.2.2.2.2.2.2.2.2.2.2.2.2.1, .int v.2.2.2.2.2.2.2.2.2.2.2.2.2.2.1, .int v.2.2.2.2.2.2.2.2.2.2.2.2.2.2.2.1, .int v.2.2.2.2.2.2.2.2.2.2.2.2.2.2.2.2.1, .int v.2.2.2.2.2.2.2.2.2.2.2.2.2.2.2.2.2])), (ad 1, .inl (cI, 72, .inl v.2.1)), (ad 2, .inl (cI, 72, .inl v.2.2.1)), (ad 3, .inl (cI, 288, .inl v.2.2.2.1)), (ad 4, .inl (cI, 72, .inl v.2.2.2.2.2.1)), (ad 5, .inl (cI, 60, .inl v.2.2.2.2.2.2.2.1)), (ad 6, .inl (cI, 32768, .inl v.2.2.2.2.2.2.2.2.2.2.2.1))] → va_S A s.heap H locs → lv_has ls 5 [(0, .ref (ad 0)), (1, .int l1), (2, .int l2), (3, .int l3), (4, .int l4)] → f_X7_tellsPlaces_L10 (f_X7_tellsPlaces_L2 nL2) nL10 l1 l2 l3 l4 v = some r → W p l e rm_X7_tellsPlaces s m ([.ref (ad 0), .int p1, .int p2] : List Value).toArray below meth c H locs 0 0 (MQ below (qV D (oX7 cI cR ad r) A) ([.ref (ad 0), .int p1, .int p2] : List Value).toArray s 0 0 A) (F0 m 10 ls []) := by
        intro nL10
        induction nL10 with
        | zero =>
          intro l1 l2 l3 l4 v H locs ls hP hD hS hl hf
          cases hf
        | succ nL10 ih_L10 =>
          intro l1 l2 l3 l4 v H locs ls hP hD hS hl hf
          rw [f_X7_tellsPlaces_L10] at hf
          refine lv_iload hx hb dX7_tellsPlaces_10 (lv_at hl 4 rfl) ?_
          refine lv_bipush (v := (6 : Int32)) hx hb dX7_tellsPlaces_12 (by decide) ?_
          refine lv_icmp_gt (tgt := 32) hx hb dX7_tellsPlaces_14 (by decide) (fun c0 => ?_) (fun c0 => ?_)
          · replace hf := gT hf c0
            refine lv_iinc (v := (l3 + (1 : Int32))) (lv' := [(3, .int (l3 + (1 : Int32))), (0, .ref (ad 0)), (1, .int l1), (2, .int l2), (4, .int l4)]) hx hb dX7_tellsPlaces_32 hl (k := 3) rfl rfl (by decide) rfl (fun ls hl => ?_)
            refine lv_goto (tgt := 2) hx hb dX7_tellsPlaces_35 (by decide) ?_
            exact ih_L2 l1 l2 (l3 + (1 : Int32)) v _ _ ls hP hD hS (lv_sub hl [1, 2, 3, 0] rfl) hf
          · replace hf := gF hf c0
            refine lv_aload_n hx hb dX7_tellsPlaces_17 rfl (lv_at hl 0 rfl) ?_
            refine lv_iload_n hx hb dX7_tellsPlaces_18 rfl (lv_at hl 1 rfl) ?_
            refine lv_iload_n hx hb dX7_tellsPlaces_19 rfl (lv_at hl 2 rfl) ?_
            refine lv_iload_n hx hb dX7_tellsPlaces_20 rfl (lv_at hl 3 rfl) ?_
            refine lv_iload hx hb dX7_tellsPlaces_21 (lv_at hl 4 rfl) ?_
            obtain ⟨x0, hcx0, hf⟩ := gB hf
            refine j_v (wr := []) (w_V (As := [.int l1, .int l2, .int l3, .int l4]) (rest := []) (n := 4) ⟨hx, hb, hml, hown, hts⟩ (c_X7_tellsSome l D cI cR ad v l1 l2 l3 l4 _ x0 hcx0) kM_X7_103 kN_X7_tellsSome kV_X7_tellsSome kZ_X7 kK_X7_tellsSome ⟨rfl, rfl⟩ ⟨(Nat.le_of_ble_eq_true rfl), (Nat.le_of_ble_eq_true rfl)⟩ pd_X7_tellsSome rfl hK hN hP hD [0, 1, 2, 3, 4, 5, 6] rfl rfl 0 7 rfl rfl rfl hl.1 (Nat.le_of_ble_eq_true rfl) dX7_tellsPlaces_23 ⟨(Nat.le_of_ble_eq_true rfl), (Nat.le_of_ble_eq_true rfl)⟩) hP hD hS hA [0, 1, 2, 3, 4, 5, 6] [] rfl rfl rfl (by decide) (fun H locs hP hD hS => ?_)
            have hP : va_P D vwCl [(ad 0, .inr (7, [.int x0.1, .ref (ad 1), .ref (ad 2), .ref (ad 3), .int x0.2.2.2.2.1, .ref (ad 4), .int x0.2.2.2.2.2.2.1, .ref (ad 5), .int x0.2.2.2.2.2.2.2.2.1, .int x0.2.2.2.2.2.2.2.2.2.1, .int x0.2.2.2.2.2.2.2.2.2.2.1, .ref (ad 6), .int x0.2.2.2.2.2.2.2.2.2.2.2.2.1, .int x0.2.2.2.2.2.2.2.2.2.2.2.2.2.1, .int x0.2.2.2.2.2.2.2.2.2.2.2.2.2.2.1, .int x0.2.2.2.2.2.2.2.2.2.2.2.2.2.2.2.1, .int x0.2.2.2.2.2.2.2.2.2.2.2.2.2.2.2.2.1, .int x0.2.2.2.2.2.2.2.2.2.2.2.2.2.2.2.2.2])), (ad 1, .inl (cI, 72, .inl x0.2.1)), (ad 2, .inl (cI, 72, .inl x0.2.2.1)), (ad 3, .inl (cI, 288, .inl x0.2.2.2.1)), (ad 4, .inl (cI, 72, .inl x0.2.2.2.2.2.1)), (ad 5, .inl (cI, 60, .inl x0.2.2.2.2.2.2.2.1)), (ad 6, .inl (cI, 32768, .inl x0.2.2.2.2.2.2.2.2.2.2.2.1))] H := hP
            have hD : va_D A [(ad 0, .inr (7, [.int x0.1, .ref (ad 1), .ref (ad 2), .ref (ad 3), .int x0.2.2.2.2.1, .ref (ad 4), .int x0.2.2.2.2.2.2.1, .ref (ad 5), .int x0.2.2.2.2.2.2.2.2.1, .int x0.2.2.2.2.2.2.2.2.2.1, .int x0.2.2.2.2.2.2.2.2.2.2.1, .ref (ad 6), .int x0.2.2.2.2.2.2.2.2.2.2.2.2.1, .int x0.2.2.2.2.2.2.2.2.2.2.2.2.2.1, .int x0.2.2.2.2.2.2.2.2.2.2.2.2.2.2.1, .int x0.2.2.2.2.2.2.2.2.2.2.2.2.2.2.2.1, .int x0.2.2.2.2.2.2.2.2.2.2.2.2.2.2.2.2.1, .int x0.2.2.2.2.2.2.2.2.2.2.2.2.2.2.2.2.2])), (ad 1, .inl (cI, 72, .inl x0.2.1)), (ad 2, .inl (cI, 72, .inl x0.2.2.1)), (ad 3, .inl (cI, 288, .inl x0.2.2.2.1)), (ad 4, .inl (cI, 72, .inl x0.2.2.2.2.2.1)), (ad 5, .inl (cI, 60, .inl x0.2.2.2.2.2.2.2.1)), (ad 6, .inl (cI, 32768, .inl x0.2.2.2.2.2.2.2.2.2.2.2.1))] := hD
            refine lv_iinc (v := (l4 + (1 : Int32))) (lv' := [(4, .int (l4 + (1 : Int32))), (0, .ref (ad 0)), (1, .int l1), (2, .int l2), (3, .int l3)]) hx hb dX7_tellsPlaces_26 hl (k := 4) rfl rfl (by decide) rfl (fun ls hl => ?_)
            refine lv_goto (tgt := 10) hx hb dX7_tellsPlaces_29 (by decide) ?_
            exact ih_L10 l1 l2 l3 (l4 + (1 : Int32)) x0 _ _ ls hP hD hS (lv_sub hl [1, 2, 3, 4, 0] rfl) hf
      intro l1 l2 l3 v H locs ls hP hD hS hl hf
      rw [f_X7_tellsPlaces_L2] at hf
      refine lv_iload_n hx hb dX7_tellsPlaces_2 rfl (lv_at hl 3 rfl) ?_
      refine lv_iconst (v := (3 : Int32)) hx hb dX7_tellsPlaces_3 (by decide) ?_
      refine lv_icmp_ge (tgt := 38) hx hb dX7_tellsPlaces_4 (by decide) (fun c1 => ?_) (fun c1 => ?_)
      · replace hf := gT hf c1
        exact z_v hf (fun r => oX7 cI cR ad r) hx hb hr hlk hS hP hD dX7_tellsPlaces_38
      · replace hf := gF hf c1
        refine lv_iconst (v := (0 : Int32)) hx hb dX7_tellsPlaces_7 (by decide) ?_
        refine lv_istore (lv' := [(4, .int (0 : Int32)), (0, .ref (ad 0)), (1, .int l1), (2, .int l2), (3, .int l3)]) hx hb dX7_tellsPlaces_8 hl (by decide) rfl (fun ls hl => ?_)
        exact L10 gas l1 l2 l3 (0 : Int32) v _ _ ls hP hD hS (lv_sub hl [1, 2, 3, 4, 0] rfl) hf
  unfold f_X7_tellsPlaces at hf
  refine lv_iconst (v := (0 : Int32)) hx hb dX7_tellsPlaces_0 (by decide) ?_
  refine lv_istore_n (lv' := [(3, .int (0 : Int32)), (0, .ref (ad 0)), (1, .int p1), (2, .int p2)]) hx hb dX7_tellsPlaces_1 rfl hl (by decide) rfl (fun ls hl => ?_)
  exact L2 gas p1 p2 (0 : Int32) v _ _ ls hP hD hS (lv_sub hl [1, 2, 3, 0] rfl) hf
def f_X7_tells_J69 (kL20 : Int32 → tX7 → Option tX7) (kL26 : Int32 → Int32 → tX7 → Option tX7) (l1 : Int32) (l2 : Int32) (v : tX7) : Option tX7 :=
  kL26 l1 (l2 + (1 : Int32)) v
def f_X7_tells_J63 (kL20 : Int32 → tX7 → Option tX7) (kL26 : Int32 → Int32 → tX7 → Option tX7) (l1 : Int32) (l2 : Int32) (l3 : Int32) (v : tX7) : Option tX7 :=
  (f_X7_tellsPlaces v l2 l3).bind fun x0 => f_X7_tells_J69 kL20 kL26 l1 l2 x0
def f_X7_tells_L26 (kL20 : Int32 → tX7 → Option tX7) : Nat → Int32 → Int32 → tX7 → Option tX7
  | 0, _, _, _ => none
  | nL26 + 1, l1, l2, v =>
    (if (v.2.1 2) < l2 then kL20 (l1 + (-1 : Int32)) v else (f_X7_in (l1 - l2) l2 (v.2.1 2)).bind fun x1 => (if x1 = 0 then f_X7_tells_J69 kL20 (f_X7_tells_L26 kL20 nL26) l1 l2 v else (if l2 < (l1 - l2) then f_X7_tells_J63 kL20 (f_X7_tells_L26 kL20 nL26) l1 l2 (l1 - l2) v else (if l2 = 0 then f_X7_tells_J63 kL20 (f_X7_tells_L26 kL20 nL26) l1 l2 (l1 - l2) v else f_X7_tells_J69 kL20 (f_X7_tells_L26 kL20 nL26) l1 l2 v))))
def f_X7_tells_L20 : Nat → Int32 → tX7 → Option tX7
  | 0, _, _ => none
  | nL20 + 1, l1, v =>
    (if l1 < 0 then some (v.1, v.2.1, v.2.2.1, v.2.2.2.1, v.2.2.2.2.1, v.2.2.2.2.2.1, v.2.2.2.2.2.2.1, v.2.2.2.2.2.2.2.1, v.2.2.2.2.2.2.2.2.1, v.2.2.2.2.2.2.2.2.2.1, v.2.2.2.2.2.2.2.2.2.2.1, v.2.2.2.2.2.2.2.2.2.2.2.1, (1 : Int32), v.2.2.2.2.2.2.2.2.2.2.2.2.2.1, v.2.2.2.2.2.2.2.2.2.2.2.2.2.2.1, v.2.2.2.2.2.2.2.2.2.2.2.2.2.2.2.1, v.2.2.2.2.2.2.2.2.2.2.2.2.2.2.2.2.1, v.2.2.2.2.2.2.2.2.2.2.2.2.2.2.2.2.2) else f_X7_tells_L26 (f_X7_tells_L20 nL20) gas l1 (0 : Int32) v)
def f_X7_tells_J19 (k0 : Int32) (v : tX7) : Option tX7 :=
  f_X7_tells_L20 gas k0 v
def f_X7_tells (v : tX7) : Option tX7 :=
  (if v.2.2.2.2.2.2.2.2.2.2.2.2.1 = 0 then f_X7_tells_J19 ((2 : Int32) * (v.2.1 2)) v else f_X7_tells_J19 (-1 : Int32) v)
abbrev rm_X7_tells : Room := { frames := 7, cells := 0, slots := 0, locals := 174 }
set_option maxHeartbeats 4000000 in
set_option maxRecDepth 100000 in
theorem c_X7_tells (l : Launch) (D : va_G) (cI cR : ClassId) (ad : Nat → Nat) (v : tX7) (sz : Nat) (r : tX7) (hf : f_X7_tells v = some r) : Met l yX7_tells (wM yX7_tells cX7_tells 4 none) rm_X7_tells (cPre D (tysA cI cR) ([.ref (ad 0)] : List Value) (oX7 cI cR ad v) sz) (qV D (oX7 cI cR ad r) (va_A (oX7 cI cR ad v) sz)) 0 0 (va_A (oX7 cI cR ad v) sz) := by
  refine en_M (own := RX7) (lv := [(0, .ref (ad 0))]) (by decide +kernel) rfl (Nat.le_of_ble_eq_true rfl) rfl (fun p e s m below meth c hx hb hr hlk hml hown hnm hts hsz hP hK hD hN ls hl => ?_)
  subst hsz
  generalize hAe : va_A (oX7 cI cR ad v) s.heap.size = A at hD ⊢
  have hA : ∀ q : Nat, s.heap.size ≤ q → A q := fun q h => by rw [← hAe]; exact Or.inr h
  have hS : va_S A s.heap s.heap [] := va_S.rf
  have hP : va_P D vwCl [(ad 0, .inr (7, [.int v.1, .ref (ad 1), .ref (ad 2), .ref (ad 3), .int v.2.2.2.2.1, .ref (ad 4), .int v.2.2.2.2.2.2.1, .ref (ad 5), .int v.2.2.2.2.2.2.2.2.1, .int v.2.2.2.2.2.2.2.2.2.1, .int v.2.2.2.2.2.2.2.2.2.2.1, .ref (ad 6), .int v.2.2.2.2.2.2.2.2.2.2.2.2.1, .int v.2.2.2.2.2.2.2.2.2.2.2.2.2.1, .int v.2.2.2.2.2.2.2.2.2.2.2.2.2.2.1, .int v.2.2.2.2.2.2.2.2.2.2.2.2.2.2.2.1, .int v.2.2.2.2.2.2.2.2.2.2.2.2.2.2.2.2.1, .int v.2.2.2.2.2.2.2.2.2.2.2.2.2.2.2.2.2])), (ad 1, .inl (cI, 72, .inl v.2.1)), (ad 2, .inl (cI, 72, .inl v.2.2.1)), (ad 3, .inl (cI, 288, .inl v.2.2.2.1)), (ad 4, .inl (cI, 72, .inl v.2.2.2.2.2.1)), (ad 5, .inl (cI, 60, .inl v.2.2.2.2.2.2.2.1)), (ad 6, .inl (cI, 32768, .inl v.2.2.2.2.2.2.2.2.2.2.2.1))] s.heap := hP
  have hD : va_D A [(ad 0, .inr (7, [.int v.1, .ref (ad 1), .ref (ad 2), .ref (ad 3), .int v.2.2.2.2.1, .ref (ad 4), .int v.2.2.2.2.2.2.1, .ref (ad 5), .int v.2.2.2.2.2.2.2.2.1, .int v.2.2.2.2.2.2.2.2.2.1, .int v.2.2.2.2.2.2.2.2.2.2.1, .ref (ad 6), .int v.2.2.2.2.2.2.2.2.2.2.2.2.1, .int v.2.2.2.2.2.2.2.2.2.2.2.2.2.1, .int v.2.2.2.2.2.2.2.2.2.2.2.2.2.2.1, .int v.2.2.2.2.2.2.2.2.2.2.2.2.2.2.2.1, .int v.2.2.2.2.2.2.2.2.2.2.2.2.2.2.2.2.1, .int v.2.2.2.2.2.2.2.2.2.2.2.2.2.2.2.2.2])), (ad 1, .inl (cI, 72, .inl v.2.1)), (ad 2, .inl (cI, 72, .inl v.2.2.1)), (ad 3, .inl (cI, 288, .inl v.2.2.2.1)), (ad 4, .inl (cI, 72, .inl v.2.2.2.2.2.1)), (ad 5, .inl (cI, 60, .inl v.2.2.2.2.2.2.2.1)), (ad 6, .inl (cI, 32768, .inl v.2.2.2.2.2.2.2.2.2.2.2.1))] := hD
  have L20 : ∀ (nL20 : Nat) (l1 : Int32) (v : tX7) (H : Heap) (locs : List Loc) (ls : Array Slot), va_P D vwCl [(ad 0, .inr (7, [.int v.1, .ref (ad 1), .ref (ad 2), .ref (ad 3), .int v.2.2.2.2.1, .ref (ad 4), .int v.2.2.2.2.2.2.1, .ref (ad 5), .int v.2.2.2.2.2.2.2.2.1, .int v.2.2.2.2.2.2.2.2.2.1, .int v.2.2.2.2.2.2.2.2.2.2.1, .ref (ad 6), .int v.2.2.2.2.2.2.2.2.2.2.2.2.1, .int v.2.2.2.2.2.2.2.2.2.2.2.2.2.1, .int v.2.2.2.2.2.2.2.2.2.2.2.2.2.2.1, .int v.2.2.2.2.2.2.2.2.2.2.2.2.2.2.2.1, .int v.2.2.2.2.2.2.2.2.2.2.2.2.2.2.2.2.1, .int v.2.2.2.2.2.2.2.2.2.2.2.2.2.2.2.2.2])), (ad 1, .inl (cI, 72, .inl v.2.1)), (ad 2, .inl (cI, 72, .inl v.2.2.1)), (ad 3, .inl (cI, 288, .inl v.2.2.2.1)), (ad 4, .inl (cI, 72, .inl v.2.2.2.2.2.1)), (ad 5, .inl (cI, 60, .inl v.2.2.2.2.2.2.2.1)), (ad 6, .inl (cI, 32768, .inl v.2.2.2.2.2.2.2.2.2.2.2.1))] H → va_D A [(ad 0, .inr (7, [.int v.1, .ref (ad 1), .ref (ad 2), .ref (ad 3), .int v.2.2.2.2.1, .ref (ad 4), .int v.2.2.2.2.2.2.1, .ref (ad 5), .int v.2.2.2.2.2.2.2.2.1, .int v.2.2.2.2.2.2.2.2.2.1, .int v.2.2.2.2.2.2.2.2.2.2.1, .ref (ad 6), .int v.2.2.2.2.2.2.2.2.2.2.2.2.1, .int v.2.2.2.2.2.2.2.2.2.2.2.2.2.1, .int v.2.2.2.2.2.2.2.2.2.2.2.2.2.2.1, .int v.2.2.2.2.2.2.2.2.2.2.2.2.2.2.2.1, .int v.2.2.2.2.2.2.2.2.2.2.2.2.2.2.2.2.1, .int v.2.2.2.2.2.2.2.2.2.2.2.2.2.2.2.2.2])), (ad 1, .inl (cI, 72, .inl v.2.1)), (ad 2, .inl (cI, 72, .inl v.2.2.1)), (ad 3, .inl (cI, 288, .inl v.2.2.2.1)), (ad 4, .inl (cI, 72, .inl v.2.2.2.2.2.1)), (ad 5, .inl (cI, 60, .inl v.2.2.2.2.2.2.2.1)), (ad 6, .inl (cI, 32768, .inl v.2.2.2.2.2.2.2.2.2.2.2.1))] → va_S A s.heap H locs → lv_has ls 4 [(0, .ref (ad 0)), (1, .int l1)] → f_X7_tells_L20 nL20 l1 v = some r → W p l e rm_X7_tells s m ([.ref (ad 0)] : List Value).toArray below meth c H locs 0 0 (MQ below (qV D (oX7 cI cR ad r) A) ([.ref (ad 0)] : List Value).toArray s 0 0 A) (F0 m 20 ls []) := by
    intro nL20
    induction nL20 with
    | zero =>
      intro l1 v H locs ls hP hD hS hl hf
      cases hf
    | succ nL20 ih_L20 =>
      have L26 : ∀ (nL26 : Nat) (l1 : Int32) (l2 : Int32) (v : tX7) (H : Heap) (locs : List Loc) (ls : Array Slot), va_P D vwCl [(ad 0, .inr (7, [.int v.1, .ref (ad 1), .ref (ad 2), .ref (ad 3), .int v.2.2.2.2.1, .ref (ad 4), .int v.2.2.2.2.2.2.1, .ref (ad 5), .int v.2.2.2.2.2.2.2.2.1, .int v.2.2.2.2.2.2.2.2.2.1, .int v.2.2.2.2.2.2.2.2.2.2.1, .ref (ad 6), .int v.2.2.2.2.2.2.2.2.2.2.2.2.1, .int v.2.2.2.2.2.2.2.2.2.2.2.2.2.1, .int v.2.2.2.2.2.2.2.2.2.2.2.2.2.2.1, .int v.2.2.2.2.2.2.2.2.2.2.2.2.2.2.2.1, .int v.2.2.2.2.2.2.2.2.2.2.2.2.2.2.2.2.1, .int v.2.2.2.2.2.2.2.2.2.2.2.2.2.2.2.2.2])), (ad 1, .inl (cI, 72, .inl v.2.1)), (ad 2, .inl (cI, 72, .inl v.2.2.1)), (ad 3, .inl (cI, 288, .inl v.2.2.2.1)), (ad 4, .inl (cI, 72, .inl v.2.2.2.2.2.1)), (ad 5, .inl (cI, 60, .inl v.2.2.2.2.2.2.2.1)), (ad 6, .inl (cI, 32768, .inl v.2.2.2.2.2.2.2.2.2.2.2.1))] H → va_D A [(ad 0, .inr (7, [.int v.1, .ref (ad 1), .ref (ad 2), .ref (ad 3), .int v.2.2.2.2.1, .ref (ad 4), .int v.2.2.2.2.2.2.1, .ref (ad 5), .int v.2.2.2.2.2.2.2.2.1, .int v.2.2.2.2.2.2.2.2.2.1, .int v.2.2.2.2.2.2.2.2.2.2.1, .ref (ad 6), .int v.2.2.2.2.2.2.2.2.2.2.2.2.1, .int v.2.2.2.2.2.2.2.2.2.2.2.2.2.1, .int v.2.2.2.2.2.2.2.2.2.2.2.2.2.2.1, .int v.2.2.2.2.2.2.2.2.2.2.2.2.2.2.2.1, .int v.2.2.2.2.2.2.2.2.2.2.2.2.2.2.2.2.1, .int v.2.2.2.2.2.2.2.2.2.2.2.2.2.2.2.2.2])), (ad 1, .inl (cI, 72, .inl v.2.1)), (ad 2, .inl (cI, 72, .inl v.2.2.1)), (ad 3, .inl (cI, 288, .inl v.2.2.2.1)), (ad 4, .inl (cI, 72, .inl v.2.2.2.2.2.1)), (ad 5, .inl (cI, 60, .inl v.2.2.2.2.2.2.2.1)), (ad 6, .inl (cI, 32768, .inl v.2.2.2.2.2.2.2.2.2.2.2.1))] → va_S A s.heap H locs → lv_has ls 4 [(0, .ref (ad 0)), (1, .int l1), (2, .int l2)] → f_X7_tells_L26 (f_X7_tells_L20 nL20) nL26 l1 l2 v = some r → W p l e rm_X7_tells s m ([.ref (ad 0)] : List Value).toArray below meth c H locs 0 0 (MQ below (qV D (oX7 cI cR ad r) A) ([.ref (ad 0)] : List Value).toArray s 0 0 A) (F0 m 26 ls []) := by
        intro nL26
        induction nL26 with
        | zero =>
          intro l1 l2 v H locs ls hP hD hS hl hf
          cases hf
        | succ nL26 ih_L26 =>
          have J69 : ∀ (l1 : Int32) (l2 : Int32) (v : tX7) (H : Heap) (locs : List Loc) (ls : Array Slot), va_P D vwCl [(ad 0, .inr (7, [.int v.1, .ref (ad 1), .ref (ad 2), .ref (ad 3), .int v.2.2.2.2.1, .ref (ad 4), .int v.2.2.2.2.2.2.1, .ref (ad 5), .int v.2.2.2.2.2.2.2.2.1, .int v.2.2.2.2.2.2.2.2.2.1, .int v.2.2.2.2.2.2.2.2.2.2.1, .ref (ad 6), .int v.2.2.2.2.2.2.2.2.2.2.2.2.1, .int v.2.2.2.2.2.2.2.2.2.2.2.2.2.1, .int v.2.2.2.2.2.2.2.2.2.2.2.2.2.2.1, .int v.2.2.2.2.2.2.2.2.2.2.2.2.2.2.2.1, .int v.2.2.2.2.2.2.2.2.2.2.2.2.2.2.2.2.1, .int v.2.2.2.2.2.2.2.2.2.2.2.2.2.2.2.2.2])), (ad 1, .inl (cI, 72, .inl v.2.1)), (ad 2, .inl (cI, 72, .inl v.2.2.1)), (ad 3, .inl (cI, 288, .inl v.2.2.2.1)), (ad 4, .inl (cI, 72, .inl v.2.2.2.2.2.1)), (ad 5, .inl (cI, 60, .inl v.2.2.2.2.2.2.2.1)), (ad 6, .inl (cI, 32768, .inl v.2.2.2.2.2.2.2.2.2.2.2.1))] H → va_D A [(ad 0, .inr (7, [.int v.1, .ref (ad 1), .ref (ad 2), .ref (ad 3), .int v.2.2.2.2.1, .ref (ad 4), .int v.2.2.2.2.2.2.1, .ref (ad 5), .int v.2.2.2.2.2.2.2.2.1, .int v.2.2.2.2.2.2.2.2.2.1, .int v.2.2.2.2.2.2.2.2.2.2.1, .ref (ad 6), .int v.2.2.2.2.2.2.2.2.2.2.2.2.1, .int v.2.2.2.2.2.2.2.2.2.2.2.2.2.1, .int v.2.2.2.2.2.2.2.2.2.2.2.2.2.2.1, .int v.2.2.2.2.2.2.2.2.2.2.2.2.2.2.2.1, .int v.2.2.2.2.2.2.2.2.2.2.2.2.2.2.2.2.1, .int v.2.2.2.2.2.2.2.2.2.2.2.2.2.2.2.2.2])), (ad 1, .inl (cI, 72, .inl v.2.1)), (ad 2, .inl (cI, 72, .inl v.2.2.1)), (ad 3, .inl (cI, 288, .inl v.2.2.2.1)), (ad 4, .inl (cI, 72, .inl v.2.2.2.2.2.1)), (ad 5, .inl (cI, 60, .inl v.2.2.2.2.2.2.2.1)), (ad 6, .inl (cI, 32768, .inl v.2.2.2.2.2.2.2.2.2.2.2.1))] → va_S A s.heap H locs → lv_has ls 4 [(0, .ref (ad 0)), (1, .int l1), (2, .int l2)] → f_X7_tells_J69 (f_X7_tells_L20 nL20) (f_X7_tells_L26 (f_X7_tells_L20 nL20) nL26) l1 l2 v = some r → W p l e rm_X7_tells s m ([.ref (ad 0)] : List Value).toArray below meth c H locs 0 0 (MQ below (qV D (oX7 cI cR ad r) A) ([.ref (ad 0)] : List Value).toArray s 0 0 A) (F0 m 69 ls []) := by
            intro l1 l2 v H locs ls hP hD hS hl hf
            unfold f_X7_tells_J69 at hf
            refine lv_iinc (v := (l2 + (1 : Int32))) (lv' := [(2, .int (l2 + (1 : Int32))), (0, .ref (ad 0)), (1, .int l1)]) hx hb dX7_tells_69 hl (k := 2) rfl rfl (by decide) rfl (fun ls hl => ?_)
            refine lv_goto (tgt := 26) hx hb dX7_tells_72 (by decide) ?_
            exact ih_L26 l1 (l2 + (1 : Int32)) v _ _ ls hP hD hS (lv_sub hl [1, 2, 0] rfl) hf
          have J63 : ∀ (l1 : Int32) (l2 : Int32) (l3 : Int32) (v : tX7) (H : Heap) (locs : List Loc) (ls : Array Slot), va_P D vwCl [(ad 0, .inr (7, [.int v.1, .ref (ad 1), .ref (ad 2), .ref (ad 3), .int v.2.2.2.2.1, .ref (ad 4), .int v.2.2.2.2.2.2.1, .ref (ad 5), .int v.2.2.2.2.2.2.2.2.1, .int v.2.2.2.2.2.2.2.2.2.1, .int v.2.2.2.2.2.2.2.2.2.2.1, .ref (ad 6), .int v.2.2.2.2.2.2.2.2.2.2.2.2.1, .int v.2.2.2.2.2.2.2.2.2.2.2.2.2.1, .int v.2.2.2.2.2.2.2.2.2.2.2.2.2.2.1, .int v.2.2.2.2.2.2.2.2.2.2.2.2.2.2.2.1, .int v.2.2.2.2.2.2.2.2.2.2.2.2.2.2.2.2.1, .int v.2.2.2.2.2.2.2.2.2.2.2.2.2.2.2.2.2])), (ad 1, .inl (cI, 72, .inl v.2.1)), (ad 2, .inl (cI, 72, .inl v.2.2.1)), (ad 3, .inl (cI, 288, .inl v.2.2.2.1)), (ad 4, .inl (cI, 72, .inl v.2.2.2.2.2.1)), (ad 5, .inl (cI, 60, .inl v.2.2.2.2.2.2.2.1)), (ad 6, .inl (cI, 32768, .inl v.2.2.2.2.2.2.2.2.2.2.2.1))] H → va_D A [(ad 0, .inr (7, [.int v.1, .ref (ad 1), .ref (ad 2), .ref (ad 3), .int v.2.2.2.2.1, .ref (ad 4), .int v.2.2.2.2.2.2.1, .ref (ad 5), .int v.2.2.2.2.2.2.2.2.1, .int v.2.2.2.2.2.2.2.2.2.1, .int v.2.2.2.2.2.2.2.2.2.2.1, .ref (ad 6), .int v.2.2.2.2.2.2.2.2.2.2.2.2.1, .int v.2.2.2.2.2.2.2.2.2.2.2.2.2.1, .int v.2.2.2.2.2.2.2.2.2.2.2.2.2.2.1, .int v.2.2.2.2.2.2.2.2.2.2.2.2.2.2.2.1, .int v.2.2.2.2.2.2.2.2.2.2.2.2.2.2.2.2.1, .int v.2.2.2.2.2.2.2.2.2.2.2.2.2.2.2.2.2])), (ad 1, .inl (cI, 72, .inl v.2.1)), (ad 2, .inl (cI, 72, .inl v.2.2.1)), (ad 3, .inl (cI, 288, .inl v.2.2.2.1)), (ad 4, .inl (cI, 72, .inl v.2.2.2.2.2.1)), (ad 5, .inl (cI, 60, .inl v.2.2.2.2.2.2.2.1)), (ad 6, .inl (cI, 32768, .inl v.2.2.2.2.2.2.2.2.2.2.2.1))] → va_S A s.heap H locs → lv_has ls 4 [(0, .ref (ad 0)), (1, .int l1), (2, .int l2), (3, .int l3)] → f_X7_tells_J63 (f_X7_tells_L20 nL20) (f_X7_tells_L26 (f_X7_tells_L20 nL20) nL26) l1 l2 l3 v = some r → W p l e rm_X7_tells s m ([.ref (ad 0)] : List Value).toArray below meth c H locs 0 0 (MQ below (qV D (oX7 cI cR ad r) A) ([.ref (ad 0)] : List Value).toArray s 0 0 A) (F0 m 63 ls []) := by
            intro l1 l2 l3 v H locs ls hP hD hS hl hf
            unfold f_X7_tells_J63 at hf
            refine lv_aload_n hx hb dX7_tells_63 rfl (lv_at hl 0 rfl) ?_
            refine lv_iload_n hx hb dX7_tells_64 rfl (lv_at hl 2 rfl) ?_
            refine lv_iload_n hx hb dX7_tells_65 rfl (lv_at hl 3 rfl) ?_
            obtain ⟨x0, hcx0, hf⟩ := gB hf
            refine j_v (wr := []) (w_V (As := [.int l2, .int l3]) (rest := []) (n := 2) ⟨hx, hb, hml, hown, hts⟩ (c_X7_tellsPlaces l D cI cR ad v l2 l3 _ x0 hcx0) kM_X7_112 kN_X7_tellsPlaces kV_X7_tellsPlaces kZ_X7 kK_X7_tellsPlaces ⟨rfl, rfl⟩ ⟨(Nat.le_of_ble_eq_true rfl), (Nat.le_of_ble_eq_true rfl)⟩ pd_X7_tellsPlaces rfl hK hN hP hD [0, 1, 2, 3, 4, 5, 6] rfl rfl 0 7 rfl rfl rfl hl.1 (Nat.le_of_ble_eq_true rfl) dX7_tells_66 ⟨(Nat.le_of_ble_eq_true rfl), (Nat.le_of_ble_eq_true rfl)⟩) hP hD hS hA [0, 1, 2, 3, 4, 5, 6] [] rfl rfl rfl (by decide) (fun H locs hP hD hS => ?_)
            have hP : va_P D vwCl [(ad 0, .inr (7, [.int x0.1, .ref (ad 1), .ref (ad 2), .ref (ad 3), .int x0.2.2.2.2.1, .ref (ad 4), .int x0.2.2.2.2.2.2.1, .ref (ad 5), .int x0.2.2.2.2.2.2.2.2.1, .int x0.2.2.2.2.2.2.2.2.2.1, .int x0.2.2.2.2.2.2.2.2.2.2.1, .ref (ad 6), .int x0.2.2.2.2.2.2.2.2.2.2.2.2.1, .int x0.2.2.2.2.2.2.2.2.2.2.2.2.2.1, .int x0.2.2.2.2.2.2.2.2.2.2.2.2.2.2.1, .int x0.2.2.2.2.2.2.2.2.2.2.2.2.2.2.2.1, .int x0.2.2.2.2.2.2.2.2.2.2.2.2.2.2.2.2.1, .int x0.2.2.2.2.2.2.2.2.2.2.2.2.2.2.2.2.2])), (ad 1, .inl (cI, 72, .inl x0.2.1)), (ad 2, .inl (cI, 72, .inl x0.2.2.1)), (ad 3, .inl (cI, 288, .inl x0.2.2.2.1)), (ad 4, .inl (cI, 72, .inl x0.2.2.2.2.2.1)), (ad 5, .inl (cI, 60, .inl x0.2.2.2.2.2.2.2.1)), (ad 6, .inl (cI, 32768, .inl x0.2.2.2.2.2.2.2.2.2.2.2.1))] H := hP
            have hD : va_D A [(ad 0, .inr (7, [.int x0.1, .ref (ad 1), .ref (ad 2), .ref (ad 3), .int x0.2.2.2.2.1, .ref (ad 4), .int x0.2.2.2.2.2.2.1, .ref (ad 5), .int x0.2.2.2.2.2.2.2.2.1, .int x0.2.2.2.2.2.2.2.2.2.1, .int x0.2.2.2.2.2.2.2.2.2.2.1, .ref (ad 6), .int x0.2.2.2.2.2.2.2.2.2.2.2.2.1, .int x0.2.2.2.2.2.2.2.2.2.2.2.2.2.1, .int x0.2.2.2.2.2.2.2.2.2.2.2.2.2.2.1, .int x0.2.2.2.2.2.2.2.2.2.2.2.2.2.2.2.1, .int x0.2.2.2.2.2.2.2.2.2.2.2.2.2.2.2.2.1, .int x0.2.2.2.2.2.2.2.2.2.2.2.2.2.2.2.2.2])), (ad 1, .inl (cI, 72, .inl x0.2.1)), (ad 2, .inl (cI, 72, .inl x0.2.2.1)), (ad 3, .inl (cI, 288, .inl x0.2.2.2.1)), (ad 4, .inl (cI, 72, .inl x0.2.2.2.2.2.1)), (ad 5, .inl (cI, 60, .inl x0.2.2.2.2.2.2.2.1)), (ad 6, .inl (cI, 32768, .inl x0.2.2.2.2.2.2.2.2.2.2.2.1))] := hD
            exact J69 l1 l2 x0 _ _ ls hP hD hS (lv_sub hl [0, 1, 2] rfl) hf
          intro l1 l2 v H locs ls hP hD hS hl hf
          rw [f_X7_tells_L26] at hf
          refine lv_iload_n hx hb dX7_tells_26 rfl (lv_at hl 2 rfl) ?_
          refine lv_aload_n hx hb dX7_tells_27 rfl (lv_at hl 0 rfl) ?_
          refine va_get (D := D) (ci := 7) (v := .ref (ad 1)) (C := RX7) (T := TX7) (N := 18) hx hb hts inA_X7 hown hK hP 0 rfl rfl 1 (by decide) (hts _ kF_X7_7) (fun _ h9 => h9) rfl dX7_tells_28 ?_
          refine lv_iconst (v := (2 : Int32)) hx hb dX7_tells_31 (by decide) ?_
          refine va_iald hx hb hK hP 1 0 rfl rfl (ig_in (by decide)) dX7_tells_32 ?_
          refine W.eq (g2 := F0 m 33 ls [.int (v.2.1 2), .int l2]) rfl ?_
          refine lv_icmp_gt (tgt := 75) hx hb dX7_tells_33 (by decide) (fun c0 => ?_) (fun c0 => ?_)
          · replace hf := gT hf c0
            refine lv_iinc (v := (l1 + (-1 : Int32))) (lv' := [(1, .int (l1 + (-1 : Int32))), (0, .ref (ad 0)), (2, .int l2)]) hx hb dX7_tells_75 hl (k := 1) rfl rfl (by decide) rfl (fun ls hl => ?_)
            refine lv_goto (tgt := 20) hx hb dX7_tells_78 (by decide) ?_
            exact ih_L20 (l1 + (-1 : Int32)) v _ _ ls hP hD hS (lv_sub hl [1, 0] rfl) hf
          · replace hf := gF hf c0
            refine lv_iload_n hx hb dX7_tells_36 rfl (lv_at hl 1 rfl) ?_
            refine lv_iload_n hx hb dX7_tells_37 rfl (lv_at hl 2 rfl) ?_
            refine lv_isub hx hb dX7_tells_38 ?_
            refine lv_istore_n (lv' := [(3, .int (l1 - l2)), (0, .ref (ad 0)), (1, .int l1), (2, .int l2)]) hx hb dX7_tells_39 rfl hl (by decide) rfl (fun ls hl => ?_)
            refine lv_iload_n hx hb dX7_tells_40 rfl (lv_at hl 0 rfl) ?_
            refine lv_iload_n hx hb dX7_tells_41 rfl (lv_at hl 3 rfl) ?_
            refine lv_aload_n hx hb dX7_tells_42 rfl (lv_at hl 1 rfl) ?_
            refine va_get (D := D) (ci := 7) (v := .ref (ad 1)) (C := RX7) (T := TX7) (N := 18) hx hb hts inA_X7 hown hK hP 0 rfl rfl 1 (by decide) (hts _ kF_X7_7) (fun _ h9 => h9) rfl dX7_tells_43 ?_
            refine lv_iconst (v := (2 : Int32)) hx hb dX7_tells_46 (by decide) ?_
            refine va_iald hx hb hK hP 1 0 rfl rfl (ig_in (by decide)) dX7_tells_47 ?_
            refine W.eq (g2 := F0 m 48 ls [.int (v.2.1 2), .int l2, .int (l1 - l2)]) rfl ?_
            obtain ⟨x1, hcx1, hf⟩ := gB hf
            refine k_r (r_S (As := [.int (l1 - l2), .int l2, .int (v.2.1 2)]) (rest := []) (n := 3) ⟨hx, hb, hml, hown, hts⟩ (c_X7_in l D cI cR (l1 - l2) l2 (v.2.1 2) _ x1 hcx1) kM_X7_49 kS_X7_in kZ_X7 kK_X7_in ⟨rfl, rfl⟩ ⟨(Nat.le_of_ble_eq_true rfl), (Nat.le_of_ble_eq_true rfl)⟩ pd_X7_in rfl hK hN hP hD [] rfl rfl rfl hl.1 (Nat.le_of_ble_eq_true rfl) dX7_tells_48 ⟨(Nat.le_of_ble_eq_true rfl), (Nat.le_of_ble_eq_true rfl)⟩) ?_
            refine lv_if_eq (tgt := 69) hx hb dX7_tells_51 (by decide) (fun c1 => ?_) (fun c1 => ?_)
            · replace hf := gT hf c1
              exact J69 l1 l2 v _ _ ls hP hD hS (lv_sub hl [1, 2, 3] rfl) hf
            · replace hf := gF hf c1
              refine lv_iload_n hx hb dX7_tells_54 rfl (lv_at hl 0 rfl) ?_
              refine lv_iload_n hx hb dX7_tells_55 rfl (lv_at hl 3 rfl) ?_
              refine lv_icmp_gt (tgt := 63) hx hb dX7_tells_56 (by decide) (fun c2 => ?_) (fun c2 => ?_)
              · replace hf := gT hf c2
                exact J63 l1 l2 (l1 - l2) v _ _ ls hP hD hS (lv_sub hl [1, 2, 3, 0] rfl) hf
              · replace hf := gF hf c2
                refine lv_iload_n hx hb dX7_tells_59 rfl (lv_at hl 3 rfl) ?_
                refine lv_if_ne (tgt := 69) hx hb dX7_tells_60 (by decide) (fun c3 => ?_) (fun c3 => ?_)
                · replace hf := gF hf c3
                  exact J69 l1 l2 v _ _ ls hP hD hS (lv_sub hl [1, 2, 3] rfl) hf
                · replace hf := gT hf c3
                  exact J63 l1 l2 (l1 - l2) v _ _ ls hP hD hS (lv_sub hl [1, 2, 3, 0] rfl) hf
      intro l1 v H locs ls hP hD hS hl hf
      rw [f_X7_tells_L20] at hf
      refine lv_iload_n hx hb dX7_tells_20 rfl (lv_at hl 1 rfl) ?_
      refine lv_if_lt (tgt := 81) hx hb dX7_tells_21 (by decide) (fun c4 => ?_) (fun c4 => ?_)
      · replace hf := gT hf c4
        refine lv_aload_n hx hb dX7_tells_81 rfl (lv_at hl 0 rfl) ?_
        refine lv_iconst (v := (1 : Int32)) hx hb dX7_tells_82 (by decide) ?_
        refine va_put (D := D) (ci := 7) (v := .int (1 : Int32)) (ty := .boolean) (C := RX7) (T := TX7) (N := 18) hx hb hts inA_X7 tyX7 tyX7_ok nmX7 hown hK hP hD hS 0 rfl rfl 12 (by decide) (hts _ kF_X7_109) (fun _ h9 => h9) rfl (tyX7_ok 12 (by decide)) rfl rfl (Nat.le_of_ble_eq_true rfl) dX7_tells_83 (fun H locs hP hD hS => ?_)
        have hP : va_P D vwCl [(ad 0, .inr (7, [.int v.1, .ref (ad 1), .ref (ad 2), .ref (ad 3), .int v.2.2.2.2.1, .ref (ad 4), .int v.2.2.2.2.2.2.1, .ref (ad 5), .int v.2.2.2.2.2.2.2.2.1, .int v.2.2.2.2.2.2.2.2.2.1, .int v.2.2.2.2.2.2.2.2.2.2.1, .ref (ad 6), .int (1 : Int32), .int v.2.2.2.2.2.2.2.2.2.2.2.2.2.1, .int v.2.2.2.2.2.2.2.2.2.2.2.2.2.2.1, .int v.2.2.2.2.2.2.2.2.2.2.2.2.2.2.2.1, .int v.2.2.2.2.2.2.2.2.2.2.2.2.2.2.2.2.1, .int v.2.2.2.2.2.2.2.2.2.2.2.2.2.2.2.2.2])), (ad 1, .inl (cI, 72, .inl v.2.1)), (ad 2, .inl (cI, 72, .inl v.2.2.1)), (ad 3, .inl (cI, 288, .inl v.2.2.2.1)), (ad 4, .inl (cI, 72, .inl v.2.2.2.2.2.1)), (ad 5, .inl (cI, 60, .inl v.2.2.2.2.2.2.2.1)), (ad 6, .inl (cI, 32768, .inl v.2.2.2.2.2.2.2.2.2.2.2.1))] H := hP
        have hD : va_D A [(ad 0, .inr (7, [.int v.1, .ref (ad 1), .ref (ad 2), .ref (ad 3), .int v.2.2.2.2.1, .ref (ad 4), .int v.2.2.2.2.2.2.1, .ref (ad 5), .int v.2.2.2.2.2.2.2.2.1, .int v.2.2.2.2.2.2.2.2.2.1, .int v.2.2.2.2.2.2.2.2.2.2.1, .ref (ad 6), .int (1 : Int32), .int v.2.2.2.2.2.2.2.2.2.2.2.2.2.1, .int v.2.2.2.2.2.2.2.2.2.2.2.2.2.2.1, .int v.2.2.2.2.2.2.2.2.2.2.2.2.2.2.2.1, .int v.2.2.2.2.2.2.2.2.2.2.2.2.2.2.2.2.1, .int v.2.2.2.2.2.2.2.2.2.2.2.2.2.2.2.2.2])), (ad 1, .inl (cI, 72, .inl v.2.1)), (ad 2, .inl (cI, 72, .inl v.2.2.1)), (ad 3, .inl (cI, 288, .inl v.2.2.2.1)), (ad 4, .inl (cI, 72, .inl v.2.2.2.2.2.1)), (ad 5, .inl (cI, 60, .inl v.2.2.2.2.2.2.2.1)), (ad 6, .inl (cI, 32768, .inl v.2.2.2.2.2.2.2.2.2.2.2.1))] := hD
        exact z_v hf (fun r => oX7 cI cR ad r) hx hb hr hlk hS hP hD dX7_tells_86
      · replace hf := gF hf c4
        refine lv_iconst (v := (0 : Int32)) hx hb dX7_tells_24 (by decide) ?_
        refine lv_istore_n (lv' := [(2, .int (0 : Int32)), (0, .ref (ad 0)), (1, .int l1)]) hx hb dX7_tells_25 rfl hl (by decide) rfl (fun ls hl => ?_)
        exact L26 gas l1 (0 : Int32) v _ _ ls hP hD hS (lv_sub hl [1, 2, 0] rfl) hf
  have J19 : ∀ (k0 : Int32) (v : tX7) (H : Heap) (locs : List Loc) (ls : Array Slot), va_P D vwCl [(ad 0, .inr (7, [.int v.1, .ref (ad 1), .ref (ad 2), .ref (ad 3), .int v.2.2.2.2.1, .ref (ad 4), .int v.2.2.2.2.2.2.1, .ref (ad 5), .int v.2.2.2.2.2.2.2.2.1, .int v.2.2.2.2.2.2.2.2.2.1, .int v.2.2.2.2.2.2.2.2.2.2.1, .ref (ad 6), .int v.2.2.2.2.2.2.2.2.2.2.2.2.1, .int v.2.2.2.2.2.2.2.2.2.2.2.2.2.1, .int v.2.2.2.2.2.2.2.2.2.2.2.2.2.2.1, .int v.2.2.2.2.2.2.2.2.2.2.2.2.2.2.2.1, .int v.2.2.2.2.2.2.2.2.2.2.2.2.2.2.2.2.1, .int v.2.2.2.2.2.2.2.2.2.2.2.2.2.2.2.2.2])), (ad 1, .inl (cI, 72, .inl v.2.1)), (ad 2, .inl (cI, 72, .inl v.2.2.1)), (ad 3, .inl (cI, 288, .inl v.2.2.2.1)), (ad 4, .inl (cI, 72, .inl v.2.2.2.2.2.1)), (ad 5, .inl (cI, 60, .inl v.2.2.2.2.2.2.2.1)), (ad 6, .inl (cI, 32768, .inl v.2.2.2.2.2.2.2.2.2.2.2.1))] H → va_D A [(ad 0, .inr (7, [.int v.1, .ref (ad 1), .ref (ad 2), .ref (ad 3), .int v.2.2.2.2.1, .ref (ad 4), .int v.2.2.2.2.2.2.1, .ref (ad 5), .int v.2.2.2.2.2.2.2.2.1, .int v.2.2.2.2.2.2.2.2.2.1, .int v.2.2.2.2.2.2.2.2.2.2.1, .ref (ad 6), .int v.2.2.2.2.2.2.2.2.2.2.2.2.1, .int v.2.2.2.2.2.2.2.2.2.2.2.2.2.1, .int v.2.2.2.2.2.2.2.2.2.2.2.2.2.2.1, .int v.2.2.2.2.2.2.2.2.2.2.2.2.2.2.2.1, .int v.2.2.2.2.2.2.2.2.2.2.2.2.2.2.2.2.1, .int v.2.2.2.2.2.2.2.2.2.2.2.2.2.2.2.2.2])), (ad 1, .inl (cI, 72, .inl v.2.1)), (ad 2, .inl (cI, 72, .inl v.2.2.1)), (ad 3, .inl (cI, 288, .inl v.2.2.2.1)), (ad 4, .inl (cI, 72, .inl v.2.2.2.2.2.1)), (ad 5, .inl (cI, 60, .inl v.2.2.2.2.2.2.2.1)), (ad 6, .inl (cI, 32768, .inl v.2.2.2.2.2.2.2.2.2.2.2.1))] → va_S A s.heap H locs → lv_has ls 4 [(0, .ref (ad 0))] → f_X7_tells_J19 k0 v = some r → W p l e rm_X7_tells s m ([.ref (ad 0)] : List Value).toArray below meth c H locs 0 0 (MQ below (qV D (oX7 cI cR ad r) A) ([.ref (ad 0)] : List Value).toArray s 0 0 A) (F0 m 19 ls [.int k0]) := by
    intro k0 v H locs ls hP hD hS hl hf
    unfold f_X7_tells_J19 at hf
    refine lv_istore_n (lv' := [(1, .int k0), (0, .ref (ad 0))]) hx hb dX7_tells_19 rfl hl (by decide) rfl (fun ls hl => ?_)
    exact L20 gas k0 v _ _ ls hP hD hS (lv_sub hl [1, 0] rfl) hf
  unfold f_X7_tells at hf
  refine lv_aload_n hx hb dX7_tells_0 rfl (lv_at hl 0 rfl) ?_
  refine va_get (D := D) (ci := 7) (v := .int v.2.2.2.2.2.2.2.2.2.2.2.2.1) (C := RX7) (T := TX7) (N := 18) hx hb hts inA_X7 hown hK hP 0 rfl rfl 12 (by decide) (hts _ kF_X7_109) (fun _ h9 => h9) rfl dX7_tells_1 ?_
  refine lv_if_eq (tgt := 11) hx hb dX7_tells_4 (by decide) (fun c5 => ?_) (fun c5 => ?_)
  · replace hf := gT hf c5
    refine lv_iconst (v := (2 : Int32)) hx hb dX7_tells_11 (by decide) ?_
    refine lv_aload_n hx hb dX7_tells_12 rfl (lv_at hl 0 rfl) ?_
    refine va_get (D := D) (ci := 7) (v := .ref (ad 1)) (C := RX7) (T := TX7) (N := 18) hx hb hts inA_X7 hown hK hP 0 rfl rfl 1 (by decide) (hts _ kF_X7_7) (fun _ h9 => h9) rfl dX7_tells_13 ?_
    refine lv_iconst (v := (2 : Int32)) hx hb dX7_tells_16 (by decide) ?_
    refine va_iald hx hb hK hP 1 0 rfl rfl (ig_in (by decide)) dX7_tells_17 ?_
    refine W.eq (g2 := F0 m 18 ls [.int (v.2.1 2), .int (2 : Int32)]) rfl ?_
    refine lv_imul hx hb dX7_tells_18 ?_
    exact J19 ((2 : Int32) * (v.2.1 2)) v _ _ ls hP hD hS (lv_sub hl [0] rfl) hf
  · replace hf := gF hf c5
    refine lv_iconst (v := (-1 : Int32)) hx hb dX7_tells_7 (by decide) ?_
    refine lv_goto (tgt := 19) hx hb dX7_tells_8 (by decide) ?_
    exact J19 (-1 : Int32) v _ _ ls hP hD hS (lv_sub hl [0] rfl) hf
def f_X7_isOver (v : tX7) : Option Int32 :=
  (if (v.2.1 22) = (-4 : Int32) then some (0 : Int32) else some (1 : Int32))
abbrev rm_X7_isOver : Room := { frames := 0, cells := 0, slots := 0, locals := 0 }
set_option maxHeartbeats 4000000 in
set_option maxRecDepth 100000 in
theorem c_X7_isOver (l : Launch) (D : va_G) (cI cR : ClassId) (ad : Nat → Nat) (v : tX7) (sz : Nat) (r : Int32) (hf : f_X7_isOver v = some r) : Met l yX7_isOver (wM yX7_isOver cX7_isOver 1 (some (.boolean))) rm_X7_isOver (cPre D (tysA cI cR) ([.ref (ad 0)] : List Value) (oX7 cI cR ad v) sz) (QcRead r) 0 0 (fun _ => False) := by
  refine en_M (own := RX7) (lv := [(0, .ref (ad 0))]) (by decide +kernel) rfl (Nat.le_of_ble_eq_true rfl) rfl (fun p e s m below meth c hx hb hr hlk hml hown hnm hts hsz hP hK hD hN ls hl => ?_)
  generalize va_A (oX7 cI cR ad v) sz = A at hD
  have hP : va_P D vwCl [(ad 0, .inr (7, [.int v.1, .ref (ad 1), .ref (ad 2), .ref (ad 3), .int v.2.2.2.2.1, .ref (ad 4), .int v.2.2.2.2.2.2.1, .ref (ad 5), .int v.2.2.2.2.2.2.2.2.1, .int v.2.2.2.2.2.2.2.2.2.1, .int v.2.2.2.2.2.2.2.2.2.2.1, .ref (ad 6), .int v.2.2.2.2.2.2.2.2.2.2.2.2.1, .int v.2.2.2.2.2.2.2.2.2.2.2.2.2.1, .int v.2.2.2.2.2.2.2.2.2.2.2.2.2.2.1, .int v.2.2.2.2.2.2.2.2.2.2.2.2.2.2.2.1, .int v.2.2.2.2.2.2.2.2.2.2.2.2.2.2.2.2.1, .int v.2.2.2.2.2.2.2.2.2.2.2.2.2.2.2.2.2])), (ad 1, .inl (cI, 72, .inl v.2.1)), (ad 2, .inl (cI, 72, .inl v.2.2.1)), (ad 3, .inl (cI, 288, .inl v.2.2.2.1)), (ad 4, .inl (cI, 72, .inl v.2.2.2.2.2.1)), (ad 5, .inl (cI, 60, .inl v.2.2.2.2.2.2.2.1)), (ad 6, .inl (cI, 32768, .inl v.2.2.2.2.2.2.2.2.2.2.2.1))] s.heap := hP
  have hD : va_D A [(ad 0, .inr (7, [.int v.1, .ref (ad 1), .ref (ad 2), .ref (ad 3), .int v.2.2.2.2.1, .ref (ad 4), .int v.2.2.2.2.2.2.1, .ref (ad 5), .int v.2.2.2.2.2.2.2.2.1, .int v.2.2.2.2.2.2.2.2.2.1, .int v.2.2.2.2.2.2.2.2.2.2.1, .ref (ad 6), .int v.2.2.2.2.2.2.2.2.2.2.2.2.1, .int v.2.2.2.2.2.2.2.2.2.2.2.2.2.1, .int v.2.2.2.2.2.2.2.2.2.2.2.2.2.2.1, .int v.2.2.2.2.2.2.2.2.2.2.2.2.2.2.2.1, .int v.2.2.2.2.2.2.2.2.2.2.2.2.2.2.2.2.1, .int v.2.2.2.2.2.2.2.2.2.2.2.2.2.2.2.2.2])), (ad 1, .inl (cI, 72, .inl v.2.1)), (ad 2, .inl (cI, 72, .inl v.2.2.1)), (ad 3, .inl (cI, 288, .inl v.2.2.2.1)), (ad 4, .inl (cI, 72, .inl v.2.2.2.2.2.1)), (ad 5, .inl (cI, 60, .inl v.2.2.2.2.2.2.2.1)), (ad 6, .inl (cI, 32768, .inl v.2.2.2.2.2.2.2.2.2.2.2.1))] := hD
  unfold f_X7_isOver at hf
  refine lv_aload_n hx hb dX7_isOver_0 rfl (lv_at hl 0 rfl) ?_
  refine va_get (D := D) (ci := 7) (v := .ref (ad 1)) (C := RX7) (T := TX7) (N := 18) hx hb hts inA_X7 hown hK hP 0 rfl rfl 1 (by decide) (hts _ kF_X7_7) (fun _ h9 => h9) rfl dX7_isOver_1 ?_
  refine lv_bipush (v := (22 : Int32)) hx hb dX7_isOver_4 (by decide) ?_
  refine va_iald hx hb hK hP 1 0 rfl rfl (ig_in (by decide)) dX7_isOver_6 ?_
  refine W.eq (g2 := F0 m 7 ls [.int (v.2.1 22)]) rfl ?_
  refine lv_bipush (v := (-4 : Int32)) hx hb dX7_isOver_7 (by decide) ?_
  refine lv_icmp_eq (tgt := 16) hx hb dX7_isOver_9 (by decide) (fun c0 => ?_) (fun c0 => ?_)
  · replace hf := gT hf c0
    refine lv_iconst (v := (0 : Int32)) hx hb dX7_isOver_16 (by decide) ?_
    exact z_rz hf hx hb hr hlk rfl dX7_isOver_17
  · replace hf := gF hf c0
    refine lv_iconst (v := (1 : Int32)) hx hb dX7_isOver_12 (by decide) ?_
    refine lv_goto (tgt := 17) hx hb dX7_isOver_13 (by decide) ?_
    exact z_rz hf hx hb hr hlk rfl dX7_isOver_17
def f_X7_of (v : tX7) (p1 : Int32) (p2 : Int32) : Option Int32 :=
  (if ig (((23 : Int32) + ((8 : Int32) * p1)) + p2) 72 = true then some (v.2.1 (((23 : Int32) + ((8 : Int32) * p1)) + p2).toNatClampNeg) else none)
abbrev rm_X7_of : Room := { frames := 0, cells := 0, slots := 0, locals := 0 }
set_option maxHeartbeats 4000000 in
set_option maxRecDepth 100000 in
theorem c_X7_of (l : Launch) (D : va_G) (cI cR : ClassId) (ad : Nat → Nat) (v : tX7) (p1 : Int32) (p2 : Int32) (sz : Nat) (r : Int32) (hf : f_X7_of v p1 p2 = some r) : Met l yX7_of (wM yX7_of cX7_of 3 (some (.int))) rm_X7_of (cPre D (tysA cI cR) ([.ref (ad 0), .int p1, .int p2] : List Value) (oX7 cI cR ad v) sz) (QcRead r) 0 0 (fun _ => False) := by
  refine en_M (own := RX7) (lv := [(0, .ref (ad 0)), (1, .int p1), (2, .int p2)]) (by decide +kernel) rfl (Nat.le_of_ble_eq_true rfl) rfl (fun p e s m below meth c hx hb hr hlk hml hown hnm hts hsz hP hK hD hN ls hl => ?_)
  generalize va_A (oX7 cI cR ad v) sz = A at hD
  have hP : va_P D vwCl [(ad 0, .inr (7, [.int v.1, .ref (ad 1), .ref (ad 2), .ref (ad 3), .int v.2.2.2.2.1, .ref (ad 4), .int v.2.2.2.2.2.2.1, .ref (ad 5), .int v.2.2.2.2.2.2.2.2.1, .int v.2.2.2.2.2.2.2.2.2.1, .int v.2.2.2.2.2.2.2.2.2.2.1, .ref (ad 6), .int v.2.2.2.2.2.2.2.2.2.2.2.2.1, .int v.2.2.2.2.2.2.2.2.2.2.2.2.2.1, .int v.2.2.2.2.2.2.2.2.2.2.2.2.2.2.1, .int v.2.2.2.2.2.2.2.2.2.2.2.2.2.2.2.1, .int v.2.2.2.2.2.2.2.2.2.2.2.2.2.2.2.2.1, .int v.2.2.2.2.2.2.2.2.2.2.2.2.2.2.2.2.2])), (ad 1, .inl (cI, 72, .inl v.2.1)), (ad 2, .inl (cI, 72, .inl v.2.2.1)), (ad 3, .inl (cI, 288, .inl v.2.2.2.1)), (ad 4, .inl (cI, 72, .inl v.2.2.2.2.2.1)), (ad 5, .inl (cI, 60, .inl v.2.2.2.2.2.2.2.1)), (ad 6, .inl (cI, 32768, .inl v.2.2.2.2.2.2.2.2.2.2.2.1))] s.heap := hP
  have hD : va_D A [(ad 0, .inr (7, [.int v.1, .ref (ad 1), .ref (ad 2), .ref (ad 3), .int v.2.2.2.2.1, .ref (ad 4), .int v.2.2.2.2.2.2.1, .ref (ad 5), .int v.2.2.2.2.2.2.2.2.1, .int v.2.2.2.2.2.2.2.2.2.1, .int v.2.2.2.2.2.2.2.2.2.2.1, .ref (ad 6), .int v.2.2.2.2.2.2.2.2.2.2.2.2.1, .int v.2.2.2.2.2.2.2.2.2.2.2.2.2.1, .int v.2.2.2.2.2.2.2.2.2.2.2.2.2.2.1, .int v.2.2.2.2.2.2.2.2.2.2.2.2.2.2.2.1, .int v.2.2.2.2.2.2.2.2.2.2.2.2.2.2.2.2.1, .int v.2.2.2.2.2.2.2.2.2.2.2.2.2.2.2.2.2])), (ad 1, .inl (cI, 72, .inl v.2.1)), (ad 2, .inl (cI, 72, .inl v.2.2.1)), (ad 3, .inl (cI, 288, .inl v.2.2.2.1)), (ad 4, .inl (cI, 72, .inl v.2.2.2.2.2.1)), (ad 5, .inl (cI, 60, .inl v.2.2.2.2.2.2.2.1)), (ad 6, .inl (cI, 32768, .inl v.2.2.2.2.2.2.2.2.2.2.2.1))] := hD
  unfold f_X7_of at hf
  refine lv_aload_n hx hb dX7_of_0 rfl (lv_at hl 0 rfl) ?_
  refine va_get (D := D) (ci := 7) (v := .ref (ad 1)) (C := RX7) (T := TX7) (N := 18) hx hb hts inA_X7 hown hK hP 0 rfl rfl 1 (by decide) (hts _ kF_X7_7) (fun _ h9 => h9) rfl dX7_of_1 ?_
  refine lv_bipush (v := (23 : Int32)) hx hb dX7_of_4 (by decide) ?_
  refine lv_bipush (v := (8 : Int32)) hx hb dX7_of_6 (by decide) ?_
  refine lv_iload_n hx hb dX7_of_8 rfl (lv_at hl 1 rfl) ?_
  refine lv_imul hx hb dX7_of_9 ?_
  refine lv_iadd hx hb dX7_of_10 ?_
  refine lv_iload_n hx hb dX7_of_11 rfl (lv_at hl 2 rfl) ?_
  refine lv_iadd hx hb dX7_of_12 ?_
  obtain ⟨g0, hf⟩ := gd hf
  refine va_iald hx hb hK hP 1 0 rfl rfl (ig_in g0) dX7_of_13 ?_
  exact z_r hf hx hb hr hlk dX7_of_14
def f_X7_worthNow (v : tX7) : Option (Int32 × tX7) :=
  (f_X7_isOver v).bind fun x0 => (if x0 = 0 then (f_X7_tells v).bind fun x1 => (f_X7_of x1 (x1.2.1 17) (0 : Int32)).bind fun x2 => (f_X7_of x1 ((1 : Int32) - (x1.2.1 17)) (0 : Int32)).bind fun x3 => (f_X7_of x1 (x1.2.1 17) (1 : Int32)).bind fun x4 => (f_X7_of x1 ((1 : Int32) - (x1.2.1 17)) (1 : Int32)).bind fun x5 => (f_X7_of x1 (x1.2.1 17) (2 : Int32)).bind fun x6 => (f_X7_of x1 ((1 : Int32) - (x1.2.1 17)) (2 : Int32)).bind fun x7 => (f_X7_numberOf x2 x3 x4 x5 x6 x7).bind fun x8 => (if ig x8 32768 = true then some ((x1.2.2.2.2.2.2.2.2.2.2.2.1 x8.toNatClampNeg), x1) else none) else some ((-500 : Int32), v))
abbrev rm_X7_worthNow : Room := { frames := 8, cells := 0, slots := 0, locals := 197 }
set_option maxHeartbeats 4000000 in
set_option maxRecDepth 100000 in
theorem c_X7_worthNow (l : Launch) (D : va_G) (cI cR : ClassId) (ad : Nat → Nat) (v : tX7) (sz : Nat) (r : (Int32 × tX7)) (hf : f_X7_worthNow v = some r) : Met l yX7_worthNow (wM yX7_worthNow cX7_worthNow 2 (some (.int))) rm_X7_worthNow (cPre D (tysA cI cR) ([.ref (ad 0)] : List Value) (oX7 cI cR ad v) sz) (qI D (oX7 cI cR ad r.2) r.1 (va_A (oX7 cI cR ad v) sz)) 0 0 (va_A (oX7 cI cR ad v) sz) := by
  refine en_M (own := RX7) (lv := [(0, .ref (ad 0))]) (by decide +kernel) rfl (Nat.le_of_ble_eq_true rfl) rfl (fun p e s m below meth c hx hb hr hlk hml hown hnm hts hsz hP hK hD hN ls hl => ?_)
  subst hsz
  generalize hAe : va_A (oX7 cI cR ad v) s.heap.size = A at hD ⊢
  have hA : ∀ q : Nat, s.heap.size ≤ q → A q := fun q h => by rw [← hAe]; exact Or.inr h
  have hS : va_S A s.heap s.heap [] := va_S.rf
  have hP : va_P D vwCl [(ad 0, .inr (7, [.int v.1, .ref (ad 1), .ref (ad 2), .ref (ad 3), .int v.2.2.2.2.1, .ref (ad 4), .int v.2.2.2.2.2.2.1, .ref (ad 5), .int v.2.2.2.2.2.2.2.2.1, .int v.2.2.2.2.2.2.2.2.2.1, .int v.2.2.2.2.2.2.2.2.2.2.1, .ref (ad 6), .int v.2.2.2.2.2.2.2.2.2.2.2.2.1, .int v.2.2.2.2.2.2.2.2.2.2.2.2.2.1, .int v.2.2.2.2.2.2.2.2.2.2.2.2.2.2.1, .int v.2.2.2.2.2.2.2.2.2.2.2.2.2.2.2.1, .int v.2.2.2.2.2.2.2.2.2.2.2.2.2.2.2.2.1, .int v.2.2.2.2.2.2.2.2.2.2.2.2.2.2.2.2.2])), (ad 1, .inl (cI, 72, .inl v.2.1)), (ad 2, .inl (cI, 72, .inl v.2.2.1)), (ad 3, .inl (cI, 288, .inl v.2.2.2.1)), (ad 4, .inl (cI, 72, .inl v.2.2.2.2.2.1)), (ad 5, .inl (cI, 60, .inl v.2.2.2.2.2.2.2.1)), (ad 6, .inl (cI, 32768, .inl v.2.2.2.2.2.2.2.2.2.2.2.1))] s.heap := hP
  have hD : va_D A [(ad 0, .inr (7, [.int v.1, .ref (ad 1), .ref (ad 2), .ref (ad 3), .int v.2.2.2.2.1, .ref (ad 4), .int v.2.2.2.2.2.2.1, .ref (ad 5), .int v.2.2.2.2.2.2.2.2.1, .int v.2.2.2.2.2.2.2.2.2.1, .int v.2.2.2.2.2.2.2.2.2.2.1, .ref (ad 6), .int v.2.2.2.2.2.2.2.2.2.2.2.2.1, .int v.2.2.2.2.2.2.2.2.2.2.2.2.2.1, .int v.2.2.2.2.2.2.2.2.2.2.2.2.2.2.1, .int v.2.2.2.2.2.2.2.2.2.2.2.2.2.2.2.1, .int v.2.2.2.2.2.2.2.2.2.2.2.2.2.2.2.2.1, .int v.2.2.2.2.2.2.2.2.2.2.2.2.2.2.2.2.2])), (ad 1, .inl (cI, 72, .inl v.2.1)), (ad 2, .inl (cI, 72, .inl v.2.2.1)), (ad 3, .inl (cI, 288, .inl v.2.2.2.1)), (ad 4, .inl (cI, 72, .inl v.2.2.2.2.2.1)), (ad 5, .inl (cI, 60, .inl v.2.2.2.2.2.2.2.1)), (ad 6, .inl (cI, 32768, .inl v.2.2.2.2.2.2.2.2.2.2.2.1))] := hD
  unfold f_X7_worthNow at hf
  refine lv_aload_n hx hb dX7_worthNow_0 rfl (lv_at hl 0 rfl) ?_
  obtain ⟨x0, hcx0, hf⟩ := gB hf
  refine k_r (r_V (As := []) (rest := []) (n := 0) ⟨hx, hb, hml, hown, hts⟩ (c_X7_isOver l D cI cR ad v _ x0 hcx0) kM_X7_116 kN_X7_isOver kV_X7_isOver kZ_X7 kK_X7_isOver ⟨rfl, rfl⟩ ⟨(Nat.le_of_ble_eq_true rfl), (Nat.le_of_ble_eq_true rfl)⟩ pd_X7_isOver rfl hK hN hP hD [0, 1, 2, 3, 4, 5, 6] rfl rfl 0 7 rfl rfl rfl hl.1 (Nat.le_of_ble_eq_true rfl) dX7_worthNow_1 ⟨(Nat.le_of_ble_eq_true rfl), (Nat.le_of_ble_eq_true rfl)⟩) ?_
  refine lv_if_eq (tgt := 11) hx hb dX7_worthNow_4 (by decide) (fun c0 => ?_) (fun c0 => ?_)
  · replace hf := gT hf c0
    refine lv_aload_n hx hb dX7_worthNow_11 rfl (lv_at hl 0 rfl) ?_
    obtain ⟨x1, hcx1, hf⟩ := gB hf
    refine j_v (wr := []) (w_V (As := []) (rest := []) (n := 0) ⟨hx, hb, hml, hown, hts⟩ (c_X7_tells l D cI cR ad v _ x1 hcx1) kM_X7_120 kN_X7_tells kV_X7_tells kZ_X7 kK_X7_tells ⟨rfl, rfl⟩ ⟨(Nat.le_of_ble_eq_true rfl), (Nat.le_of_ble_eq_true rfl)⟩ pd_X7_tells rfl hK hN hP hD [0, 1, 2, 3, 4, 5, 6] rfl rfl 0 7 rfl rfl rfl hl.1 (Nat.le_of_ble_eq_true rfl) dX7_worthNow_12 ⟨(Nat.le_of_ble_eq_true rfl), (Nat.le_of_ble_eq_true rfl)⟩) hP hD hS hA [0, 1, 2, 3, 4, 5, 6] [] rfl rfl rfl (by decide) (fun H locs hP hD hS => ?_)
    have hP : va_P D vwCl [(ad 0, .inr (7, [.int x1.1, .ref (ad 1), .ref (ad 2), .ref (ad 3), .int x1.2.2.2.2.1, .ref (ad 4), .int x1.2.2.2.2.2.2.1, .ref (ad 5), .int x1.2.2.2.2.2.2.2.2.1, .int x1.2.2.2.2.2.2.2.2.2.1, .int x1.2.2.2.2.2.2.2.2.2.2.1, .ref (ad 6), .int x1.2.2.2.2.2.2.2.2.2.2.2.2.1, .int x1.2.2.2.2.2.2.2.2.2.2.2.2.2.1, .int x1.2.2.2.2.2.2.2.2.2.2.2.2.2.2.1, .int x1.2.2.2.2.2.2.2.2.2.2.2.2.2.2.2.1, .int x1.2.2.2.2.2.2.2.2.2.2.2.2.2.2.2.2.1, .int x1.2.2.2.2.2.2.2.2.2.2.2.2.2.2.2.2.2])), (ad 1, .inl (cI, 72, .inl x1.2.1)), (ad 2, .inl (cI, 72, .inl x1.2.2.1)), (ad 3, .inl (cI, 288, .inl x1.2.2.2.1)), (ad 4, .inl (cI, 72, .inl x1.2.2.2.2.2.1)), (ad 5, .inl (cI, 60, .inl x1.2.2.2.2.2.2.2.1)), (ad 6, .inl (cI, 32768, .inl x1.2.2.2.2.2.2.2.2.2.2.2.1))] H := hP
    have hD : va_D A [(ad 0, .inr (7, [.int x1.1, .ref (ad 1), .ref (ad 2), .ref (ad 3), .int x1.2.2.2.2.1, .ref (ad 4), .int x1.2.2.2.2.2.2.1, .ref (ad 5), .int x1.2.2.2.2.2.2.2.2.1, .int x1.2.2.2.2.2.2.2.2.2.1, .int x1.2.2.2.2.2.2.2.2.2.2.1, .ref (ad 6), .int x1.2.2.2.2.2.2.2.2.2.2.2.2.1, .int x1.2.2.2.2.2.2.2.2.2.2.2.2.2.1, .int x1.2.2.2.2.2.2.2.2.2.2.2.2.2.2.1, .int x1.2.2.2.2.2.2.2.2.2.2.2.2.2.2.2.1, .int x1.2.2.2.2.2.2.2.2.2.2.2.2.2.2.2.2.1, .int x1.2.2.2.2.2.2.2.2.2.2.2.2.2.2.2.2.2])), (ad 1, .inl (cI, 72, .inl x1.2.1)), (ad 2, .inl (cI, 72, .inl x1.2.2.1)), (ad 3, .inl (cI, 288, .inl x1.2.2.2.1)), (ad 4, .inl (cI, 72, .inl x1.2.2.2.2.2.1)), (ad 5, .inl (cI, 60, .inl x1.2.2.2.2.2.2.2.1)), (ad 6, .inl (cI, 32768, .inl x1.2.2.2.2.2.2.2.2.2.2.2.1))] := hD
    refine lv_aload_n hx hb dX7_worthNow_15 rfl (lv_at hl 0 rfl) ?_
    refine va_get (D := D) (ci := 7) (v := .ref (ad 1)) (C := RX7) (T := TX7) (N := 18) hx hb hts inA_X7 hown hK hP 0 rfl rfl 1 (by decide) (hts _ kF_X7_7) (fun _ h9 => h9) rfl dX7_worthNow_16 ?_
    refine lv_bipush (v := (17 : Int32)) hx hb dX7_worthNow_19 (by decide) ?_
    refine va_iald hx hb hK hP 1 0 rfl rfl (ig_in (by decide)) dX7_worthNow_21 ?_
    refine W.eq (g2 := F0 m 22 ls [.int (x1.2.1 17)]) rfl ?_
    refine lv_istore_n (lv' := [(1, .int (x1.2.1 17)), (0, .ref (ad 0))]) hx hb dX7_worthNow_22 rfl hl (by decide) rfl (fun ls hl => ?_)
    refine lv_aload_n hx hb dX7_worthNow_23 rfl (lv_at hl 1 rfl) ?_
    refine va_get (D := D) (ci := 7) (v := .ref (ad 6)) (C := RX7) (T := TX7) (N := 18) hx hb hts inA_X7 hown hK hP 0 rfl rfl 11 (by decide) (hts _ kF_X7_26) (fun _ h9 => h9) rfl dX7_worthNow_24 ?_
    refine lv_aload_n hx hb dX7_worthNow_27 rfl (lv_at hl 1 rfl) ?_
    refine lv_iload_n hx hb dX7_worthNow_28 rfl (lv_at hl 0 rfl) ?_
    refine lv_iconst (v := (0 : Int32)) hx hb dX7_worthNow_29 (by decide) ?_
    obtain ⟨x2, hcx2, hf⟩ := gB hf
    refine k_r (r_V (As := [.int (x1.2.1 17), .int (0 : Int32)]) (rest := [.ref (ad 6)]) (n := 2) ⟨hx, hb, hml, hown, hts⟩ (c_X7_of l D cI cR ad x1 (x1.2.1 17) (0 : Int32) _ x2 hcx2) kM_X7_123 kN_X7_of kV_X7_of kZ_X7 kK_X7_of ⟨rfl, rfl⟩ ⟨(Nat.le_of_ble_eq_true rfl), (Nat.le_of_ble_eq_true rfl)⟩ pd_X7_of rfl hK hN hP hD [0, 1, 2, 3, 4, 5, 6] rfl rfl 0 7 rfl rfl rfl hl.1 (Nat.le_of_ble_eq_true rfl) dX7_worthNow_30 ⟨(Nat.le_of_ble_eq_true rfl), (Nat.le_of_ble_eq_true rfl)⟩) ?_
    refine lv_aload_n hx hb dX7_worthNow_33 rfl (lv_at hl 1 rfl) ?_
    refine lv_iconst (v := (1 : Int32)) hx hb dX7_worthNow_34 (by decide) ?_
    refine lv_iload_n hx hb dX7_worthNow_35 rfl (lv_at hl 0 rfl) ?_
    refine lv_isub hx hb dX7_worthNow_36 ?_
    refine lv_iconst (v := (0 : Int32)) hx hb dX7_worthNow_37 (by decide) ?_
    obtain ⟨x3, hcx3, hf⟩ := gB hf
    refine k_r (r_V (As := [.int ((1 : Int32) - (x1.2.1 17)), .int (0 : Int32)]) (rest := [.int x2, .ref (ad 6)]) (n := 2) ⟨hx, hb, hml, hown, hts⟩ (c_X7_of l D cI cR ad x1 ((1 : Int32) - (x1.2.1 17)) (0 : Int32) _ x3 hcx3) kM_X7_123 kN_X7_of kV_X7_of kZ_X7 kK_X7_of ⟨rfl, rfl⟩ ⟨(Nat.le_of_ble_eq_true rfl), (Nat.le_of_ble_eq_true rfl)⟩ pd_X7_of rfl hK hN hP hD [0, 1, 2, 3, 4, 5, 6] rfl rfl 0 7 rfl rfl rfl hl.1 (Nat.le_of_ble_eq_true rfl) dX7_worthNow_38 ⟨(Nat.le_of_ble_eq_true rfl), (Nat.le_of_ble_eq_true rfl)⟩) ?_
    refine lv_aload_n hx hb dX7_worthNow_41 rfl (lv_at hl 1 rfl) ?_
    refine lv_iload_n hx hb dX7_worthNow_42 rfl (lv_at hl 0 rfl) ?_
    refine lv_iconst (v := (1 : Int32)) hx hb dX7_worthNow_43 (by decide) ?_
    obtain ⟨x4, hcx4, hf⟩ := gB hf
    refine k_r (r_V (As := [.int (x1.2.1 17), .int (1 : Int32)]) (rest := [.int x3, .int x2, .ref (ad 6)]) (n := 2) ⟨hx, hb, hml, hown, hts⟩ (c_X7_of l D cI cR ad x1 (x1.2.1 17) (1 : Int32) _ x4 hcx4) kM_X7_123 kN_X7_of kV_X7_of kZ_X7 kK_X7_of ⟨rfl, rfl⟩ ⟨(Nat.le_of_ble_eq_true rfl), (Nat.le_of_ble_eq_true rfl)⟩ pd_X7_of rfl hK hN hP hD [0, 1, 2, 3, 4, 5, 6] rfl rfl 0 7 rfl rfl rfl hl.1 (Nat.le_of_ble_eq_true rfl) dX7_worthNow_44 ⟨(Nat.le_of_ble_eq_true rfl), (Nat.le_of_ble_eq_true rfl)⟩) ?_
    refine lv_aload_n hx hb dX7_worthNow_47 rfl (lv_at hl 1 rfl) ?_
    refine lv_iconst (v := (1 : Int32)) hx hb dX7_worthNow_48 (by decide) ?_
    refine lv_iload_n hx hb dX7_worthNow_49 rfl (lv_at hl 0 rfl) ?_
    refine lv_isub hx hb dX7_worthNow_50 ?_
    refine lv_iconst (v := (1 : Int32)) hx hb dX7_worthNow_51 (by decide) ?_
    obtain ⟨x5, hcx5, hf⟩ := gB hf
    refine k_r (r_V (As := [.int ((1 : Int32) - (x1.2.1 17)), .int (1 : Int32)]) (rest := [.int x4, .int x3, .int x2, .ref (ad 6)]) (n := 2) ⟨hx, hb, hml, hown, hts⟩ (c_X7_of l D cI cR ad x1 ((1 : Int32) - (x1.2.1 17)) (1 : Int32) _ x5 hcx5) kM_X7_123 kN_X7_of kV_X7_of kZ_X7 kK_X7_of ⟨rfl, rfl⟩ ⟨(Nat.le_of_ble_eq_true rfl), (Nat.le_of_ble_eq_true rfl)⟩ pd_X7_of rfl hK hN hP hD [0, 1, 2, 3, 4, 5, 6] rfl rfl 0 7 rfl rfl rfl hl.1 (Nat.le_of_ble_eq_true rfl) dX7_worthNow_52 ⟨(Nat.le_of_ble_eq_true rfl), (Nat.le_of_ble_eq_true rfl)⟩) ?_
    refine lv_aload_n hx hb dX7_worthNow_55 rfl (lv_at hl 1 rfl) ?_
    refine lv_iload_n hx hb dX7_worthNow_56 rfl (lv_at hl 0 rfl) ?_
    refine lv_iconst (v := (2 : Int32)) hx hb dX7_worthNow_57 (by decide) ?_
    obtain ⟨x6, hcx6, hf⟩ := gB hf
    refine k_r (r_V (As := [.int (x1.2.1 17), .int (2 : Int32)]) (rest := [.int x5, .int x4, .int x3, .int x2, .ref (ad 6)]) (n := 2) ⟨hx, hb, hml, hown, hts⟩ (c_X7_of l D cI cR ad x1 (x1.2.1 17) (2 : Int32) _ x6 hcx6) kM_X7_123 kN_X7_of kV_X7_of kZ_X7 kK_X7_of ⟨rfl, rfl⟩ ⟨(Nat.le_of_ble_eq_true rfl), (Nat.le_of_ble_eq_true rfl)⟩ pd_X7_of rfl hK hN hP hD [0, 1, 2, 3, 4, 5, 6] rfl rfl 0 7 rfl rfl rfl hl.1 (Nat.le_of_ble_eq_true rfl) dX7_worthNow_58 ⟨(Nat.le_of_ble_eq_true rfl), (Nat.le_of_ble_eq_true rfl)⟩) ?_
    refine lv_aload_n hx hb dX7_worthNow_61 rfl (lv_at hl 1 rfl) ?_
    refine lv_iconst (v := (1 : Int32)) hx hb dX7_worthNow_62 (by decide) ?_
    refine lv_iload_n hx hb dX7_worthNow_63 rfl (lv_at hl 0 rfl) ?_
    refine lv_isub hx hb dX7_worthNow_64 ?_
    refine lv_iconst (v := (2 : Int32)) hx hb dX7_worthNow_65 (by decide) ?_
    obtain ⟨x7, hcx7, hf⟩ := gB hf
    refine k_r (r_V (As := [.int ((1 : Int32) - (x1.2.1 17)), .int (2 : Int32)]) (rest := [.int x6, .int x5, .int x4, .int x3, .int x2, .ref (ad 6)]) (n := 2) ⟨hx, hb, hml, hown, hts⟩ (c_X7_of l D cI cR ad x1 ((1 : Int32) - (x1.2.1 17)) (2 : Int32) _ x7 hcx7) kM_X7_123 kN_X7_of kV_X7_of kZ_X7 kK_X7_of ⟨rfl, rfl⟩ ⟨(Nat.le_of_ble_eq_true rfl), (Nat.le_of_ble_eq_true rfl)⟩ pd_X7_of rfl hK hN hP hD [0, 1, 2, 3, 4, 5, 6] rfl rfl 0 7 rfl rfl rfl hl.1 (Nat.le_of_ble_eq_true rfl) dX7_worthNow_66 ⟨(Nat.le_of_ble_eq_true rfl), (Nat.le_of_ble_eq_true rfl)⟩) ?_
    obtain ⟨x8, hcx8, hf⟩ := gB hf
    refine k_r (r_S (As := [.int x2, .int x3, .int x4, .int x5, .int x6, .int x7]) (rest := [.ref (ad 6)]) (n := 6) ⟨hx, hb, hml, hown, hts⟩ (c_X7_numberOf l D cI cR x2 x3 x4 x5 x6 x7 _ x8 hcx8) kM_X7_92 kS_X7_numberOf kZ_X7 kK_X7_numberOf ⟨rfl, rfl⟩ ⟨(Nat.le_of_ble_eq_true rfl), (Nat.le_of_ble_eq_true rfl)⟩ pd_X7_numberOf rfl hK hN hP hD [] rfl rfl rfl hl.1 (Nat.le_of_ble_eq_true rfl) dX7_worthNow_69 ⟨(Nat.le_of_ble_eq_true rfl), (Nat.le_of_ble_eq_true rfl)⟩) ?_
    obtain ⟨g0, hf⟩ := gd hf
    refine va_iald hx hb hK hP 6 0 rfl rfl (ig_in g0) dX7_worthNow_72 ?_
    exact z_i hf (fun r => r.1) (fun r => oX7 cI cR ad r.2) hx hb hr hlk hS hP hD dX7_worthNow_73
  · replace hf := gF hf c0
    refine lv_sipush (v := (-500 : Int32)) hx hb dX7_worthNow_7 (by decide) ?_
    exact z_i hf (fun r => r.1) (fun r => oX7 cI cR ad r.2) hx hb hr hlk hS hP hD dX7_worthNow_10
def f_X7_worthOfTurn (v : tX7) (p1 : Int32) : Option (Int32 × tX7) :=
  (f_X7_tells v).bind fun x0 => (f_X7_of x0 (x0.2.1 17) (0 : Int32)).bind fun x1 => (f_X7_of x0 ((1 : Int32) - (x0.2.1 17)) (0 : Int32)).bind fun x2 => (if p1 = (5 : Int32) then (f_X7_of x0 ((1 : Int32) - (x0.2.1 17)) (1 : Int32)).bind fun x7 => (f_X7_of x0 ((1 : Int32) - (x0.2.1 17)) (2 : Int32)).bind fun x8 => (f_X7_worthBehindToken x0 x1 x2 x7 x8).bind fun x9 => some (x9, x0) else (f_X7_of x0 (x0.2.1 17) (1 : Int32)).bind fun x3 => (f_X7_of x0 ((1 : Int32) - (x0.2.1 17)) (1 : Int32)).bind fun x4 => (f_X7_of x0 ((1 : Int32) - (x0.2.1 17)) (2 : Int32)).bind fun x5 => (f_X7_worthBehindDrive x0 x1 x2 x3 x4 x5 p1).bind fun x6 => some (x6.1, x6.2))
abbrev rm_X7_worthOfTurn : Room := { frames := 8, cells := 0, slots := 0, locals := 197 }
set_option maxHeartbeats 4000000 in
set_option maxRecDepth 100000 in
theorem c_X7_worthOfTurn (l : Launch) (D : va_G) (cI cR : ClassId) (ad : Nat → Nat) (v : tX7) (p1 : Int32) (sz : Nat) (r : (Int32 × tX7)) (hf : f_X7_worthOfTurn v p1 = some r) : Met l yX7_worthOfTurn (wM yX7_worthOfTurn cX7_worthOfTurn 5 (some (.int))) rm_X7_worthOfTurn (cPre D (tysA cI cR) ([.ref (ad 0), .int p1] : List Value) (oX7 cI cR ad v) sz) (qI D (oX7 cI cR ad r.2) r.1 (va_A (oX7 cI cR ad v) sz)) 0 0 (va_A (oX7 cI cR ad v) sz) := by
  refine en_M (own := RX7) (lv := [(0, .ref (ad 0)), (1, .int p1)]) (by decide +kernel) rfl (Nat.le_of_ble_eq_true rfl) rfl (fun p e s m below meth c hx hb hr hlk hml hown hnm hts hsz hP hK hD hN ls hl => ?_)
  subst hsz
  generalize hAe : va_A (oX7 cI cR ad v) s.heap.size = A at hD ⊢
  have hA : ∀ q : Nat, s.heap.size ≤ q → A q := fun q h => by rw [← hAe]; exact Or.inr h
  have hS : va_S A s.heap s.heap [] := va_S.rf
  have hP : va_P D vwCl [(ad 0, .inr (7, [.int v.1, .ref (ad 1), .ref (ad 2), .ref (ad 3), .int v.2.2.2.2.1, .ref (ad 4), .int v.2.2.2.2.2.2.1, .ref (ad 5), .int v.2.2.2.2.2.2.2.2.1, .int v.2.2.2.2.2.2.2.2.2.1, .int v.2.2.2.2.2.2.2.2.2.2.1, .ref (ad 6), .int v.2.2.2.2.2.2.2.2.2.2.2.2.1, .int v.2.2.2.2.2.2.2.2.2.2.2.2.2.1, .int v.2.2.2.2.2.2.2.2.2.2.2.2.2.2.1, .int v.2.2.2.2.2.2.2.2.2.2.2.2.2.2.2.1, .int v.2.2.2.2.2.2.2.2.2.2.2.2.2.2.2.2.1, .int v.2.2.2.2.2.2.2.2.2.2.2.2.2.2.2.2.2])), (ad 1, .inl (cI, 72, .inl v.2.1)), (ad 2, .inl (cI, 72, .inl v.2.2.1)), (ad 3, .inl (cI, 288, .inl v.2.2.2.1)), (ad 4, .inl (cI, 72, .inl v.2.2.2.2.2.1)), (ad 5, .inl (cI, 60, .inl v.2.2.2.2.2.2.2.1)), (ad 6, .inl (cI, 32768, .inl v.2.2.2.2.2.2.2.2.2.2.2.1))] s.heap := hP
  have hD : va_D A [(ad 0, .inr (7, [.int v.1, .ref (ad 1), .ref (ad 2), .ref (ad 3), .int v.2.2.2.2.1, .ref (ad 4), .int v.2.2.2.2.2.2.1, .ref (ad 5), .int v.2.2.2.2.2.2.2.2.1, .int v.2.2.2.2.2.2.2.2.2.1, .int v.2.2.2.2.2.2.2.2.2.2.1, .ref (ad 6), .int v.2.2.2.2.2.2.2.2.2.2.2.2.1, .int v.2.2.2.2.2.2.2.2.2.2.2.2.2.1, .int v.2.2.2.2.2.2.2.2.2.2.2.2.2.2.1, .int v.2.2.2.2.2.2.2.2.2.2.2.2.2.2.2.1, .int v.2.2.2.2.2.2.2.2.2.2.2.2.2.2.2.2.1, .int v.2.2.2.2.2.2.2.2.2.2.2.2.2.2.2.2.2])), (ad 1, .inl (cI, 72, .inl v.2.1)), (ad 2, .inl (cI, 72, .inl v.2.2.1)), (ad 3, .inl (cI, 288, .inl v.2.2.2.1)), (ad 4, .inl (cI, 72, .inl v.2.2.2.2.2.1)), (ad 5, .inl (cI, 60, .inl v.2.2.2.2.2.2.2.1)), (ad 6, .inl (cI, 32768, .inl v.2.2.2.2.2.2.2.2.2.2.2.1))] := hD
  unfold f_X7_worthOfTurn at hf
  refine lv_aload_n hx hb dX7_worthOfTurn_0 rfl (lv_at hl 0 rfl) ?_
  obtain ⟨x0, hcx0, hf⟩ := gB hf
  refine j_v (wr := []) (w_V (As := []) (rest := []) (n := 0) ⟨hx, hb, hml, hown, hts⟩ (c_X7_tells l D cI cR ad v _ x0 hcx0) kM_X7_120 kN_X7_tells kV_X7_tells kZ_X7 kK_X7_tells ⟨rfl, rfl⟩ ⟨(Nat.le_of_ble_eq_true rfl), (Nat.le_of_ble_eq_true rfl)⟩ pd_X7_tells rfl hK hN hP hD [0, 1, 2, 3, 4, 5, 6] rfl rfl 0 7 rfl rfl rfl hl.1 (Nat.le_of_ble_eq_true rfl) dX7_worthOfTurn_1 ⟨(Nat.le_of_ble_eq_true rfl), (Nat.le_of_ble_eq_true rfl)⟩) hP hD hS hA [0, 1, 2, 3, 4, 5, 6] [] rfl rfl rfl (by decide) (fun H locs hP hD hS => ?_)
  have hP : va_P D vwCl [(ad 0, .inr (7, [.int x0.1, .ref (ad 1), .ref (ad 2), .ref (ad 3), .int x0.2.2.2.2.1, .ref (ad 4), .int x0.2.2.2.2.2.2.1, .ref (ad 5), .int x0.2.2.2.2.2.2.2.2.1, .int x0.2.2.2.2.2.2.2.2.2.1, .int x0.2.2.2.2.2.2.2.2.2.2.1, .ref (ad 6), .int x0.2.2.2.2.2.2.2.2.2.2.2.2.1, .int x0.2.2.2.2.2.2.2.2.2.2.2.2.2.1, .int x0.2.2.2.2.2.2.2.2.2.2.2.2.2.2.1, .int x0.2.2.2.2.2.2.2.2.2.2.2.2.2.2.2.1, .int x0.2.2.2.2.2.2.2.2.2.2.2.2.2.2.2.2.1, .int x0.2.2.2.2.2.2.2.2.2.2.2.2.2.2.2.2.2])), (ad 1, .inl (cI, 72, .inl x0.2.1)), (ad 2, .inl (cI, 72, .inl x0.2.2.1)), (ad 3, .inl (cI, 288, .inl x0.2.2.2.1)), (ad 4, .inl (cI, 72, .inl x0.2.2.2.2.2.1)), (ad 5, .inl (cI, 60, .inl x0.2.2.2.2.2.2.2.1)), (ad 6, .inl (cI, 32768, .inl x0.2.2.2.2.2.2.2.2.2.2.2.1))] H := hP
  have hD : va_D A [(ad 0, .inr (7, [.int x0.1, .ref (ad 1), .ref (ad 2), .ref (ad 3), .int x0.2.2.2.2.1, .ref (ad 4), .int x0.2.2.2.2.2.2.1, .ref (ad 5), .int x0.2.2.2.2.2.2.2.2.1, .int x0.2.2.2.2.2.2.2.2.2.1, .int x0.2.2.2.2.2.2.2.2.2.2.1, .ref (ad 6), .int x0.2.2.2.2.2.2.2.2.2.2.2.2.1, .int x0.2.2.2.2.2.2.2.2.2.2.2.2.2.1, .int x0.2.2.2.2.2.2.2.2.2.2.2.2.2.2.1, .int x0.2.2.2.2.2.2.2.2.2.2.2.2.2.2.2.1, .int x0.2.2.2.2.2.2.2.2.2.2.2.2.2.2.2.2.1, .int x0.2.2.2.2.2.2.2.2.2.2.2.2.2.2.2.2.2])), (ad 1, .inl (cI, 72, .inl x0.2.1)), (ad 2, .inl (cI, 72, .inl x0.2.2.1)), (ad 3, .inl (cI, 288, .inl x0.2.2.2.1)), (ad 4, .inl (cI, 72, .inl x0.2.2.2.2.2.1)), (ad 5, .inl (cI, 60, .inl x0.2.2.2.2.2.2.2.1)), (ad 6, .inl (cI, 32768, .inl x0.2.2.2.2.2.2.2.2.2.2.2.1))] := hD
  refine lv_aload_n hx hb dX7_worthOfTurn_4 rfl (lv_at hl 0 rfl) ?_
  refine va_get (D := D) (ci := 7) (v := .ref (ad 1)) (C := RX7) (T := TX7) (N := 18) hx hb hts inA_X7 hown hK hP 0 rfl rfl 1 (by decide) (hts _ kF_X7_7) (fun _ h9 => h9) rfl dX7_worthOfTurn_5 ?_
  refine lv_bipush (v := (17 : Int32)) hx hb dX7_worthOfTurn_8 (by decide) ?_
  refine va_iald hx hb hK hP 1 0 rfl rfl (ig_in (by decide)) dX7_worthOfTurn_10 ?_
  refine W.eq (g2 := F0 m 11 ls [.int (x0.2.1 17)]) rfl ?_
  refine lv_istore_n (lv' := [(2, .int (x0.2.1 17)), (0, .ref (ad 0)), (1, .int p1)]) hx hb dX7_worthOfTurn_11 rfl hl (by decide) rfl (fun ls hl => ?_)
  refine lv_aload_n hx hb dX7_worthOfTurn_12 rfl (lv_at hl 1 rfl) ?_
  refine lv_iload_n hx hb dX7_worthOfTurn_13 rfl (lv_at hl 0 rfl) ?_
  refine lv_iconst (v := (0 : Int32)) hx hb dX7_worthOfTurn_14 (by decide) ?_
  obtain ⟨x1, hcx1, hf⟩ := gB hf
  refine k_r (r_V (As := [.int (x0.2.1 17), .int (0 : Int32)]) (rest := []) (n := 2) ⟨hx, hb, hml, hown, hts⟩ (c_X7_of l D cI cR ad x0 (x0.2.1 17) (0 : Int32) _ x1 hcx1) kM_X7_123 kN_X7_of kV_X7_of kZ_X7 kK_X7_of ⟨rfl, rfl⟩ ⟨(Nat.le_of_ble_eq_true rfl), (Nat.le_of_ble_eq_true rfl)⟩ pd_X7_of rfl hK hN hP hD [0, 1, 2, 3, 4, 5, 6] rfl rfl 0 7 rfl rfl rfl hl.1 (Nat.le_of_ble_eq_true rfl) dX7_worthOfTurn_15 ⟨(Nat.le_of_ble_eq_true rfl), (Nat.le_of_ble_eq_true rfl)⟩) ?_
  refine lv_istore_n (lv' := [(3, .int x1), (2, .int (x0.2.1 17)), (0, .ref (ad 0)), (1, .int p1)]) hx hb dX7_worthOfTurn_18 rfl hl (by decide) rfl (fun ls hl => ?_)
  refine lv_aload_n hx hb dX7_worthOfTurn_19 rfl (lv_at hl 2 rfl) ?_
  refine lv_iconst (v := (1 : Int32)) hx hb dX7_worthOfTurn_20 (by decide) ?_
  refine lv_iload_n hx hb dX7_worthOfTurn_21 rfl (lv_at hl 1 rfl) ?_
  refine lv_isub hx hb dX7_worthOfTurn_22 ?_
  refine lv_iconst (v := (0 : Int32)) hx hb dX7_worthOfTurn_23 (by decide) ?_
  obtain ⟨x2, hcx2, hf⟩ := gB hf
  refine k_r (r_V (As := [.int ((1 : Int32) - (x0.2.1 17)), .int (0 : Int32)]) (rest := []) (n := 2) ⟨hx, hb, hml, hown, hts⟩ (c_X7_of l D cI cR ad x0 ((1 : Int32) - (x0.2.1 17)) (0 : Int32) _ x2 hcx2) kM_X7_123 kN_X7_of kV_X7_of kZ_X7 kK_X7_of ⟨rfl, rfl⟩ ⟨(Nat.le_of_ble_eq_true rfl), (Nat.le_of_ble_eq_true rfl)⟩ pd_X7_of rfl hK hN hP hD [0, 1, 2, 3, 4, 5, 6] rfl rfl 0 7 rfl rfl rfl hl.1 (Nat.le_of_ble_eq_true rfl) dX7_worthOfTurn_24 ⟨(Nat.le_of_ble_eq_true rfl), (Nat.le_of_ble_eq_true rfl)⟩) ?_
  refine lv_istore (lv' := [(4, .int x2), (3, .int x1), (2, .int (x0.2.1 17)), (0, .ref (ad 0)), (1, .int p1)]) hx hb dX7_worthOfTurn_27 hl (by decide) rfl (fun ls hl => ?_)
  refine lv_iload_n hx hb dX7_worthOfTurn_29 rfl (lv_at hl 4 rfl) ?_
  refine lv_iconst (v := (5 : Int32)) hx hb dX7_worthOfTurn_30 (by decide) ?_
  refine lv_icmp_ne (tgt := 58) hx hb dX7_worthOfTurn_31 (by decide) (fun c0 => ?_) (fun c0 => ?_)
  · replace hf := gF hf c0
    refine lv_aload_n hx hb dX7_worthOfTurn_58 rfl (lv_at hl 3 rfl) ?_
    refine lv_iload_n hx hb dX7_worthOfTurn_59 rfl (lv_at hl 1 rfl) ?_
    refine lv_iload hx hb dX7_worthOfTurn_60 (lv_at hl 0 rfl) ?_
    refine lv_aload_n hx hb dX7_worthOfTurn_62 rfl (lv_at hl 3 rfl) ?_
    refine lv_iload_n hx hb dX7_worthOfTurn_63 rfl (lv_at hl 2 rfl) ?_
    refine lv_iconst (v := (1 : Int32)) hx hb dX7_worthOfTurn_64 (by decide) ?_
    obtain ⟨x3, hcx3, hf⟩ := gB hf
    refine k_r (r_V (As := [.int (x0.2.1 17), .int (1 : Int32)]) (rest := [.int x2, .int x1, .ref (ad 0)]) (n := 2) ⟨hx, hb, hml, hown, hts⟩ (c_X7_of l D cI cR ad x0 (x0.2.1 17) (1 : Int32) _ x3 hcx3) kM_X7_123 kN_X7_of kV_X7_of kZ_X7 kK_X7_of ⟨rfl, rfl⟩ ⟨(Nat.le_of_ble_eq_true rfl), (Nat.le_of_ble_eq_true rfl)⟩ pd_X7_of rfl hK hN hP hD [0, 1, 2, 3, 4, 5, 6] rfl rfl 0 7 rfl rfl rfl hl.1 (Nat.le_of_ble_eq_true rfl) dX7_worthOfTurn_65 ⟨(Nat.le_of_ble_eq_true rfl), (Nat.le_of_ble_eq_true rfl)⟩) ?_
    refine lv_aload_n hx hb dX7_worthOfTurn_68 rfl (lv_at hl 3 rfl) ?_
    refine lv_iconst (v := (1 : Int32)) hx hb dX7_worthOfTurn_69 (by decide) ?_
    refine lv_iload_n hx hb dX7_worthOfTurn_70 rfl (lv_at hl 2 rfl) ?_
    refine lv_isub hx hb dX7_worthOfTurn_71 ?_
    refine lv_iconst (v := (1 : Int32)) hx hb dX7_worthOfTurn_72 (by decide) ?_
    obtain ⟨x4, hcx4, hf⟩ := gB hf
    refine k_r (r_V (As := [.int ((1 : Int32) - (x0.2.1 17)), .int (1 : Int32)]) (rest := [.int x3, .int x2, .int x1, .ref (ad 0)]) (n := 2) ⟨hx, hb, hml, hown, hts⟩ (c_X7_of l D cI cR ad x0 ((1 : Int32) - (x0.2.1 17)) (1 : Int32) _ x4 hcx4) kM_X7_123 kN_X7_of kV_X7_of kZ_X7 kK_X7_of ⟨rfl, rfl⟩ ⟨(Nat.le_of_ble_eq_true rfl), (Nat.le_of_ble_eq_true rfl)⟩ pd_X7_of rfl hK hN hP hD [0, 1, 2, 3, 4, 5, 6] rfl rfl 0 7 rfl rfl rfl hl.1 (Nat.le_of_ble_eq_true rfl) dX7_worthOfTurn_73 ⟨(Nat.le_of_ble_eq_true rfl), (Nat.le_of_ble_eq_true rfl)⟩) ?_
    refine lv_aload_n hx hb dX7_worthOfTurn_76 rfl (lv_at hl 3 rfl) ?_
    refine lv_iconst (v := (1 : Int32)) hx hb dX7_worthOfTurn_77 (by decide) ?_
    refine lv_iload_n hx hb dX7_worthOfTurn_78 rfl (lv_at hl 2 rfl) ?_
    refine lv_isub hx hb dX7_worthOfTurn_79 ?_
    refine lv_iconst (v := (2 : Int32)) hx hb dX7_worthOfTurn_80 (by decide) ?_
    obtain ⟨x5, hcx5, hf⟩ := gB hf
    refine k_r (r_V (As := [.int ((1 : Int32) - (x0.2.1 17)), .int (2 : Int32)]) (rest := [.int x4, .int x3, .int x2, .int x1, .ref (ad 0)]) (n := 2) ⟨hx, hb, hml, hown, hts⟩ (c_X7_of l D cI cR ad x0 ((1 : Int32) - (x0.2.1 17)) (2 : Int32) _ x5 hcx5) kM_X7_123 kN_X7_of kV_X7_of kZ_X7 kK_X7_of ⟨rfl, rfl⟩ ⟨(Nat.le_of_ble_eq_true rfl), (Nat.le_of_ble_eq_true rfl)⟩ pd_X7_of rfl hK hN hP hD [0, 1, 2, 3, 4, 5, 6] rfl rfl 0 7 rfl rfl rfl hl.1 (Nat.le_of_ble_eq_true rfl) dX7_worthOfTurn_81 ⟨(Nat.le_of_ble_eq_true rfl), (Nat.le_of_ble_eq_true rfl)⟩) ?_
    refine lv_iload_n hx hb dX7_worthOfTurn_84 rfl (lv_at hl 4 rfl) ?_
    obtain ⟨x6, hcx6, hf⟩ := gB hf
    refine j_i (wr := []) (w_V (As := [.int x1, .int x2, .int x3, .int x4, .int x5, .int p1]) (rest := []) (n := 6) ⟨hx, hb, hml, hown, hts⟩ (c_X7_worthBehindDrive l D cI cR ad x0 x1 x2 x3 x4 x5 p1 _ x6 hcx6) kM_X7_96 kN_X7_worthBehindDrive kV_X7_worthBehindDrive kZ_X7 kK_X7_worthBehindDrive ⟨rfl, rfl⟩ ⟨(Nat.le_of_ble_eq_true rfl), (Nat.le_of_ble_eq_true rfl)⟩ pd_X7_worthBehindDrive rfl hK hN hP hD [0, 1, 2, 3, 4, 5, 6] rfl rfl 0 7 rfl rfl rfl hl.1 (Nat.le_of_ble_eq_true rfl) dX7_worthOfTurn_85 ⟨(Nat.le_of_ble_eq_true rfl), (Nat.le_of_ble_eq_true rfl)⟩) hP hD hS hA [0, 1, 2, 3, 4, 5, 6] [] rfl rfl rfl (by decide) (fun H locs hP hD hS => ?_)
    have hP : va_P D vwCl [(ad 0, .inr (7, [.int x6.2.1, .ref (ad 1), .ref (ad 2), .ref (ad 3), .int x6.2.2.2.2.2.1, .ref (ad 4), .int x6.2.2.2.2.2.2.2.1, .ref (ad 5), .int x6.2.2.2.2.2.2.2.2.2.1, .int x6.2.2.2.2.2.2.2.2.2.2.1, .int x6.2.2.2.2.2.2.2.2.2.2.2.1, .ref (ad 6), .int x6.2.2.2.2.2.2.2.2.2.2.2.2.2.1, .int x6.2.2.2.2.2.2.2.2.2.2.2.2.2.2.1, .int x6.2.2.2.2.2.2.2.2.2.2.2.2.2.2.2.1, .int x6.2.2.2.2.2.2.2.2.2.2.2.2.2.2.2.2.1, .int x6.2.2.2.2.2.2.2.2.2.2.2.2.2.2.2.2.2.1, .int x6.2.2.2.2.2.2.2.2.2.2.2.2.2.2.2.2.2.2])), (ad 1, .inl (cI, 72, .inl x6.2.2.1)), (ad 2, .inl (cI, 72, .inl x6.2.2.2.1)), (ad 3, .inl (cI, 288, .inl x6.2.2.2.2.1)), (ad 4, .inl (cI, 72, .inl x6.2.2.2.2.2.2.1)), (ad 5, .inl (cI, 60, .inl x6.2.2.2.2.2.2.2.2.1)), (ad 6, .inl (cI, 32768, .inl x6.2.2.2.2.2.2.2.2.2.2.2.2.1))] H := hP
    have hD : va_D A [(ad 0, .inr (7, [.int x6.2.1, .ref (ad 1), .ref (ad 2), .ref (ad 3), .int x6.2.2.2.2.2.1, .ref (ad 4), .int x6.2.2.2.2.2.2.2.1, .ref (ad 5), .int x6.2.2.2.2.2.2.2.2.2.1, .int x6.2.2.2.2.2.2.2.2.2.2.1, .int x6.2.2.2.2.2.2.2.2.2.2.2.1, .ref (ad 6), .int x6.2.2.2.2.2.2.2.2.2.2.2.2.2.1, .int x6.2.2.2.2.2.2.2.2.2.2.2.2.2.2.1, .int x6.2.2.2.2.2.2.2.2.2.2.2.2.2.2.2.1, .int x6.2.2.2.2.2.2.2.2.2.2.2.2.2.2.2.2.1, .int x6.2.2.2.2.2.2.2.2.2.2.2.2.2.2.2.2.2.1, .int x6.2.2.2.2.2.2.2.2.2.2.2.2.2.2.2.2.2.2])), (ad 1, .inl (cI, 72, .inl x6.2.2.1)), (ad 2, .inl (cI, 72, .inl x6.2.2.2.1)), (ad 3, .inl (cI, 288, .inl x6.2.2.2.2.1)), (ad 4, .inl (cI, 72, .inl x6.2.2.2.2.2.2.1)), (ad 5, .inl (cI, 60, .inl x6.2.2.2.2.2.2.2.2.1)), (ad 6, .inl (cI, 32768, .inl x6.2.2.2.2.2.2.2.2.2.2.2.2.1))] := hD
    exact z_i hf (fun r => r.1) (fun r => oX7 cI cR ad r.2) hx hb hr hlk hS hP hD dX7_worthOfTurn_88
  · replace hf := gT hf c0
    refine lv_aload_n hx hb dX7_worthOfTurn_34 rfl (lv_at hl 3 rfl) ?_
    refine lv_iload_n hx hb dX7_worthOfTurn_35 rfl (lv_at hl 1 rfl) ?_
    refine lv_iload hx hb dX7_worthOfTurn_36 (lv_at hl 0 rfl) ?_
    refine lv_aload_n hx hb dX7_worthOfTurn_38 rfl (lv_at hl 3 rfl) ?_
    refine lv_iconst (v := (1 : Int32)) hx hb dX7_worthOfTurn_39 (by decide) ?_
    refine lv_iload_n hx hb dX7_worthOfTurn_40 rfl (lv_at hl 2 rfl) ?_
    refine lv_isub hx hb dX7_worthOfTurn_41 ?_
    refine lv_iconst (v := (1 : Int32)) hx hb dX7_worthOfTurn_42 (by decide) ?_
    obtain ⟨x7, hcx7, hf⟩ := gB hf
    refine k_r (r_V (As := [.int ((1 : Int32) - (x0.2.1 17)), .int (1 : Int32)]) (rest := [.int x2, .int x1, .ref (ad 0)]) (n := 2) ⟨hx, hb, hml, hown, hts⟩ (c_X7_of l D cI cR ad x0 ((1 : Int32) - (x0.2.1 17)) (1 : Int32) _ x7 hcx7) kM_X7_123 kN_X7_of kV_X7_of kZ_X7 kK_X7_of ⟨rfl, rfl⟩ ⟨(Nat.le_of_ble_eq_true rfl), (Nat.le_of_ble_eq_true rfl)⟩ pd_X7_of rfl hK hN hP hD [0, 1, 2, 3, 4, 5, 6] rfl rfl 0 7 rfl rfl rfl hl.1 (Nat.le_of_ble_eq_true rfl) dX7_worthOfTurn_43 ⟨(Nat.le_of_ble_eq_true rfl), (Nat.le_of_ble_eq_true rfl)⟩) ?_
    refine lv_aload_n hx hb dX7_worthOfTurn_46 rfl (lv_at hl 3 rfl) ?_
    refine lv_iconst (v := (1 : Int32)) hx hb dX7_worthOfTurn_47 (by decide) ?_
    refine lv_iload_n hx hb dX7_worthOfTurn_48 rfl (lv_at hl 2 rfl) ?_
    refine lv_isub hx hb dX7_worthOfTurn_49 ?_
    refine lv_iconst (v := (2 : Int32)) hx hb dX7_worthOfTurn_50 (by decide) ?_
    obtain ⟨x8, hcx8, hf⟩ := gB hf
    refine k_r (r_V (As := [.int ((1 : Int32) - (x0.2.1 17)), .int (2 : Int32)]) (rest := [.int x7, .int x2, .int x1, .ref (ad 0)]) (n := 2) ⟨hx, hb, hml, hown, hts⟩ (c_X7_of l D cI cR ad x0 ((1 : Int32) - (x0.2.1 17)) (2 : Int32) _ x8 hcx8) kM_X7_123 kN_X7_of kV_X7_of kZ_X7 kK_X7_of ⟨rfl, rfl⟩ ⟨(Nat.le_of_ble_eq_true rfl), (Nat.le_of_ble_eq_true rfl)⟩ pd_X7_of rfl hK hN hP hD [0, 1, 2, 3, 4, 5, 6] rfl rfl 0 7 rfl rfl rfl hl.1 (Nat.le_of_ble_eq_true rfl) dX7_worthOfTurn_51 ⟨(Nat.le_of_ble_eq_true rfl), (Nat.le_of_ble_eq_true rfl)⟩) ?_
    obtain ⟨x9, hcx9, hf⟩ := gB hf
    refine k_r (r_V (As := [.int x1, .int x2, .int x7, .int x8]) (rest := []) (n := 4) ⟨hx, hb, hml, hown, hts⟩ (c_X7_worthBehindToken l D cI cR ad x0 x1 x2 x7 x8 _ x9 hcx9) kM_X7_99 kN_X7_worthBehindToken kV_X7_worthBehindToken kZ_X7 kK_X7_worthBehindToken ⟨rfl, rfl⟩ ⟨(Nat.le_of_ble_eq_true rfl), (Nat.le_of_ble_eq_true rfl)⟩ pd_X7_worthBehindToken rfl hK hN hP hD [0, 1, 2, 3, 4, 5, 6] rfl rfl 0 7 rfl rfl rfl hl.1 (Nat.le_of_ble_eq_true rfl) dX7_worthOfTurn_54 ⟨(Nat.le_of_ble_eq_true rfl), (Nat.le_of_ble_eq_true rfl)⟩) ?_
    exact z_i hf (fun r => r.1) (fun r => oX7 cI cR ad r.2) hx hb hr hlk hS hP hD dX7_worthOfTurn_57
def f_X7_bestNow_J132 (kL30 : Int32 → Int32 → Int32 → Int32 → tX7 → Option (Int32 × tX7)) (l1 : Int32) (l2 : Int32) (l4 : Int32) (k0 : Int32) (v : tX7) : Option (Int32 × tX7) :=
  kL30 l1 l2 k0 (l4 + (1 : Int32)) v
def f_X7_bestNow_J131 (kL30 : Int32 → Int32 → Int32 → Int32 → tX7 → Option (Int32 × tX7)) (l1 : Int32) (l2 : Int32) (l3 : Int32) (l4 : Int32) (v : tX7) : Option (Int32 × tX7) :=
  f_X7_bestNow_J132 kL30 l1 l2 l4 l3 v
def f_X7_bestNow_J114 (kL30 : Int32 → Int32 → Int32 → Int32 → tX7 → Option (Int32 × tX7)) (l1 : Int32) (l3 : Int32) (l4 : Int32) (l5 : Int32) (l6 : Int32) (k0 : Int32) (v : tX7) : Option (Int32 × tX7) :=
  (if l5 = 0 then f_X7_bestNow_J131 kL30 l1 k0 l3 l4 v else (if l6 ≤ l3 then f_X7_bestNow_J131 kL30 l1 k0 l3 l4 v else f_X7_bestNow_J132 kL30 l1 k0 l4 l6 v))
def f_X7_bestNow_J113 (kL30 : Int32 → Int32 → Int32 → Int32 → tX7 → Option (Int32 × tX7)) (l1 : Int32) (l2 : Int32) (l3 : Int32) (l4 : Int32) (l5 : Int32) (l6 : Int32) (v : tX7) : Option (Int32 × tX7) :=
  f_X7_bestNow_J114 kL30 l1 l3 l4 l5 l6 l2 v
def f_X7_bestNow_J95 (kL30 : Int32 → Int32 → Int32 → Int32 → tX7 → Option (Int32 × tX7)) (l1 : Int32) (l2 : Int32) (l3 : Int32) (l4 : Int32) (l5 : Int32) (k0 : Int32) (v : tX7) : Option (Int32 × tX7) :=
  (if l5 = 0 then f_X7_bestNow_J113 kL30 l1 l2 l3 l4 l5 k0 v else (if k0 ≤ l3 then f_X7_bestNow_J113 kL30 l1 l2 l3 l4 l5 k0 v else f_X7_bestNow_J114 kL30 l1 l3 l4 l5 k0 l4 v))
def f_X7_bestNow_J76 (kL30 : Int32 → Int32 → Int32 → Int32 → tX7 → Option (Int32 × tX7)) (l1 : Int32) (l2 : Int32) (l3 : Int32) (l4 : Int32) (k0 : Int32) (v : tX7) : Option (Int32 × tX7) :=
  (if k0 = 0 then f_X7_bestNow_J95 kL30 l1 l2 l3 l4 k0 (-500 : Int32) v else (f_X7_worthOfTurn v l4).bind fun x0 => f_X7_bestNow_J95 kL30 l1 l2 l3 l4 k0 x0.1 x0.2)
def f_X7_bestNow_L30 : Nat → Int32 → Int32 → Int32 → Int32 → tX7 → Option (Int32 × tX7)
  | 0, _, _, _, _, _ => none
  | nL30 + 1, l1, l2, l3, l4, v =>
    (if (5 : Int32) < l4 then some (l2, v) else (if l4 = (5 : Int32) then (f_X7_of v l1 (1 : Int32)).bind fun x1 => (if x1 = (1 : Int32) then f_X7_bestNow_J76 (f_X7_bestNow_L30 nL30) l1 l2 l3 l4 (1 : Int32) v else f_X7_bestNow_J76 (f_X7_bestNow_L30 nL30) l1 l2 l3 l4 (0 : Int32) v) else (if (v.2.1 0) < l4 then f_X7_bestNow_J76 (f_X7_bestNow_L30 nL30) l1 l2 l3 l4 (0 : Int32) v else f_X7_bestNow_J76 (f_X7_bestNow_L30 nL30) l1 l2 l3 l4 (1 : Int32) v)))
def f_X7_bestNow (v : tX7) : Option (Int32 × tX7) :=
  (f_X7_of v (v.2.1 17) (2 : Int32)).bind fun x2 => (if x2 ≤ 0 then (f_X7_worthOfTurn v (1 : Int32)).bind fun x3 => f_X7_bestNow_L30 gas (v.2.1 17) (1 : Int32) x3.1 (2 : Int32) x3.2 else some ((0 : Int32), v))
abbrev rm_X7_bestNow : Room := { frames := 9, cells := 0, slots := 0, locals := 221 }
set_option maxHeartbeats 4000000 in
set_option maxRecDepth 100000 in
theorem c_X7_bestNow (l : Launch) (D : va_G) (cI cR : ClassId) (ad : Nat → Nat) (v : tX7) (sz : Nat) (r : (Int32 × tX7)) (hf : f_X7_bestNow v = some r) : Met l yX7_bestNow (wM yX7_bestNow cX7_bestNow 7 (some (.int))) rm_X7_bestNow (cPre D (tysA cI cR) ([.ref (ad 0)] : List Value) (oX7 cI cR ad v) sz) (qI D (oX7 cI cR ad r.2) r.1 (va_A (oX7 cI cR ad v) sz)) 0 0 (va_A (oX7 cI cR ad v) sz) := by
  refine en_M (own := RX7) (lv := [(0, .ref (ad 0))]) (by decide +kernel) rfl (Nat.le_of_ble_eq_true rfl) rfl (fun p e s m below meth c hx hb hr hlk hml hown hnm hts hsz hP hK hD hN ls hl => ?_)
  subst hsz
  generalize hAe : va_A (oX7 cI cR ad v) s.heap.size = A at hD ⊢
  have hA : ∀ q : Nat, s.heap.size ≤ q → A q := fun q h => by rw [← hAe]; exact Or.inr h
  have hS : va_S A s.heap s.heap [] := va_S.rf
  have hP : va_P D vwCl [(ad 0, .inr (7, [.int v.1, .ref (ad 1), .ref (ad 2), .ref (ad 3), .int v.2.2.2.2.1, .ref (ad 4), .int v.2.2.2.2.2.2.1, .ref (ad 5), .int v.2.2.2.2.2.2.2.2.1, .int v.2.2.2.2.2.2.2.2.2.1, .int v.2.2.2.2.2.2.2.2.2.2.1, .ref (ad 6), .int v.2.2.2.2.2.2.2.2.2.2.2.2.1, .int v.2.2.2.2.2.2.2.2.2.2.2.2.2.1, .int v.2.2.2.2.2.2.2.2.2.2.2.2.2.2.1, .int v.2.2.2.2.2.2.2.2.2.2.2.2.2.2.2.1, .int v.2.2.2.2.2.2.2.2.2.2.2.2.2.2.2.2.1, .int v.2.2.2.2.2.2.2.2.2.2.2.2.2.2.2.2.2])), (ad 1, .inl (cI, 72, .inl v.2.1)), (ad 2, .inl (cI, 72, .inl v.2.2.1)), (ad 3, .inl (cI, 288, .inl v.2.2.2.1)), (ad 4, .inl (cI, 72, .inl v.2.2.2.2.2.1)), (ad 5, .inl (cI, 60, .inl v.2.2.2.2.2.2.2.1)), (ad 6, .inl (cI, 32768, .inl v.2.2.2.2.2.2.2.2.2.2.2.1))] s.heap := hP
  have hD : va_D A [(ad 0, .inr (7, [.int v.1, .ref (ad 1), .ref (ad 2), .ref (ad 3), .int v.2.2.2.2.1, .ref (ad 4), .int v.2.2.2.2.2.2.1, .ref (ad 5), .int v.2.2.2.2.2.2.2.2.1, .int v.2.2.2.2.2.2.2.2.2.1, .int v.2.2.2.2.2.2.2.2.2.2.1, .ref (ad 6), .int v.2.2.2.2.2.2.2.2.2.2.2.2.1, .int v.2.2.2.2.2.2.2.2.2.2.2.2.2.1, .int v.2.2.2.2.2.2.2.2.2.2.2.2.2.2.1, .int v.2.2.2.2.2.2.2.2.2.2.2.2.2.2.2.1, .int v.2.2.2.2.2.2.2.2.2.2.2.2.2.2.2.2.1, .int v.2.2.2.2.2.2.2.2.2.2.2.2.2.2.2.2.2])), (ad 1, .inl (cI, 72, .inl v.2.1)), (ad 2, .inl (cI, 72, .inl v.2.2.1)), (ad 3, .inl (cI, 288, .inl v.2.2.2.1)), (ad 4, .inl (cI, 72, .inl v.2.2.2.2.2.1)), (ad 5, .inl (cI, 60, .inl v.2.2.2.2.2.2.2.1)), (ad 6, .inl (cI, 32768, .inl v.2.2.2.2.2.2.2.2.2.2.2.1))] := hD
  have L30 : ∀ (nL30 : Nat) (l1 : Int32) (l2 : Int32) (l3 : Int32) (l4 : Int32) (v : tX7) (H : Heap) (locs : List Loc) (ls : Array Slot), va_P D vwCl [(ad 0, .inr (7, [.int v.1, .ref (ad 1), .ref (ad 2), .ref (ad 3), .int v.2.2.2.2.1, .ref (ad 4), .int v.2.2.2.2.2.2.1, .ref (ad 5), .int v.2.2.2.2.2.2.2.2.1, .int v.2.2.2.2.2.2.2.2.2.1, .int v.2.2.2.2.2.2.2.2.2.2.1, .ref (ad 6), .int v.2.2.2.2.2.2.2.2.2.2.2.2.1, .int v.2.2.2.2.2.2.2.2.2.2.2.2.2.1, .int v.2.2.2.2.2.2.2.2.2.2.2.2.2.2.1, .int v.2.2.2.2.2.2.2.2.2.2.2.2.2.2.2.1, .int v.2.2.2.2.2.2.2.2.2.2.2.2.2.2.2.2.1, .int v.2.2.2.2.2.2.2.2.2.2.2.2.2.2.2.2.2])), (ad 1, .inl (cI, 72, .inl v.2.1)), (ad 2, .inl (cI, 72, .inl v.2.2.1)), (ad 3, .inl (cI, 288, .inl v.2.2.2.1)), (ad 4, .inl (cI, 72, .inl v.2.2.2.2.2.1)), (ad 5, .inl (cI, 60, .inl v.2.2.2.2.2.2.2.1)), (ad 6, .inl (cI, 32768, .inl v.2.2.2.2.2.2.2.2.2.2.2.1))] H → va_D A [(ad 0, .inr (7, [.int v.1, .ref (ad 1), .ref (ad 2), .ref (ad 3), .int v.2.2.2.2.1, .ref (ad 4), .int v.2.2.2.2.2.2.1, .ref (ad 5), .int v.2.2.2.2.2.2.2.2.1, .int v.2.2.2.2.2.2.2.2.2.1, .int v.2.2.2.2.2.2.2.2.2.2.1, .ref (ad 6), .int v.2.2.2.2.2.2.2.2.2.2.2.2.1, .int v.2.2.2.2.2.2.2.2.2.2.2.2.2.1, .int v.2.2.2.2.2.2.2.2.2.2.2.2.2.2.1, .int v.2.2.2.2.2.2.2.2.2.2.2.2.2.2.2.1, .int v.2.2.2.2.2.2.2.2.2.2.2.2.2.2.2.2.1, .int v.2.2.2.2.2.2.2.2.2.2.2.2.2.2.2.2.2])), (ad 1, .inl (cI, 72, .inl v.2.1)), (ad 2, .inl (cI, 72, .inl v.2.2.1)), (ad 3, .inl (cI, 288, .inl v.2.2.2.1)), (ad 4, .inl (cI, 72, .inl v.2.2.2.2.2.1)), (ad 5, .inl (cI, 60, .inl v.2.2.2.2.2.2.2.1)), (ad 6, .inl (cI, 32768, .inl v.2.2.2.2.2.2.2.2.2.2.2.1))] → va_S A s.heap H locs → lv_has ls 7 [(0, .ref (ad 0)), (1, .int l1), (2, .int l2), (3, .int l3), (4, .int l4)] → f_X7_bestNow_L30 nL30 l1 l2 l3 l4 v = some r → W p l e rm_X7_bestNow s m ([.ref (ad 0)] : List Value).toArray below meth c H locs 0 0 (MQ below (qI D (oX7 cI cR ad r.2) r.1 A) ([.ref (ad 0)] : List Value).toArray s 0 0 A) (F0 m 30 ls []) := by
    intro nL30
    induction nL30 with
    | zero =>
      intro l1 l2 l3 l4 v H locs ls hP hD hS hl hf
      cases hf
    | succ nL30 ih_L30 =>
      have J132 : ∀ (l1 : Int32) (l2 : Int32) (l4 : Int32) (k0 : Int32) (v : tX7) (H : Heap) (locs : List Loc) (ls : Array Slot), va_P D vwCl [(ad 0, .inr (7, [.int v.1, .ref (ad 1), .ref (ad 2), .ref (ad 3), .int v.2.2.2.2.1, .ref (ad 4), .int v.2.2.2.2.2.2.1, .ref (ad 5), .int v.2.2.2.2.2.2.2.2.1, .int v.2.2.2.2.2.2.2.2.2.1, .int v.2.2.2.2.2.2.2.2.2.2.1, .ref (ad 6), .int v.2.2.2.2.2.2.2.2.2.2.2.2.1, .int v.2.2.2.2.2.2.2.2.2.2.2.2.2.1, .int v.2.2.2.2.2.2.2.2.2.2.2.2.2.2.1, .int v.2.2.2.2.2.2.2.2.2.2.2.2.2.2.2.1, .int v.2.2.2.2.2.2.2.2.2.2.2.2.2.2.2.2.1, .int v.2.2.2.2.2.2.2.2.2.2.2.2.2.2.2.2.2])), (ad 1, .inl (cI, 72, .inl v.2.1)), (ad 2, .inl (cI, 72, .inl v.2.2.1)), (ad 3, .inl (cI, 288, .inl v.2.2.2.1)), (ad 4, .inl (cI, 72, .inl v.2.2.2.2.2.1)), (ad 5, .inl (cI, 60, .inl v.2.2.2.2.2.2.2.1)), (ad 6, .inl (cI, 32768, .inl v.2.2.2.2.2.2.2.2.2.2.2.1))] H → va_D A [(ad 0, .inr (7, [.int v.1, .ref (ad 1), .ref (ad 2), .ref (ad 3), .int v.2.2.2.2.1, .ref (ad 4), .int v.2.2.2.2.2.2.1, .ref (ad 5), .int v.2.2.2.2.2.2.2.2.1, .int v.2.2.2.2.2.2.2.2.2.1, .int v.2.2.2.2.2.2.2.2.2.2.1, .ref (ad 6), .int v.2.2.2.2.2.2.2.2.2.2.2.2.1, .int v.2.2.2.2.2.2.2.2.2.2.2.2.2.1, .int v.2.2.2.2.2.2.2.2.2.2.2.2.2.2.1, .int v.2.2.2.2.2.2.2.2.2.2.2.2.2.2.2.1, .int v.2.2.2.2.2.2.2.2.2.2.2.2.2.2.2.2.1, .int v.2.2.2.2.2.2.2.2.2.2.2.2.2.2.2.2.2])), (ad 1, .inl (cI, 72, .inl v.2.1)), (ad 2, .inl (cI, 72, .inl v.2.2.1)), (ad 3, .inl (cI, 288, .inl v.2.2.2.1)), (ad 4, .inl (cI, 72, .inl v.2.2.2.2.2.1)), (ad 5, .inl (cI, 60, .inl v.2.2.2.2.2.2.2.1)), (ad 6, .inl (cI, 32768, .inl v.2.2.2.2.2.2.2.2.2.2.2.1))] → va_S A s.heap H locs → lv_has ls 7 [(0, .ref (ad 0)), (1, .int l1), (2, .int l2), (4, .int l4)] → f_X7_bestNow_J132 (f_X7_bestNow_L30 nL30) l1 l2 l4 k0 v = some r → W p l e rm_X7_bestNow s m ([.ref (ad 0)] : List Value).toArray below meth c H locs 0 0 (MQ below (qI D (oX7 cI cR ad r.2) r.1 A) ([.ref (ad 0)] : List Value).toArray s 0 0 A) (F0 m 132 ls [.int k0]) := by
        intro l1 l2 l4 k0 v H locs ls hP hD hS hl hf
        unfold f_X7_bestNow_J132 at hf
        refine lv_istore_n (lv' := [(3, .int k0), (0, .ref (ad 0)), (1, .int l1), (2, .int l2), (4, .int l4)]) hx hb dX7_bestNow_132 rfl hl (by decide) rfl (fun ls hl => ?_)
        refine lv_iinc (v := (l4 + (1 : Int32))) (lv' := [(4, .int (l4 + (1 : Int32))), (3, .int k0), (0, .ref (ad 0)), (1, .int l1), (2, .int l2)]) hx hb dX7_bestNow_133 hl (k := 4) rfl rfl (by decide) rfl (fun ls hl => ?_)
        refine lv_goto (tgt := 30) hx hb dX7_bestNow_136 (by decide) ?_
        exact ih_L30 l1 l2 k0 (l4 + (1 : Int32)) v _ _ ls hP hD hS (lv_sub hl [2, 3, 4, 1, 0] rfl) hf
      have J131 : ∀ (l1 : Int32) (l2 : Int32) (l3 : Int32) (l4 : Int32) (v : tX7) (H : Heap) (locs : List Loc) (ls : Array Slot), va_P D vwCl [(ad 0, .inr (7, [.int v.1, .ref (ad 1), .ref (ad 2), .ref (ad 3), .int v.2.2.2.2.1, .ref (ad 4), .int v.2.2.2.2.2.2.1, .ref (ad 5), .int v.2.2.2.2.2.2.2.2.1, .int v.2.2.2.2.2.2.2.2.2.1, .int v.2.2.2.2.2.2.2.2.2.2.1, .ref (ad 6), .int v.2.2.2.2.2.2.2.2.2.2.2.2.1, .int v.2.2.2.2.2.2.2.2.2.2.2.2.2.1, .int v.2.2.2.2.2.2.2.2.2.2.2.2.2.2.1, .int v.2.2.2.2.2.2.2.2.2.2.2.2.2.2.2.1, .int v.2.2.2.2.2.2.2.2.2.2.2.2.2.2.2.2.1, .int v.2.2.2.2.2.2.2.2.2.2.2.2.2.2.2.2.2])), (ad 1, .inl (cI, 72, .inl v.2.1)), (ad 2, .inl (cI, 72, .inl v.2.2.1)), (ad 3, .inl (cI, 288, .inl v.2.2.2.1)), (ad 4, .inl (cI, 72, .inl v.2.2.2.2.2.1)), (ad 5, .inl (cI, 60, .inl v.2.2.2.2.2.2.2.1)), (ad 6, .inl (cI, 32768, .inl v.2.2.2.2.2.2.2.2.2.2.2.1))] H → va_D A [(ad 0, .inr (7, [.int v.1, .ref (ad 1), .ref (ad 2), .ref (ad 3), .int v.2.2.2.2.1, .ref (ad 4), .int v.2.2.2.2.2.2.1, .ref (ad 5), .int v.2.2.2.2.2.2.2.2.1, .int v.2.2.2.2.2.2.2.2.2.1, .int v.2.2.2.2.2.2.2.2.2.2.1, .ref (ad 6), .int v.2.2.2.2.2.2.2.2.2.2.2.2.1, .int v.2.2.2.2.2.2.2.2.2.2.2.2.2.1, .int v.2.2.2.2.2.2.2.2.2.2.2.2.2.2.1, .int v.2.2.2.2.2.2.2.2.2.2.2.2.2.2.2.1, .int v.2.2.2.2.2.2.2.2.2.2.2.2.2.2.2.2.1, .int v.2.2.2.2.2.2.2.2.2.2.2.2.2.2.2.2.2])), (ad 1, .inl (cI, 72, .inl v.2.1)), (ad 2, .inl (cI, 72, .inl v.2.2.1)), (ad 3, .inl (cI, 288, .inl v.2.2.2.1)), (ad 4, .inl (cI, 72, .inl v.2.2.2.2.2.1)), (ad 5, .inl (cI, 60, .inl v.2.2.2.2.2.2.2.1)), (ad 6, .inl (cI, 32768, .inl v.2.2.2.2.2.2.2.2.2.2.2.1))] → va_S A s.heap H locs → lv_has ls 7 [(0, .ref (ad 0)), (1, .int l1), (2, .int l2), (3, .int l3), (4, .int l4)] → f_X7_bestNow_J131 (f_X7_bestNow_L30 nL30) l1 l2 l3 l4 v = some r → W p l e rm_X7_bestNow s m ([.ref (ad 0)] : List Value).toArray below meth c H locs 0 0 (MQ below (qI D (oX7 cI cR ad r.2) r.1 A) ([.ref (ad 0)] : List Value).toArray s 0 0 A) (F0 m 131 ls []) := by
        intro l1 l2 l3 l4 v H locs ls hP hD hS hl hf
        unfold f_X7_bestNow_J131 at hf
        refine lv_iload_n hx hb dX7_bestNow_131 rfl (lv_at hl 3 rfl) ?_
        exact J132 l1 l2 l4 l3 v _ _ ls hP hD hS (lv_sub hl [0, 1, 2, 4] rfl) hf
      have J114 : ∀ (l1 : Int32) (l3 : Int32) (l4 : Int32) (l5 : Int32) (l6 : Int32) (k0 : Int32) (v : tX7) (H : Heap) (locs : List Loc) (ls : Array Slot), va_P D vwCl [(ad 0, .inr (7, [.int v.1, .ref (ad 1), .ref (ad 2), .ref (ad 3), .int v.2.2.2.2.1, .ref (ad 4), .int v.2.2.2.2.2.2.1, .ref (ad 5), .int v.2.2.2.2.2.2.2.2.1, .int v.2.2.2.2.2.2.2.2.2.1, .int v.2.2.2.2.2.2.2.2.2.2.1, .ref (ad 6), .int v.2.2.2.2.2.2.2.2.2.2.2.2.1, .int v.2.2.2.2.2.2.2.2.2.2.2.2.2.1, .int v.2.2.2.2.2.2.2.2.2.2.2.2.2.2.1, .int v.2.2.2.2.2.2.2.2.2.2.2.2.2.2.2.1, .int v.2.2.2.2.2.2.2.2.2.2.2.2.2.2.2.2.1, .int v.2.2.2.2.2.2.2.2.2.2.2.2.2.2.2.2.2])), (ad 1, .inl (cI, 72, .inl v.2.1)), (ad 2, .inl (cI, 72, .inl v.2.2.1)), (ad 3, .inl (cI, 288, .inl v.2.2.2.1)), (ad 4, .inl (cI, 72, .inl v.2.2.2.2.2.1)), (ad 5, .inl (cI, 60, .inl v.2.2.2.2.2.2.2.1)), (ad 6, .inl (cI, 32768, .inl v.2.2.2.2.2.2.2.2.2.2.2.1))] H → va_D A [(ad 0, .inr (7, [.int v.1, .ref (ad 1), .ref (ad 2), .ref (ad 3), .int v.2.2.2.2.1, .ref (ad 4), .int v.2.2.2.2.2.2.1, .ref (ad 5), .int v.2.2.2.2.2.2.2.2.1, .int v.2.2.2.2.2.2.2.2.2.1, .int v.2.2.2.2.2.2.2.2.2.2.1, .ref (ad 6), .int v.2.2.2.2.2.2.2.2.2.2.2.2.1, .int v.2.2.2.2.2.2.2.2.2.2.2.2.2.1, .int v.2.2.2.2.2.2.2.2.2.2.2.2.2.2.1, .int v.2.2.2.2.2.2.2.2.2.2.2.2.2.2.2.1, .int v.2.2.2.2.2.2.2.2.2.2.2.2.2.2.2.2.1, .int v.2.2.2.2.2.2.2.2.2.2.2.2.2.2.2.2.2])), (ad 1, .inl (cI, 72, .inl v.2.1)), (ad 2, .inl (cI, 72, .inl v.2.2.1)), (ad 3, .inl (cI, 288, .inl v.2.2.2.1)), (ad 4, .inl (cI, 72, .inl v.2.2.2.2.2.1)), (ad 5, .inl (cI, 60, .inl v.2.2.2.2.2.2.2.1)), (ad 6, .inl (cI, 32768, .inl v.2.2.2.2.2.2.2.2.2.2.2.1))] → va_S A s.heap H locs → lv_has ls 7 [(0, .ref (ad 0)), (1, .int l1), (3, .int l3), (4, .int l4), (5, .int l5), (6, .int l6)] → f_X7_bestNow_J114 (f_X7_bestNow_L30 nL30) l1 l3 l4 l5 l6 k0 v = some r → W p l e rm_X7_bestNow s m ([.ref (ad 0)] : List Value).toArray below meth c H locs 0 0 (MQ below (qI D (oX7 cI cR ad r.2) r.1 A) ([.ref (ad 0)] : List Value).toArray s 0 0 A) (F0 m 114 ls [.int k0]) := by
        intro l1 l3 l4 l5 l6 k0 v H locs ls hP hD hS hl hf
        unfold f_X7_bestNow_J114 at hf
        refine lv_istore_n (lv' := [(2, .int k0), (0, .ref (ad 0)), (1, .int l1), (3, .int l3), (4, .int l4), (5, .int l5), (6, .int l6)]) hx hb dX7_bestNow_114 rfl hl (by decide) rfl (fun ls hl => ?_)
        refine lv_iload hx hb dX7_bestNow_115 (lv_at hl 5 rfl) ?_
        refine lv_if_eq (tgt := 131) hx hb dX7_bestNow_117 (by decide) (fun c0 => ?_) (fun c0 => ?_)
        · replace hf := gT hf c0
          exact J131 l1 k0 l3 l4 v _ _ ls hP hD hS (lv_sub hl [1, 2, 0, 3, 4] rfl) hf
        · replace hf := gF hf c0
          refine lv_iload hx hb dX7_bestNow_120 (lv_at hl 6 rfl) ?_
          refine lv_iload_n hx hb dX7_bestNow_122 rfl (lv_at hl 3 rfl) ?_
          refine lv_icmp_le (tgt := 131) hx hb dX7_bestNow_123 (by decide) (fun c1 => ?_) (fun c1 => ?_)
          · replace hf := gT hf c1
            exact J131 l1 k0 l3 l4 v _ _ ls hP hD hS (lv_sub hl [1, 2, 0, 3, 4] rfl) hf
          · replace hf := gF hf c1
            refine lv_iload hx hb dX7_bestNow_126 (lv_at hl 6 rfl) ?_
            refine lv_goto (tgt := 132) hx hb dX7_bestNow_128 (by decide) ?_
            exact J132 l1 k0 l4 l6 v _ _ ls hP hD hS (lv_sub hl [1, 2, 0, 4] rfl) hf
      have J113 : ∀ (l1 : Int32) (l2 : Int32) (l3 : Int32) (l4 : Int32) (l5 : Int32) (l6 : Int32) (v : tX7) (H : Heap) (locs : List Loc) (ls : Array Slot), va_P D vwCl [(ad 0, .inr (7, [.int v.1, .ref (ad 1), .ref (ad 2), .ref (ad 3), .int v.2.2.2.2.1, .ref (ad 4), .int v.2.2.2.2.2.2.1, .ref (ad 5), .int v.2.2.2.2.2.2.2.2.1, .int v.2.2.2.2.2.2.2.2.2.1, .int v.2.2.2.2.2.2.2.2.2.2.1, .ref (ad 6), .int v.2.2.2.2.2.2.2.2.2.2.2.2.1, .int v.2.2.2.2.2.2.2.2.2.2.2.2.2.1, .int v.2.2.2.2.2.2.2.2.2.2.2.2.2.2.1, .int v.2.2.2.2.2.2.2.2.2.2.2.2.2.2.2.1, .int v.2.2.2.2.2.2.2.2.2.2.2.2.2.2.2.2.1, .int v.2.2.2.2.2.2.2.2.2.2.2.2.2.2.2.2.2])), (ad 1, .inl (cI, 72, .inl v.2.1)), (ad 2, .inl (cI, 72, .inl v.2.2.1)), (ad 3, .inl (cI, 288, .inl v.2.2.2.1)), (ad 4, .inl (cI, 72, .inl v.2.2.2.2.2.1)), (ad 5, .inl (cI, 60, .inl v.2.2.2.2.2.2.2.1)), (ad 6, .inl (cI, 32768, .inl v.2.2.2.2.2.2.2.2.2.2.2.1))] H → va_D A [(ad 0, .inr (7, [.int v.1, .ref (ad 1), .ref (ad 2), .ref (ad 3), .int v.2.2.2.2.1, .ref (ad 4), .int v.2.2.2.2.2.2.1, .ref (ad 5), .int v.2.2.2.2.2.2.2.2.1, .int v.2.2.2.2.2.2.2.2.2.1, .int v.2.2.2.2.2.2.2.2.2.2.1, .ref (ad 6), .int v.2.2.2.2.2.2.2.2.2.2.2.2.1, .int v.2.2.2.2.2.2.2.2.2.2.2.2.2.1, .int v.2.2.2.2.2.2.2.2.2.2.2.2.2.2.1, .int v.2.2.2.2.2.2.2.2.2.2.2.2.2.2.2.1, .int v.2.2.2.2.2.2.2.2.2.2.2.2.2.2.2.2.1, .int v.2.2.2.2.2.2.2.2.2.2.2.2.2.2.2.2.2])), (ad 1, .inl (cI, 72, .inl v.2.1)), (ad 2, .inl (cI, 72, .inl v.2.2.1)), (ad 3, .inl (cI, 288, .inl v.2.2.2.1)), (ad 4, .inl (cI, 72, .inl v.2.2.2.2.2.1)), (ad 5, .inl (cI, 60, .inl v.2.2.2.2.2.2.2.1)), (ad 6, .inl (cI, 32768, .inl v.2.2.2.2.2.2.2.2.2.2.2.1))] → va_S A s.heap H locs → lv_has ls 7 [(0, .ref (ad 0)), (1, .int l1), (2, .int l2), (3, .int l3), (4, .int l4), (5, .int l5), (6, .int l6)] → f_X7_bestNow_J113 (f_X7_bestNow_L30 nL30) l1 l2 l3 l4 l5 l6 v = some r → W p l e rm_X7_bestNow s m ([.ref (ad 0)] : List Value).toArray below meth c H locs 0 0 (MQ below (qI D (oX7 cI cR ad r.2) r.1 A) ([.ref (ad 0)] : List Value).toArray s 0 0 A) (F0 m 113 ls []) := by
        intro l1 l2 l3 l4 l5 l6 v H locs ls hP hD hS hl hf
        unfold f_X7_bestNow_J113 at hf
        refine lv_iload_n hx hb dX7_bestNow_113 rfl (lv_at hl 2 rfl) ?_
        exact J114 l1 l3 l4 l5 l6 l2 v _ _ ls hP hD hS (lv_sub hl [0, 1, 3, 4, 5, 6] rfl) hf
      have J95 : ∀ (l1 : Int32) (l2 : Int32) (l3 : Int32) (l4 : Int32) (l5 : Int32) (k0 : Int32) (v : tX7) (H : Heap) (locs : List Loc) (ls : Array Slot), va_P D vwCl [(ad 0, .inr (7, [.int v.1, .ref (ad 1), .ref (ad 2), .ref (ad 3), .int v.2.2.2.2.1, .ref (ad 4), .int v.2.2.2.2.2.2.1, .ref (ad 5), .int v.2.2.2.2.2.2.2.2.1, .int v.2.2.2.2.2.2.2.2.2.1, .int v.2.2.2.2.2.2.2.2.2.2.1, .ref (ad 6), .int v.2.2.2.2.2.2.2.2.2.2.2.2.1, .int v.2.2.2.2.2.2.2.2.2.2.2.2.2.1, .int v.2.2.2.2.2.2.2.2.2.2.2.2.2.2.1, .int v.2.2.2.2.2.2.2.2.2.2.2.2.2.2.2.1, .int v.2.2.2.2.2.2.2.2.2.2.2.2.2.2.2.2.1, .int v.2.2.2.2.2.2.2.2.2.2.2.2.2.2.2.2.2])), (ad 1, .inl (cI, 72, .inl v.2.1)), (ad 2, .inl (cI, 72, .inl v.2.2.1)), (ad 3, .inl (cI, 288, .inl v.2.2.2.1)), (ad 4, .inl (cI, 72, .inl v.2.2.2.2.2.1)), (ad 5, .inl (cI, 60, .inl v.2.2.2.2.2.2.2.1)), (ad 6, .inl (cI, 32768, .inl v.2.2.2.2.2.2.2.2.2.2.2.1))] H → va_D A [(ad 0, .inr (7, [.int v.1, .ref (ad 1), .ref (ad 2), .ref (ad 3), .int v.2.2.2.2.1, .ref (ad 4), .int v.2.2.2.2.2.2.1, .ref (ad 5), .int v.2.2.2.2.2.2.2.2.1, .int v.2.2.2.2.2.2.2.2.2.1, .int v.2.2.2.2.2.2.2.2.2.2.1, .ref (ad 6), .int v.2.2.2.2.2.2.2.2.2.2.2.2.1, .int v.2.2.2.2.2.2.2.2.2.2.2.2.2.1, .int v.2.2.2.2.2.2.2.2.2.2.2.2.2.2.1, .int v.2.2.2.2.2.2.2.2.2.2.2.2.2.2.2.1, .int v.2.2.2.2.2.2.2.2.2.2.2.2.2.2.2.2.1, .int v.2.2.2.2.2.2.2.2.2.2.2.2.2.2.2.2.2])), (ad 1, .inl (cI, 72, .inl v.2.1)), (ad 2, .inl (cI, 72, .inl v.2.2.1)), (ad 3, .inl (cI, 288, .inl v.2.2.2.1)), (ad 4, .inl (cI, 72, .inl v.2.2.2.2.2.1)), (ad 5, .inl (cI, 60, .inl v.2.2.2.2.2.2.2.1)), (ad 6, .inl (cI, 32768, .inl v.2.2.2.2.2.2.2.2.2.2.2.1))] → va_S A s.heap H locs → lv_has ls 7 [(0, .ref (ad 0)), (1, .int l1), (2, .int l2), (3, .int l3), (4, .int l4), (5, .int l5)] → f_X7_bestNow_J95 (f_X7_bestNow_L30 nL30) l1 l2 l3 l4 l5 k0 v = some r → W p l e rm_X7_bestNow s m ([.ref (ad 0)] : List Value).toArray below meth c H locs 0 0 (MQ below (qI D (oX7 cI cR ad r.2) r.1 A) ([.ref (ad 0)] : List Value).toArray s 0 0 A) (F0 m 95 ls [.int k0]) := by
        intro l1 l2 l3 l4 l5 k0 v H locs ls hP hD hS hl hf
        unfold f_X7_bestNow_J95 at hf
        refine lv_istore (lv' := [(6, .int k0), (0, .ref (ad 0)), (1, .int l1), (2, .int l2), (3, .int l3), (4, .int l4), (5, .int l5)]) hx hb dX7_bestNow_95 hl (by decide) rfl (fun ls hl => ?_)
        refine lv_iload hx hb dX7_bestNow_97 (lv_at hl 6 rfl) ?_
        refine lv_if_eq (tgt := 113) hx hb dX7_bestNow_99 (by decide) (fun c2 => ?_) (fun c2 => ?_)
        · replace hf := gT hf c2
          exact J113 l1 l2 l3 l4 l5 k0 v _ _ ls hP hD hS (lv_sub hl [1, 2, 3, 4, 5, 6, 0] rfl) hf
        · replace hf := gF hf c2
          refine lv_iload hx hb dX7_bestNow_102 (lv_at hl 0 rfl) ?_
          refine lv_iload_n hx hb dX7_bestNow_104 rfl (lv_at hl 4 rfl) ?_
          refine lv_icmp_le (tgt := 113) hx hb dX7_bestNow_105 (by decide) (fun c3 => ?_) (fun c3 => ?_)
          · replace hf := gT hf c3
            exact J113 l1 l2 l3 l4 l5 k0 v _ _ ls hP hD hS (lv_sub hl [1, 2, 3, 4, 5, 6, 0] rfl) hf
          · replace hf := gF hf c3
            refine lv_iload hx hb dX7_bestNow_108 (lv_at hl 5 rfl) ?_
            refine lv_goto (tgt := 114) hx hb dX7_bestNow_110 (by decide) ?_
            exact J114 l1 l3 l4 l5 k0 l4 v _ _ ls hP hD hS (lv_sub hl [1, 2, 4, 5, 6, 0] rfl) hf
      have J76 : ∀ (l1 : Int32) (l2 : Int32) (l3 : Int32) (l4 : Int32) (k0 : Int32) (v : tX7) (H : Heap) (locs : List Loc) (ls : Array Slot), va_P D vwCl [(ad 0, .inr (7, [.int v.1, .ref (ad 1), .ref (ad 2), .ref (ad 3), .int v.2.2.2.2.1, .ref (ad 4), .int v.2.2.2.2.2.2.1, .ref (ad 5), .int v.2.2.2.2.2.2.2.2.1, .int v.2.2.2.2.2.2.2.2.2.1, .int v.2.2.2.2.2.2.2.2.2.2.1, .ref (ad 6), .int v.2.2.2.2.2.2.2.2.2.2.2.2.1, .int v.2.2.2.2.2.2.2.2.2.2.2.2.2.1, .int v.2.2.2.2.2.2.2.2.2.2.2.2.2.2.1, .int v.2.2.2.2.2.2.2.2.2.2.2.2.2.2.2.1, .int v.2.2.2.2.2.2.2.2.2.2.2.2.2.2.2.2.1, .int v.2.2.2.2.2.2.2.2.2.2.2.2.2.2.2.2.2])), (ad 1, .inl (cI, 72, .inl v.2.1)), (ad 2, .inl (cI, 72, .inl v.2.2.1)), (ad 3, .inl (cI, 288, .inl v.2.2.2.1)), (ad 4, .inl (cI, 72, .inl v.2.2.2.2.2.1)), (ad 5, .inl (cI, 60, .inl v.2.2.2.2.2.2.2.1)), (ad 6, .inl (cI, 32768, .inl v.2.2.2.2.2.2.2.2.2.2.2.1))] H → va_D A [(ad 0, .inr (7, [.int v.1, .ref (ad 1), .ref (ad 2), .ref (ad 3), .int v.2.2.2.2.1, .ref (ad 4), .int v.2.2.2.2.2.2.1, .ref (ad 5), .int v.2.2.2.2.2.2.2.2.1, .int v.2.2.2.2.2.2.2.2.2.1, .int v.2.2.2.2.2.2.2.2.2.2.1, .ref (ad 6), .int v.2.2.2.2.2.2.2.2.2.2.2.2.1, .int v.2.2.2.2.2.2.2.2.2.2.2.2.2.1, .int v.2.2.2.2.2.2.2.2.2.2.2.2.2.2.1, .int v.2.2.2.2.2.2.2.2.2.2.2.2.2.2.2.1, .int v.2.2.2.2.2.2.2.2.2.2.2.2.2.2.2.2.1, .int v.2.2.2.2.2.2.2.2.2.2.2.2.2.2.2.2.2])), (ad 1, .inl (cI, 72, .inl v.2.1)), (ad 2, .inl (cI, 72, .inl v.2.2.1)), (ad 3, .inl (cI, 288, .inl v.2.2.2.1)), (ad 4, .inl (cI, 72, .inl v.2.2.2.2.2.1)), (ad 5, .inl (cI, 60, .inl v.2.2.2.2.2.2.2.1)), (ad 6, .inl (cI, 32768, .inl v.2.2.2.2.2.2.2.2.2.2.2.1))] → va_S A s.heap H locs → lv_has ls 7 [(0, .ref (ad 0)), (1, .int l1), (2, .int l2), (3, .int l3), (4, .int l4)] → f_X7_bestNow_J76 (f_X7_bestNow_L30 nL30) l1 l2 l3 l4 k0 v = some r → W p l e rm_X7_bestNow s m ([.ref (ad 0)] : List Value).toArray below meth c H locs 0 0 (MQ below (qI D (oX7 cI cR ad r.2) r.1 A) ([.ref (ad 0)] : List Value).toArray s 0 0 A) (F0 m 76 ls [.int k0]) := by
        intro l1 l2 l3 l4 k0 v H locs ls hP hD hS hl hf
        unfold f_X7_bestNow_J76 at hf
        refine lv_istore (lv' := [(5, .int k0), (0, .ref (ad 0)), (1, .int l1), (2, .int l2), (3, .int l3), (4, .int l4)]) hx hb dX7_bestNow_76 hl (by decide) rfl (fun ls hl => ?_)
        refine lv_iload hx hb dX7_bestNow_78 (lv_at hl 0 rfl) ?_
        refine lv_if_eq (tgt := 92) hx hb dX7_bestNow_80 (by decide) (fun c4 => ?_) (fun c4 => ?_)
        · replace hf := gT hf c4
          refine lv_sipush (v := (-500 : Int32)) hx hb dX7_bestNow_92 (by decide) ?_
          exact J95 l1 l2 l3 l4 k0 (-500 : Int32) v _ _ ls hP hD hS (lv_sub hl [1, 2, 3, 4, 5, 0] rfl) hf
        · replace hf := gF hf c4
          refine lv_aload_n hx hb dX7_bestNow_83 rfl (lv_at hl 1 rfl) ?_
          refine lv_iload hx hb dX7_bestNow_84 (lv_at hl 5 rfl) ?_
          obtain ⟨x0, hcx0, hf⟩ := gB hf
          refine j_i (wr := []) (w_V (As := [.int l4]) (rest := []) (n := 1) ⟨hx, hb, hml, hown, hts⟩ (c_X7_worthOfTurn l D cI cR ad v l4 _ x0 hcx0) kM_X7_126 kN_X7_worthOfTurn kV_X7_worthOfTurn kZ_X7 kK_X7_worthOfTurn ⟨rfl, rfl⟩ ⟨(Nat.le_of_ble_eq_true rfl), (Nat.le_of_ble_eq_true rfl)⟩ pd_X7_worthOfTurn rfl hK hN hP hD [0, 1, 2, 3, 4, 5, 6] rfl rfl 0 7 rfl rfl rfl hl.1 (Nat.le_of_ble_eq_true rfl) dX7_bestNow_86 ⟨(Nat.le_of_ble_eq_true rfl), (Nat.le_of_ble_eq_true rfl)⟩) hP hD hS hA [0, 1, 2, 3, 4, 5, 6] [] rfl rfl rfl (by decide) (fun H locs hP hD hS => ?_)
          have hP : va_P D vwCl [(ad 0, .inr (7, [.int x0.2.1, .ref (ad 1), .ref (ad 2), .ref (ad 3), .int x0.2.2.2.2.2.1, .ref (ad 4), .int x0.2.2.2.2.2.2.2.1, .ref (ad 5), .int x0.2.2.2.2.2.2.2.2.2.1, .int x0.2.2.2.2.2.2.2.2.2.2.1, .int x0.2.2.2.2.2.2.2.2.2.2.2.1, .ref (ad 6), .int x0.2.2.2.2.2.2.2.2.2.2.2.2.2.1, .int x0.2.2.2.2.2.2.2.2.2.2.2.2.2.2.1, .int x0.2.2.2.2.2.2.2.2.2.2.2.2.2.2.2.1, .int x0.2.2.2.2.2.2.2.2.2.2.2.2.2.2.2.2.1, .int x0.2.2.2.2.2.2.2.2.2.2.2.2.2.2.2.2.2.1, .int x0.2.2.2.2.2.2.2.2.2.2.2.2.2.2.2.2.2.2])), (ad 1, .inl (cI, 72, .inl x0.2.2.1)), (ad 2, .inl (cI, 72, .inl x0.2.2.2.1)), (ad 3, .inl (cI, 288, .inl x0.2.2.2.2.1)), (ad 4, .inl (cI, 72, .inl x0.2.2.2.2.2.2.1)), (ad 5, .inl (cI, 60, .inl x0.2.2.2.2.2.2.2.2.1)), (ad 6, .inl (cI, 32768, .inl x0.2.2.2.2.2.2.2.2.2.2.2.2.1))] H := hP
          have hD : va_D A [(ad 0, .inr (7, [.int x0.2.1, .ref (ad 1), .ref (ad 2), .ref (ad 3), .int x0.2.2.2.2.2.1, .ref (ad 4), .int x0.2.2.2.2.2.2.2.1, .ref (ad 5), .int x0.2.2.2.2.2.2.2.2.2.1, .int x0.2.2.2.2.2.2.2.2.2.2.1, .int x0.2.2.2.2.2.2.2.2.2.2.2.1, .ref (ad 6), .int x0.2.2.2.2.2.2.2.2.2.2.2.2.2.1, .int x0.2.2.2.2.2.2.2.2.2.2.2.2.2.2.1, .int x0.2.2.2.2.2.2.2.2.2.2.2.2.2.2.2.1, .int x0.2.2.2.2.2.2.2.2.2.2.2.2.2.2.2.2.1, .int x0.2.2.2.2.2.2.2.2.2.2.2.2.2.2.2.2.2.1, .int x0.2.2.2.2.2.2.2.2.2.2.2.2.2.2.2.2.2.2])), (ad 1, .inl (cI, 72, .inl x0.2.2.1)), (ad 2, .inl (cI, 72, .inl x0.2.2.2.1)), (ad 3, .inl (cI, 288, .inl x0.2.2.2.2.1)), (ad 4, .inl (cI, 72, .inl x0.2.2.2.2.2.2.1)), (ad 5, .inl (cI, 60, .inl x0.2.2.2.2.2.2.2.2.1)), (ad 6, .inl (cI, 32768, .inl x0.2.2.2.2.2.2.2.2.2.2.2.2.1))] := hD
          refine lv_goto (tgt := 95) hx hb dX7_bestNow_89 (by decide) ?_
          exact J95 l1 l2 l3 l4 k0 x0.1 x0.2 _ _ ls hP hD hS (lv_sub hl [1, 2, 3, 4, 5, 0] rfl) hf
      intro l1 l2 l3 l4 v H locs ls hP hD hS hl hf
      rw [f_X7_bestNow_L30] at hf
      refine lv_iload hx hb dX7_bestNow_30 (lv_at hl 4 rfl) ?_
      refine lv_iconst (v := (5 : Int32)) hx hb dX7_bestNow_32 (by decide) ?_
      refine lv_icmp_gt (tgt := 139) hx hb dX7_bestNow_33 (by decide) (fun c5 => ?_) (fun c5 => ?_)
      · replace hf := gT hf c5
        refine lv_iload_n hx hb dX7_bestNow_139 rfl (lv_at hl 2 rfl) ?_
        exact z_i hf (fun r => r.1) (fun r => oX7 cI cR ad r.2) hx hb hr hlk hS hP hD dX7_bestNow_140
      · replace hf := gF hf c5
        refine lv_iload hx hb dX7_bestNow_36 (lv_at hl 4 rfl) ?_
        refine lv_iconst (v := (5 : Int32)) hx hb dX7_bestNow_38 (by decide) ?_
        refine lv_icmp_ne (tgt := 60) hx hb dX7_bestNow_39 (by decide) (fun c6 => ?_) (fun c6 => ?_)
        · replace hf := gF hf c6
          refine lv_iload hx hb dX7_bestNow_60 (lv_at hl 4 rfl) ?_
          refine lv_aload_n hx hb dX7_bestNow_62 rfl (lv_at hl 0 rfl) ?_
          refine va_get (D := D) (ci := 7) (v := .ref (ad 1)) (C := RX7) (T := TX7) (N := 18) hx hb hts inA_X7 hown hK hP 0 rfl rfl 1 (by decide) (hts _ kF_X7_7) (fun _ h9 => h9) rfl dX7_bestNow_63 ?_
          refine lv_iconst (v := (0 : Int32)) hx hb dX7_bestNow_66 (by decide) ?_
          refine va_iald hx hb hK hP 1 0 rfl rfl (ig_in (by decide)) dX7_bestNow_67 ?_
          refine W.eq (g2 := F0 m 68 ls [.int (v.2.1 0), .int l4]) rfl ?_
          refine lv_icmp_gt (tgt := 75) hx hb dX7_bestNow_68 (by decide) (fun c7 => ?_) (fun c7 => ?_)
          · replace hf := gT hf c7
            refine lv_iconst (v := (0 : Int32)) hx hb dX7_bestNow_75 (by decide) ?_
            exact J76 l1 l2 l3 l4 (0 : Int32) v _ _ ls hP hD hS (lv_sub hl [0, 1, 2, 3, 4] rfl) hf
          · replace hf := gF hf c7
            refine lv_iconst (v := (1 : Int32)) hx hb dX7_bestNow_71 (by decide) ?_
            refine lv_goto (tgt := 76) hx hb dX7_bestNow_72 (by decide) ?_
            exact J76 l1 l2 l3 l4 (1 : Int32) v _ _ ls hP hD hS (lv_sub hl [0, 1, 2, 3, 4] rfl) hf
        · replace hf := gT hf c6
          refine lv_aload_n hx hb dX7_bestNow_42 rfl (lv_at hl 0 rfl) ?_
          refine lv_iload_n hx hb dX7_bestNow_43 rfl (lv_at hl 1 rfl) ?_
          refine lv_iconst (v := (1 : Int32)) hx hb dX7_bestNow_44 (by decide) ?_
          obtain ⟨x1, hcx1, hf⟩ := gB hf
          refine k_r (r_V (As := [.int l1, .int (1 : Int32)]) (rest := []) (n := 2) ⟨hx, hb, hml, hown, hts⟩ (c_X7_of l D cI cR ad v l1 (1 : Int32) _ x1 hcx1) kM_X7_123 kN_X7_of kV_X7_of kZ_X7 kK_X7_of ⟨rfl, rfl⟩ ⟨(Nat.le_of_ble_eq_true rfl), (Nat.le_of_ble_eq_true rfl)⟩ pd_X7_of rfl hK hN hP hD [0, 1, 2, 3, 4, 5, 6] rfl rfl 0 7 rfl rfl rfl hl.1 (Nat.le_of_ble_eq_true rfl) dX7_bestNow_45 ⟨(Nat.le_of_ble_eq_true rfl), (Nat.le_of_ble_eq_true rfl)⟩) ?_
          refine lv_iconst (v := (1 : Int32)) hx hb dX7_bestNow_48 (by decide) ?_
          refine lv_icmp_ne (tgt := 56) hx hb dX7_bestNow_49 (by decide) (fun c8 => ?_) (fun c8 => ?_)
          · replace hf := gF hf c8
            refine lv_iconst (v := (0 : Int32)) hx hb dX7_bestNow_56 (by decide) ?_
            refine lv_goto (tgt := 76) hx hb dX7_bestNow_57 (by decide) ?_
            exact J76 l1 l2 l3 l4 (0 : Int32) v _ _ ls hP hD hS (lv_sub hl [0, 1, 2, 3, 4] rfl) hf
          · replace hf := gT hf c8
            refine lv_iconst (v := (1 : Int32)) hx hb dX7_bestNow_52 (by decide) ?_
            refine lv_goto (tgt := 76) hx hb dX7_bestNow_53 (by decide) ?_
            exact J76 l1 l2 l3 l4 (1 : Int32) v _ _ ls hP hD hS (lv_sub hl [0, 1, 2, 3, 4] rfl) hf
  unfold f_X7_bestNow at hf
  refine lv_aload_n hx hb dX7_bestNow_0 rfl (lv_at hl 0 rfl) ?_
  refine va_get (D := D) (ci := 7) (v := .ref (ad 1)) (C := RX7) (T := TX7) (N := 18) hx hb hts inA_X7 hown hK hP 0 rfl rfl 1 (by decide) (hts _ kF_X7_7) (fun _ h9 => h9) rfl dX7_bestNow_1 ?_
  refine lv_bipush (v := (17 : Int32)) hx hb dX7_bestNow_4 (by decide) ?_
  refine va_iald hx hb hK hP 1 0 rfl rfl (ig_in (by decide)) dX7_bestNow_6 ?_
  refine W.eq (g2 := F0 m 7 ls [.int (v.2.1 17)]) rfl ?_
  refine lv_istore_n (lv' := [(1, .int (v.2.1 17)), (0, .ref (ad 0))]) hx hb dX7_bestNow_7 rfl hl (by decide) rfl (fun ls hl => ?_)
  refine lv_aload_n hx hb dX7_bestNow_8 rfl (lv_at hl 1 rfl) ?_
  refine lv_iload_n hx hb dX7_bestNow_9 rfl (lv_at hl 0 rfl) ?_
  refine lv_iconst (v := (2 : Int32)) hx hb dX7_bestNow_10 (by decide) ?_
  obtain ⟨x2, hcx2, hf⟩ := gB hf
  refine k_r (r_V (As := [.int (v.2.1 17), .int (2 : Int32)]) (rest := []) (n := 2) ⟨hx, hb, hml, hown, hts⟩ (c_X7_of l D cI cR ad v (v.2.1 17) (2 : Int32) _ x2 hcx2) kM_X7_123 kN_X7_of kV_X7_of kZ_X7 kK_X7_of ⟨rfl, rfl⟩ ⟨(Nat.le_of_ble_eq_true rfl), (Nat.le_of_ble_eq_true rfl)⟩ pd_X7_of rfl hK hN hP hD [0, 1, 2, 3, 4, 5, 6] rfl rfl 0 7 rfl rfl rfl hl.1 (Nat.le_of_ble_eq_true rfl) dX7_bestNow_11 ⟨(Nat.le_of_ble_eq_true rfl), (Nat.le_of_ble_eq_true rfl)⟩) ?_
  refine lv_if_le (tgt := 19) hx hb dX7_bestNow_14 (by decide) (fun c9 => ?_) (fun c9 => ?_)
  · replace hf := gT hf c9
    refine lv_iconst (v := (1 : Int32)) hx hb dX7_bestNow_19 (by decide) ?_
    refine lv_istore_n (lv' := [(2, .int (1 : Int32)), (1, .int (v.2.1 17)), (0, .ref (ad 0))]) hx hb dX7_bestNow_20 rfl hl (by decide) rfl (fun ls hl => ?_)
    refine lv_aload_n hx hb dX7_bestNow_21 rfl (lv_at hl 2 rfl) ?_
    refine lv_iconst (v := (1 : Int32)) hx hb dX7_bestNow_22 (by decide) ?_
    obtain ⟨x3, hcx3, hf⟩ := gB hf
    refine j_i (wr := []) (w_V (As := [.int (1 : Int32)]) (rest := []) (n := 1) ⟨hx, hb, hml, hown, hts⟩ (c_X7_worthOfTurn l D cI cR ad v (1 : Int32) _ x3 hcx3) kM_X7_126 kN_X7_worthOfTurn kV_X7_worthOfTurn kZ_X7 kK_X7_worthOfTurn ⟨rfl, rfl⟩ ⟨(Nat.le_of_ble_eq_true rfl), (Nat.le_of_ble_eq_true rfl)⟩ pd_X7_worthOfTurn rfl hK hN hP hD [0, 1, 2, 3, 4, 5, 6] rfl rfl 0 7 rfl rfl rfl hl.1 (Nat.le_of_ble_eq_true rfl) dX7_bestNow_23 ⟨(Nat.le_of_ble_eq_true rfl), (Nat.le_of_ble_eq_true rfl)⟩) hP hD hS hA [0, 1, 2, 3, 4, 5, 6] [] rfl rfl rfl (by decide) (fun H locs hP hD hS => ?_)
    have hP : va_P D vwCl [(ad 0, .inr (7, [.int x3.2.1, .ref (ad 1), .ref (ad 2), .ref (ad 3), .int x3.2.2.2.2.2.1, .ref (ad 4), .int x3.2.2.2.2.2.2.2.1, .ref (ad 5), .int x3.2.2.2.2.2.2.2.2.2.1, .int x3.2.2.2.2.2.2.2.2.2.2.1, .int x3.2.2.2.2.2.2.2.2.2.2.2.1, .ref (ad 6), .int x3.2.2.2.2.2.2.2.2.2.2.2.2.2.1, .int x3.2.2.2.2.2.2.2.2.2.2.2.2.2.2.1, .int x3.2.2.2.2.2.2.2.2.2.2.2.2.2.2.2.1, .int x3.2.2.2.2.2.2.2.2.2.2.2.2.2.2.2.2.1, .int x3.2.2.2.2.2.2.2.2.2.2.2.2.2.2.2.2.2.1, .int x3.2.2.2.2.2.2.2.2.2.2.2.2.2.2.2.2.2.2])), (ad 1, .inl (cI, 72, .inl x3.2.2.1)), (ad 2, .inl (cI, 72, .inl x3.2.2.2.1)), (ad 3, .inl (cI, 288, .inl x3.2.2.2.2.1)), (ad 4, .inl (cI, 72, .inl x3.2.2.2.2.2.2.1)), (ad 5, .inl (cI, 60, .inl x3.2.2.2.2.2.2.2.2.1)), (ad 6, .inl (cI, 32768, .inl x3.2.2.2.2.2.2.2.2.2.2.2.2.1))] H := hP
    have hD : va_D A [(ad 0, .inr (7, [.int x3.2.1, .ref (ad 1), .ref (ad 2), .ref (ad 3), .int x3.2.2.2.2.2.1, .ref (ad 4), .int x3.2.2.2.2.2.2.2.1, .ref (ad 5), .int x3.2.2.2.2.2.2.2.2.2.1, .int x3.2.2.2.2.2.2.2.2.2.2.1, .int x3.2.2.2.2.2.2.2.2.2.2.2.1, .ref (ad 6), .int x3.2.2.2.2.2.2.2.2.2.2.2.2.2.1, .int x3.2.2.2.2.2.2.2.2.2.2.2.2.2.2.1, .int x3.2.2.2.2.2.2.2.2.2.2.2.2.2.2.2.1, .int x3.2.2.2.2.2.2.2.2.2.2.2.2.2.2.2.2.1, .int x3.2.2.2.2.2.2.2.2.2.2.2.2.2.2.2.2.2.1, .int x3.2.2.2.2.2.2.2.2.2.2.2.2.2.2.2.2.2.2])), (ad 1, .inl (cI, 72, .inl x3.2.2.1)), (ad 2, .inl (cI, 72, .inl x3.2.2.2.1)), (ad 3, .inl (cI, 288, .inl x3.2.2.2.2.1)), (ad 4, .inl (cI, 72, .inl x3.2.2.2.2.2.2.1)), (ad 5, .inl (cI, 60, .inl x3.2.2.2.2.2.2.2.2.1)), (ad 6, .inl (cI, 32768, .inl x3.2.2.2.2.2.2.2.2.2.2.2.2.1))] := hD
    refine lv_istore_n (lv' := [(3, .int x3.1), (2, .int (1 : Int32)), (1, .int (v.2.1 17)), (0, .ref (ad 0))]) hx hb dX7_bestNow_26 rfl hl (by decide) rfl (fun ls hl => ?_)
    refine lv_iconst (v := (2 : Int32)) hx hb dX7_bestNow_27 (by decide) ?_
    refine lv_istore (lv' := [(4, .int (2 : Int32)), (3, .int x3.1), (2, .int (1 : Int32)), (1, .int (v.2.1 17)), (0, .ref (ad 0))]) hx hb dX7_bestNow_28 hl (by decide) rfl (fun ls hl => ?_)
    exact L30 gas (v.2.1 17) (1 : Int32) x3.1 (2 : Int32) x3.2 _ _ ls hP hD hS (lv_sub hl [4, 3, 2, 1, 0] rfl) hf
  · replace hf := gF hf c9
    refine lv_iconst (v := (0 : Int32)) hx hb dX7_bestNow_17 (by decide) ?_
    exact z_i hf (fun r => r.1) (fun r => oX7 cI cR ad r.2) hx hb hr hlk hS hP hD dX7_bestNow_18
def f_X7_greedyNow_J88 (kL15 : Int32 → Int32 → Int32 → Int32 → tX7 → Option (Int32 × tX7)) (l1 : Int32) (l2 : Int32) (l4 : Int32) (k0 : Int32) (v : tX7) : Option (Int32 × tX7) :=
  kL15 l1 l2 k0 (l4 + (1 : Int32)) v
def f_X7_greedyNow_J71 (kL15 : Int32 → Int32 → Int32 → Int32 → tX7 → Option (Int32 × tX7)) (l1 : Int32) (l3 : Int32) (l4 : Int32) (k0 : Int32) (v : tX7) : Option (Int32 × tX7) :=
  (if v.2.2.2.2.2.2.2.2.2.2.2.2.2.1 ≤ l3 then f_X7_greedyNow_J88 kL15 l1 k0 l4 l3 v else f_X7_greedyNow_J88 kL15 l1 k0 l4 v.2.2.2.2.2.2.2.2.2.2.2.2.2.1 v)
def f_X7_greedyNow_L15 : Nat → Int32 → Int32 → Int32 → Int32 → tX7 → Option (Int32 × tX7)
  | 0, _, _, _, _, _ => none
  | nL15 + 1, l1, l2, l3, l4, v =>
    (if (v.2.1 0) < l4 then some (l2, v) else (f_X7_of v l1 (2 : Int32)).bind fun x0 => (if x0 = 0 then (f_X7_of v l1 (0 : Int32)).bind fun x1 => (f_X7_of v ((1 : Int32) - l1) (0 : Int32)).bind fun x2 => (f_X7_drives v x1 x2 l4 (-4 : Int32)).bind fun x3 => (if x3.2.2.2.2.2.2.2.2.2.2.2.2.2.1 ≤ l3 then f_X7_greedyNow_J71 (f_X7_greedyNow_L15 nL15) l1 l3 l4 l2 x3 else f_X7_greedyNow_J71 (f_X7_greedyNow_L15 nL15) l1 l3 l4 l4 x3) else some (l2, v)))
def f_X7_greedyNow (v : tX7) : Option (Int32 × tX7) :=
  f_X7_greedyNow_L15 gas (v.2.1 17) (0 : Int32) (-1 : Int32) (1 : Int32) v
abbrev rm_X7_greedyNow : Room := { frames := 3, cells := 0, slots := 0, locals := 68 }
set_option maxHeartbeats 4000000 in
set_option maxRecDepth 100000 in
theorem c_X7_greedyNow (l : Launch) (D : va_G) (cI cR : ClassId) (ad : Nat → Nat) (v : tX7) (sz : Nat) (r : (Int32 × tX7)) (hf : f_X7_greedyNow v = some r) : Met l yX7_greedyNow (wM yX7_greedyNow cX7_greedyNow 5 (some (.int))) rm_X7_greedyNow (cPre D (tysA cI cR) ([.ref (ad 0)] : List Value) (oX7 cI cR ad v) sz) (qI D (oX7 cI cR ad r.2) r.1 (va_A (oX7 cI cR ad v) sz)) 0 0 (va_A (oX7 cI cR ad v) sz) := by
  refine en_M (own := RX7) (lv := [(0, .ref (ad 0))]) (by decide +kernel) rfl (Nat.le_of_ble_eq_true rfl) rfl (fun p e s m below meth c hx hb hr hlk hml hown hnm hts hsz hP hK hD hN ls hl => ?_)
  subst hsz
  generalize hAe : va_A (oX7 cI cR ad v) s.heap.size = A at hD ⊢
  have hA : ∀ q : Nat, s.heap.size ≤ q → A q := fun q h => by rw [← hAe]; exact Or.inr h
  have hS : va_S A s.heap s.heap [] := va_S.rf
  have hP : va_P D vwCl [(ad 0, .inr (7, [.int v.1, .ref (ad 1), .ref (ad 2), .ref (ad 3), .int v.2.2.2.2.1, .ref (ad 4), .int v.2.2.2.2.2.2.1, .ref (ad 5), .int v.2.2.2.2.2.2.2.2.1, .int v.2.2.2.2.2.2.2.2.2.1, .int v.2.2.2.2.2.2.2.2.2.2.1, .ref (ad 6), .int v.2.2.2.2.2.2.2.2.2.2.2.2.1, .int v.2.2.2.2.2.2.2.2.2.2.2.2.2.1, .int v.2.2.2.2.2.2.2.2.2.2.2.2.2.2.1, .int v.2.2.2.2.2.2.2.2.2.2.2.2.2.2.2.1, .int v.2.2.2.2.2.2.2.2.2.2.2.2.2.2.2.2.1, .int v.2.2.2.2.2.2.2.2.2.2.2.2.2.2.2.2.2])), (ad 1, .inl (cI, 72, .inl v.2.1)), (ad 2, .inl (cI, 72, .inl v.2.2.1)), (ad 3, .inl (cI, 288, .inl v.2.2.2.1)), (ad 4, .inl (cI, 72, .inl v.2.2.2.2.2.1)), (ad 5, .inl (cI, 60, .inl v.2.2.2.2.2.2.2.1)), (ad 6, .inl (cI, 32768, .inl v.2.2.2.2.2.2.2.2.2.2.2.1))] s.heap := hP
  have hD : va_D A [(ad 0, .inr (7, [.int v.1, .ref (ad 1), .ref (ad 2), .ref (ad 3), .int v.2.2.2.2.1, .ref (ad 4), .int v.2.2.2.2.2.2.1, .ref (ad 5), .int v.2.2.2.2.2.2.2.2.1, .int v.2.2.2.2.2.2.2.2.2.1, .int v.2.2.2.2.2.2.2.2.2.2.1, .ref (ad 6), .int v.2.2.2.2.2.2.2.2.2.2.2.2.1, .int v.2.2.2.2.2.2.2.2.2.2.2.2.2.1, .int v.2.2.2.2.2.2.2.2.2.2.2.2.2.2.1, .int v.2.2.2.2.2.2.2.2.2.2.2.2.2.2.2.1, .int v.2.2.2.2.2.2.2.2.2.2.2.2.2.2.2.2.1, .int v.2.2.2.2.2.2.2.2.2.2.2.2.2.2.2.2.2])), (ad 1, .inl (cI, 72, .inl v.2.1)), (ad 2, .inl (cI, 72, .inl v.2.2.1)), (ad 3, .inl (cI, 288, .inl v.2.2.2.1)), (ad 4, .inl (cI, 72, .inl v.2.2.2.2.2.1)), (ad 5, .inl (cI, 60, .inl v.2.2.2.2.2.2.2.1)), (ad 6, .inl (cI, 32768, .inl v.2.2.2.2.2.2.2.2.2.2.2.1))] := hD
  have L15 : ∀ (nL15 : Nat) (l1 : Int32) (l2 : Int32) (l3 : Int32) (l4 : Int32) (v : tX7) (H : Heap) (locs : List Loc) (ls : Array Slot), va_P D vwCl [(ad 0, .inr (7, [.int v.1, .ref (ad 1), .ref (ad 2), .ref (ad 3), .int v.2.2.2.2.1, .ref (ad 4), .int v.2.2.2.2.2.2.1, .ref (ad 5), .int v.2.2.2.2.2.2.2.2.1, .int v.2.2.2.2.2.2.2.2.2.1, .int v.2.2.2.2.2.2.2.2.2.2.1, .ref (ad 6), .int v.2.2.2.2.2.2.2.2.2.2.2.2.1, .int v.2.2.2.2.2.2.2.2.2.2.2.2.2.1, .int v.2.2.2.2.2.2.2.2.2.2.2.2.2.2.1, .int v.2.2.2.2.2.2.2.2.2.2.2.2.2.2.2.1, .int v.2.2.2.2.2.2.2.2.2.2.2.2.2.2.2.2.1, .int v.2.2.2.2.2.2.2.2.2.2.2.2.2.2.2.2.2])), (ad 1, .inl (cI, 72, .inl v.2.1)), (ad 2, .inl (cI, 72, .inl v.2.2.1)), (ad 3, .inl (cI, 288, .inl v.2.2.2.1)), (ad 4, .inl (cI, 72, .inl v.2.2.2.2.2.1)), (ad 5, .inl (cI, 60, .inl v.2.2.2.2.2.2.2.1)), (ad 6, .inl (cI, 32768, .inl v.2.2.2.2.2.2.2.2.2.2.2.1))] H → va_D A [(ad 0, .inr (7, [.int v.1, .ref (ad 1), .ref (ad 2), .ref (ad 3), .int v.2.2.2.2.1, .ref (ad 4), .int v.2.2.2.2.2.2.1, .ref (ad 5), .int v.2.2.2.2.2.2.2.2.1, .int v.2.2.2.2.2.2.2.2.2.1, .int v.2.2.2.2.2.2.2.2.2.2.1, .ref (ad 6), .int v.2.2.2.2.2.2.2.2.2.2.2.2.1, .int v.2.2.2.2.2.2.2.2.2.2.2.2.2.1, .int v.2.2.2.2.2.2.2.2.2.2.2.2.2.2.1, .int v.2.2.2.2.2.2.2.2.2.2.2.2.2.2.2.1, .int v.2.2.2.2.2.2.2.2.2.2.2.2.2.2.2.2.1, .int v.2.2.2.2.2.2.2.2.2.2.2.2.2.2.2.2.2])), (ad 1, .inl (cI, 72, .inl v.2.1)), (ad 2, .inl (cI, 72, .inl v.2.2.1)), (ad 3, .inl (cI, 288, .inl v.2.2.2.1)), (ad 4, .inl (cI, 72, .inl v.2.2.2.2.2.1)), (ad 5, .inl (cI, 60, .inl v.2.2.2.2.2.2.2.1)), (ad 6, .inl (cI, 32768, .inl v.2.2.2.2.2.2.2.2.2.2.2.1))] → va_S A s.heap H locs → lv_has ls 5 [(0, .ref (ad 0)), (1, .int l1), (2, .int l2), (3, .int l3), (4, .int l4)] → f_X7_greedyNow_L15 nL15 l1 l2 l3 l4 v = some r → W p l e rm_X7_greedyNow s m ([.ref (ad 0)] : List Value).toArray below meth c H locs 0 0 (MQ below (qI D (oX7 cI cR ad r.2) r.1 A) ([.ref (ad 0)] : List Value).toArray s 0 0 A) (F0 m 15 ls []) := by
    intro nL15
    induction nL15 with
    | zero =>
      intro l1 l2 l3 l4 v H locs ls hP hD hS hl hf
      cases hf
    | succ nL15 ih_L15 =>
      have J88 : ∀ (l1 : Int32) (l2 : Int32) (l4 : Int32) (k0 : Int32) (v : tX7) (H : Heap) (locs : List Loc) (ls : Array Slot), va_P D vwCl [(ad 0, .inr (7, [.int v.1, .ref (ad 1), .ref (ad 2), .ref (ad 3), .int v.2.2.2.2.1, .ref (ad 4), .int v.2.2.2.2.2.2.1, .ref (ad 5), .int v.2.2.2.2.2.2.2.2.1, .int v.2.2.2.2.2.2.2.2.2.1, .int v.2.2.2.2.2.2.2.2.2.2.1, .ref (ad 6), .int v.2.2.2.2.2.2.2.2.2.2.2.2.1, .int v.2.2.2.2.2.2.2.2.2.2.2.2.2.1, .int v.2.2.2.2.2.2.2.2.2.2.2.2.2.2.1, .int v.2.2.2.2.2.2.2.2.2.2.2.2.2.2.2.1, .int v.2.2.2.2.2.2.2.2.2.2.2.2.2.2.2.2.1, .int v.2.2.2.2.2.2.2.2.2.2.2.2.2.2.2.2.2])), (ad 1, .inl (cI, 72, .inl v.2.1)), (ad 2, .inl (cI, 72, .inl v.2.2.1)), (ad 3, .inl (cI, 288, .inl v.2.2.2.1)), (ad 4, .inl (cI, 72, .inl v.2.2.2.2.2.1)), (ad 5, .inl (cI, 60, .inl v.2.2.2.2.2.2.2.1)), (ad 6, .inl (cI, 32768, .inl v.2.2.2.2.2.2.2.2.2.2.2.1))] H → va_D A [(ad 0, .inr (7, [.int v.1, .ref (ad 1), .ref (ad 2), .ref (ad 3), .int v.2.2.2.2.1, .ref (ad 4), .int v.2.2.2.2.2.2.1, .ref (ad 5), .int v.2.2.2.2.2.2.2.2.1, .int v.2.2.2.2.2.2.2.2.2.1, .int v.2.2.2.2.2.2.2.2.2.2.1, .ref (ad 6), .int v.2.2.2.2.2.2.2.2.2.2.2.2.1, .int v.2.2.2.2.2.2.2.2.2.2.2.2.2.1, .int v.2.2.2.2.2.2.2.2.2.2.2.2.2.2.1, .int v.2.2.2.2.2.2.2.2.2.2.2.2.2.2.2.1, .int v.2.2.2.2.2.2.2.2.2.2.2.2.2.2.2.2.1, .int v.2.2.2.2.2.2.2.2.2.2.2.2.2.2.2.2.2])), (ad 1, .inl (cI, 72, .inl v.2.1)), (ad 2, .inl (cI, 72, .inl v.2.2.1)), (ad 3, .inl (cI, 288, .inl v.2.2.2.1)), (ad 4, .inl (cI, 72, .inl v.2.2.2.2.2.1)), (ad 5, .inl (cI, 60, .inl v.2.2.2.2.2.2.2.1)), (ad 6, .inl (cI, 32768, .inl v.2.2.2.2.2.2.2.2.2.2.2.1))] → va_S A s.heap H locs → lv_has ls 5 [(0, .ref (ad 0)), (1, .int l1), (2, .int l2), (4, .int l4)] → f_X7_greedyNow_J88 (f_X7_greedyNow_L15 nL15) l1 l2 l4 k0 v = some r → W p l e rm_X7_greedyNow s m ([.ref (ad 0)] : List Value).toArray below meth c H locs 0 0 (MQ below (qI D (oX7 cI cR ad r.2) r.1 A) ([.ref (ad 0)] : List Value).toArray s 0 0 A) (F0 m 88 ls [.int k0]) := by
        intro l1 l2 l4 k0 v H locs ls hP hD hS hl hf
        unfold f_X7_greedyNow_J88 at hf
        refine lv_istore_n (lv' := [(3, .int k0), (0, .ref (ad 0)), (1, .int l1), (2, .int l2), (4, .int l4)]) hx hb dX7_greedyNow_88 rfl hl (by decide) rfl (fun ls hl => ?_)
        refine lv_iinc (v := (l4 + (1 : Int32))) (lv' := [(4, .int (l4 + (1 : Int32))), (3, .int k0), (0, .ref (ad 0)), (1, .int l1), (2, .int l2)]) hx hb dX7_greedyNow_89 hl (k := 4) rfl rfl (by decide) rfl (fun ls hl => ?_)
        refine lv_goto (tgt := 15) hx hb dX7_greedyNow_92 (by decide) ?_
        exact ih_L15 l1 l2 k0 (l4 + (1 : Int32)) v _ _ ls hP hD hS (lv_sub hl [2, 3, 4, 1, 0] rfl) hf
      have J71 : ∀ (l1 : Int32) (l3 : Int32) (l4 : Int32) (k0 : Int32) (v : tX7) (H : Heap) (locs : List Loc) (ls : Array Slot), va_P D vwCl [(ad 0, .inr (7, [.int v.1, .ref (ad 1), .ref (ad 2), .ref (ad 3), .int v.2.2.2.2.1, .ref (ad 4), .int v.2.2.2.2.2.2.1, .ref (ad 5), .int v.2.2.2.2.2.2.2.2.1, .int v.2.2.2.2.2.2.2.2.2.1, .int v.2.2.2.2.2.2.2.2.2.2.1, .ref (ad 6), .int v.2.2.2.2.2.2.2.2.2.2.2.2.1, .int v.2.2.2.2.2.2.2.2.2.2.2.2.2.1, .int v.2.2.2.2.2.2.2.2.2.2.2.2.2.2.1, .int v.2.2.2.2.2.2.2.2.2.2.2.2.2.2.2.1, .int v.2.2.2.2.2.2.2.2.2.2.2.2.2.2.2.2.1, .int v.2.2.2.2.2.2.2.2.2.2.2.2.2.2.2.2.2])), (ad 1, .inl (cI, 72, .inl v.2.1)), (ad 2, .inl (cI, 72, .inl v.2.2.1)), (ad 3, .inl (cI, 288, .inl v.2.2.2.1)), (ad 4, .inl (cI, 72, .inl v.2.2.2.2.2.1)), (ad 5, .inl (cI, 60, .inl v.2.2.2.2.2.2.2.1)), (ad 6, .inl (cI, 32768, .inl v.2.2.2.2.2.2.2.2.2.2.2.1))] H → va_D A [(ad 0, .inr (7, [.int v.1, .ref (ad 1), .ref (ad 2), .ref (ad 3), .int v.2.2.2.2.1, .ref (ad 4), .int v.2.2.2.2.2.2.1, .ref (ad 5), .int v.2.2.2.2.2.2.2.2.1, .int v.2.2.2.2.2.2.2.2.2.1, .int v.2.2.2.2.2.2.2.2.2.2.1, .ref (ad 6), .int v.2.2.2.2.2.2.2.2.2.2.2.2.1, .int v.2.2.2.2.2.2.2.2.2.2.2.2.2.1, .int v.2.2.2.2.2.2.2.2.2.2.2.2.2.2.1, .int v.2.2.2.2.2.2.2.2.2.2.2.2.2.2.2.1, .int v.2.2.2.2.2.2.2.2.2.2.2.2.2.2.2.2.1, .int v.2.2.2.2.2.2.2.2.2.2.2.2.2.2.2.2.2])), (ad 1, .inl (cI, 72, .inl v.2.1)), (ad 2, .inl (cI, 72, .inl v.2.2.1)), (ad 3, .inl (cI, 288, .inl v.2.2.2.1)), (ad 4, .inl (cI, 72, .inl v.2.2.2.2.2.1)), (ad 5, .inl (cI, 60, .inl v.2.2.2.2.2.2.2.1)), (ad 6, .inl (cI, 32768, .inl v.2.2.2.2.2.2.2.2.2.2.2.1))] → va_S A s.heap H locs → lv_has ls 5 [(0, .ref (ad 0)), (1, .int l1), (3, .int l3), (4, .int l4)] → f_X7_greedyNow_J71 (f_X7_greedyNow_L15 nL15) l1 l3 l4 k0 v = some r → W p l e rm_X7_greedyNow s m ([.ref (ad 0)] : List Value).toArray below meth c H locs 0 0 (MQ below (qI D (oX7 cI cR ad r.2) r.1 A) ([.ref (ad 0)] : List Value).toArray s 0 0 A) (F0 m 71 ls [.int k0]) := by
        intro l1 l3 l4 k0 v H locs ls hP hD hS hl hf
        unfold f_X7_greedyNow_J71 at hf
        refine lv_istore_n (lv' := [(2, .int k0), (0, .ref (ad 0)), (1, .int l1), (3, .int l3), (4, .int l4)]) hx hb dX7_greedyNow_71 rfl hl (by decide) rfl (fun ls hl => ?_)
        refine lv_aload_n hx hb dX7_greedyNow_72 rfl (lv_at hl 1 rfl) ?_
        refine va_get (D := D) (ci := 7) (v := .int v.2.2.2.2.2.2.2.2.2.2.2.2.2.1) (C := RX7) (T := TX7) (N := 18) hx hb hts inA_X7 hown hK hP 0 rfl rfl 13 (by decide) (hts _ kF_X7_63) (fun _ h9 => h9) rfl dX7_greedyNow_73 ?_
        refine lv_iload_n hx hb dX7_greedyNow_76 rfl (lv_at hl 3 rfl) ?_
        refine lv_icmp_le (tgt := 87) hx hb dX7_greedyNow_77 (by decide) (fun c0 => ?_) (fun c0 => ?_)
        · replace hf := gT hf c0
          refine lv_iload_n hx hb dX7_greedyNow_87 rfl (lv_at hl 3 rfl) ?_
          exact J88 l1 k0 l4 l3 v _ _ ls hP hD hS (lv_sub hl [1, 2, 0, 4] rfl) hf
        · replace hf := gF hf c0
          refine lv_aload_n hx hb dX7_greedyNow_80 rfl (lv_at hl 1 rfl) ?_
          refine va_get (D := D) (ci := 7) (v := .int v.2.2.2.2.2.2.2.2.2.2.2.2.2.1) (C := RX7) (T := TX7) (N := 18) hx hb hts inA_X7 hown hK hP 0 rfl rfl 13 (by decide) (hts _ kF_X7_63) (fun _ h9 => h9) rfl dX7_greedyNow_81 ?_
          refine lv_goto (tgt := 88) hx hb dX7_greedyNow_84 (by decide) ?_
          exact J88 l1 k0 l4 v.2.2.2.2.2.2.2.2.2.2.2.2.2.1 v _ _ ls hP hD hS (lv_sub hl [1, 2, 0, 4] rfl) hf
      intro l1 l2 l3 l4 v H locs ls hP hD hS hl hf
      rw [f_X7_greedyNow_L15] at hf
      refine lv_iload hx hb dX7_greedyNow_15 (lv_at hl 4 rfl) ?_
      refine lv_aload_n hx hb dX7_greedyNow_17 rfl (lv_at hl 0 rfl) ?_
      refine va_get (D := D) (ci := 7) (v := .ref (ad 1)) (C := RX7) (T := TX7) (N := 18) hx hb hts inA_X7 hown hK hP 0 rfl rfl 1 (by decide) (hts _ kF_X7_7) (fun _ h9 => h9) rfl dX7_greedyNow_18 ?_
      refine lv_iconst (v := (0 : Int32)) hx hb dX7_greedyNow_21 (by decide) ?_
      refine va_iald hx hb hK hP 1 0 rfl rfl (ig_in (by decide)) dX7_greedyNow_22 ?_
      refine W.eq (g2 := F0 m 23 ls [.int (v.2.1 0), .int l4]) rfl ?_
      refine lv_icmp_gt (tgt := 95) hx hb dX7_greedyNow_23 (by decide) (fun c1 => ?_) (fun c1 => ?_)
      · replace hf := gT hf c1
        refine lv_iload_n hx hb dX7_greedyNow_95 rfl (lv_at hl 2 rfl) ?_
        exact z_i hf (fun r => r.1) (fun r => oX7 cI cR ad r.2) hx hb hr hlk hS hP hD dX7_greedyNow_96
      · replace hf := gF hf c1
        refine lv_aload_n hx hb dX7_greedyNow_26 rfl (lv_at hl 0 rfl) ?_
        refine lv_iload_n hx hb dX7_greedyNow_27 rfl (lv_at hl 1 rfl) ?_
        refine lv_iconst (v := (2 : Int32)) hx hb dX7_greedyNow_28 (by decide) ?_
        obtain ⟨x0, hcx0, hf⟩ := gB hf
        refine k_r (r_V (As := [.int l1, .int (2 : Int32)]) (rest := []) (n := 2) ⟨hx, hb, hml, hown, hts⟩ (c_X7_of l D cI cR ad v l1 (2 : Int32) _ x0 hcx0) kM_X7_123 kN_X7_of kV_X7_of kZ_X7 kK_X7_of ⟨rfl, rfl⟩ ⟨(Nat.le_of_ble_eq_true rfl), (Nat.le_of_ble_eq_true rfl)⟩ pd_X7_of rfl hK hN hP hD [0, 1, 2, 3, 4, 5, 6] rfl rfl 0 7 rfl rfl rfl hl.1 (Nat.le_of_ble_eq_true rfl) dX7_greedyNow_29 ⟨(Nat.le_of_ble_eq_true rfl), (Nat.le_of_ble_eq_true rfl)⟩) ?_
        refine lv_if_ne (tgt := 95) hx hb dX7_greedyNow_32 (by decide) (fun c2 => ?_) (fun c2 => ?_)
        · replace hf := gF hf c2
          refine lv_iload_n hx hb dX7_greedyNow_95 rfl (lv_at hl 2 rfl) ?_
          exact z_i hf (fun r => r.1) (fun r => oX7 cI cR ad r.2) hx hb hr hlk hS hP hD dX7_greedyNow_96
        · replace hf := gT hf c2
          refine lv_aload_n hx hb dX7_greedyNow_35 rfl (lv_at hl 0 rfl) ?_
          refine lv_aload_n hx hb dX7_greedyNow_36 rfl (lv_at hl 0 rfl) ?_
          refine lv_iload_n hx hb dX7_greedyNow_37 rfl (lv_at hl 1 rfl) ?_
          refine lv_iconst (v := (0 : Int32)) hx hb dX7_greedyNow_38 (by decide) ?_
          obtain ⟨x1, hcx1, hf⟩ := gB hf
          refine k_r (r_V (As := [.int l1, .int (0 : Int32)]) (rest := [.ref (ad 0)]) (n := 2) ⟨hx, hb, hml, hown, hts⟩ (c_X7_of l D cI cR ad v l1 (0 : Int32) _ x1 hcx1) kM_X7_123 kN_X7_of kV_X7_of kZ_X7 kK_X7_of ⟨rfl, rfl⟩ ⟨(Nat.le_of_ble_eq_true rfl), (Nat.le_of_ble_eq_true rfl)⟩ pd_X7_of rfl hK hN hP hD [0, 1, 2, 3, 4, 5, 6] rfl rfl 0 7 rfl rfl rfl hl.1 (Nat.le_of_ble_eq_true rfl) dX7_greedyNow_39 ⟨(Nat.le_of_ble_eq_true rfl), (Nat.le_of_ble_eq_true rfl)⟩) ?_
          refine lv_aload_n hx hb dX7_greedyNow_42 rfl (lv_at hl 0 rfl) ?_
          refine lv_iconst (v := (1 : Int32)) hx hb dX7_greedyNow_43 (by decide) ?_
          refine lv_iload_n hx hb dX7_greedyNow_44 rfl (lv_at hl 1 rfl) ?_
          refine lv_isub hx hb dX7_greedyNow_45 ?_
          refine lv_iconst (v := (0 : Int32)) hx hb dX7_greedyNow_46 (by decide) ?_
          obtain ⟨x2, hcx2, hf⟩ := gB hf
          refine k_r (r_V (As := [.int ((1 : Int32) - l1), .int (0 : Int32)]) (rest := [.int x1, .ref (ad 0)]) (n := 2) ⟨hx, hb, hml, hown, hts⟩ (c_X7_of l D cI cR ad v ((1 : Int32) - l1) (0 : Int32) _ x2 hcx2) kM_X7_123 kN_X7_of kV_X7_of kZ_X7 kK_X7_of ⟨rfl, rfl⟩ ⟨(Nat.le_of_ble_eq_true rfl), (Nat.le_of_ble_eq_true rfl)⟩ pd_X7_of rfl hK hN hP hD [0, 1, 2, 3, 4, 5, 6] rfl rfl 0 7 rfl rfl rfl hl.1 (Nat.le_of_ble_eq_true rfl) dX7_greedyNow_47 ⟨(Nat.le_of_ble_eq_true rfl), (Nat.le_of_ble_eq_true rfl)⟩) ?_
          refine lv_iload hx hb dX7_greedyNow_50 (lv_at hl 4 rfl) ?_
          refine lv_bipush (v := (-4 : Int32)) hx hb dX7_greedyNow_52 (by decide) ?_
          obtain ⟨x3, hcx3, hf⟩ := gB hf
          refine j_v (wr := []) (w_V (As := [.int x1, .int x2, .int l4, .int (-4 : Int32)]) (rest := []) (n := 4) ⟨hx, hb, hml, hown, hts⟩ (c_X7_drives l D cI cR ad v x1 x2 l4 (-4 : Int32) _ x3 hcx3) kM_X7_85 kN_X7_drives kV_X7_drives kZ_X7 kK_X7_drives ⟨rfl, rfl⟩ ⟨(Nat.le_of_ble_eq_true rfl), (Nat.le_of_ble_eq_true rfl)⟩ pd_X7_drives rfl hK hN hP hD [0, 1, 2, 3, 4, 5, 6] rfl rfl 0 7 rfl rfl rfl hl.1 (Nat.le_of_ble_eq_true rfl) dX7_greedyNow_54 ⟨(Nat.le_of_ble_eq_true rfl), (Nat.le_of_ble_eq_true rfl)⟩) hP hD hS hA [0, 1, 2, 3, 4, 5, 6] [] rfl rfl rfl (by decide) (fun H locs hP hD hS => ?_)
          have hP : va_P D vwCl [(ad 0, .inr (7, [.int x3.1, .ref (ad 1), .ref (ad 2), .ref (ad 3), .int x3.2.2.2.2.1, .ref (ad 4), .int x3.2.2.2.2.2.2.1, .ref (ad 5), .int x3.2.2.2.2.2.2.2.2.1, .int x3.2.2.2.2.2.2.2.2.2.1, .int x3.2.2.2.2.2.2.2.2.2.2.1, .ref (ad 6), .int x3.2.2.2.2.2.2.2.2.2.2.2.2.1, .int x3.2.2.2.2.2.2.2.2.2.2.2.2.2.1, .int x3.2.2.2.2.2.2.2.2.2.2.2.2.2.2.1, .int x3.2.2.2.2.2.2.2.2.2.2.2.2.2.2.2.1, .int x3.2.2.2.2.2.2.2.2.2.2.2.2.2.2.2.2.1, .int x3.2.2.2.2.2.2.2.2.2.2.2.2.2.2.2.2.2])), (ad 1, .inl (cI, 72, .inl x3.2.1)), (ad 2, .inl (cI, 72, .inl x3.2.2.1)), (ad 3, .inl (cI, 288, .inl x3.2.2.2.1)), (ad 4, .inl (cI, 72, .inl x3.2.2.2.2.2.1)), (ad 5, .inl (cI, 60, .inl x3.2.2.2.2.2.2.2.1)), (ad 6, .inl (cI, 32768, .inl x3.2.2.2.2.2.2.2.2.2.2.2.1))] H := hP
          have hD : va_D A [(ad 0, .inr (7, [.int x3.1, .ref (ad 1), .ref (ad 2), .ref (ad 3), .int x3.2.2.2.2.1, .ref (ad 4), .int x3.2.2.2.2.2.2.1, .ref (ad 5), .int x3.2.2.2.2.2.2.2.2.1, .int x3.2.2.2.2.2.2.2.2.2.1, .int x3.2.2.2.2.2.2.2.2.2.2.1, .ref (ad 6), .int x3.2.2.2.2.2.2.2.2.2.2.2.2.1, .int x3.2.2.2.2.2.2.2.2.2.2.2.2.2.1, .int x3.2.2.2.2.2.2.2.2.2.2.2.2.2.2.1, .int x3.2.2.2.2.2.2.2.2.2.2.2.2.2.2.2.1, .int x3.2.2.2.2.2.2.2.2.2.2.2.2.2.2.2.2.1, .int x3.2.2.2.2.2.2.2.2.2.2.2.2.2.2.2.2.2])), (ad 1, .inl (cI, 72, .inl x3.2.1)), (ad 2, .inl (cI, 72, .inl x3.2.2.1)), (ad 3, .inl (cI, 288, .inl x3.2.2.2.1)), (ad 4, .inl (cI, 72, .inl x3.2.2.2.2.2.1)), (ad 5, .inl (cI, 60, .inl x3.2.2.2.2.2.2.2.1)), (ad 6, .inl (cI, 32768, .inl x3.2.2.2.2.2.2.2.2.2.2.2.1))] := hD
          refine lv_aload_n hx hb dX7_greedyNow_57 rfl (lv_at hl 0 rfl) ?_
          refine va_get (D := D) (ci := 7) (v := .int x3.2.2.2.2.2.2.2.2.2.2.2.2.2.1) (C := RX7) (T := TX7) (N := 18) hx hb hts inA_X7 hown hK hP 0 rfl rfl 13 (by decide) (hts _ kF_X7_63) (fun _ h9 => h9) rfl dX7_greedyNow_58 ?_
          refine lv_iload_n hx hb dX7_greedyNow_61 rfl (lv_at hl 3 rfl) ?_
          refine lv_icmp_le (tgt := 70) hx hb dX7_greedyNow_62 (by decide) (fun c3 => ?_) (fun c3 => ?_)
          · replace hf := gT hf c3
            refine lv_iload_n hx hb dX7_greedyNow_70 rfl (lv_at hl 2 rfl) ?_
            exact J71 l1 l3 l4 l2 x3 _ _ ls hP hD hS (lv_sub hl [0, 1, 3, 4] rfl) hf
          · replace hf := gF hf c3
            refine lv_iload hx hb dX7_greedyNow_65 (lv_at hl 4 rfl) ?_
            refine lv_goto (tgt := 71) hx hb dX7_greedyNow_67 (by decide) ?_
            exact J71 l1 l3 l4 l4 x3 _ _ ls hP hD hS (lv_sub hl [0, 1, 3, 4] rfl) hf
  unfold f_X7_greedyNow at hf
  refine lv_aload_n hx hb dX7_greedyNow_0 rfl (lv_at hl 0 rfl) ?_
  refine va_get (D := D) (ci := 7) (v := .ref (ad 1)) (C := RX7) (T := TX7) (N := 18) hx hb hts inA_X7 hown hK hP 0 rfl rfl 1 (by decide) (hts _ kF_X7_7) (fun _ h9 => h9) rfl dX7_greedyNow_1 ?_
  refine lv_bipush (v := (17 : Int32)) hx hb dX7_greedyNow_4 (by decide) ?_
  refine va_iald hx hb hK hP 1 0 rfl rfl (ig_in (by decide)) dX7_greedyNow_6 ?_
  refine W.eq (g2 := F0 m 7 ls [.int (v.2.1 17)]) rfl ?_
  refine lv_istore_n (lv' := [(1, .int (v.2.1 17)), (0, .ref (ad 0))]) hx hb dX7_greedyNow_7 rfl hl (by decide) rfl (fun ls hl => ?_)
  refine lv_iconst (v := (0 : Int32)) hx hb dX7_greedyNow_8 (by decide) ?_
  refine lv_istore_n (lv' := [(2, .int (0 : Int32)), (1, .int (v.2.1 17)), (0, .ref (ad 0))]) hx hb dX7_greedyNow_9 rfl hl (by decide) rfl (fun ls hl => ?_)
  refine lv_iconst (v := (-1 : Int32)) hx hb dX7_greedyNow_10 (by decide) ?_
  refine lv_istore_n (lv' := [(3, .int (-1 : Int32)), (2, .int (0 : Int32)), (1, .int (v.2.1 17)), (0, .ref (ad 0))]) hx hb dX7_greedyNow_11 rfl hl (by decide) rfl (fun ls hl => ?_)
  refine lv_iconst (v := (1 : Int32)) hx hb dX7_greedyNow_12 (by decide) ?_
  refine lv_istore (lv' := [(4, .int (1 : Int32)), (3, .int (-1 : Int32)), (2, .int (0 : Int32)), (1, .int (v.2.1 17)), (0, .ref (ad 0))]) hx hb dX7_greedyNow_13 hl (by decide) rfl (fun ls hl => ?_)
  exact L15 gas (v.2.1 17) (0 : Int32) (-1 : Int32) (1 : Int32) v _ _ ls hP hD hS (lv_sub hl [4, 3, 2, 1, 0] rfl) hf
def f_X7_lay (v : tX7) (p1 : Int32) (p2 : Int32) (p3 : Int32) : Option tX7 :=
  (if ig (((23 : Int32) + ((8 : Int32) * p1)) + p2) 72 = true then some (v.1, (upd v.2.1 (((23 : Int32) + ((8 : Int32) * p1)) + p2).toNatClampNeg p3), v.2.2.1, v.2.2.2.1, v.2.2.2.2.1, v.2.2.2.2.2.1, v.2.2.2.2.2.2.1, v.2.2.2.2.2.2.2.1, v.2.2.2.2.2.2.2.2.1, v.2.2.2.2.2.2.2.2.2.1, v.2.2.2.2.2.2.2.2.2.2.1, v.2.2.2.2.2.2.2.2.2.2.2.1, v.2.2.2.2.2.2.2.2.2.2.2.2.1, v.2.2.2.2.2.2.2.2.2.2.2.2.2.1, v.2.2.2.2.2.2.2.2.2.2.2.2.2.2.1, v.2.2.2.2.2.2.2.2.2.2.2.2.2.2.2.1, v.2.2.2.2.2.2.2.2.2.2.2.2.2.2.2.2.1, v.2.2.2.2.2.2.2.2.2.2.2.2.2.2.2.2.2) else none)
abbrev rm_X7_lay : Room := { frames := 0, cells := 0, slots := 0, locals := 0 }
set_option maxHeartbeats 4000000 in
set_option maxRecDepth 100000 in
theorem c_X7_lay (l : Launch) (D : va_G) (cI cR : ClassId) (ad : Nat → Nat) (v : tX7) (p1 : Int32) (p2 : Int32) (p3 : Int32) (sz : Nat) (r : tX7) (hf : f_X7_lay v p1 p2 p3 = some r) : Met l yX7_lay (wM yX7_lay cX7_lay 4 none) rm_X7_lay (cPre D (tysA cI cR) ([.ref (ad 0), .int p1, .int p2, .int p3] : List Value) (oX7 cI cR ad v) sz) (qV D (oX7 cI cR ad r) (va_A (oX7 cI cR ad v) sz)) 0 0 (va_A (oX7 cI cR ad v) sz) := by
  refine en_M (own := RX7) (lv := [(0, .ref (ad 0)), (1, .int p1), (2, .int p2), (3, .int p3)]) (by decide +kernel) rfl (Nat.le_of_ble_eq_true rfl) rfl (fun p e s m below meth c hx hb hr hlk hml hown hnm hts hsz hP hK hD hN ls hl => ?_)
  subst hsz
  generalize hAe : va_A (oX7 cI cR ad v) s.heap.size = A at hD ⊢
  have hA : ∀ q : Nat, s.heap.size ≤ q → A q := fun q h => by rw [← hAe]; exact Or.inr h
  have hS : va_S A s.heap s.heap [] := va_S.rf
  have hP : va_P D vwCl [(ad 0, .inr (7, [.int v.1, .ref (ad 1), .ref (ad 2), .ref (ad 3), .int v.2.2.2.2.1, .ref (ad 4), .int v.2.2.2.2.2.2.1, .ref (ad 5), .int v.2.2.2.2.2.2.2.2.1, .int v.2.2.2.2.2.2.2.2.2.1, .int v.2.2.2.2.2.2.2.2.2.2.1, .ref (ad 6), .int v.2.2.2.2.2.2.2.2.2.2.2.2.1, .int v.2.2.2.2.2.2.2.2.2.2.2.2.2.1, .int v.2.2.2.2.2.2.2.2.2.2.2.2.2.2.1, .int v.2.2.2.2.2.2.2.2.2.2.2.2.2.2.2.1, .int v.2.2.2.2.2.2.2.2.2.2.2.2.2.2.2.2.1, .int v.2.2.2.2.2.2.2.2.2.2.2.2.2.2.2.2.2])), (ad 1, .inl (cI, 72, .inl v.2.1)), (ad 2, .inl (cI, 72, .inl v.2.2.1)), (ad 3, .inl (cI, 288, .inl v.2.2.2.1)), (ad 4, .inl (cI, 72, .inl v.2.2.2.2.2.1)), (ad 5, .inl (cI, 60, .inl v.2.2.2.2.2.2.2.1)), (ad 6, .inl (cI, 32768, .inl v.2.2.2.2.2.2.2.2.2.2.2.1))] s.heap := hP
  have hD : va_D A [(ad 0, .inr (7, [.int v.1, .ref (ad 1), .ref (ad 2), .ref (ad 3), .int v.2.2.2.2.1, .ref (ad 4), .int v.2.2.2.2.2.2.1, .ref (ad 5), .int v.2.2.2.2.2.2.2.2.1, .int v.2.2.2.2.2.2.2.2.2.1, .int v.2.2.2.2.2.2.2.2.2.2.1, .ref (ad 6), .int v.2.2.2.2.2.2.2.2.2.2.2.2.1, .int v.2.2.2.2.2.2.2.2.2.2.2.2.2.1, .int v.2.2.2.2.2.2.2.2.2.2.2.2.2.2.1, .int v.2.2.2.2.2.2.2.2.2.2.2.2.2.2.2.1, .int v.2.2.2.2.2.2.2.2.2.2.2.2.2.2.2.2.1, .int v.2.2.2.2.2.2.2.2.2.2.2.2.2.2.2.2.2])), (ad 1, .inl (cI, 72, .inl v.2.1)), (ad 2, .inl (cI, 72, .inl v.2.2.1)), (ad 3, .inl (cI, 288, .inl v.2.2.2.1)), (ad 4, .inl (cI, 72, .inl v.2.2.2.2.2.1)), (ad 5, .inl (cI, 60, .inl v.2.2.2.2.2.2.2.1)), (ad 6, .inl (cI, 32768, .inl v.2.2.2.2.2.2.2.2.2.2.2.1))] := hD
  unfold f_X7_lay at hf
  refine lv_aload_n hx hb dX7_lay_0 rfl (lv_at hl 0 rfl) ?_
  refine va_get (D := D) (ci := 7) (v := .ref (ad 1)) (C := RX7) (T := TX7) (N := 18) hx hb hts inA_X7 hown hK hP 0 rfl rfl 1 (by decide) (hts _ kF_X7_7) (fun _ h9 => h9) rfl dX7_lay_1 ?_
  refine lv_bipush (v := (23 : Int32)) hx hb dX7_lay_4 (by decide) ?_
  refine lv_bipush (v := (8 : Int32)) hx hb dX7_lay_6 (by decide) ?_
  refine lv_iload_n hx hb dX7_lay_8 rfl (lv_at hl 1 rfl) ?_
  refine lv_imul hx hb dX7_lay_9 ?_
  refine lv_iadd hx hb dX7_lay_10 ?_
  refine lv_iload_n hx hb dX7_lay_11 rfl (lv_at hl 2 rfl) ?_
  refine lv_iadd hx hb dX7_lay_12 ?_
  refine lv_iload_n hx hb dX7_lay_13 rfl (lv_at hl 3 rfl) ?_
  obtain ⟨g0, hf⟩ := gd hf
  refine va_iast hx hb hK hP hD hS 1 0 rfl rfl (ig_in g0) dX7_lay_14 (fun H locs hP hD hS => ?_)
  have hP : va_P D vwCl [(ad 0, .inr (7, [.int v.1, .ref (ad 1), .ref (ad 2), .ref (ad 3), .int v.2.2.2.2.1, .ref (ad 4), .int v.2.2.2.2.2.2.1, .ref (ad 5), .int v.2.2.2.2.2.2.2.2.1, .int v.2.2.2.2.2.2.2.2.2.1, .int v.2.2.2.2.2.2.2.2.2.2.1, .ref (ad 6), .int v.2.2.2.2.2.2.2.2.2.2.2.2.1, .int v.2.2.2.2.2.2.2.2.2.2.2.2.2.1, .int v.2.2.2.2.2.2.2.2.2.2.2.2.2.2.1, .int v.2.2.2.2.2.2.2.2.2.2.2.2.2.2.2.1, .int v.2.2.2.2.2.2.2.2.2.2.2.2.2.2.2.2.1, .int v.2.2.2.2.2.2.2.2.2.2.2.2.2.2.2.2.2])), (ad 1, .inl (cI, 72, .inl (upd v.2.1 (((23 : Int32) + ((8 : Int32) * p1)) + p2).toNatClampNeg p3))), (ad 2, .inl (cI, 72, .inl v.2.2.1)), (ad 3, .inl (cI, 288, .inl v.2.2.2.1)), (ad 4, .inl (cI, 72, .inl v.2.2.2.2.2.1)), (ad 5, .inl (cI, 60, .inl v.2.2.2.2.2.2.2.1)), (ad 6, .inl (cI, 32768, .inl v.2.2.2.2.2.2.2.2.2.2.2.1))] H := hP
  have hD : va_D A [(ad 0, .inr (7, [.int v.1, .ref (ad 1), .ref (ad 2), .ref (ad 3), .int v.2.2.2.2.1, .ref (ad 4), .int v.2.2.2.2.2.2.1, .ref (ad 5), .int v.2.2.2.2.2.2.2.2.1, .int v.2.2.2.2.2.2.2.2.2.1, .int v.2.2.2.2.2.2.2.2.2.2.1, .ref (ad 6), .int v.2.2.2.2.2.2.2.2.2.2.2.2.1, .int v.2.2.2.2.2.2.2.2.2.2.2.2.2.1, .int v.2.2.2.2.2.2.2.2.2.2.2.2.2.2.1, .int v.2.2.2.2.2.2.2.2.2.2.2.2.2.2.2.1, .int v.2.2.2.2.2.2.2.2.2.2.2.2.2.2.2.2.1, .int v.2.2.2.2.2.2.2.2.2.2.2.2.2.2.2.2.2])), (ad 1, .inl (cI, 72, .inl (upd v.2.1 (((23 : Int32) + ((8 : Int32) * p1)) + p2).toNatClampNeg p3))), (ad 2, .inl (cI, 72, .inl v.2.2.1)), (ad 3, .inl (cI, 288, .inl v.2.2.2.1)), (ad 4, .inl (cI, 72, .inl v.2.2.2.2.2.1)), (ad 5, .inl (cI, 60, .inl v.2.2.2.2.2.2.2.1)), (ad 6, .inl (cI, 32768, .inl v.2.2.2.2.2.2.2.2.2.2.2.1))] := hD
  exact z_v hf (fun r => oX7 cI cR ad r) hx hb hr hlk hS hP hD dX7_lay_15
def f_X7_goesOn (v : tX7) : Option tX7 :=
  (f_X7_of v (v.2.1 17) (3 : Int32)).bind fun x0 => (f_X7_lay v (v.2.1 17) (3 : Int32) (x0 + (1 : Int32))).bind fun x1 => some (x1.1, (upd (upd x1.2.1 18 ((x1.2.1 18) + (1 : Int32))) 17 ((1 : Int32) - (v.2.1 17))), x1.2.2.1, x1.2.2.2.1, x1.2.2.2.2.1, x1.2.2.2.2.2.1, x1.2.2.2.2.2.2.1, x1.2.2.2.2.2.2.2.1, x1.2.2.2.2.2.2.2.2.1, x1.2.2.2.2.2.2.2.2.2.1, x1.2.2.2.2.2.2.2.2.2.2.1, x1.2.2.2.2.2.2.2.2.2.2.2.1, x1.2.2.2.2.2.2.2.2.2.2.2.2.1, x1.2.2.2.2.2.2.2.2.2.2.2.2.2.1, x1.2.2.2.2.2.2.2.2.2.2.2.2.2.2.1, x1.2.2.2.2.2.2.2.2.2.2.2.2.2.2.2.1, x1.2.2.2.2.2.2.2.2.2.2.2.2.2.2.2.2.1, x1.2.2.2.2.2.2.2.2.2.2.2.2.2.2.2.2.2)
abbrev rm_X7_goesOn : Room := { frames := 1, cells := 0, slots := 0, locals := 23 }
set_option maxHeartbeats 4000000 in
set_option maxRecDepth 100000 in
theorem c_X7_goesOn (l : Launch) (D : va_G) (cI cR : ClassId) (ad : Nat → Nat) (v : tX7) (sz : Nat) (r : tX7) (hf : f_X7_goesOn v = some r) : Met l yX7_goesOn (wM yX7_goesOn cX7_goesOn 2 none) rm_X7_goesOn (cPre D (tysA cI cR) ([.ref (ad 0)] : List Value) (oX7 cI cR ad v) sz) (qV D (oX7 cI cR ad r) (va_A (oX7 cI cR ad v) sz)) 0 0 (va_A (oX7 cI cR ad v) sz) := by
  refine en_M (own := RX7) (lv := [(0, .ref (ad 0))]) (by decide +kernel) rfl (Nat.le_of_ble_eq_true rfl) rfl (fun p e s m below meth c hx hb hr hlk hml hown hnm hts hsz hP hK hD hN ls hl => ?_)
  subst hsz
  generalize hAe : va_A (oX7 cI cR ad v) s.heap.size = A at hD ⊢
  have hA : ∀ q : Nat, s.heap.size ≤ q → A q := fun q h => by rw [← hAe]; exact Or.inr h
  have hS : va_S A s.heap s.heap [] := va_S.rf
  have hP : va_P D vwCl [(ad 0, .inr (7, [.int v.1, .ref (ad 1), .ref (ad 2), .ref (ad 3), .int v.2.2.2.2.1, .ref (ad 4), .int v.2.2.2.2.2.2.1, .ref (ad 5), .int v.2.2.2.2.2.2.2.2.1, .int v.2.2.2.2.2.2.2.2.2.1, .int v.2.2.2.2.2.2.2.2.2.2.1, .ref (ad 6), .int v.2.2.2.2.2.2.2.2.2.2.2.2.1, .int v.2.2.2.2.2.2.2.2.2.2.2.2.2.1, .int v.2.2.2.2.2.2.2.2.2.2.2.2.2.2.1, .int v.2.2.2.2.2.2.2.2.2.2.2.2.2.2.2.1, .int v.2.2.2.2.2.2.2.2.2.2.2.2.2.2.2.2.1, .int v.2.2.2.2.2.2.2.2.2.2.2.2.2.2.2.2.2])), (ad 1, .inl (cI, 72, .inl v.2.1)), (ad 2, .inl (cI, 72, .inl v.2.2.1)), (ad 3, .inl (cI, 288, .inl v.2.2.2.1)), (ad 4, .inl (cI, 72, .inl v.2.2.2.2.2.1)), (ad 5, .inl (cI, 60, .inl v.2.2.2.2.2.2.2.1)), (ad 6, .inl (cI, 32768, .inl v.2.2.2.2.2.2.2.2.2.2.2.1))] s.heap := hP
  have hD : va_D A [(ad 0, .inr (7, [.int v.1, .ref (ad 1), .ref (ad 2), .ref (ad 3), .int v.2.2.2.2.1, .ref (ad 4), .int v.2.2.2.2.2.2.1, .ref (ad 5), .int v.2.2.2.2.2.2.2.2.1, .int v.2.2.2.2.2.2.2.2.2.1, .int v.2.2.2.2.2.2.2.2.2.2.1, .ref (ad 6), .int v.2.2.2.2.2.2.2.2.2.2.2.2.1, .int v.2.2.2.2.2.2.2.2.2.2.2.2.2.1, .int v.2.2.2.2.2.2.2.2.2.2.2.2.2.2.1, .int v.2.2.2.2.2.2.2.2.2.2.2.2.2.2.2.1, .int v.2.2.2.2.2.2.2.2.2.2.2.2.2.2.2.2.1, .int v.2.2.2.2.2.2.2.2.2.2.2.2.2.2.2.2.2])), (ad 1, .inl (cI, 72, .inl v.2.1)), (ad 2, .inl (cI, 72, .inl v.2.2.1)), (ad 3, .inl (cI, 288, .inl v.2.2.2.1)), (ad 4, .inl (cI, 72, .inl v.2.2.2.2.2.1)), (ad 5, .inl (cI, 60, .inl v.2.2.2.2.2.2.2.1)), (ad 6, .inl (cI, 32768, .inl v.2.2.2.2.2.2.2.2.2.2.2.1))] := hD
  unfold f_X7_goesOn at hf
  refine lv_aload_n hx hb dX7_goesOn_0 rfl (lv_at hl 0 rfl) ?_
  refine va_get (D := D) (ci := 7) (v := .ref (ad 1)) (C := RX7) (T := TX7) (N := 18) hx hb hts inA_X7 hown hK hP 0 rfl rfl 1 (by decide) (hts _ kF_X7_7) (fun _ h9 => h9) rfl dX7_goesOn_1 ?_
  refine lv_bipush (v := (17 : Int32)) hx hb dX7_goesOn_4 (by decide) ?_
  refine va_iald hx hb hK hP 1 0 rfl rfl (ig_in (by decide)) dX7_goesOn_6 ?_
  refine W.eq (g2 := F0 m 7 ls [.int (v.2.1 17)]) rfl ?_
  refine lv_istore_n (lv' := [(1, .int (v.2.1 17)), (0, .ref (ad 0))]) hx hb dX7_goesOn_7 rfl hl (by decide) rfl (fun ls hl => ?_)
  refine lv_aload_n hx hb dX7_goesOn_8 rfl (lv_at hl 1 rfl) ?_
  refine lv_iload_n hx hb dX7_goesOn_9 rfl (lv_at hl 0 rfl) ?_
  refine lv_iconst (v := (3 : Int32)) hx hb dX7_goesOn_10 (by decide) ?_
  refine lv_aload_n hx hb dX7_goesOn_11 rfl (lv_at hl 1 rfl) ?_
  refine lv_iload_n hx hb dX7_goesOn_12 rfl (lv_at hl 0 rfl) ?_
  refine lv_iconst (v := (3 : Int32)) hx hb dX7_goesOn_13 (by decide) ?_
  obtain ⟨x0, hcx0, hf⟩ := gB hf
  refine k_r (r_V (As := [.int (v.2.1 17), .int (3 : Int32)]) (rest := [.int (3 : Int32), .int (v.2.1 17), .ref (ad 0)]) (n := 2) ⟨hx, hb, hml, hown, hts⟩ (c_X7_of l D cI cR ad v (v.2.1 17) (3 : Int32) _ x0 hcx0) kM_X7_123 kN_X7_of kV_X7_of kZ_X7 kK_X7_of ⟨rfl, rfl⟩ ⟨(Nat.le_of_ble_eq_true rfl), (Nat.le_of_ble_eq_true rfl)⟩ pd_X7_of rfl hK hN hP hD [0, 1, 2, 3, 4, 5, 6] rfl rfl 0 7 rfl rfl rfl hl.1 (Nat.le_of_ble_eq_true rfl) dX7_goesOn_14 ⟨(Nat.le_of_ble_eq_true rfl), (Nat.le_of_ble_eq_true rfl)⟩) ?_
  refine lv_iconst (v := (1 : Int32)) hx hb dX7_goesOn_17 (by decide) ?_
  refine lv_iadd hx hb dX7_goesOn_18 ?_
  obtain ⟨x1, hcx1, hf⟩ := gB hf
  refine j_v (wr := []) (w_V (As := [.int (v.2.1 17), .int (3 : Int32), .int (x0 + (1 : Int32))]) (rest := []) (n := 3) ⟨hx, hb, hml, hown, hts⟩ (c_X7_lay l D cI cR ad v (v.2.1 17) (3 : Int32) (x0 + (1 : Int32)) _ x1 hcx1) kM_X7_42 kN_X7_lay kV_X7_lay kZ_X7 kK_X7_lay ⟨rfl, rfl⟩ ⟨(Nat.le_of_ble_eq_true rfl), (Nat.le_of_ble_eq_true rfl)⟩ pd_X7_lay rfl hK hN hP hD [0, 1, 2, 3, 4, 5, 6] rfl rfl 0 7 rfl rfl rfl hl.1 (Nat.le_of_ble_eq_true rfl) dX7_goesOn_19 ⟨(Nat.le_of_ble_eq_true rfl), (Nat.le_of_ble_eq_true rfl)⟩) hP hD hS hA [0, 1, 2, 3, 4, 5, 6] [] rfl rfl rfl (by decide) (fun H locs hP hD hS => ?_)
  have hP : va_P D vwCl [(ad 0, .inr (7, [.int x1.1, .ref (ad 1), .ref (ad 2), .ref (ad 3), .int x1.2.2.2.2.1, .ref (ad 4), .int x1.2.2.2.2.2.2.1, .ref (ad 5), .int x1.2.2.2.2.2.2.2.2.1, .int x1.2.2.2.2.2.2.2.2.2.1, .int x1.2.2.2.2.2.2.2.2.2.2.1, .ref (ad 6), .int x1.2.2.2.2.2.2.2.2.2.2.2.2.1, .int x1.2.2.2.2.2.2.2.2.2.2.2.2.2.1, .int x1.2.2.2.2.2.2.2.2.2.2.2.2.2.2.1, .int x1.2.2.2.2.2.2.2.2.2.2.2.2.2.2.2.1, .int x1.2.2.2.2.2.2.2.2.2.2.2.2.2.2.2.2.1, .int x1.2.2.2.2.2.2.2.2.2.2.2.2.2.2.2.2.2])), (ad 1, .inl (cI, 72, .inl x1.2.1)), (ad 2, .inl (cI, 72, .inl x1.2.2.1)), (ad 3, .inl (cI, 288, .inl x1.2.2.2.1)), (ad 4, .inl (cI, 72, .inl x1.2.2.2.2.2.1)), (ad 5, .inl (cI, 60, .inl x1.2.2.2.2.2.2.2.1)), (ad 6, .inl (cI, 32768, .inl x1.2.2.2.2.2.2.2.2.2.2.2.1))] H := hP
  have hD : va_D A [(ad 0, .inr (7, [.int x1.1, .ref (ad 1), .ref (ad 2), .ref (ad 3), .int x1.2.2.2.2.1, .ref (ad 4), .int x1.2.2.2.2.2.2.1, .ref (ad 5), .int x1.2.2.2.2.2.2.2.2.1, .int x1.2.2.2.2.2.2.2.2.2.1, .int x1.2.2.2.2.2.2.2.2.2.2.1, .ref (ad 6), .int x1.2.2.2.2.2.2.2.2.2.2.2.2.1, .int x1.2.2.2.2.2.2.2.2.2.2.2.2.2.1, .int x1.2.2.2.2.2.2.2.2.2.2.2.2.2.2.1, .int x1.2.2.2.2.2.2.2.2.2.2.2.2.2.2.2.1, .int x1.2.2.2.2.2.2.2.2.2.2.2.2.2.2.2.2.1, .int x1.2.2.2.2.2.2.2.2.2.2.2.2.2.2.2.2.2])), (ad 1, .inl (cI, 72, .inl x1.2.1)), (ad 2, .inl (cI, 72, .inl x1.2.2.1)), (ad 3, .inl (cI, 288, .inl x1.2.2.2.1)), (ad 4, .inl (cI, 72, .inl x1.2.2.2.2.2.1)), (ad 5, .inl (cI, 60, .inl x1.2.2.2.2.2.2.2.1)), (ad 6, .inl (cI, 32768, .inl x1.2.2.2.2.2.2.2.2.2.2.2.1))] := hD
  refine lv_aload_n hx hb dX7_goesOn_22 rfl (lv_at hl 1 rfl) ?_
  refine va_get (D := D) (ci := 7) (v := .ref (ad 1)) (C := RX7) (T := TX7) (N := 18) hx hb hts inA_X7 hown hK hP 0 rfl rfl 1 (by decide) (hts _ kF_X7_7) (fun _ h9 => h9) rfl dX7_goesOn_23 ?_
  refine lv_bipush (v := (18 : Int32)) hx hb dX7_goesOn_26 (by decide) ?_
  refine lv_dup2_11 hx hb dX7_goesOn_28 rfl rfl ?_
  refine va_iald hx hb hK hP 1 0 rfl rfl (ig_in (by decide)) dX7_goesOn_29 ?_
  refine W.eq (g2 := F0 m 30 ls [.int (x1.2.1 18), .int (18 : Int32), .ref (ad 1)]) rfl ?_
  refine lv_iconst (v := (1 : Int32)) hx hb dX7_goesOn_30 (by decide) ?_
  refine lv_iadd hx hb dX7_goesOn_31 ?_
  refine va_iast hx hb hK hP hD hS 1 0 rfl rfl (ig_in (by decide)) dX7_goesOn_32 (fun H locs hP hD hS => ?_)
  have hP : va_P D vwCl [(ad 0, .inr (7, [.int x1.1, .ref (ad 1), .ref (ad 2), .ref (ad 3), .int x1.2.2.2.2.1, .ref (ad 4), .int x1.2.2.2.2.2.2.1, .ref (ad 5), .int x1.2.2.2.2.2.2.2.2.1, .int x1.2.2.2.2.2.2.2.2.2.1, .int x1.2.2.2.2.2.2.2.2.2.2.1, .ref (ad 6), .int x1.2.2.2.2.2.2.2.2.2.2.2.2.1, .int x1.2.2.2.2.2.2.2.2.2.2.2.2.2.1, .int x1.2.2.2.2.2.2.2.2.2.2.2.2.2.2.1, .int x1.2.2.2.2.2.2.2.2.2.2.2.2.2.2.2.1, .int x1.2.2.2.2.2.2.2.2.2.2.2.2.2.2.2.2.1, .int x1.2.2.2.2.2.2.2.2.2.2.2.2.2.2.2.2.2])), (ad 1, .inl (cI, 72, .inl (upd x1.2.1 18 ((x1.2.1 18) + (1 : Int32))))), (ad 2, .inl (cI, 72, .inl x1.2.2.1)), (ad 3, .inl (cI, 288, .inl x1.2.2.2.1)), (ad 4, .inl (cI, 72, .inl x1.2.2.2.2.2.1)), (ad 5, .inl (cI, 60, .inl x1.2.2.2.2.2.2.2.1)), (ad 6, .inl (cI, 32768, .inl x1.2.2.2.2.2.2.2.2.2.2.2.1))] H := hP
  have hD : va_D A [(ad 0, .inr (7, [.int x1.1, .ref (ad 1), .ref (ad 2), .ref (ad 3), .int x1.2.2.2.2.1, .ref (ad 4), .int x1.2.2.2.2.2.2.1, .ref (ad 5), .int x1.2.2.2.2.2.2.2.2.1, .int x1.2.2.2.2.2.2.2.2.2.1, .int x1.2.2.2.2.2.2.2.2.2.2.1, .ref (ad 6), .int x1.2.2.2.2.2.2.2.2.2.2.2.2.1, .int x1.2.2.2.2.2.2.2.2.2.2.2.2.2.1, .int x1.2.2.2.2.2.2.2.2.2.2.2.2.2.2.1, .int x1.2.2.2.2.2.2.2.2.2.2.2.2.2.2.2.1, .int x1.2.2.2.2.2.2.2.2.2.2.2.2.2.2.2.2.1, .int x1.2.2.2.2.2.2.2.2.2.2.2.2.2.2.2.2.2])), (ad 1, .inl (cI, 72, .inl (upd x1.2.1 18 ((x1.2.1 18) + (1 : Int32))))), (ad 2, .inl (cI, 72, .inl x1.2.2.1)), (ad 3, .inl (cI, 288, .inl x1.2.2.2.1)), (ad 4, .inl (cI, 72, .inl x1.2.2.2.2.2.1)), (ad 5, .inl (cI, 60, .inl x1.2.2.2.2.2.2.2.1)), (ad 6, .inl (cI, 32768, .inl x1.2.2.2.2.2.2.2.2.2.2.2.1))] := hD
  refine lv_aload_n hx hb dX7_goesOn_33 rfl (lv_at hl 1 rfl) ?_
  refine va_get (D := D) (ci := 7) (v := .ref (ad 1)) (C := RX7) (T := TX7) (N := 18) hx hb hts inA_X7 hown hK hP 0 rfl rfl 1 (by decide) (hts _ kF_X7_7) (fun _ h9 => h9) rfl dX7_goesOn_34 ?_
  refine lv_bipush (v := (17 : Int32)) hx hb dX7_goesOn_37 (by decide) ?_
  refine lv_iconst (v := (1 : Int32)) hx hb dX7_goesOn_39 (by decide) ?_
  refine lv_iload_n hx hb dX7_goesOn_40 rfl (lv_at hl 0 rfl) ?_
  refine lv_isub hx hb dX7_goesOn_41 ?_
  refine va_iast hx hb hK hP hD hS 1 0 rfl rfl (ig_in (by decide)) dX7_goesOn_42 (fun H locs hP hD hS => ?_)
  have hP : va_P D vwCl [(ad 0, .inr (7, [.int x1.1, .ref (ad 1), .ref (ad 2), .ref (ad 3), .int x1.2.2.2.2.1, .ref (ad 4), .int x1.2.2.2.2.2.2.1, .ref (ad 5), .int x1.2.2.2.2.2.2.2.2.1, .int x1.2.2.2.2.2.2.2.2.2.1, .int x1.2.2.2.2.2.2.2.2.2.2.1, .ref (ad 6), .int x1.2.2.2.2.2.2.2.2.2.2.2.2.1, .int x1.2.2.2.2.2.2.2.2.2.2.2.2.2.1, .int x1.2.2.2.2.2.2.2.2.2.2.2.2.2.2.1, .int x1.2.2.2.2.2.2.2.2.2.2.2.2.2.2.2.1, .int x1.2.2.2.2.2.2.2.2.2.2.2.2.2.2.2.2.1, .int x1.2.2.2.2.2.2.2.2.2.2.2.2.2.2.2.2.2])), (ad 1, .inl (cI, 72, .inl (upd (upd x1.2.1 18 ((x1.2.1 18) + (1 : Int32))) 17 ((1 : Int32) - (v.2.1 17))))), (ad 2, .inl (cI, 72, .inl x1.2.2.1)), (ad 3, .inl (cI, 288, .inl x1.2.2.2.1)), (ad 4, .inl (cI, 72, .inl x1.2.2.2.2.2.1)), (ad 5, .inl (cI, 60, .inl x1.2.2.2.2.2.2.2.1)), (ad 6, .inl (cI, 32768, .inl x1.2.2.2.2.2.2.2.2.2.2.2.1))] H := hP
  have hD : va_D A [(ad 0, .inr (7, [.int x1.1, .ref (ad 1), .ref (ad 2), .ref (ad 3), .int x1.2.2.2.2.1, .ref (ad 4), .int x1.2.2.2.2.2.2.1, .ref (ad 5), .int x1.2.2.2.2.2.2.2.2.1, .int x1.2.2.2.2.2.2.2.2.2.1, .int x1.2.2.2.2.2.2.2.2.2.2.1, .ref (ad 6), .int x1.2.2.2.2.2.2.2.2.2.2.2.2.1, .int x1.2.2.2.2.2.2.2.2.2.2.2.2.2.1, .int x1.2.2.2.2.2.2.2.2.2.2.2.2.2.2.1, .int x1.2.2.2.2.2.2.2.2.2.2.2.2.2.2.2.1, .int x1.2.2.2.2.2.2.2.2.2.2.2.2.2.2.2.2.1, .int x1.2.2.2.2.2.2.2.2.2.2.2.2.2.2.2.2.2])), (ad 1, .inl (cI, 72, .inl (upd (upd x1.2.1 18 ((x1.2.1 18) + (1 : Int32))) 17 ((1 : Int32) - (v.2.1 17))))), (ad 2, .inl (cI, 72, .inl x1.2.2.1)), (ad 3, .inl (cI, 288, .inl x1.2.2.2.1)), (ad 4, .inl (cI, 72, .inl x1.2.2.2.2.2.1)), (ad 5, .inl (cI, 60, .inl x1.2.2.2.2.2.2.2.1)), (ad 6, .inl (cI, 32768, .inl x1.2.2.2.2.2.2.2.2.2.2.2.1))] := hD
  exact z_v hf (fun r => oX7 cI cR ad r) hx hb hr hlk hS hP hD dX7_goesOn_43
def f_X7_makesDrive_J150 (l2 : Int32) (v : tX7) : Option (Int32 × tX7) :=
  (f_X7_of v l2 (0 : Int32)).bind fun x0 => some (x0, v)
def f_X7_makesDrive_J111 (l2 : Int32) (k0 : Int32) (k1 : Int32) (k2 : Int32) (v : tX7) : Option (Int32 × tX7) :=
  (f_X7_lay v k2 k1 k0).bind fun x1 => (f_X7_goesOn x1).bind fun x2 => (f_X7_end x2).bind fun x3 => (if x2.2.2.2.2.2.2.2.2.2.2.2.2.2.1 = x3 then (if ig ((20 : Int32) + l2) 72 = true then (if ig ((20 : Int32) + l2) 72 = true then f_X7_makesDrive_J150 l2 (x2.1, (upd (upd x2.2.1 22 l2) ((20 : Int32) + l2).toNatClampNeg (((upd x2.2.1 22 l2) ((20 : Int32) + l2).toNatClampNeg) + (1 : Int32))), x2.2.2.1, x2.2.2.2.1, x2.2.2.2.2.1, x2.2.2.2.2.2.1, x2.2.2.2.2.2.2.1, x2.2.2.2.2.2.2.2.1, x2.2.2.2.2.2.2.2.2.1, x2.2.2.2.2.2.2.2.2.2.1, x2.2.2.2.2.2.2.2.2.2.2.1, x2.2.2.2.2.2.2.2.2.2.2.2.1, x2.2.2.2.2.2.2.2.2.2.2.2.2.1, x2.2.2.2.2.2.2.2.2.2.2.2.2.2.1, x2.2.2.2.2.2.2.2.2.2.2.2.2.2.2.1, x2.2.2.2.2.2.2.2.2.2.2.2.2.2.2.2.1, x2.2.2.2.2.2.2.2.2.2.2.2.2.2.2.2.2.1, x2.2.2.2.2.2.2.2.2.2.2.2.2.2.2.2.2.2) else none) else none) else f_X7_makesDrive_J150 l2 x2)
def f_X7_makesDrive (v : tX7) (p1 : Int32) : Option (Int32 × tX7) :=
  (f_X7_of v (v.2.1 17) (0 : Int32)).bind fun x4 => (f_X7_of v ((1 : Int32) - (v.2.1 17)) (0 : Int32)).bind fun x5 => (f_X7_drives v x4 x5 p1 (v.2.1 17)).bind fun x6 => (f_X7_lay x6 (v.2.1 17) (0 : Int32) x6.2.2.2.2.2.2.2.2.2.2.2.2.2.1).bind fun x7 => (f_X7_of x7 (v.2.1 17) (5 : Int32)).bind fun x8 => (f_X7_lay x7 (v.2.1 17) (5 : Int32) (x8 + x7.2.2.2.2.2.2.2.2.2.2.2.2.2.2.2.2.1)).bind fun x9 => (f_X7_of x9 (v.2.1 17) (7 : Int32)).bind fun x10 => (f_X7_lay x9 (v.2.1 17) (7 : Int32) (x10 + x9.2.2.2.2.2.2.2.2.2.2.2.2.2.2.2.2.2)).bind fun x11 => (f_X7_of x11 (v.2.1 17) (2 : Int32)).bind fun x12 => (f_X7_lay x11 (v.2.1 17) (2 : Int32) (x12 + x11.2.2.2.2.2.2.2.2.2.2.2.2.2.2.1)).bind fun x13 => (if x13.2.2.2.2.2.2.2.2.2.2.2.2.2.2.2.1 = 0 then (f_X7_of x13 (v.2.1 17) (1 : Int32)).bind fun x14 => f_X7_makesDrive_J111 (v.2.1 17) x14 (1 : Int32) (v.2.1 17) x13 else f_X7_makesDrive_J111 (v.2.1 17) (1 : Int32) (1 : Int32) (v.2.1 17) x13)
abbrev rm_X7_makesDrive : Room := { frames := 3, cells := 0, slots := 0, locals := 68 }
set_option maxHeartbeats 4000000 in
set_option maxRecDepth 100000 in
theorem c_X7_makesDrive (l : Launch) (D : va_G) (cI cR : ClassId) (ad : Nat → Nat) (v : tX7) (p1 : Int32) (sz : Nat) (r : (Int32 × tX7)) (hf : f_X7_makesDrive v p1 = some r) : Met l yX7_makesDrive (wM yX7_makesDrive cX7_makesDrive 3 (some (.int))) rm_X7_makesDrive (cPre D (tysA cI cR) ([.ref (ad 0), .int p1] : List Value) (oX7 cI cR ad v) sz) (qI D (oX7 cI cR ad r.2) r.1 (va_A (oX7 cI cR ad v) sz)) 0 0 (va_A (oX7 cI cR ad v) sz) := by
  refine en_M (own := RX7) (lv := [(0, .ref (ad 0)), (1, .int p1)]) (by decide +kernel) rfl (Nat.le_of_ble_eq_true rfl) rfl (fun p e s m below meth c hx hb hr hlk hml hown hnm hts hsz hP hK hD hN ls hl => ?_)
  subst hsz
  generalize hAe : va_A (oX7 cI cR ad v) s.heap.size = A at hD ⊢
  have hA : ∀ q : Nat, s.heap.size ≤ q → A q := fun q h => by rw [← hAe]; exact Or.inr h
  have hS : va_S A s.heap s.heap [] := va_S.rf
  have hP : va_P D vwCl [(ad 0, .inr (7, [.int v.1, .ref (ad 1), .ref (ad 2), .ref (ad 3), .int v.2.2.2.2.1, .ref (ad 4), .int v.2.2.2.2.2.2.1, .ref (ad 5), .int v.2.2.2.2.2.2.2.2.1, .int v.2.2.2.2.2.2.2.2.2.1, .int v.2.2.2.2.2.2.2.2.2.2.1, .ref (ad 6), .int v.2.2.2.2.2.2.2.2.2.2.2.2.1, .int v.2.2.2.2.2.2.2.2.2.2.2.2.2.1, .int v.2.2.2.2.2.2.2.2.2.2.2.2.2.2.1, .int v.2.2.2.2.2.2.2.2.2.2.2.2.2.2.2.1, .int v.2.2.2.2.2.2.2.2.2.2.2.2.2.2.2.2.1, .int v.2.2.2.2.2.2.2.2.2.2.2.2.2.2.2.2.2])), (ad 1, .inl (cI, 72, .inl v.2.1)), (ad 2, .inl (cI, 72, .inl v.2.2.1)), (ad 3, .inl (cI, 288, .inl v.2.2.2.1)), (ad 4, .inl (cI, 72, .inl v.2.2.2.2.2.1)), (ad 5, .inl (cI, 60, .inl v.2.2.2.2.2.2.2.1)), (ad 6, .inl (cI, 32768, .inl v.2.2.2.2.2.2.2.2.2.2.2.1))] s.heap := hP
  have hD : va_D A [(ad 0, .inr (7, [.int v.1, .ref (ad 1), .ref (ad 2), .ref (ad 3), .int v.2.2.2.2.1, .ref (ad 4), .int v.2.2.2.2.2.2.1, .ref (ad 5), .int v.2.2.2.2.2.2.2.2.1, .int v.2.2.2.2.2.2.2.2.2.1, .int v.2.2.2.2.2.2.2.2.2.2.1, .ref (ad 6), .int v.2.2.2.2.2.2.2.2.2.2.2.2.1, .int v.2.2.2.2.2.2.2.2.2.2.2.2.2.1, .int v.2.2.2.2.2.2.2.2.2.2.2.2.2.2.1, .int v.2.2.2.2.2.2.2.2.2.2.2.2.2.2.2.1, .int v.2.2.2.2.2.2.2.2.2.2.2.2.2.2.2.2.1, .int v.2.2.2.2.2.2.2.2.2.2.2.2.2.2.2.2.2])), (ad 1, .inl (cI, 72, .inl v.2.1)), (ad 2, .inl (cI, 72, .inl v.2.2.1)), (ad 3, .inl (cI, 288, .inl v.2.2.2.1)), (ad 4, .inl (cI, 72, .inl v.2.2.2.2.2.1)), (ad 5, .inl (cI, 60, .inl v.2.2.2.2.2.2.2.1)), (ad 6, .inl (cI, 32768, .inl v.2.2.2.2.2.2.2.2.2.2.2.1))] := hD
  have J150 : ∀ (l2 : Int32) (v : tX7) (H : Heap) (locs : List Loc) (ls : Array Slot), va_P D vwCl [(ad 0, .inr (7, [.int v.1, .ref (ad 1), .ref (ad 2), .ref (ad 3), .int v.2.2.2.2.1, .ref (ad 4), .int v.2.2.2.2.2.2.1, .ref (ad 5), .int v.2.2.2.2.2.2.2.2.1, .int v.2.2.2.2.2.2.2.2.2.1, .int v.2.2.2.2.2.2.2.2.2.2.1, .ref (ad 6), .int v.2.2.2.2.2.2.2.2.2.2.2.2.1, .int v.2.2.2.2.2.2.2.2.2.2.2.2.2.1, .int v.2.2.2.2.2.2.2.2.2.2.2.2.2.2.1, .int v.2.2.2.2.2.2.2.2.2.2.2.2.2.2.2.1, .int v.2.2.2.2.2.2.2.2.2.2.2.2.2.2.2.2.1, .int v.2.2.2.2.2.2.2.2.2.2.2.2.2.2.2.2.2])), (ad 1, .inl (cI, 72, .inl v.2.1)), (ad 2, .inl (cI, 72, .inl v.2.2.1)), (ad 3, .inl (cI, 288, .inl v.2.2.2.1)), (ad 4, .inl (cI, 72, .inl v.2.2.2.2.2.1)), (ad 5, .inl (cI, 60, .inl v.2.2.2.2.2.2.2.1)), (ad 6, .inl (cI, 32768, .inl v.2.2.2.2.2.2.2.2.2.2.2.1))] H → va_D A [(ad 0, .inr (7, [.int v.1, .ref (ad 1), .ref (ad 2), .ref (ad 3), .int v.2.2.2.2.1, .ref (ad 4), .int v.2.2.2.2.2.2.1, .ref (ad 5), .int v.2.2.2.2.2.2.2.2.1, .int v.2.2.2.2.2.2.2.2.2.1, .int v.2.2.2.2.2.2.2.2.2.2.1, .ref (ad 6), .int v.2.2.2.2.2.2.2.2.2.2.2.2.1, .int v.2.2.2.2.2.2.2.2.2.2.2.2.2.1, .int v.2.2.2.2.2.2.2.2.2.2.2.2.2.2.1, .int v.2.2.2.2.2.2.2.2.2.2.2.2.2.2.2.1, .int v.2.2.2.2.2.2.2.2.2.2.2.2.2.2.2.2.1, .int v.2.2.2.2.2.2.2.2.2.2.2.2.2.2.2.2.2])), (ad 1, .inl (cI, 72, .inl v.2.1)), (ad 2, .inl (cI, 72, .inl v.2.2.1)), (ad 3, .inl (cI, 288, .inl v.2.2.2.1)), (ad 4, .inl (cI, 72, .inl v.2.2.2.2.2.1)), (ad 5, .inl (cI, 60, .inl v.2.2.2.2.2.2.2.1)), (ad 6, .inl (cI, 32768, .inl v.2.2.2.2.2.2.2.2.2.2.2.1))] → va_S A s.heap H locs → lv_has ls 3 [(0, .ref (ad 0)), (2, .int l2)] → f_X7_makesDrive_J150 l2 v = some r → W p l e rm_X7_makesDrive s m ([.ref (ad 0), .int p1] : List Value).toArray below meth c H locs 0 0 (MQ below (qI D (oX7 cI cR ad r.2) r.1 A) ([.ref (ad 0), .int p1] : List Value).toArray s 0 0 A) (F0 m 150 ls []) := by
    intro l2 v H locs ls hP hD hS hl hf
    unfold f_X7_makesDrive_J150 at hf
    refine lv_aload_n hx hb dX7_makesDrive_150 rfl (lv_at hl 0 rfl) ?_
    refine lv_iload_n hx hb dX7_makesDrive_151 rfl (lv_at hl 1 rfl) ?_
    refine lv_iconst (v := (0 : Int32)) hx hb dX7_makesDrive_152 (by decide) ?_
    obtain ⟨x0, hcx0, hf⟩ := gB hf
    refine k_r (r_V (As := [.int l2, .int (0 : Int32)]) (rest := []) (n := 2) ⟨hx, hb, hml, hown, hts⟩ (c_X7_of l D cI cR ad v l2 (0 : Int32) _ x0 hcx0) kM_X7_123 kN_X7_of kV_X7_of kZ_X7 kK_X7_of ⟨rfl, rfl⟩ ⟨(Nat.le_of_ble_eq_true rfl), (Nat.le_of_ble_eq_true rfl)⟩ pd_X7_of rfl hK hN hP hD [0, 1, 2, 3, 4, 5, 6] rfl rfl 0 7 rfl rfl rfl hl.1 (Nat.le_of_ble_eq_true rfl) dX7_makesDrive_153 ⟨(Nat.le_of_ble_eq_true rfl), (Nat.le_of_ble_eq_true rfl)⟩) ?_
    exact z_i hf (fun r => r.1) (fun r => oX7 cI cR ad r.2) hx hb hr hlk hS hP hD dX7_makesDrive_156
  have J111 : ∀ (l2 : Int32) (k0 : Int32) (k1 : Int32) (k2 : Int32) (v : tX7) (H : Heap) (locs : List Loc) (ls : Array Slot), va_P D vwCl [(ad 0, .inr (7, [.int v.1, .ref (ad 1), .ref (ad 2), .ref (ad 3), .int v.2.2.2.2.1, .ref (ad 4), .int v.2.2.2.2.2.2.1, .ref (ad 5), .int v.2.2.2.2.2.2.2.2.1, .int v.2.2.2.2.2.2.2.2.2.1, .int v.2.2.2.2.2.2.2.2.2.2.1, .ref (ad 6), .int v.2.2.2.2.2.2.2.2.2.2.2.2.1, .int v.2.2.2.2.2.2.2.2.2.2.2.2.2.1, .int v.2.2.2.2.2.2.2.2.2.2.2.2.2.2.1, .int v.2.2.2.2.2.2.2.2.2.2.2.2.2.2.2.1, .int v.2.2.2.2.2.2.2.2.2.2.2.2.2.2.2.2.1, .int v.2.2.2.2.2.2.2.2.2.2.2.2.2.2.2.2.2])), (ad 1, .inl (cI, 72, .inl v.2.1)), (ad 2, .inl (cI, 72, .inl v.2.2.1)), (ad 3, .inl (cI, 288, .inl v.2.2.2.1)), (ad 4, .inl (cI, 72, .inl v.2.2.2.2.2.1)), (ad 5, .inl (cI, 60, .inl v.2.2.2.2.2.2.2.1)), (ad 6, .inl (cI, 32768, .inl v.2.2.2.2.2.2.2.2.2.2.2.1))] H → va_D A [(ad 0, .inr (7, [.int v.1, .ref (ad 1), .ref (ad 2), .ref (ad 3), .int v.2.2.2.2.1, .ref (ad 4), .int v.2.2.2.2.2.2.1, .ref (ad 5), .int v.2.2.2.2.2.2.2.2.1, .int v.2.2.2.2.2.2.2.2.2.1, .int v.2.2.2.2.2.2.2.2.2.2.1, .ref (ad 6), .int v.2.2.2.2.2.2.2.2.2.2.2.2.1, .int v.2.2.2.2.2.2.2.2.2.2.2.2.2.1, .int v.2.2.2.2.2.2.2.2.2.2.2.2.2.2.1, .int v.2.2.2.2.2.2.2.2.2.2.2.2.2.2.2.1, .int v.2.2.2.2.2.2.2.2.2.2.2.2.2.2.2.2.1, .int v.2.2.2.2.2.2.2.2.2.2.2.2.2.2.2.2.2])), (ad 1, .inl (cI, 72, .inl v.2.1)), (ad 2, .inl (cI, 72, .inl v.2.2.1)), (ad 3, .inl (cI, 288, .inl v.2.2.2.1)), (ad 4, .inl (cI, 72, .inl v.2.2.2.2.2.1)), (ad 5, .inl (cI, 60, .inl v.2.2.2.2.2.2.2.1)), (ad 6, .inl (cI, 32768, .inl v.2.2.2.2.2.2.2.2.2.2.2.1))] → va_S A s.heap H locs → lv_has ls 3 [(0, .ref (ad 0)), (2, .int l2)] → f_X7_makesDrive_J111 l2 k0 k1 k2 v = some r → W p l e rm_X7_makesDrive s m ([.ref (ad 0), .int p1] : List Value).toArray below meth c H locs 0 0 (MQ below (qI D (oX7 cI cR ad r.2) r.1 A) ([.ref (ad 0), .int p1] : List Value).toArray s 0 0 A) (F0 m 111 ls [.int k0, .int k1, .int k2, .ref (ad 0)]) := by
    intro l2 k0 k1 k2 v H locs ls hP hD hS hl hf
    unfold f_X7_makesDrive_J111 at hf
    obtain ⟨x1, hcx1, hf⟩ := gB hf
    refine j_v (wr := []) (w_V (As := [.int k2, .int k1, .int k0]) (rest := []) (n := 3) ⟨hx, hb, hml, hown, hts⟩ (c_X7_lay l D cI cR ad v k2 k1 k0 _ x1 hcx1) kM_X7_42 kN_X7_lay kV_X7_lay kZ_X7 kK_X7_lay ⟨rfl, rfl⟩ ⟨(Nat.le_of_ble_eq_true rfl), (Nat.le_of_ble_eq_true rfl)⟩ pd_X7_lay rfl hK hN hP hD [0, 1, 2, 3, 4, 5, 6] rfl rfl 0 7 rfl rfl rfl hl.1 (Nat.le_of_ble_eq_true rfl) dX7_makesDrive_111 ⟨(Nat.le_of_ble_eq_true rfl), (Nat.le_of_ble_eq_true rfl)⟩) hP hD hS hA [0, 1, 2, 3, 4, 5, 6] [] rfl rfl rfl (by decide) (fun H locs hP hD hS => ?_)
    have hP : va_P D vwCl [(ad 0, .inr (7, [.int x1.1, .ref (ad 1), .ref (ad 2), .ref (ad 3), .int x1.2.2.2.2.1, .ref (ad 4), .int x1.2.2.2.2.2.2.1, .ref (ad 5), .int x1.2.2.2.2.2.2.2.2.1, .int x1.2.2.2.2.2.2.2.2.2.1, .int x1.2.2.2.2.2.2.2.2.2.2.1, .ref (ad 6), .int x1.2.2.2.2.2.2.2.2.2.2.2.2.1, .int x1.2.2.2.2.2.2.2.2.2.2.2.2.2.1, .int x1.2.2.2.2.2.2.2.2.2.2.2.2.2.2.1, .int x1.2.2.2.2.2.2.2.2.2.2.2.2.2.2.2.1, .int x1.2.2.2.2.2.2.2.2.2.2.2.2.2.2.2.2.1, .int x1.2.2.2.2.2.2.2.2.2.2.2.2.2.2.2.2.2])), (ad 1, .inl (cI, 72, .inl x1.2.1)), (ad 2, .inl (cI, 72, .inl x1.2.2.1)), (ad 3, .inl (cI, 288, .inl x1.2.2.2.1)), (ad 4, .inl (cI, 72, .inl x1.2.2.2.2.2.1)), (ad 5, .inl (cI, 60, .inl x1.2.2.2.2.2.2.2.1)), (ad 6, .inl (cI, 32768, .inl x1.2.2.2.2.2.2.2.2.2.2.2.1))] H := hP
    have hD : va_D A [(ad 0, .inr (7, [.int x1.1, .ref (ad 1), .ref (ad 2), .ref (ad 3), .int x1.2.2.2.2.1, .ref (ad 4), .int x1.2.2.2.2.2.2.1, .ref (ad 5), .int x1.2.2.2.2.2.2.2.2.1, .int x1.2.2.2.2.2.2.2.2.2.1, .int x1.2.2.2.2.2.2.2.2.2.2.1, .ref (ad 6), .int x1.2.2.2.2.2.2.2.2.2.2.2.2.1, .int x1.2.2.2.2.2.2.2.2.2.2.2.2.2.1, .int x1.2.2.2.2.2.2.2.2.2.2.2.2.2.2.1, .int x1.2.2.2.2.2.2.2.2.2.2.2.2.2.2.2.1, .int x1.2.2.2.2.2.2.2.2.2.2.2.2.2.2.2.2.1, .int x1.2.2.2.2.2.2.2.2.2.2.2.2.2.2.2.2.2])), (ad 1, .inl (cI, 72, .inl x1.2.1)), (ad 2, .inl (cI, 72, .inl x1.2.2.1)), (ad 3, .inl (cI, 288, .inl x1.2.2.2.1)), (ad 4, .inl (cI, 72, .inl x1.2.2.2.2.2.1)), (ad 5, .inl (cI, 60, .inl x1.2.2.2.2.2.2.2.1)), (ad 6, .inl (cI, 32768, .inl x1.2.2.2.2.2.2.2.2.2.2.2.1))] := hD
    refine lv_aload_n hx hb dX7_makesDrive_114 rfl (lv_at hl 0 rfl) ?_
    obtain ⟨x2, hcx2, hf⟩ := gB hf
    refine j_v (wr := []) (w_V (As := []) (rest := []) (n := 0) ⟨hx, hb, hml, hown, hts⟩ (c_X7_goesOn l D cI cR ad x1 _ x2 hcx2) kM_X7_129 kN_X7_goesOn kV_X7_goesOn kZ_X7 kK_X7_goesOn ⟨rfl, rfl⟩ ⟨(Nat.le_of_ble_eq_true rfl), (Nat.le_of_ble_eq_true rfl)⟩ pd_X7_goesOn rfl hK hN hP hD [0, 1, 2, 3, 4, 5, 6] rfl rfl 0 7 rfl rfl rfl hl.1 (Nat.le_of_ble_eq_true rfl) dX7_makesDrive_115 ⟨(Nat.le_of_ble_eq_true rfl), (Nat.le_of_ble_eq_true rfl)⟩) hP hD hS hA [0, 1, 2, 3, 4, 5, 6] [] rfl rfl rfl (by decide) (fun H locs hP hD hS => ?_)
    have hP : va_P D vwCl [(ad 0, .inr (7, [.int x2.1, .ref (ad 1), .ref (ad 2), .ref (ad 3), .int x2.2.2.2.2.1, .ref (ad 4), .int x2.2.2.2.2.2.2.1, .ref (ad 5), .int x2.2.2.2.2.2.2.2.2.1, .int x2.2.2.2.2.2.2.2.2.2.1, .int x2.2.2.2.2.2.2.2.2.2.2.1, .ref (ad 6), .int x2.2.2.2.2.2.2.2.2.2.2.2.2.1, .int x2.2.2.2.2.2.2.2.2.2.2.2.2.2.1, .int x2.2.2.2.2.2.2.2.2.2.2.2.2.2.2.1, .int x2.2.2.2.2.2.2.2.2.2.2.2.2.2.2.2.1, .int x2.2.2.2.2.2.2.2.2.2.2.2.2.2.2.2.2.1, .int x2.2.2.2.2.2.2.2.2.2.2.2.2.2.2.2.2.2])), (ad 1, .inl (cI, 72, .inl x2.2.1)), (ad 2, .inl (cI, 72, .inl x2.2.2.1)), (ad 3, .inl (cI, 288, .inl x2.2.2.2.1)), (ad 4, .inl (cI, 72, .inl x2.2.2.2.2.2.1)), (ad 5, .inl (cI, 60, .inl x2.2.2.2.2.2.2.2.1)), (ad 6, .inl (cI, 32768, .inl x2.2.2.2.2.2.2.2.2.2.2.2.1))] H := hP
    have hD : va_D A [(ad 0, .inr (7, [.int x2.1, .ref (ad 1), .ref (ad 2), .ref (ad 3), .int x2.2.2.2.2.1, .ref (ad 4), .int x2.2.2.2.2.2.2.1, .ref (ad 5), .int x2.2.2.2.2.2.2.2.2.1, .int x2.2.2.2.2.2.2.2.2.2.1, .int x2.2.2.2.2.2.2.2.2.2.2.1, .ref (ad 6), .int x2.2.2.2.2.2.2.2.2.2.2.2.2.1, .int x2.2.2.2.2.2.2.2.2.2.2.2.2.2.1, .int x2.2.2.2.2.2.2.2.2.2.2.2.2.2.2.1, .int x2.2.2.2.2.2.2.2.2.2.2.2.2.2.2.2.1, .int x2.2.2.2.2.2.2.2.2.2.2.2.2.2.2.2.2.1, .int x2.2.2.2.2.2.2.2.2.2.2.2.2.2.2.2.2.2])), (ad 1, .inl (cI, 72, .inl x2.2.1)), (ad 2, .inl (cI, 72, .inl x2.2.2.1)), (ad 3, .inl (cI, 288, .inl x2.2.2.2.1)), (ad 4, .inl (cI, 72, .inl x2.2.2.2.2.2.1)), (ad 5, .inl (cI, 60, .inl x2.2.2.2.2.2.2.2.1)), (ad 6, .inl (cI, 32768, .inl x2.2.2.2.2.2.2.2.2.2.2.2.1))] := hD
    refine lv_aload_n hx hb dX7_makesDrive_118 rfl (lv_at hl 0 rfl) ?_
    refine va_get (D := D) (ci := 7) (v := .int x2.2.2.2.2.2.2.2.2.2.2.2.2.2.1) (C := RX7) (T := TX7) (N := 18) hx hb hts inA_X7 hown hK hP 0 rfl rfl 13 (by decide) (hts _ kF_X7_63) (fun _ h9 => h9) rfl dX7_makesDrive_119 ?_
    refine lv_aload_n hx hb dX7_makesDrive_122 rfl (lv_at hl 0 rfl) ?_
    obtain ⟨x3, hcx3, hf⟩ := gB hf
    refine k_r (r_V (As := []) (rest := [.int x2.2.2.2.2.2.2.2.2.2.2.2.2.2.1]) (n := 0) ⟨hx, hb, hml, hown, hts⟩ (c_X7_end l D cI cR ad x2 _ x3 hcx3) kM_X7_53 kN_X7_end kV_X7_end kZ_X7 kK_X7_end ⟨rfl, rfl⟩ ⟨(Nat.le_of_ble_eq_true rfl), (Nat.le_of_ble_eq_true rfl)⟩ pd_X7_end rfl hK hN hP hD [0, 1, 2, 3, 4, 5, 6] rfl rfl 0 7 rfl rfl rfl hl.1 (Nat.le_of_ble_eq_true rfl) dX7_makesDrive_123 ⟨(Nat.le_of_ble_eq_true rfl), (Nat.le_of_ble_eq_true rfl)⟩) ?_
    refine lv_icmp_ne (tgt := 150) hx hb dX7_makesDrive_126 (by decide) (fun c0 => ?_) (fun c0 => ?_)
    · replace hf := gF hf c0
      exact J150 l2 x2 _ _ ls hP hD hS (lv_sub hl [0, 1] rfl) hf
    · replace hf := gT hf c0
      refine lv_aload_n hx hb dX7_makesDrive_129 rfl (lv_at hl 0 rfl) ?_
      refine va_get (D := D) (ci := 7) (v := .ref (ad 1)) (C := RX7) (T := TX7) (N := 18) hx hb hts inA_X7 hown hK hP 0 rfl rfl 1 (by decide) (hts _ kF_X7_7) (fun _ h9 => h9) rfl dX7_makesDrive_130 ?_
      refine lv_bipush (v := (22 : Int32)) hx hb dX7_makesDrive_133 (by decide) ?_
      refine lv_iload_n hx hb dX7_makesDrive_135 rfl (lv_at hl 1 rfl) ?_
      refine va_iast hx hb hK hP hD hS 1 0 rfl rfl (ig_in (by decide)) dX7_makesDrive_136 (fun H locs hP hD hS => ?_)
      have hP : va_P D vwCl [(ad 0, .inr (7, [.int x2.1, .ref (ad 1), .ref (ad 2), .ref (ad 3), .int x2.2.2.2.2.1, .ref (ad 4), .int x2.2.2.2.2.2.2.1, .ref (ad 5), .int x2.2.2.2.2.2.2.2.2.1, .int x2.2.2.2.2.2.2.2.2.2.1, .int x2.2.2.2.2.2.2.2.2.2.2.1, .ref (ad 6), .int x2.2.2.2.2.2.2.2.2.2.2.2.2.1, .int x2.2.2.2.2.2.2.2.2.2.2.2.2.2.1, .int x2.2.2.2.2.2.2.2.2.2.2.2.2.2.2.1, .int x2.2.2.2.2.2.2.2.2.2.2.2.2.2.2.2.1, .int x2.2.2.2.2.2.2.2.2.2.2.2.2.2.2.2.2.1, .int x2.2.2.2.2.2.2.2.2.2.2.2.2.2.2.2.2.2])), (ad 1, .inl (cI, 72, .inl (upd x2.2.1 22 l2))), (ad 2, .inl (cI, 72, .inl x2.2.2.1)), (ad 3, .inl (cI, 288, .inl x2.2.2.2.1)), (ad 4, .inl (cI, 72, .inl x2.2.2.2.2.2.1)), (ad 5, .inl (cI, 60, .inl x2.2.2.2.2.2.2.2.1)), (ad 6, .inl (cI, 32768, .inl x2.2.2.2.2.2.2.2.2.2.2.2.1))] H := hP
      have hD : va_D A [(ad 0, .inr (7, [.int x2.1, .ref (ad 1), .ref (ad 2), .ref (ad 3), .int x2.2.2.2.2.1, .ref (ad 4), .int x2.2.2.2.2.2.2.1, .ref (ad 5), .int x2.2.2.2.2.2.2.2.2.1, .int x2.2.2.2.2.2.2.2.2.2.1, .int x2.2.2.2.2.2.2.2.2.2.2.1, .ref (ad 6), .int x2.2.2.2.2.2.2.2.2.2.2.2.2.1, .int x2.2.2.2.2.2.2.2.2.2.2.2.2.2.1, .int x2.2.2.2.2.2.2.2.2.2.2.2.2.2.2.1, .int x2.2.2.2.2.2.2.2.2.2.2.2.2.2.2.2.1, .int x2.2.2.2.2.2.2.2.2.2.2.2.2.2.2.2.2.1, .int x2.2.2.2.2.2.2.2.2.2.2.2.2.2.2.2.2.2])), (ad 1, .inl (cI, 72, .inl (upd x2.2.1 22 l2))), (ad 2, .inl (cI, 72, .inl x2.2.2.1)), (ad 3, .inl (cI, 288, .inl x2.2.2.2.1)), (ad 4, .inl (cI, 72, .inl x2.2.2.2.2.2.1)), (ad 5, .inl (cI, 60, .inl x2.2.2.2.2.2.2.2.1)), (ad 6, .inl (cI, 32768, .inl x2.2.2.2.2.2.2.2.2.2.2.2.1))] := hD
      refine lv_aload_n hx hb dX7_makesDrive_137 rfl (lv_at hl 0 rfl) ?_
      refine va_get (D := D) (ci := 7) (v := .ref (ad 1)) (C := RX7) (T := TX7) (N := 18) hx hb hts inA_X7 hown hK hP 0 rfl rfl 1 (by decide) (hts _ kF_X7_7) (fun _ h9 => h9) rfl dX7_makesDrive_138 ?_
      refine lv_bipush (v := (20 : Int32)) hx hb dX7_makesDrive_141 (by decide) ?_
      refine lv_iload_n hx hb dX7_makesDrive_143 rfl (lv_at hl 1 rfl) ?_
      refine lv_iadd hx hb dX7_makesDrive_144 ?_
      refine lv_dup2_11 hx hb dX7_makesDrive_145 rfl rfl ?_
      obtain ⟨g0, hf⟩ := gd hf
      refine va_iald hx hb hK hP 1 0 rfl rfl (ig_in g0) dX7_makesDrive_146 ?_
      refine lv_iconst (v := (1 : Int32)) hx hb dX7_makesDrive_147 (by decide) ?_
      refine lv_iadd hx hb dX7_makesDrive_148 ?_
      obtain ⟨g0, hf⟩ := gd hf
      refine va_iast hx hb hK hP hD hS 1 0 rfl rfl (ig_in g0) dX7_makesDrive_149 (fun H locs hP hD hS => ?_)
      have hP : va_P D vwCl [(ad 0, .inr (7, [.int x2.1, .ref (ad 1), .ref (ad 2), .ref (ad 3), .int x2.2.2.2.2.1, .ref (ad 4), .int x2.2.2.2.2.2.2.1, .ref (ad 5), .int x2.2.2.2.2.2.2.2.2.1, .int x2.2.2.2.2.2.2.2.2.2.1, .int x2.2.2.2.2.2.2.2.2.2.2.1, .ref (ad 6), .int x2.2.2.2.2.2.2.2.2.2.2.2.2.1, .int x2.2.2.2.2.2.2.2.2.2.2.2.2.2.1, .int x2.2.2.2.2.2.2.2.2.2.2.2.2.2.2.1, .int x2.2.2.2.2.2.2.2.2.2.2.2.2.2.2.2.1, .int x2.2.2.2.2.2.2.2.2.2.2.2.2.2.2.2.2.1, .int x2.2.2.2.2.2.2.2.2.2.2.2.2.2.2.2.2.2])), (ad 1, .inl (cI, 72, .inl (upd (upd x2.2.1 22 l2) ((20 : Int32) + l2).toNatClampNeg (((upd x2.2.1 22 l2) ((20 : Int32) + l2).toNatClampNeg) + (1 : Int32))))), (ad 2, .inl (cI, 72, .inl x2.2.2.1)), (ad 3, .inl (cI, 288, .inl x2.2.2.2.1)), (ad 4, .inl (cI, 72, .inl x2.2.2.2.2.2.1)), (ad 5, .inl (cI, 60, .inl x2.2.2.2.2.2.2.2.1)), (ad 6, .inl (cI, 32768, .inl x2.2.2.2.2.2.2.2.2.2.2.2.1))] H := hP
      have hD : va_D A [(ad 0, .inr (7, [.int x2.1, .ref (ad 1), .ref (ad 2), .ref (ad 3), .int x2.2.2.2.2.1, .ref (ad 4), .int x2.2.2.2.2.2.2.1, .ref (ad 5), .int x2.2.2.2.2.2.2.2.2.1, .int x2.2.2.2.2.2.2.2.2.2.1, .int x2.2.2.2.2.2.2.2.2.2.2.1, .ref (ad 6), .int x2.2.2.2.2.2.2.2.2.2.2.2.2.1, .int x2.2.2.2.2.2.2.2.2.2.2.2.2.2.1, .int x2.2.2.2.2.2.2.2.2.2.2.2.2.2.2.1, .int x2.2.2.2.2.2.2.2.2.2.2.2.2.2.2.2.1, .int x2.2.2.2.2.2.2.2.2.2.2.2.2.2.2.2.2.1, .int x2.2.2.2.2.2.2.2.2.2.2.2.2.2.2.2.2.2])), (ad 1, .inl (cI, 72, .inl (upd (upd x2.2.1 22 l2) ((20 : Int32) + l2).toNatClampNeg (((upd x2.2.1 22 l2) ((20 : Int32) + l2).toNatClampNeg) + (1 : Int32))))), (ad 2, .inl (cI, 72, .inl x2.2.2.1)), (ad 3, .inl (cI, 288, .inl x2.2.2.2.1)), (ad 4, .inl (cI, 72, .inl x2.2.2.2.2.2.1)), (ad 5, .inl (cI, 60, .inl x2.2.2.2.2.2.2.2.1)), (ad 6, .inl (cI, 32768, .inl x2.2.2.2.2.2.2.2.2.2.2.2.1))] := hD
      exact J150 l2 (x2.1, (upd (upd x2.2.1 22 l2) ((20 : Int32) + l2).toNatClampNeg (((upd x2.2.1 22 l2) ((20 : Int32) + l2).toNatClampNeg) + (1 : Int32))), x2.2.2.1, x2.2.2.2.1, x2.2.2.2.2.1, x2.2.2.2.2.2.1, x2.2.2.2.2.2.2.1, x2.2.2.2.2.2.2.2.1, x2.2.2.2.2.2.2.2.2.1, x2.2.2.2.2.2.2.2.2.2.1, x2.2.2.2.2.2.2.2.2.2.2.1, x2.2.2.2.2.2.2.2.2.2.2.2.1, x2.2.2.2.2.2.2.2.2.2.2.2.2.1, x2.2.2.2.2.2.2.2.2.2.2.2.2.2.1, x2.2.2.2.2.2.2.2.2.2.2.2.2.2.2.1, x2.2.2.2.2.2.2.2.2.2.2.2.2.2.2.2.1, x2.2.2.2.2.2.2.2.2.2.2.2.2.2.2.2.2.1, x2.2.2.2.2.2.2.2.2.2.2.2.2.2.2.2.2.2) _ _ ls hP hD hS (lv_sub hl [0, 1] rfl) hf
  unfold f_X7_makesDrive at hf
  refine lv_aload_n hx hb dX7_makesDrive_0 rfl (lv_at hl 0 rfl) ?_
  refine va_get (D := D) (ci := 7) (v := .ref (ad 1)) (C := RX7) (T := TX7) (N := 18) hx hb hts inA_X7 hown hK hP 0 rfl rfl 1 (by decide) (hts _ kF_X7_7) (fun _ h9 => h9) rfl dX7_makesDrive_1 ?_
  refine lv_bipush (v := (17 : Int32)) hx hb dX7_makesDrive_4 (by decide) ?_
  refine va_iald hx hb hK hP 1 0 rfl rfl (ig_in (by decide)) dX7_makesDrive_6 ?_
  refine W.eq (g2 := F0 m 7 ls [.int (v.2.1 17)]) rfl ?_
  refine lv_istore_n (lv' := [(2, .int (v.2.1 17)), (0, .ref (ad 0)), (1, .int p1)]) hx hb dX7_makesDrive_7 rfl hl (by decide) rfl (fun ls hl => ?_)
  refine lv_aload_n hx hb dX7_makesDrive_8 rfl (lv_at hl 1 rfl) ?_
  refine lv_aload_n hx hb dX7_makesDrive_9 rfl (lv_at hl 1 rfl) ?_
  refine lv_iload_n hx hb dX7_makesDrive_10 rfl (lv_at hl 0 rfl) ?_
  refine lv_iconst (v := (0 : Int32)) hx hb dX7_makesDrive_11 (by decide) ?_
  obtain ⟨x4, hcx4, hf⟩ := gB hf
  refine k_r (r_V (As := [.int (v.2.1 17), .int (0 : Int32)]) (rest := [.ref (ad 0)]) (n := 2) ⟨hx, hb, hml, hown, hts⟩ (c_X7_of l D cI cR ad v (v.2.1 17) (0 : Int32) _ x4 hcx4) kM_X7_123 kN_X7_of kV_X7_of kZ_X7 kK_X7_of ⟨rfl, rfl⟩ ⟨(Nat.le_of_ble_eq_true rfl), (Nat.le_of_ble_eq_true rfl)⟩ pd_X7_of rfl hK hN hP hD [0, 1, 2, 3, 4, 5, 6] rfl rfl 0 7 rfl rfl rfl hl.1 (Nat.le_of_ble_eq_true rfl) dX7_makesDrive_12 ⟨(Nat.le_of_ble_eq_true rfl), (Nat.le_of_ble_eq_true rfl)⟩) ?_
  refine lv_aload_n hx hb dX7_makesDrive_15 rfl (lv_at hl 1 rfl) ?_
  refine lv_iconst (v := (1 : Int32)) hx hb dX7_makesDrive_16 (by decide) ?_
  refine lv_iload_n hx hb dX7_makesDrive_17 rfl (lv_at hl 0 rfl) ?_
  refine lv_isub hx hb dX7_makesDrive_18 ?_
  refine lv_iconst (v := (0 : Int32)) hx hb dX7_makesDrive_19 (by decide) ?_
  obtain ⟨x5, hcx5, hf⟩ := gB hf
  refine k_r (r_V (As := [.int ((1 : Int32) - (v.2.1 17)), .int (0 : Int32)]) (rest := [.int x4, .ref (ad 0)]) (n := 2) ⟨hx, hb, hml, hown, hts⟩ (c_X7_of l D cI cR ad v ((1 : Int32) - (v.2.1 17)) (0 : Int32) _ x5 hcx5) kM_X7_123 kN_X7_of kV_X7_of kZ_X7 kK_X7_of ⟨rfl, rfl⟩ ⟨(Nat.le_of_ble_eq_true rfl), (Nat.le_of_ble_eq_true rfl)⟩ pd_X7_of rfl hK hN hP hD [0, 1, 2, 3, 4, 5, 6] rfl rfl 0 7 rfl rfl rfl hl.1 (Nat.le_of_ble_eq_true rfl) dX7_makesDrive_20 ⟨(Nat.le_of_ble_eq_true rfl), (Nat.le_of_ble_eq_true rfl)⟩) ?_
  refine lv_iload_n hx hb dX7_makesDrive_23 rfl (lv_at hl 2 rfl) ?_
  refine lv_iload_n hx hb dX7_makesDrive_24 rfl (lv_at hl 0 rfl) ?_
  obtain ⟨x6, hcx6, hf⟩ := gB hf
  refine j_v (wr := []) (w_V (As := [.int x4, .int x5, .int p1, .int (v.2.1 17)]) (rest := []) (n := 4) ⟨hx, hb, hml, hown, hts⟩ (c_X7_drives l D cI cR ad v x4 x5 p1 (v.2.1 17) _ x6 hcx6) kM_X7_85 kN_X7_drives kV_X7_drives kZ_X7 kK_X7_drives ⟨rfl, rfl⟩ ⟨(Nat.le_of_ble_eq_true rfl), (Nat.le_of_ble_eq_true rfl)⟩ pd_X7_drives rfl hK hN hP hD [0, 1, 2, 3, 4, 5, 6] rfl rfl 0 7 rfl rfl rfl hl.1 (Nat.le_of_ble_eq_true rfl) dX7_makesDrive_25 ⟨(Nat.le_of_ble_eq_true rfl), (Nat.le_of_ble_eq_true rfl)⟩) hP hD hS hA [0, 1, 2, 3, 4, 5, 6] [] rfl rfl rfl (by decide) (fun H locs hP hD hS => ?_)
  have hP : va_P D vwCl [(ad 0, .inr (7, [.int x6.1, .ref (ad 1), .ref (ad 2), .ref (ad 3), .int x6.2.2.2.2.1, .ref (ad 4), .int x6.2.2.2.2.2.2.1, .ref (ad 5), .int x6.2.2.2.2.2.2.2.2.1, .int x6.2.2.2.2.2.2.2.2.2.1, .int x6.2.2.2.2.2.2.2.2.2.2.1, .ref (ad 6), .int x6.2.2.2.2.2.2.2.2.2.2.2.2.1, .int x6.2.2.2.2.2.2.2.2.2.2.2.2.2.1, .int x6.2.2.2.2.2.2.2.2.2.2.2.2.2.2.1, .int x6.2.2.2.2.2.2.2.2.2.2.2.2.2.2.2.1, .int x6.2.2.2.2.2.2.2.2.2.2.2.2.2.2.2.2.1, .int x6.2.2.2.2.2.2.2.2.2.2.2.2.2.2.2.2.2])), (ad 1, .inl (cI, 72, .inl x6.2.1)), (ad 2, .inl (cI, 72, .inl x6.2.2.1)), (ad 3, .inl (cI, 288, .inl x6.2.2.2.1)), (ad 4, .inl (cI, 72, .inl x6.2.2.2.2.2.1)), (ad 5, .inl (cI, 60, .inl x6.2.2.2.2.2.2.2.1)), (ad 6, .inl (cI, 32768, .inl x6.2.2.2.2.2.2.2.2.2.2.2.1))] H := hP
  have hD : va_D A [(ad 0, .inr (7, [.int x6.1, .ref (ad 1), .ref (ad 2), .ref (ad 3), .int x6.2.2.2.2.1, .ref (ad 4), .int x6.2.2.2.2.2.2.1, .ref (ad 5), .int x6.2.2.2.2.2.2.2.2.1, .int x6.2.2.2.2.2.2.2.2.2.1, .int x6.2.2.2.2.2.2.2.2.2.2.1, .ref (ad 6), .int x6.2.2.2.2.2.2.2.2.2.2.2.2.1, .int x6.2.2.2.2.2.2.2.2.2.2.2.2.2.1, .int x6.2.2.2.2.2.2.2.2.2.2.2.2.2.2.1, .int x6.2.2.2.2.2.2.2.2.2.2.2.2.2.2.2.1, .int x6.2.2.2.2.2.2.2.2.2.2.2.2.2.2.2.2.1, .int x6.2.2.2.2.2.2.2.2.2.2.2.2.2.2.2.2.2])), (ad 1, .inl (cI, 72, .inl x6.2.1)), (ad 2, .inl (cI, 72, .inl x6.2.2.1)), (ad 3, .inl (cI, 288, .inl x6.2.2.2.1)), (ad 4, .inl (cI, 72, .inl x6.2.2.2.2.2.1)), (ad 5, .inl (cI, 60, .inl x6.2.2.2.2.2.2.2.1)), (ad 6, .inl (cI, 32768, .inl x6.2.2.2.2.2.2.2.2.2.2.2.1))] := hD
  refine lv_aload_n hx hb dX7_makesDrive_28 rfl (lv_at hl 1 rfl) ?_
  refine lv_iload_n hx hb dX7_makesDrive_29 rfl (lv_at hl 0 rfl) ?_
  refine lv_iconst (v := (0 : Int32)) hx hb dX7_makesDrive_30 (by decide) ?_
  refine lv_aload_n hx hb dX7_makesDrive_31 rfl (lv_at hl 1 rfl) ?_
  refine va_get (D := D) (ci := 7) (v := .int x6.2.2.2.2.2.2.2.2.2.2.2.2.2.1) (C := RX7) (T := TX7) (N := 18) hx hb hts inA_X7 hown hK hP 0 rfl rfl 13 (by decide) (hts _ kF_X7_63) (fun _ h9 => h9) rfl dX7_makesDrive_32 ?_
  obtain ⟨x7, hcx7, hf⟩ := gB hf
  refine j_v (wr := []) (w_V (As := [.int (v.2.1 17), .int (0 : Int32), .int x6.2.2.2.2.2.2.2.2.2.2.2.2.2.1]) (rest := []) (n := 3) ⟨hx, hb, hml, hown, hts⟩ (c_X7_lay l D cI cR ad x6 (v.2.1 17) (0 : Int32) x6.2.2.2.2.2.2.2.2.2.2.2.2.2.1 _ x7 hcx7) kM_X7_42 kN_X7_lay kV_X7_lay kZ_X7 kK_X7_lay ⟨rfl, rfl⟩ ⟨(Nat.le_of_ble_eq_true rfl), (Nat.le_of_ble_eq_true rfl)⟩ pd_X7_lay rfl hK hN hP hD [0, 1, 2, 3, 4, 5, 6] rfl rfl 0 7 rfl rfl rfl hl.1 (Nat.le_of_ble_eq_true rfl) dX7_makesDrive_35 ⟨(Nat.le_of_ble_eq_true rfl), (Nat.le_of_ble_eq_true rfl)⟩) hP hD hS hA [0, 1, 2, 3, 4, 5, 6] [] rfl rfl rfl (by decide) (fun H locs hP hD hS => ?_)
  have hP : va_P D vwCl [(ad 0, .inr (7, [.int x7.1, .ref (ad 1), .ref (ad 2), .ref (ad 3), .int x7.2.2.2.2.1, .ref (ad 4), .int x7.2.2.2.2.2.2.1, .ref (ad 5), .int x7.2.2.2.2.2.2.2.2.1, .int x7.2.2.2.2.2.2.2.2.2.1, .int x7.2.2.2.2.2.2.2.2.2.2.1, .ref (ad 6), .int x7.2.2.2.2.2.2.2.2.2.2.2.2.1, .int x7.2.2.2.2.2.2.2.2.2.2.2.2.2.1, .int x7.2.2.2.2.2.2.2.2.2.2.2.2.2.2.1, .int x7.2.2.2.2.2.2.2.2.2.2.2.2.2.2.2.1, .int x7.2.2.2.2.2.2.2.2.2.2.2.2.2.2.2.2.1, .int x7.2.2.2.2.2.2.2.2.2.2.2.2.2.2.2.2.2])), (ad 1, .inl (cI, 72, .inl x7.2.1)), (ad 2, .inl (cI, 72, .inl x7.2.2.1)), (ad 3, .inl (cI, 288, .inl x7.2.2.2.1)), (ad 4, .inl (cI, 72, .inl x7.2.2.2.2.2.1)), (ad 5, .inl (cI, 60, .inl x7.2.2.2.2.2.2.2.1)), (ad 6, .inl (cI, 32768, .inl x7.2.2.2.2.2.2.2.2.2.2.2.1))] H := hP
  have hD : va_D A [(ad 0, .inr (7, [.int x7.1, .ref (ad 1), .ref (ad 2), .ref (ad 3), .int x7.2.2.2.2.1, .ref (ad 4), .int x7.2.2.2.2.2.2.1, .ref (ad 5), .int x7.2.2.2.2.2.2.2.2.1, .int x7.2.2.2.2.2.2.2.2.2.1, .int x7.2.2.2.2.2.2.2.2.2.2.1, .ref (ad 6), .int x7.2.2.2.2.2.2.2.2.2.2.2.2.1, .int x7.2.2.2.2.2.2.2.2.2.2.2.2.2.1, .int x7.2.2.2.2.2.2.2.2.2.2.2.2.2.2.1, .int x7.2.2.2.2.2.2.2.2.2.2.2.2.2.2.2.1, .int x7.2.2.2.2.2.2.2.2.2.2.2.2.2.2.2.2.1, .int x7.2.2.2.2.2.2.2.2.2.2.2.2.2.2.2.2.2])), (ad 1, .inl (cI, 72, .inl x7.2.1)), (ad 2, .inl (cI, 72, .inl x7.2.2.1)), (ad 3, .inl (cI, 288, .inl x7.2.2.2.1)), (ad 4, .inl (cI, 72, .inl x7.2.2.2.2.2.1)), (ad 5, .inl (cI, 60, .inl x7.2.2.2.2.2.2.2.1)), (ad 6, .inl (cI, 32768, .inl x7.2.2.2.2.2.2.2.2.2.2.2.1))] := hD
  refine lv_aload_n hx hb dX7_makesDrive_38 rfl (lv_at hl 1 rfl) ?_
  refine lv_iload_n hx hb dX7_makesDrive_39 rfl (lv_at hl 0 rfl) ?_
  refine lv_iconst (v := (5 : Int32)) hx hb dX7_makesDrive_40 (by decide) ?_
  refine lv_aload_n hx hb dX7_makesDrive_41 rfl (lv_at hl 1 rfl) ?_
  refine lv_iload_n hx hb dX7_makesDrive_42 rfl (lv_at hl 0 rfl) ?_
  refine lv_iconst (v := (5 : Int32)) hx hb dX7_makesDrive_43 (by decide) ?_
  obtain ⟨x8, hcx8, hf⟩ := gB hf
  refine k_r (r_V (As := [.int (v.2.1 17), .int (5 : Int32)]) (rest := [.int (5 : Int32), .int (v.2.1 17), .ref (ad 0)]) (n := 2) ⟨hx, hb, hml, hown, hts⟩ (c_X7_of l D cI cR ad x7 (v.2.1 17) (5 : Int32) _ x8 hcx8) kM_X7_123 kN_X7_of kV_X7_of kZ_X7 kK_X7_of ⟨rfl, rfl⟩ ⟨(Nat.le_of_ble_eq_true rfl), (Nat.le_of_ble_eq_true rfl)⟩ pd_X7_of rfl hK hN hP hD [0, 1, 2, 3, 4, 5, 6] rfl rfl 0 7 rfl rfl rfl hl.1 (Nat.le_of_ble_eq_true rfl) dX7_makesDrive_44 ⟨(Nat.le_of_ble_eq_true rfl), (Nat.le_of_ble_eq_true rfl)⟩) ?_
  refine lv_aload_n hx hb dX7_makesDrive_47 rfl (lv_at hl 1 rfl) ?_
  refine va_get (D := D) (ci := 7) (v := .int x7.2.2.2.2.2.2.2.2.2.2.2.2.2.2.2.2.1) (C := RX7) (T := TX7) (N := 18) hx hb hts inA_X7 hown hK hP 0 rfl rfl 16 (by decide) (hts _ kF_X7_57) (fun _ h9 => h9) rfl dX7_makesDrive_48 ?_
  refine lv_iadd hx hb dX7_makesDrive_51 ?_
  obtain ⟨x9, hcx9, hf⟩ := gB hf
  refine j_v (wr := []) (w_V (As := [.int (v.2.1 17), .int (5 : Int32), .int (x8 + x7.2.2.2.2.2.2.2.2.2.2.2.2.2.2.2.2.1)]) (rest := []) (n := 3) ⟨hx, hb, hml, hown, hts⟩ (c_X7_lay l D cI cR ad x7 (v.2.1 17) (5 : Int32) (x8 + x7.2.2.2.2.2.2.2.2.2.2.2.2.2.2.2.2.1) _ x9 hcx9) kM_X7_42 kN_X7_lay kV_X7_lay kZ_X7 kK_X7_lay ⟨rfl, rfl⟩ ⟨(Nat.le_of_ble_eq_true rfl), (Nat.le_of_ble_eq_true rfl)⟩ pd_X7_lay rfl hK hN hP hD [0, 1, 2, 3, 4, 5, 6] rfl rfl 0 7 rfl rfl rfl hl.1 (Nat.le_of_ble_eq_true rfl) dX7_makesDrive_52 ⟨(Nat.le_of_ble_eq_true rfl), (Nat.le_of_ble_eq_true rfl)⟩) hP hD hS hA [0, 1, 2, 3, 4, 5, 6] [] rfl rfl rfl (by decide) (fun H locs hP hD hS => ?_)
  have hP : va_P D vwCl [(ad 0, .inr (7, [.int x9.1, .ref (ad 1), .ref (ad 2), .ref (ad 3), .int x9.2.2.2.2.1, .ref (ad 4), .int x9.2.2.2.2.2.2.1, .ref (ad 5), .int x9.2.2.2.2.2.2.2.2.1, .int x9.2.2.2.2.2.2.2.2.2.1, .int x9.2.2.2.2.2.2.2.2.2.2.1, .ref (ad 6), .int x9.2.2.2.2.2.2.2.2.2.2.2.2.1, .int x9.2.2.2.2.2.2.2.2.2.2.2.2.2.1, .int x9.2.2.2.2.2.2.2.2.2.2.2.2.2.2.1, .int x9.2.2.2.2.2.2.2.2.2.2.2.2.2.2.2.1, .int x9.2.2.2.2.2.2.2.2.2.2.2.2.2.2.2.2.1, .int x9.2.2.2.2.2.2.2.2.2.2.2.2.2.2.2.2.2])), (ad 1, .inl (cI, 72, .inl x9.2.1)), (ad 2, .inl (cI, 72, .inl x9.2.2.1)), (ad 3, .inl (cI, 288, .inl x9.2.2.2.1)), (ad 4, .inl (cI, 72, .inl x9.2.2.2.2.2.1)), (ad 5, .inl (cI, 60, .inl x9.2.2.2.2.2.2.2.1)), (ad 6, .inl (cI, 32768, .inl x9.2.2.2.2.2.2.2.2.2.2.2.1))] H := hP
  have hD : va_D A [(ad 0, .inr (7, [.int x9.1, .ref (ad 1), .ref (ad 2), .ref (ad 3), .int x9.2.2.2.2.1, .ref (ad 4), .int x9.2.2.2.2.2.2.1, .ref (ad 5), .int x9.2.2.2.2.2.2.2.2.1, .int x9.2.2.2.2.2.2.2.2.2.1, .int x9.2.2.2.2.2.2.2.2.2.2.1, .ref (ad 6), .int x9.2.2.2.2.2.2.2.2.2.2.2.2.1, .int x9.2.2.2.2.2.2.2.2.2.2.2.2.2.1, .int x9.2.2.2.2.2.2.2.2.2.2.2.2.2.2.1, .int x9.2.2.2.2.2.2.2.2.2.2.2.2.2.2.2.1, .int x9.2.2.2.2.2.2.2.2.2.2.2.2.2.2.2.2.1, .int x9.2.2.2.2.2.2.2.2.2.2.2.2.2.2.2.2.2])), (ad 1, .inl (cI, 72, .inl x9.2.1)), (ad 2, .inl (cI, 72, .inl x9.2.2.1)), (ad 3, .inl (cI, 288, .inl x9.2.2.2.1)), (ad 4, .inl (cI, 72, .inl x9.2.2.2.2.2.1)), (ad 5, .inl (cI, 60, .inl x9.2.2.2.2.2.2.2.1)), (ad 6, .inl (cI, 32768, .inl x9.2.2.2.2.2.2.2.2.2.2.2.1))] := hD
  refine lv_aload_n hx hb dX7_makesDrive_55 rfl (lv_at hl 1 rfl) ?_
  refine lv_iload_n hx hb dX7_makesDrive_56 rfl (lv_at hl 0 rfl) ?_
  refine lv_bipush (v := (7 : Int32)) hx hb dX7_makesDrive_57 (by decide) ?_
  refine lv_aload_n hx hb dX7_makesDrive_59 rfl (lv_at hl 1 rfl) ?_
  refine lv_iload_n hx hb dX7_makesDrive_60 rfl (lv_at hl 0 rfl) ?_
  refine lv_bipush (v := (7 : Int32)) hx hb dX7_makesDrive_61 (by decide) ?_
  obtain ⟨x10, hcx10, hf⟩ := gB hf
  refine k_r (r_V (As := [.int (v.2.1 17), .int (7 : Int32)]) (rest := [.int (7 : Int32), .int (v.2.1 17), .ref (ad 0)]) (n := 2) ⟨hx, hb, hml, hown, hts⟩ (c_X7_of l D cI cR ad x9 (v.2.1 17) (7 : Int32) _ x10 hcx10) kM_X7_123 kN_X7_of kV_X7_of kZ_X7 kK_X7_of ⟨rfl, rfl⟩ ⟨(Nat.le_of_ble_eq_true rfl), (Nat.le_of_ble_eq_true rfl)⟩ pd_X7_of rfl hK hN hP hD [0, 1, 2, 3, 4, 5, 6] rfl rfl 0 7 rfl rfl rfl hl.1 (Nat.le_of_ble_eq_true rfl) dX7_makesDrive_63 ⟨(Nat.le_of_ble_eq_true rfl), (Nat.le_of_ble_eq_true rfl)⟩) ?_
  refine lv_aload_n hx hb dX7_makesDrive_66 rfl (lv_at hl 1 rfl) ?_
  refine va_get (D := D) (ci := 7) (v := .int x9.2.2.2.2.2.2.2.2.2.2.2.2.2.2.2.2.2) (C := RX7) (T := TX7) (N := 18) hx hb hts inA_X7 hown hK hP 0 rfl rfl 17 (by decide) (hts _ kF_X7_60) (fun _ h9 => h9) rfl dX7_makesDrive_67 ?_
  refine lv_iadd hx hb dX7_makesDrive_70 ?_
  obtain ⟨x11, hcx11, hf⟩ := gB hf
  refine j_v (wr := []) (w_V (As := [.int (v.2.1 17), .int (7 : Int32), .int (x10 + x9.2.2.2.2.2.2.2.2.2.2.2.2.2.2.2.2.2)]) (rest := []) (n := 3) ⟨hx, hb, hml, hown, hts⟩ (c_X7_lay l D cI cR ad x9 (v.2.1 17) (7 : Int32) (x10 + x9.2.2.2.2.2.2.2.2.2.2.2.2.2.2.2.2.2) _ x11 hcx11) kM_X7_42 kN_X7_lay kV_X7_lay kZ_X7 kK_X7_lay ⟨rfl, rfl⟩ ⟨(Nat.le_of_ble_eq_true rfl), (Nat.le_of_ble_eq_true rfl)⟩ pd_X7_lay rfl hK hN hP hD [0, 1, 2, 3, 4, 5, 6] rfl rfl 0 7 rfl rfl rfl hl.1 (Nat.le_of_ble_eq_true rfl) dX7_makesDrive_71 ⟨(Nat.le_of_ble_eq_true rfl), (Nat.le_of_ble_eq_true rfl)⟩) hP hD hS hA [0, 1, 2, 3, 4, 5, 6] [] rfl rfl rfl (by decide) (fun H locs hP hD hS => ?_)
  have hP : va_P D vwCl [(ad 0, .inr (7, [.int x11.1, .ref (ad 1), .ref (ad 2), .ref (ad 3), .int x11.2.2.2.2.1, .ref (ad 4), .int x11.2.2.2.2.2.2.1, .ref (ad 5), .int x11.2.2.2.2.2.2.2.2.1, .int x11.2.2.2.2.2.2.2.2.2.1, .int x11.2.2.2.2.2.2.2.2.2.2.1, .ref (ad 6), .int x11.2.2.2.2.2.2.2.2.2.2.2.2.1, .int x11.2.2.2.2.2.2.2.2.2.2.2.2.2.1, .int x11.2.2.2.2.2.2.2.2.2.2.2.2.2.2.1, .int x11.2.2.2.2.2.2.2.2.2.2.2.2.2.2.2.1, .int x11.2.2.2.2.2.2.2.2.2.2.2.2.2.2.2.2.1, .int x11.2.2.2.2.2.2.2.2.2.2.2.2.2.2.2.2.2])), (ad 1, .inl (cI, 72, .inl x11.2.1)), (ad 2, .inl (cI, 72, .inl x11.2.2.1)), (ad 3, .inl (cI, 288, .inl x11.2.2.2.1)), (ad 4, .inl (cI, 72, .inl x11.2.2.2.2.2.1)), (ad 5, .inl (cI, 60, .inl x11.2.2.2.2.2.2.2.1)), (ad 6, .inl (cI, 32768, .inl x11.2.2.2.2.2.2.2.2.2.2.2.1))] H := hP
  have hD : va_D A [(ad 0, .inr (7, [.int x11.1, .ref (ad 1), .ref (ad 2), .ref (ad 3), .int x11.2.2.2.2.1, .ref (ad 4), .int x11.2.2.2.2.2.2.1, .ref (ad 5), .int x11.2.2.2.2.2.2.2.2.1, .int x11.2.2.2.2.2.2.2.2.2.1, .int x11.2.2.2.2.2.2.2.2.2.2.1, .ref (ad 6), .int x11.2.2.2.2.2.2.2.2.2.2.2.2.1, .int x11.2.2.2.2.2.2.2.2.2.2.2.2.2.1, .int x11.2.2.2.2.2.2.2.2.2.2.2.2.2.2.1, .int x11.2.2.2.2.2.2.2.2.2.2.2.2.2.2.2.1, .int x11.2.2.2.2.2.2.2.2.2.2.2.2.2.2.2.2.1, .int x11.2.2.2.2.2.2.2.2.2.2.2.2.2.2.2.2.2])), (ad 1, .inl (cI, 72, .inl x11.2.1)), (ad 2, .inl (cI, 72, .inl x11.2.2.1)), (ad 3, .inl (cI, 288, .inl x11.2.2.2.1)), (ad 4, .inl (cI, 72, .inl x11.2.2.2.2.2.1)), (ad 5, .inl (cI, 60, .inl x11.2.2.2.2.2.2.2.1)), (ad 6, .inl (cI, 32768, .inl x11.2.2.2.2.2.2.2.2.2.2.2.1))] := hD
  refine lv_aload_n hx hb dX7_makesDrive_74 rfl (lv_at hl 1 rfl) ?_
  refine lv_iload_n hx hb dX7_makesDrive_75 rfl (lv_at hl 0 rfl) ?_
  refine lv_iconst (v := (2 : Int32)) hx hb dX7_makesDrive_76 (by decide) ?_
  refine lv_aload_n hx hb dX7_makesDrive_77 rfl (lv_at hl 1 rfl) ?_
  refine lv_iload_n hx hb dX7_makesDrive_78 rfl (lv_at hl 0 rfl) ?_
  refine lv_iconst (v := (2 : Int32)) hx hb dX7_makesDrive_79 (by decide) ?_
  obtain ⟨x12, hcx12, hf⟩ := gB hf
  refine k_r (r_V (As := [.int (v.2.1 17), .int (2 : Int32)]) (rest := [.int (2 : Int32), .int (v.2.1 17), .ref (ad 0)]) (n := 2) ⟨hx, hb, hml, hown, hts⟩ (c_X7_of l D cI cR ad x11 (v.2.1 17) (2 : Int32) _ x12 hcx12) kM_X7_123 kN_X7_of kV_X7_of kZ_X7 kK_X7_of ⟨rfl, rfl⟩ ⟨(Nat.le_of_ble_eq_true rfl), (Nat.le_of_ble_eq_true rfl)⟩ pd_X7_of rfl hK hN hP hD [0, 1, 2, 3, 4, 5, 6] rfl rfl 0 7 rfl rfl rfl hl.1 (Nat.le_of_ble_eq_true rfl) dX7_makesDrive_80 ⟨(Nat.le_of_ble_eq_true rfl), (Nat.le_of_ble_eq_true rfl)⟩) ?_
  refine lv_aload_n hx hb dX7_makesDrive_83 rfl (lv_at hl 1 rfl) ?_
  refine va_get (D := D) (ci := 7) (v := .int x11.2.2.2.2.2.2.2.2.2.2.2.2.2.2.1) (C := RX7) (T := TX7) (N := 18) hx hb hts inA_X7 hown hK hP 0 rfl rfl 14 (by decide) (hts _ kF_X7_78) (fun _ h9 => h9) rfl dX7_makesDrive_84 ?_
  refine lv_iadd hx hb dX7_makesDrive_87 ?_
  obtain ⟨x13, hcx13, hf⟩ := gB hf
  refine j_v (wr := []) (w_V (As := [.int (v.2.1 17), .int (2 : Int32), .int (x12 + x11.2.2.2.2.2.2.2.2.2.2.2.2.2.2.1)]) (rest := []) (n := 3) ⟨hx, hb, hml, hown, hts⟩ (c_X7_lay l D cI cR ad x11 (v.2.1 17) (2 : Int32) (x12 + x11.2.2.2.2.2.2.2.2.2.2.2.2.2.2.1) _ x13 hcx13) kM_X7_42 kN_X7_lay kV_X7_lay kZ_X7 kK_X7_lay ⟨rfl, rfl⟩ ⟨(Nat.le_of_ble_eq_true rfl), (Nat.le_of_ble_eq_true rfl)⟩ pd_X7_lay rfl hK hN hP hD [0, 1, 2, 3, 4, 5, 6] rfl rfl 0 7 rfl rfl rfl hl.1 (Nat.le_of_ble_eq_true rfl) dX7_makesDrive_88 ⟨(Nat.le_of_ble_eq_true rfl), (Nat.le_of_ble_eq_true rfl)⟩) hP hD hS hA [0, 1, 2, 3, 4, 5, 6] [] rfl rfl rfl (by decide) (fun H locs hP hD hS => ?_)
  have hP : va_P D vwCl [(ad 0, .inr (7, [.int x13.1, .ref (ad 1), .ref (ad 2), .ref (ad 3), .int x13.2.2.2.2.1, .ref (ad 4), .int x13.2.2.2.2.2.2.1, .ref (ad 5), .int x13.2.2.2.2.2.2.2.2.1, .int x13.2.2.2.2.2.2.2.2.2.1, .int x13.2.2.2.2.2.2.2.2.2.2.1, .ref (ad 6), .int x13.2.2.2.2.2.2.2.2.2.2.2.2.1, .int x13.2.2.2.2.2.2.2.2.2.2.2.2.2.1, .int x13.2.2.2.2.2.2.2.2.2.2.2.2.2.2.1, .int x13.2.2.2.2.2.2.2.2.2.2.2.2.2.2.2.1, .int x13.2.2.2.2.2.2.2.2.2.2.2.2.2.2.2.2.1, .int x13.2.2.2.2.2.2.2.2.2.2.2.2.2.2.2.2.2])), (ad 1, .inl (cI, 72, .inl x13.2.1)), (ad 2, .inl (cI, 72, .inl x13.2.2.1)), (ad 3, .inl (cI, 288, .inl x13.2.2.2.1)), (ad 4, .inl (cI, 72, .inl x13.2.2.2.2.2.1)), (ad 5, .inl (cI, 60, .inl x13.2.2.2.2.2.2.2.1)), (ad 6, .inl (cI, 32768, .inl x13.2.2.2.2.2.2.2.2.2.2.2.1))] H := hP
  have hD : va_D A [(ad 0, .inr (7, [.int x13.1, .ref (ad 1), .ref (ad 2), .ref (ad 3), .int x13.2.2.2.2.1, .ref (ad 4), .int x13.2.2.2.2.2.2.1, .ref (ad 5), .int x13.2.2.2.2.2.2.2.2.1, .int x13.2.2.2.2.2.2.2.2.2.1, .int x13.2.2.2.2.2.2.2.2.2.2.1, .ref (ad 6), .int x13.2.2.2.2.2.2.2.2.2.2.2.2.1, .int x13.2.2.2.2.2.2.2.2.2.2.2.2.2.1, .int x13.2.2.2.2.2.2.2.2.2.2.2.2.2.2.1, .int x13.2.2.2.2.2.2.2.2.2.2.2.2.2.2.2.1, .int x13.2.2.2.2.2.2.2.2.2.2.2.2.2.2.2.2.1, .int x13.2.2.2.2.2.2.2.2.2.2.2.2.2.2.2.2.2])), (ad 1, .inl (cI, 72, .inl x13.2.1)), (ad 2, .inl (cI, 72, .inl x13.2.2.1)), (ad 3, .inl (cI, 288, .inl x13.2.2.2.1)), (ad 4, .inl (cI, 72, .inl x13.2.2.2.2.2.1)), (ad 5, .inl (cI, 60, .inl x13.2.2.2.2.2.2.2.1)), (ad 6, .inl (cI, 32768, .inl x13.2.2.2.2.2.2.2.2.2.2.2.1))] := hD
  refine lv_aload_n hx hb dX7_makesDrive_91 rfl (lv_at hl 1 rfl) ?_
  refine lv_iload_n hx hb dX7_makesDrive_92 rfl (lv_at hl 0 rfl) ?_
  refine lv_iconst (v := (1 : Int32)) hx hb dX7_makesDrive_93 (by decide) ?_
  refine lv_aload_n hx hb dX7_makesDrive_94 rfl (lv_at hl 1 rfl) ?_
  refine va_get (D := D) (ci := 7) (v := .int x13.2.2.2.2.2.2.2.2.2.2.2.2.2.2.2.1) (C := RX7) (T := TX7) (N := 18) hx hb hts inA_X7 hown hK hP 0 rfl rfl 15 (by decide) (hts _ kF_X7_81) (fun _ h9 => h9) rfl dX7_makesDrive_95 ?_
  refine lv_if_eq (tgt := 105) hx hb dX7_makesDrive_98 (by decide) (fun c1 => ?_) (fun c1 => ?_)
  · replace hf := gT hf c1
    refine lv_aload_n hx hb dX7_makesDrive_105 rfl (lv_at hl 1 rfl) ?_
    refine lv_iload_n hx hb dX7_makesDrive_106 rfl (lv_at hl 0 rfl) ?_
    refine lv_iconst (v := (1 : Int32)) hx hb dX7_makesDrive_107 (by decide) ?_
    obtain ⟨x14, hcx14, hf⟩ := gB hf
    refine k_r (r_V (As := [.int (v.2.1 17), .int (1 : Int32)]) (rest := [.int (1 : Int32), .int (v.2.1 17), .ref (ad 0)]) (n := 2) ⟨hx, hb, hml, hown, hts⟩ (c_X7_of l D cI cR ad x13 (v.2.1 17) (1 : Int32) _ x14 hcx14) kM_X7_123 kN_X7_of kV_X7_of kZ_X7 kK_X7_of ⟨rfl, rfl⟩ ⟨(Nat.le_of_ble_eq_true rfl), (Nat.le_of_ble_eq_true rfl)⟩ pd_X7_of rfl hK hN hP hD [0, 1, 2, 3, 4, 5, 6] rfl rfl 0 7 rfl rfl rfl hl.1 (Nat.le_of_ble_eq_true rfl) dX7_makesDrive_108 ⟨(Nat.le_of_ble_eq_true rfl), (Nat.le_of_ble_eq_true rfl)⟩) ?_
    exact J111 (v.2.1 17) x14 (1 : Int32) (v.2.1 17) x13 _ _ ls hP hD hS (lv_sub hl [1, 0] rfl) hf
  · replace hf := gF hf c1
    refine lv_iconst (v := (1 : Int32)) hx hb dX7_makesDrive_101 (by decide) ?_
    refine lv_goto (tgt := 111) hx hb dX7_makesDrive_102 (by decide) ?_
    exact J111 (v.2.1 17) (1 : Int32) (1 : Int32) (v.2.1 17) x13 _ _ ls hP hD hS (lv_sub hl [1, 0] rfl) hf
def f_X7_makesToken_J62 (l1 : Int32) (k0 : Int32) (k1 : Int32) (k2 : Int32) (v : tX7) : Option (Int32 × tX7) :=
  (f_X7_lay v k2 k1 k0).bind fun x0 => (f_X7_goesOn x0).bind fun x1 => (f_X7_of x1 ((1 : Int32) - l1) (2 : Int32)).bind fun x2 => some (x2, x1)
def f_X7_makesToken (v : tX7) : Option (Int32 × tX7) :=
  (f_X7_of v ((1 : Int32) - (v.2.1 17)) (2 : Int32)).bind fun x3 => (f_X7_lay v (v.2.1 17) (1 : Int32) (0 : Int32)).bind fun x4 => (f_X7_of x4 (v.2.1 17) (6 : Int32)).bind fun x5 => (f_X7_lay x4 (v.2.1 17) (6 : Int32) (x5 + (1 : Int32))).bind fun x6 => (if (3 : Int32) ≤ (x3 + (v.2.1 1)) then f_X7_makesToken_J62 (v.2.1 17) (3 : Int32) (2 : Int32) ((1 : Int32) - (v.2.1 17)) x6 else f_X7_makesToken_J62 (v.2.1 17) (x3 + (v.2.1 1)) (2 : Int32) ((1 : Int32) - (v.2.1 17)) x6)
abbrev rm_X7_makesToken : Room := { frames := 2, cells := 0, slots := 0, locals := 44 }
set_option maxHeartbeats 4000000 in
set_option maxRecDepth 100000 in
theorem c_X7_makesToken (l : Launch) (D : va_G) (cI cR : ClassId) (ad : Nat → Nat) (v : tX7) (sz : Nat) (r : (Int32 × tX7)) (hf : f_X7_makesToken v = some r) : Met l yX7_makesToken (wM yX7_makesToken cX7_makesToken 3 (some (.int))) rm_X7_makesToken (cPre D (tysA cI cR) ([.ref (ad 0)] : List Value) (oX7 cI cR ad v) sz) (qI D (oX7 cI cR ad r.2) r.1 (va_A (oX7 cI cR ad v) sz)) 0 0 (va_A (oX7 cI cR ad v) sz) := by
  refine en_M (own := RX7) (lv := [(0, .ref (ad 0))]) (by decide +kernel) rfl (Nat.le_of_ble_eq_true rfl) rfl (fun p e s m below meth c hx hb hr hlk hml hown hnm hts hsz hP hK hD hN ls hl => ?_)
  subst hsz
  generalize hAe : va_A (oX7 cI cR ad v) s.heap.size = A at hD ⊢
  have hA : ∀ q : Nat, s.heap.size ≤ q → A q := fun q h => by rw [← hAe]; exact Or.inr h
  have hS : va_S A s.heap s.heap [] := va_S.rf
  have hP : va_P D vwCl [(ad 0, .inr (7, [.int v.1, .ref (ad 1), .ref (ad 2), .ref (ad 3), .int v.2.2.2.2.1, .ref (ad 4), .int v.2.2.2.2.2.2.1, .ref (ad 5), .int v.2.2.2.2.2.2.2.2.1, .int v.2.2.2.2.2.2.2.2.2.1, .int v.2.2.2.2.2.2.2.2.2.2.1, .ref (ad 6), .int v.2.2.2.2.2.2.2.2.2.2.2.2.1, .int v.2.2.2.2.2.2.2.2.2.2.2.2.2.1, .int v.2.2.2.2.2.2.2.2.2.2.2.2.2.2.1, .int v.2.2.2.2.2.2.2.2.2.2.2.2.2.2.2.1, .int v.2.2.2.2.2.2.2.2.2.2.2.2.2.2.2.2.1, .int v.2.2.2.2.2.2.2.2.2.2.2.2.2.2.2.2.2])), (ad 1, .inl (cI, 72, .inl v.2.1)), (ad 2, .inl (cI, 72, .inl v.2.2.1)), (ad 3, .inl (cI, 288, .inl v.2.2.2.1)), (ad 4, .inl (cI, 72, .inl v.2.2.2.2.2.1)), (ad 5, .inl (cI, 60, .inl v.2.2.2.2.2.2.2.1)), (ad 6, .inl (cI, 32768, .inl v.2.2.2.2.2.2.2.2.2.2.2.1))] s.heap := hP
  have hD : va_D A [(ad 0, .inr (7, [.int v.1, .ref (ad 1), .ref (ad 2), .ref (ad 3), .int v.2.2.2.2.1, .ref (ad 4), .int v.2.2.2.2.2.2.1, .ref (ad 5), .int v.2.2.2.2.2.2.2.2.1, .int v.2.2.2.2.2.2.2.2.2.1, .int v.2.2.2.2.2.2.2.2.2.2.1, .ref (ad 6), .int v.2.2.2.2.2.2.2.2.2.2.2.2.1, .int v.2.2.2.2.2.2.2.2.2.2.2.2.2.1, .int v.2.2.2.2.2.2.2.2.2.2.2.2.2.2.1, .int v.2.2.2.2.2.2.2.2.2.2.2.2.2.2.2.1, .int v.2.2.2.2.2.2.2.2.2.2.2.2.2.2.2.2.1, .int v.2.2.2.2.2.2.2.2.2.2.2.2.2.2.2.2.2])), (ad 1, .inl (cI, 72, .inl v.2.1)), (ad 2, .inl (cI, 72, .inl v.2.2.1)), (ad 3, .inl (cI, 288, .inl v.2.2.2.1)), (ad 4, .inl (cI, 72, .inl v.2.2.2.2.2.1)), (ad 5, .inl (cI, 60, .inl v.2.2.2.2.2.2.2.1)), (ad 6, .inl (cI, 32768, .inl v.2.2.2.2.2.2.2.2.2.2.2.1))] := hD
  have J62 : ∀ (l1 : Int32) (k0 : Int32) (k1 : Int32) (k2 : Int32) (v : tX7) (H : Heap) (locs : List Loc) (ls : Array Slot), va_P D vwCl [(ad 0, .inr (7, [.int v.1, .ref (ad 1), .ref (ad 2), .ref (ad 3), .int v.2.2.2.2.1, .ref (ad 4), .int v.2.2.2.2.2.2.1, .ref (ad 5), .int v.2.2.2.2.2.2.2.2.1, .int v.2.2.2.2.2.2.2.2.2.1, .int v.2.2.2.2.2.2.2.2.2.2.1, .ref (ad 6), .int v.2.2.2.2.2.2.2.2.2.2.2.2.1, .int v.2.2.2.2.2.2.2.2.2.2.2.2.2.1, .int v.2.2.2.2.2.2.2.2.2.2.2.2.2.2.1, .int v.2.2.2.2.2.2.2.2.2.2.2.2.2.2.2.1, .int v.2.2.2.2.2.2.2.2.2.2.2.2.2.2.2.2.1, .int v.2.2.2.2.2.2.2.2.2.2.2.2.2.2.2.2.2])), (ad 1, .inl (cI, 72, .inl v.2.1)), (ad 2, .inl (cI, 72, .inl v.2.2.1)), (ad 3, .inl (cI, 288, .inl v.2.2.2.1)), (ad 4, .inl (cI, 72, .inl v.2.2.2.2.2.1)), (ad 5, .inl (cI, 60, .inl v.2.2.2.2.2.2.2.1)), (ad 6, .inl (cI, 32768, .inl v.2.2.2.2.2.2.2.2.2.2.2.1))] H → va_D A [(ad 0, .inr (7, [.int v.1, .ref (ad 1), .ref (ad 2), .ref (ad 3), .int v.2.2.2.2.1, .ref (ad 4), .int v.2.2.2.2.2.2.1, .ref (ad 5), .int v.2.2.2.2.2.2.2.2.1, .int v.2.2.2.2.2.2.2.2.2.1, .int v.2.2.2.2.2.2.2.2.2.2.1, .ref (ad 6), .int v.2.2.2.2.2.2.2.2.2.2.2.2.1, .int v.2.2.2.2.2.2.2.2.2.2.2.2.2.1, .int v.2.2.2.2.2.2.2.2.2.2.2.2.2.2.1, .int v.2.2.2.2.2.2.2.2.2.2.2.2.2.2.2.1, .int v.2.2.2.2.2.2.2.2.2.2.2.2.2.2.2.2.1, .int v.2.2.2.2.2.2.2.2.2.2.2.2.2.2.2.2.2])), (ad 1, .inl (cI, 72, .inl v.2.1)), (ad 2, .inl (cI, 72, .inl v.2.2.1)), (ad 3, .inl (cI, 288, .inl v.2.2.2.1)), (ad 4, .inl (cI, 72, .inl v.2.2.2.2.2.1)), (ad 5, .inl (cI, 60, .inl v.2.2.2.2.2.2.2.1)), (ad 6, .inl (cI, 32768, .inl v.2.2.2.2.2.2.2.2.2.2.2.1))] → va_S A s.heap H locs → lv_has ls 3 [(0, .ref (ad 0)), (1, .int l1)] → f_X7_makesToken_J62 l1 k0 k1 k2 v = some r → W p l e rm_X7_makesToken s m ([.ref (ad 0)] : List Value).toArray below meth c H locs 0 0 (MQ below (qI D (oX7 cI cR ad r.2) r.1 A) ([.ref (ad 0)] : List Value).toArray s 0 0 A) (F0 m 62 ls [.int k0, .int k1, .int k2, .ref (ad 0)]) := by
    intro l1 k0 k1 k2 v H locs ls hP hD hS hl hf
    unfold f_X7_makesToken_J62 at hf
    obtain ⟨x0, hcx0, hf⟩ := gB hf
    refine j_v (wr := []) (w_V (As := [.int k2, .int k1, .int k0]) (rest := []) (n := 3) ⟨hx, hb, hml, hown, hts⟩ (c_X7_lay l D cI cR ad v k2 k1 k0 _ x0 hcx0) kM_X7_42 kN_X7_lay kV_X7_lay kZ_X7 kK_X7_lay ⟨rfl, rfl⟩ ⟨(Nat.le_of_ble_eq_true rfl), (Nat.le_of_ble_eq_true rfl)⟩ pd_X7_lay rfl hK hN hP hD [0, 1, 2, 3, 4, 5, 6] rfl rfl 0 7 rfl rfl rfl hl.1 (Nat.le_of_ble_eq_true rfl) dX7_makesToken_62 ⟨(Nat.le_of_ble_eq_true rfl), (Nat.le_of_ble_eq_true rfl)⟩) hP hD hS hA [0, 1, 2, 3, 4, 5, 6] [] rfl rfl rfl (by decide) (fun H locs hP hD hS => ?_)
    have hP : va_P D vwCl [(ad 0, .inr (7, [.int x0.1, .ref (ad 1), .ref (ad 2), .ref (ad 3), .int x0.2.2.2.2.1, .ref (ad 4), .int x0.2.2.2.2.2.2.1, .ref (ad 5), .int x0.2.2.2.2.2.2.2.2.1, .int x0.2.2.2.2.2.2.2.2.2.1, .int x0.2.2.2.2.2.2.2.2.2.2.1, .ref (ad 6), .int x0.2.2.2.2.2.2.2.2.2.2.2.2.1, .int x0.2.2.2.2.2.2.2.2.2.2.2.2.2.1, .int x0.2.2.2.2.2.2.2.2.2.2.2.2.2.2.1, .int x0.2.2.2.2.2.2.2.2.2.2.2.2.2.2.2.1, .int x0.2.2.2.2.2.2.2.2.2.2.2.2.2.2.2.2.1, .int x0.2.2.2.2.2.2.2.2.2.2.2.2.2.2.2.2.2])), (ad 1, .inl (cI, 72, .inl x0.2.1)), (ad 2, .inl (cI, 72, .inl x0.2.2.1)), (ad 3, .inl (cI, 288, .inl x0.2.2.2.1)), (ad 4, .inl (cI, 72, .inl x0.2.2.2.2.2.1)), (ad 5, .inl (cI, 60, .inl x0.2.2.2.2.2.2.2.1)), (ad 6, .inl (cI, 32768, .inl x0.2.2.2.2.2.2.2.2.2.2.2.1))] H := hP
    have hD : va_D A [(ad 0, .inr (7, [.int x0.1, .ref (ad 1), .ref (ad 2), .ref (ad 3), .int x0.2.2.2.2.1, .ref (ad 4), .int x0.2.2.2.2.2.2.1, .ref (ad 5), .int x0.2.2.2.2.2.2.2.2.1, .int x0.2.2.2.2.2.2.2.2.2.1, .int x0.2.2.2.2.2.2.2.2.2.2.1, .ref (ad 6), .int x0.2.2.2.2.2.2.2.2.2.2.2.2.1, .int x0.2.2.2.2.2.2.2.2.2.2.2.2.2.1, .int x0.2.2.2.2.2.2.2.2.2.2.2.2.2.2.1, .int x0.2.2.2.2.2.2.2.2.2.2.2.2.2.2.2.1, .int x0.2.2.2.2.2.2.2.2.2.2.2.2.2.2.2.2.1, .int x0.2.2.2.2.2.2.2.2.2.2.2.2.2.2.2.2.2])), (ad 1, .inl (cI, 72, .inl x0.2.1)), (ad 2, .inl (cI, 72, .inl x0.2.2.1)), (ad 3, .inl (cI, 288, .inl x0.2.2.2.1)), (ad 4, .inl (cI, 72, .inl x0.2.2.2.2.2.1)), (ad 5, .inl (cI, 60, .inl x0.2.2.2.2.2.2.2.1)), (ad 6, .inl (cI, 32768, .inl x0.2.2.2.2.2.2.2.2.2.2.2.1))] := hD
    refine lv_aload_n hx hb dX7_makesToken_65 rfl (lv_at hl 0 rfl) ?_
    obtain ⟨x1, hcx1, hf⟩ := gB hf
    refine j_v (wr := []) (w_V (As := []) (rest := []) (n := 0) ⟨hx, hb, hml, hown, hts⟩ (c_X7_goesOn l D cI cR ad x0 _ x1 hcx1) kM_X7_129 kN_X7_goesOn kV_X7_goesOn kZ_X7 kK_X7_goesOn ⟨rfl, rfl⟩ ⟨(Nat.le_of_ble_eq_true rfl), (Nat.le_of_ble_eq_true rfl)⟩ pd_X7_goesOn rfl hK hN hP hD [0, 1, 2, 3, 4, 5, 6] rfl rfl 0 7 rfl rfl rfl hl.1 (Nat.le_of_ble_eq_true rfl) dX7_makesToken_66 ⟨(Nat.le_of_ble_eq_true rfl), (Nat.le_of_ble_eq_true rfl)⟩) hP hD hS hA [0, 1, 2, 3, 4, 5, 6] [] rfl rfl rfl (by decide) (fun H locs hP hD hS => ?_)
    have hP : va_P D vwCl [(ad 0, .inr (7, [.int x1.1, .ref (ad 1), .ref (ad 2), .ref (ad 3), .int x1.2.2.2.2.1, .ref (ad 4), .int x1.2.2.2.2.2.2.1, .ref (ad 5), .int x1.2.2.2.2.2.2.2.2.1, .int x1.2.2.2.2.2.2.2.2.2.1, .int x1.2.2.2.2.2.2.2.2.2.2.1, .ref (ad 6), .int x1.2.2.2.2.2.2.2.2.2.2.2.2.1, .int x1.2.2.2.2.2.2.2.2.2.2.2.2.2.1, .int x1.2.2.2.2.2.2.2.2.2.2.2.2.2.2.1, .int x1.2.2.2.2.2.2.2.2.2.2.2.2.2.2.2.1, .int x1.2.2.2.2.2.2.2.2.2.2.2.2.2.2.2.2.1, .int x1.2.2.2.2.2.2.2.2.2.2.2.2.2.2.2.2.2])), (ad 1, .inl (cI, 72, .inl x1.2.1)), (ad 2, .inl (cI, 72, .inl x1.2.2.1)), (ad 3, .inl (cI, 288, .inl x1.2.2.2.1)), (ad 4, .inl (cI, 72, .inl x1.2.2.2.2.2.1)), (ad 5, .inl (cI, 60, .inl x1.2.2.2.2.2.2.2.1)), (ad 6, .inl (cI, 32768, .inl x1.2.2.2.2.2.2.2.2.2.2.2.1))] H := hP
    have hD : va_D A [(ad 0, .inr (7, [.int x1.1, .ref (ad 1), .ref (ad 2), .ref (ad 3), .int x1.2.2.2.2.1, .ref (ad 4), .int x1.2.2.2.2.2.2.1, .ref (ad 5), .int x1.2.2.2.2.2.2.2.2.1, .int x1.2.2.2.2.2.2.2.2.2.1, .int x1.2.2.2.2.2.2.2.2.2.2.1, .ref (ad 6), .int x1.2.2.2.2.2.2.2.2.2.2.2.2.1, .int x1.2.2.2.2.2.2.2.2.2.2.2.2.2.1, .int x1.2.2.2.2.2.2.2.2.2.2.2.2.2.2.1, .int x1.2.2.2.2.2.2.2.2.2.2.2.2.2.2.2.1, .int x1.2.2.2.2.2.2.2.2.2.2.2.2.2.2.2.2.1, .int x1.2.2.2.2.2.2.2.2.2.2.2.2.2.2.2.2.2])), (ad 1, .inl (cI, 72, .inl x1.2.1)), (ad 2, .inl (cI, 72, .inl x1.2.2.1)), (ad 3, .inl (cI, 288, .inl x1.2.2.2.1)), (ad 4, .inl (cI, 72, .inl x1.2.2.2.2.2.1)), (ad 5, .inl (cI, 60, .inl x1.2.2.2.2.2.2.2.1)), (ad 6, .inl (cI, 32768, .inl x1.2.2.2.2.2.2.2.2.2.2.2.1))] := hD
    refine lv_aload_n hx hb dX7_makesToken_69 rfl (lv_at hl 0 rfl) ?_
    refine lv_iconst (v := (1 : Int32)) hx hb dX7_makesToken_70 (by decide) ?_
    refine lv_iload_n hx hb dX7_makesToken_71 rfl (lv_at hl 1 rfl) ?_
    refine lv_isub hx hb dX7_makesToken_72 ?_
    refine lv_iconst (v := (2 : Int32)) hx hb dX7_makesToken_73 (by decide) ?_
    obtain ⟨x2, hcx2, hf⟩ := gB hf
    refine k_r (r_V (As := [.int ((1 : Int32) - l1), .int (2 : Int32)]) (rest := []) (n := 2) ⟨hx, hb, hml, hown, hts⟩ (c_X7_of l D cI cR ad x1 ((1 : Int32) - l1) (2 : Int32) _ x2 hcx2) kM_X7_123 kN_X7_of kV_X7_of kZ_X7 kK_X7_of ⟨rfl, rfl⟩ ⟨(Nat.le_of_ble_eq_true rfl), (Nat.le_of_ble_eq_true rfl)⟩ pd_X7_of rfl hK hN hP hD [0, 1, 2, 3, 4, 5, 6] rfl rfl 0 7 rfl rfl rfl hl.1 (Nat.le_of_ble_eq_true rfl) dX7_makesToken_74 ⟨(Nat.le_of_ble_eq_true rfl), (Nat.le_of_ble_eq_true rfl)⟩) ?_
    exact z_i hf (fun r => r.1) (fun r => oX7 cI cR ad r.2) hx hb hr hlk hS hP hD dX7_makesToken_77
  unfold f_X7_makesToken at hf
  refine lv_aload_n hx hb dX7_makesToken_0 rfl (lv_at hl 0 rfl) ?_
  refine va_get (D := D) (ci := 7) (v := .ref (ad 1)) (C := RX7) (T := TX7) (N := 18) hx hb hts inA_X7 hown hK hP 0 rfl rfl 1 (by decide) (hts _ kF_X7_7) (fun _ h9 => h9) rfl dX7_makesToken_1 ?_
  refine lv_bipush (v := (17 : Int32)) hx hb dX7_makesToken_4 (by decide) ?_
  refine va_iald hx hb hK hP 1 0 rfl rfl (ig_in (by decide)) dX7_makesToken_6 ?_
  refine W.eq (g2 := F0 m 7 ls [.int (v.2.1 17)]) rfl ?_
  refine lv_istore_n (lv' := [(1, .int (v.2.1 17)), (0, .ref (ad 0))]) hx hb dX7_makesToken_7 rfl hl (by decide) rfl (fun ls hl => ?_)
  refine lv_aload_n hx hb dX7_makesToken_8 rfl (lv_at hl 1 rfl) ?_
  refine lv_iconst (v := (1 : Int32)) hx hb dX7_makesToken_9 (by decide) ?_
  refine lv_iload_n hx hb dX7_makesToken_10 rfl (lv_at hl 0 rfl) ?_
  refine lv_isub hx hb dX7_makesToken_11 ?_
  refine lv_iconst (v := (2 : Int32)) hx hb dX7_makesToken_12 (by decide) ?_
  obtain ⟨x3, hcx3, hf⟩ := gB hf
  refine k_r (r_V (As := [.int ((1 : Int32) - (v.2.1 17)), .int (2 : Int32)]) (rest := []) (n := 2) ⟨hx, hb, hml, hown, hts⟩ (c_X7_of l D cI cR ad v ((1 : Int32) - (v.2.1 17)) (2 : Int32) _ x3 hcx3) kM_X7_123 kN_X7_of kV_X7_of kZ_X7 kK_X7_of ⟨rfl, rfl⟩ ⟨(Nat.le_of_ble_eq_true rfl), (Nat.le_of_ble_eq_true rfl)⟩ pd_X7_of rfl hK hN hP hD [0, 1, 2, 3, 4, 5, 6] rfl rfl 0 7 rfl rfl rfl hl.1 (Nat.le_of_ble_eq_true rfl) dX7_makesToken_13 ⟨(Nat.le_of_ble_eq_true rfl), (Nat.le_of_ble_eq_true rfl)⟩) ?_
  refine lv_aload_n hx hb dX7_makesToken_16 rfl (lv_at hl 1 rfl) ?_
  refine va_get (D := D) (ci := 7) (v := .ref (ad 1)) (C := RX7) (T := TX7) (N := 18) hx hb hts inA_X7 hown hK hP 0 rfl rfl 1 (by decide) (hts _ kF_X7_7) (fun _ h9 => h9) rfl dX7_makesToken_17 ?_
  refine lv_iconst (v := (1 : Int32)) hx hb dX7_makesToken_20 (by decide) ?_
  refine va_iald hx hb hK hP 1 0 rfl rfl (ig_in (by decide)) dX7_makesToken_21 ?_
  refine W.eq (g2 := F0 m 22 ls [.int (v.2.1 1), .int x3]) rfl ?_
  refine lv_iadd hx hb dX7_makesToken_22 ?_
  refine lv_istore_n (lv' := [(2, .int (x3 + (v.2.1 1))), (1, .int (v.2.1 17)), (0, .ref (ad 0))]) hx hb dX7_makesToken_23 rfl hl (by decide) rfl (fun ls hl => ?_)
  refine lv_aload_n hx hb dX7_makesToken_24 rfl (lv_at hl 2 rfl) ?_
  refine lv_iload_n hx hb dX7_makesToken_25 rfl (lv_at hl 1 rfl) ?_
  refine lv_iconst (v := (1 : Int32)) hx hb dX7_makesToken_26 (by decide) ?_
  refine lv_iconst (v := (0 : Int32)) hx hb dX7_makesToken_27 (by decide) ?_
  obtain ⟨x4, hcx4, hf⟩ := gB hf
  refine j_v (wr := []) (w_V (As := [.int (v.2.1 17), .int (1 : Int32), .int (0 : Int32)]) (rest := []) (n := 3) ⟨hx, hb, hml, hown, hts⟩ (c_X7_lay l D cI cR ad v (v.2.1 17) (1 : Int32) (0 : Int32) _ x4 hcx4) kM_X7_42 kN_X7_lay kV_X7_lay kZ_X7 kK_X7_lay ⟨rfl, rfl⟩ ⟨(Nat.le_of_ble_eq_true rfl), (Nat.le_of_ble_eq_true rfl)⟩ pd_X7_lay rfl hK hN hP hD [0, 1, 2, 3, 4, 5, 6] rfl rfl 0 7 rfl rfl rfl hl.1 (Nat.le_of_ble_eq_true rfl) dX7_makesToken_28 ⟨(Nat.le_of_ble_eq_true rfl), (Nat.le_of_ble_eq_true rfl)⟩) hP hD hS hA [0, 1, 2, 3, 4, 5, 6] [] rfl rfl rfl (by decide) (fun H locs hP hD hS => ?_)
  have hP : va_P D vwCl [(ad 0, .inr (7, [.int x4.1, .ref (ad 1), .ref (ad 2), .ref (ad 3), .int x4.2.2.2.2.1, .ref (ad 4), .int x4.2.2.2.2.2.2.1, .ref (ad 5), .int x4.2.2.2.2.2.2.2.2.1, .int x4.2.2.2.2.2.2.2.2.2.1, .int x4.2.2.2.2.2.2.2.2.2.2.1, .ref (ad 6), .int x4.2.2.2.2.2.2.2.2.2.2.2.2.1, .int x4.2.2.2.2.2.2.2.2.2.2.2.2.2.1, .int x4.2.2.2.2.2.2.2.2.2.2.2.2.2.2.1, .int x4.2.2.2.2.2.2.2.2.2.2.2.2.2.2.2.1, .int x4.2.2.2.2.2.2.2.2.2.2.2.2.2.2.2.2.1, .int x4.2.2.2.2.2.2.2.2.2.2.2.2.2.2.2.2.2])), (ad 1, .inl (cI, 72, .inl x4.2.1)), (ad 2, .inl (cI, 72, .inl x4.2.2.1)), (ad 3, .inl (cI, 288, .inl x4.2.2.2.1)), (ad 4, .inl (cI, 72, .inl x4.2.2.2.2.2.1)), (ad 5, .inl (cI, 60, .inl x4.2.2.2.2.2.2.2.1)), (ad 6, .inl (cI, 32768, .inl x4.2.2.2.2.2.2.2.2.2.2.2.1))] H := hP
  have hD : va_D A [(ad 0, .inr (7, [.int x4.1, .ref (ad 1), .ref (ad 2), .ref (ad 3), .int x4.2.2.2.2.1, .ref (ad 4), .int x4.2.2.2.2.2.2.1, .ref (ad 5), .int x4.2.2.2.2.2.2.2.2.1, .int x4.2.2.2.2.2.2.2.2.2.1, .int x4.2.2.2.2.2.2.2.2.2.2.1, .ref (ad 6), .int x4.2.2.2.2.2.2.2.2.2.2.2.2.1, .int x4.2.2.2.2.2.2.2.2.2.2.2.2.2.1, .int x4.2.2.2.2.2.2.2.2.2.2.2.2.2.2.1, .int x4.2.2.2.2.2.2.2.2.2.2.2.2.2.2.2.1, .int x4.2.2.2.2.2.2.2.2.2.2.2.2.2.2.2.2.1, .int x4.2.2.2.2.2.2.2.2.2.2.2.2.2.2.2.2.2])), (ad 1, .inl (cI, 72, .inl x4.2.1)), (ad 2, .inl (cI, 72, .inl x4.2.2.1)), (ad 3, .inl (cI, 288, .inl x4.2.2.2.1)), (ad 4, .inl (cI, 72, .inl x4.2.2.2.2.2.1)), (ad 5, .inl (cI, 60, .inl x4.2.2.2.2.2.2.2.1)), (ad 6, .inl (cI, 32768, .inl x4.2.2.2.2.2.2.2.2.2.2.2.1))] := hD
  refine lv_aload_n hx hb dX7_makesToken_31 rfl (lv_at hl 2 rfl) ?_
  refine lv_iload_n hx hb dX7_makesToken_32 rfl (lv_at hl 1 rfl) ?_
  refine lv_bipush (v := (6 : Int32)) hx hb dX7_makesToken_33 (by decide) ?_
  refine lv_aload_n hx hb dX7_makesToken_35 rfl (lv_at hl 2 rfl) ?_
  refine lv_iload_n hx hb dX7_makesToken_36 rfl (lv_at hl 1 rfl) ?_
  refine lv_bipush (v := (6 : Int32)) hx hb dX7_makesToken_37 (by decide) ?_
  obtain ⟨x5, hcx5, hf⟩ := gB hf
  refine k_r (r_V (As := [.int (v.2.1 17), .int (6 : Int32)]) (rest := [.int (6 : Int32), .int (v.2.1 17), .ref (ad 0)]) (n := 2) ⟨hx, hb, hml, hown, hts⟩ (c_X7_of l D cI cR ad x4 (v.2.1 17) (6 : Int32) _ x5 hcx5) kM_X7_123 kN_X7_of kV_X7_of kZ_X7 kK_X7_of ⟨rfl, rfl⟩ ⟨(Nat.le_of_ble_eq_true rfl), (Nat.le_of_ble_eq_true rfl)⟩ pd_X7_of rfl hK hN hP hD [0, 1, 2, 3, 4, 5, 6] rfl rfl 0 7 rfl rfl rfl hl.1 (Nat.le_of_ble_eq_true rfl) dX7_makesToken_39 ⟨(Nat.le_of_ble_eq_true rfl), (Nat.le_of_ble_eq_true rfl)⟩) ?_
  refine lv_iconst (v := (1 : Int32)) hx hb dX7_makesToken_42 (by decide) ?_
  refine lv_iadd hx hb dX7_makesToken_43 ?_
  obtain ⟨x6, hcx6, hf⟩ := gB hf
  refine j_v (wr := []) (w_V (As := [.int (v.2.1 17), .int (6 : Int32), .int (x5 + (1 : Int32))]) (rest := []) (n := 3) ⟨hx, hb, hml, hown, hts⟩ (c_X7_lay l D cI cR ad x4 (v.2.1 17) (6 : Int32) (x5 + (1 : Int32)) _ x6 hcx6) kM_X7_42 kN_X7_lay kV_X7_lay kZ_X7 kK_X7_lay ⟨rfl, rfl⟩ ⟨(Nat.le_of_ble_eq_true rfl), (Nat.le_of_ble_eq_true rfl)⟩ pd_X7_lay rfl hK hN hP hD [0, 1, 2, 3, 4, 5, 6] rfl rfl 0 7 rfl rfl rfl hl.1 (Nat.le_of_ble_eq_true rfl) dX7_makesToken_44 ⟨(Nat.le_of_ble_eq_true rfl), (Nat.le_of_ble_eq_true rfl)⟩) hP hD hS hA [0, 1, 2, 3, 4, 5, 6] [] rfl rfl rfl (by decide) (fun H locs hP hD hS => ?_)
  have hP : va_P D vwCl [(ad 0, .inr (7, [.int x6.1, .ref (ad 1), .ref (ad 2), .ref (ad 3), .int x6.2.2.2.2.1, .ref (ad 4), .int x6.2.2.2.2.2.2.1, .ref (ad 5), .int x6.2.2.2.2.2.2.2.2.1, .int x6.2.2.2.2.2.2.2.2.2.1, .int x6.2.2.2.2.2.2.2.2.2.2.1, .ref (ad 6), .int x6.2.2.2.2.2.2.2.2.2.2.2.2.1, .int x6.2.2.2.2.2.2.2.2.2.2.2.2.2.1, .int x6.2.2.2.2.2.2.2.2.2.2.2.2.2.2.1, .int x6.2.2.2.2.2.2.2.2.2.2.2.2.2.2.2.1, .int x6.2.2.2.2.2.2.2.2.2.2.2.2.2.2.2.2.1, .int x6.2.2.2.2.2.2.2.2.2.2.2.2.2.2.2.2.2])), (ad 1, .inl (cI, 72, .inl x6.2.1)), (ad 2, .inl (cI, 72, .inl x6.2.2.1)), (ad 3, .inl (cI, 288, .inl x6.2.2.2.1)), (ad 4, .inl (cI, 72, .inl x6.2.2.2.2.2.1)), (ad 5, .inl (cI, 60, .inl x6.2.2.2.2.2.2.2.1)), (ad 6, .inl (cI, 32768, .inl x6.2.2.2.2.2.2.2.2.2.2.2.1))] H := hP
  have hD : va_D A [(ad 0, .inr (7, [.int x6.1, .ref (ad 1), .ref (ad 2), .ref (ad 3), .int x6.2.2.2.2.1, .ref (ad 4), .int x6.2.2.2.2.2.2.1, .ref (ad 5), .int x6.2.2.2.2.2.2.2.2.1, .int x6.2.2.2.2.2.2.2.2.2.1, .int x6.2.2.2.2.2.2.2.2.2.2.1, .ref (ad 6), .int x6.2.2.2.2.2.2.2.2.2.2.2.2.1, .int x6.2.2.2.2.2.2.2.2.2.2.2.2.2.1, .int x6.2.2.2.2.2.2.2.2.2.2.2.2.2.2.1, .int x6.2.2.2.2.2.2.2.2.2.2.2.2.2.2.2.1, .int x6.2.2.2.2.2.2.2.2.2.2.2.2.2.2.2.2.1, .int x6.2.2.2.2.2.2.2.2.2.2.2.2.2.2.2.2.2])), (ad 1, .inl (cI, 72, .inl x6.2.1)), (ad 2, .inl (cI, 72, .inl x6.2.2.1)), (ad 3, .inl (cI, 288, .inl x6.2.2.2.1)), (ad 4, .inl (cI, 72, .inl x6.2.2.2.2.2.1)), (ad 5, .inl (cI, 60, .inl x6.2.2.2.2.2.2.2.1)), (ad 6, .inl (cI, 32768, .inl x6.2.2.2.2.2.2.2.2.2.2.2.1))] := hD
  refine lv_aload_n hx hb dX7_makesToken_47 rfl (lv_at hl 2 rfl) ?_
  refine lv_iconst (v := (1 : Int32)) hx hb dX7_makesToken_48 (by decide) ?_
  refine lv_iload_n hx hb dX7_makesToken_49 rfl (lv_at hl 1 rfl) ?_
  refine lv_isub hx hb dX7_makesToken_50 ?_
  refine lv_iconst (v := (2 : Int32)) hx hb dX7_makesToken_51 (by decide) ?_
  refine lv_iload_n hx hb dX7_makesToken_52 rfl (lv_at hl 0 rfl) ?_
  refine lv_iconst (v := (3 : Int32)) hx hb dX7_makesToken_53 (by decide) ?_
  refine lv_icmp_ge (tgt := 61) hx hb dX7_makesToken_54 (by decide) (fun c0 => ?_) (fun c0 => ?_)
  · replace hf := gT hf c0
    refine lv_iconst (v := (3 : Int32)) hx hb dX7_makesToken_61 (by decide) ?_
    exact J62 (v.2.1 17) (3 : Int32) (2 : Int32) ((1 : Int32) - (v.2.1 17)) x6 _ _ ls hP hD hS (lv_sub hl [2, 1] rfl) hf
  · replace hf := gF hf c0
    refine lv_iload_n hx hb dX7_makesToken_57 rfl (lv_at hl 0 rfl) ?_
    refine lv_goto (tgt := 62) hx hb dX7_makesToken_58 (by decide) ?_
    exact J62 (v.2.1 17) (x3 + (v.2.1 1)) (2 : Int32) ((1 : Int32) - (v.2.1 17)) x6 _ _ ls hP hD hS (lv_sub hl [2, 1] rfl) hf
def f_X7_makesLost (v : tX7) : Option (Int32 × tX7) :=
  (f_X7_of v (v.2.1 17) (2 : Int32)).bind fun x0 => (f_X7_lay v (v.2.1 17) (2 : Int32) (x0 - (1 : Int32))).bind fun x1 => (f_X7_of x1 (v.2.1 17) (4 : Int32)).bind fun x2 => (f_X7_lay x1 (v.2.1 17) (4 : Int32) (x2 + (1 : Int32))).bind fun x3 => (f_X7_goesOn x3).bind fun x4 => (f_X7_of x4 (v.2.1 17) (2 : Int32)).bind fun x5 => some (x5, x4)
abbrev rm_X7_makesLost : Room := { frames := 2, cells := 0, slots := 0, locals := 44 }
set_option maxHeartbeats 4000000 in
set_option maxRecDepth 100000 in
theorem c_X7_makesLost (l : Launch) (D : va_G) (cI cR : ClassId) (ad : Nat → Nat) (v : tX7) (sz : Nat) (r : (Int32 × tX7)) (hf : f_X7_makesLost v = some r) : Met l yX7_makesLost (wM yX7_makesLost cX7_makesLost 2 (some (.int))) rm_X7_makesLost (cPre D (tysA cI cR) ([.ref (ad 0)] : List Value) (oX7 cI cR ad v) sz) (qI D (oX7 cI cR ad r.2) r.1 (va_A (oX7 cI cR ad v) sz)) 0 0 (va_A (oX7 cI cR ad v) sz) := by
  refine en_M (own := RX7) (lv := [(0, .ref (ad 0))]) (by decide +kernel) rfl (Nat.le_of_ble_eq_true rfl) rfl (fun p e s m below meth c hx hb hr hlk hml hown hnm hts hsz hP hK hD hN ls hl => ?_)
  subst hsz
  generalize hAe : va_A (oX7 cI cR ad v) s.heap.size = A at hD ⊢
  have hA : ∀ q : Nat, s.heap.size ≤ q → A q := fun q h => by rw [← hAe]; exact Or.inr h
  have hS : va_S A s.heap s.heap [] := va_S.rf
  have hP : va_P D vwCl [(ad 0, .inr (7, [.int v.1, .ref (ad 1), .ref (ad 2), .ref (ad 3), .int v.2.2.2.2.1, .ref (ad 4), .int v.2.2.2.2.2.2.1, .ref (ad 5), .int v.2.2.2.2.2.2.2.2.1, .int v.2.2.2.2.2.2.2.2.2.1, .int v.2.2.2.2.2.2.2.2.2.2.1, .ref (ad 6), .int v.2.2.2.2.2.2.2.2.2.2.2.2.1, .int v.2.2.2.2.2.2.2.2.2.2.2.2.2.1, .int v.2.2.2.2.2.2.2.2.2.2.2.2.2.2.1, .int v.2.2.2.2.2.2.2.2.2.2.2.2.2.2.2.1, .int v.2.2.2.2.2.2.2.2.2.2.2.2.2.2.2.2.1, .int v.2.2.2.2.2.2.2.2.2.2.2.2.2.2.2.2.2])), (ad 1, .inl (cI, 72, .inl v.2.1)), (ad 2, .inl (cI, 72, .inl v.2.2.1)), (ad 3, .inl (cI, 288, .inl v.2.2.2.1)), (ad 4, .inl (cI, 72, .inl v.2.2.2.2.2.1)), (ad 5, .inl (cI, 60, .inl v.2.2.2.2.2.2.2.1)), (ad 6, .inl (cI, 32768, .inl v.2.2.2.2.2.2.2.2.2.2.2.1))] s.heap := hP
  have hD : va_D A [(ad 0, .inr (7, [.int v.1, .ref (ad 1), .ref (ad 2), .ref (ad 3), .int v.2.2.2.2.1, .ref (ad 4), .int v.2.2.2.2.2.2.1, .ref (ad 5), .int v.2.2.2.2.2.2.2.2.1, .int v.2.2.2.2.2.2.2.2.2.1, .int v.2.2.2.2.2.2.2.2.2.2.1, .ref (ad 6), .int v.2.2.2.2.2.2.2.2.2.2.2.2.1, .int v.2.2.2.2.2.2.2.2.2.2.2.2.2.1, .int v.2.2.2.2.2.2.2.2.2.2.2.2.2.2.1, .int v.2.2.2.2.2.2.2.2.2.2.2.2.2.2.2.1, .int v.2.2.2.2.2.2.2.2.2.2.2.2.2.2.2.2.1, .int v.2.2.2.2.2.2.2.2.2.2.2.2.2.2.2.2.2])), (ad 1, .inl (cI, 72, .inl v.2.1)), (ad 2, .inl (cI, 72, .inl v.2.2.1)), (ad 3, .inl (cI, 288, .inl v.2.2.2.1)), (ad 4, .inl (cI, 72, .inl v.2.2.2.2.2.1)), (ad 5, .inl (cI, 60, .inl v.2.2.2.2.2.2.2.1)), (ad 6, .inl (cI, 32768, .inl v.2.2.2.2.2.2.2.2.2.2.2.1))] := hD
  unfold f_X7_makesLost at hf
  refine lv_aload_n hx hb dX7_makesLost_0 rfl (lv_at hl 0 rfl) ?_
  refine va_get (D := D) (ci := 7) (v := .ref (ad 1)) (C := RX7) (T := TX7) (N := 18) hx hb hts inA_X7 hown hK hP 0 rfl rfl 1 (by decide) (hts _ kF_X7_7) (fun _ h9 => h9) rfl dX7_makesLost_1 ?_
  refine lv_bipush (v := (17 : Int32)) hx hb dX7_makesLost_4 (by decide) ?_
  refine va_iald hx hb hK hP 1 0 rfl rfl (ig_in (by decide)) dX7_makesLost_6 ?_
  refine W.eq (g2 := F0 m 7 ls [.int (v.2.1 17)]) rfl ?_
  refine lv_istore_n (lv' := [(1, .int (v.2.1 17)), (0, .ref (ad 0))]) hx hb dX7_makesLost_7 rfl hl (by decide) rfl (fun ls hl => ?_)
  refine lv_aload_n hx hb dX7_makesLost_8 rfl (lv_at hl 1 rfl) ?_
  refine lv_iload_n hx hb dX7_makesLost_9 rfl (lv_at hl 0 rfl) ?_
  refine lv_iconst (v := (2 : Int32)) hx hb dX7_makesLost_10 (by decide) ?_
  refine lv_aload_n hx hb dX7_makesLost_11 rfl (lv_at hl 1 rfl) ?_
  refine lv_iload_n hx hb dX7_makesLost_12 rfl (lv_at hl 0 rfl) ?_
  refine lv_iconst (v := (2 : Int32)) hx hb dX7_makesLost_13 (by decide) ?_
  obtain ⟨x0, hcx0, hf⟩ := gB hf
  refine k_r (r_V (As := [.int (v.2.1 17), .int (2 : Int32)]) (rest := [.int (2 : Int32), .int (v.2.1 17), .ref (ad 0)]) (n := 2) ⟨hx, hb, hml, hown, hts⟩ (c_X7_of l D cI cR ad v (v.2.1 17) (2 : Int32) _ x0 hcx0) kM_X7_123 kN_X7_of kV_X7_of kZ_X7 kK_X7_of ⟨rfl, rfl⟩ ⟨(Nat.le_of_ble_eq_true rfl), (Nat.le_of_ble_eq_true rfl)⟩ pd_X7_of rfl hK hN hP hD [0, 1, 2, 3, 4, 5, 6] rfl rfl 0 7 rfl rfl rfl hl.1 (Nat.le_of_ble_eq_true rfl) dX7_makesLost_14 ⟨(Nat.le_of_ble_eq_true rfl), (Nat.le_of_ble_eq_true rfl)⟩) ?_
  refine lv_iconst (v := (1 : Int32)) hx hb dX7_makesLost_17 (by decide) ?_
  refine lv_isub hx hb dX7_makesLost_18 ?_
  obtain ⟨x1, hcx1, hf⟩ := gB hf
  refine j_v (wr := []) (w_V (As := [.int (v.2.1 17), .int (2 : Int32), .int (x0 - (1 : Int32))]) (rest := []) (n := 3) ⟨hx, hb, hml, hown, hts⟩ (c_X7_lay l D cI cR ad v (v.2.1 17) (2 : Int32) (x0 - (1 : Int32)) _ x1 hcx1) kM_X7_42 kN_X7_lay kV_X7_lay kZ_X7 kK_X7_lay ⟨rfl, rfl⟩ ⟨(Nat.le_of_ble_eq_true rfl), (Nat.le_of_ble_eq_true rfl)⟩ pd_X7_lay rfl hK hN hP hD [0, 1, 2, 3, 4, 5, 6] rfl rfl 0 7 rfl rfl rfl hl.1 (Nat.le_of_ble_eq_true rfl) dX7_makesLost_19 ⟨(Nat.le_of_ble_eq_true rfl), (Nat.le_of_ble_eq_true rfl)⟩) hP hD hS hA [0, 1, 2, 3, 4, 5, 6] [] rfl rfl rfl (by decide) (fun H locs hP hD hS => ?_)
  have hP : va_P D vwCl [(ad 0, .inr (7, [.int x1.1, .ref (ad 1), .ref (ad 2), .ref (ad 3), .int x1.2.2.2.2.1, .ref (ad 4), .int x1.2.2.2.2.2.2.1, .ref (ad 5), .int x1.2.2.2.2.2.2.2.2.1, .int x1.2.2.2.2.2.2.2.2.2.1, .int x1.2.2.2.2.2.2.2.2.2.2.1, .ref (ad 6), .int x1.2.2.2.2.2.2.2.2.2.2.2.2.1, .int x1.2.2.2.2.2.2.2.2.2.2.2.2.2.1, .int x1.2.2.2.2.2.2.2.2.2.2.2.2.2.2.1, .int x1.2.2.2.2.2.2.2.2.2.2.2.2.2.2.2.1, .int x1.2.2.2.2.2.2.2.2.2.2.2.2.2.2.2.2.1, .int x1.2.2.2.2.2.2.2.2.2.2.2.2.2.2.2.2.2])), (ad 1, .inl (cI, 72, .inl x1.2.1)), (ad 2, .inl (cI, 72, .inl x1.2.2.1)), (ad 3, .inl (cI, 288, .inl x1.2.2.2.1)), (ad 4, .inl (cI, 72, .inl x1.2.2.2.2.2.1)), (ad 5, .inl (cI, 60, .inl x1.2.2.2.2.2.2.2.1)), (ad 6, .inl (cI, 32768, .inl x1.2.2.2.2.2.2.2.2.2.2.2.1))] H := hP
  have hD : va_D A [(ad 0, .inr (7, [.int x1.1, .ref (ad 1), .ref (ad 2), .ref (ad 3), .int x1.2.2.2.2.1, .ref (ad 4), .int x1.2.2.2.2.2.2.1, .ref (ad 5), .int x1.2.2.2.2.2.2.2.2.1, .int x1.2.2.2.2.2.2.2.2.2.1, .int x1.2.2.2.2.2.2.2.2.2.2.1, .ref (ad 6), .int x1.2.2.2.2.2.2.2.2.2.2.2.2.1, .int x1.2.2.2.2.2.2.2.2.2.2.2.2.2.1, .int x1.2.2.2.2.2.2.2.2.2.2.2.2.2.2.1, .int x1.2.2.2.2.2.2.2.2.2.2.2.2.2.2.2.1, .int x1.2.2.2.2.2.2.2.2.2.2.2.2.2.2.2.2.1, .int x1.2.2.2.2.2.2.2.2.2.2.2.2.2.2.2.2.2])), (ad 1, .inl (cI, 72, .inl x1.2.1)), (ad 2, .inl (cI, 72, .inl x1.2.2.1)), (ad 3, .inl (cI, 288, .inl x1.2.2.2.1)), (ad 4, .inl (cI, 72, .inl x1.2.2.2.2.2.1)), (ad 5, .inl (cI, 60, .inl x1.2.2.2.2.2.2.2.1)), (ad 6, .inl (cI, 32768, .inl x1.2.2.2.2.2.2.2.2.2.2.2.1))] := hD
  refine lv_aload_n hx hb dX7_makesLost_22 rfl (lv_at hl 1 rfl) ?_
  refine lv_iload_n hx hb dX7_makesLost_23 rfl (lv_at hl 0 rfl) ?_
  refine lv_iconst (v := (4 : Int32)) hx hb dX7_makesLost_24 (by decide) ?_
  refine lv_aload_n hx hb dX7_makesLost_25 rfl (lv_at hl 1 rfl) ?_
  refine lv_iload_n hx hb dX7_makesLost_26 rfl (lv_at hl 0 rfl) ?_
  refine lv_iconst (v := (4 : Int32)) hx hb dX7_makesLost_27 (by decide) ?_
  obtain ⟨x2, hcx2, hf⟩ := gB hf
  refine k_r (r_V (As := [.int (v.2.1 17), .int (4 : Int32)]) (rest := [.int (4 : Int32), .int (v.2.1 17), .ref (ad 0)]) (n := 2) ⟨hx, hb, hml, hown, hts⟩ (c_X7_of l D cI cR ad x1 (v.2.1 17) (4 : Int32) _ x2 hcx2) kM_X7_123 kN_X7_of kV_X7_of kZ_X7 kK_X7_of ⟨rfl, rfl⟩ ⟨(Nat.le_of_ble_eq_true rfl), (Nat.le_of_ble_eq_true rfl)⟩ pd_X7_of rfl hK hN hP hD [0, 1, 2, 3, 4, 5, 6] rfl rfl 0 7 rfl rfl rfl hl.1 (Nat.le_of_ble_eq_true rfl) dX7_makesLost_28 ⟨(Nat.le_of_ble_eq_true rfl), (Nat.le_of_ble_eq_true rfl)⟩) ?_
  refine lv_iconst (v := (1 : Int32)) hx hb dX7_makesLost_31 (by decide) ?_
  refine lv_iadd hx hb dX7_makesLost_32 ?_
  obtain ⟨x3, hcx3, hf⟩ := gB hf
  refine j_v (wr := []) (w_V (As := [.int (v.2.1 17), .int (4 : Int32), .int (x2 + (1 : Int32))]) (rest := []) (n := 3) ⟨hx, hb, hml, hown, hts⟩ (c_X7_lay l D cI cR ad x1 (v.2.1 17) (4 : Int32) (x2 + (1 : Int32)) _ x3 hcx3) kM_X7_42 kN_X7_lay kV_X7_lay kZ_X7 kK_X7_lay ⟨rfl, rfl⟩ ⟨(Nat.le_of_ble_eq_true rfl), (Nat.le_of_ble_eq_true rfl)⟩ pd_X7_lay rfl hK hN hP hD [0, 1, 2, 3, 4, 5, 6] rfl rfl 0 7 rfl rfl rfl hl.1 (Nat.le_of_ble_eq_true rfl) dX7_makesLost_33 ⟨(Nat.le_of_ble_eq_true rfl), (Nat.le_of_ble_eq_true rfl)⟩) hP hD hS hA [0, 1, 2, 3, 4, 5, 6] [] rfl rfl rfl (by decide) (fun H locs hP hD hS => ?_)
  have hP : va_P D vwCl [(ad 0, .inr (7, [.int x3.1, .ref (ad 1), .ref (ad 2), .ref (ad 3), .int x3.2.2.2.2.1, .ref (ad 4), .int x3.2.2.2.2.2.2.1, .ref (ad 5), .int x3.2.2.2.2.2.2.2.2.1, .int x3.2.2.2.2.2.2.2.2.2.1, .int x3.2.2.2.2.2.2.2.2.2.2.1, .ref (ad 6), .int x3.2.2.2.2.2.2.2.2.2.2.2.2.1, .int x3.2.2.2.2.2.2.2.2.2.2.2.2.2.1, .int x3.2.2.2.2.2.2.2.2.2.2.2.2.2.2.1, .int x3.2.2.2.2.2.2.2.2.2.2.2.2.2.2.2.1, .int x3.2.2.2.2.2.2.2.2.2.2.2.2.2.2.2.2.1, .int x3.2.2.2.2.2.2.2.2.2.2.2.2.2.2.2.2.2])), (ad 1, .inl (cI, 72, .inl x3.2.1)), (ad 2, .inl (cI, 72, .inl x3.2.2.1)), (ad 3, .inl (cI, 288, .inl x3.2.2.2.1)), (ad 4, .inl (cI, 72, .inl x3.2.2.2.2.2.1)), (ad 5, .inl (cI, 60, .inl x3.2.2.2.2.2.2.2.1)), (ad 6, .inl (cI, 32768, .inl x3.2.2.2.2.2.2.2.2.2.2.2.1))] H := hP
  have hD : va_D A [(ad 0, .inr (7, [.int x3.1, .ref (ad 1), .ref (ad 2), .ref (ad 3), .int x3.2.2.2.2.1, .ref (ad 4), .int x3.2.2.2.2.2.2.1, .ref (ad 5), .int x3.2.2.2.2.2.2.2.2.1, .int x3.2.2.2.2.2.2.2.2.2.1, .int x3.2.2.2.2.2.2.2.2.2.2.1, .ref (ad 6), .int x3.2.2.2.2.2.2.2.2.2.2.2.2.1, .int x3.2.2.2.2.2.2.2.2.2.2.2.2.2.1, .int x3.2.2.2.2.2.2.2.2.2.2.2.2.2.2.1, .int x3.2.2.2.2.2.2.2.2.2.2.2.2.2.2.2.1, .int x3.2.2.2.2.2.2.2.2.2.2.2.2.2.2.2.2.1, .int x3.2.2.2.2.2.2.2.2.2.2.2.2.2.2.2.2.2])), (ad 1, .inl (cI, 72, .inl x3.2.1)), (ad 2, .inl (cI, 72, .inl x3.2.2.1)), (ad 3, .inl (cI, 288, .inl x3.2.2.2.1)), (ad 4, .inl (cI, 72, .inl x3.2.2.2.2.2.1)), (ad 5, .inl (cI, 60, .inl x3.2.2.2.2.2.2.2.1)), (ad 6, .inl (cI, 32768, .inl x3.2.2.2.2.2.2.2.2.2.2.2.1))] := hD
  refine lv_aload_n hx hb dX7_makesLost_36 rfl (lv_at hl 1 rfl) ?_
  obtain ⟨x4, hcx4, hf⟩ := gB hf
  refine j_v (wr := []) (w_V (As := []) (rest := []) (n := 0) ⟨hx, hb, hml, hown, hts⟩ (c_X7_goesOn l D cI cR ad x3 _ x4 hcx4) kM_X7_129 kN_X7_goesOn kV_X7_goesOn kZ_X7 kK_X7_goesOn ⟨rfl, rfl⟩ ⟨(Nat.le_of_ble_eq_true rfl), (Nat.le_of_ble_eq_true rfl)⟩ pd_X7_goesOn rfl hK hN hP hD [0, 1, 2, 3, 4, 5, 6] rfl rfl 0 7 rfl rfl rfl hl.1 (Nat.le_of_ble_eq_true rfl) dX7_makesLost_37 ⟨(Nat.le_of_ble_eq_true rfl), (Nat.le_of_ble_eq_true rfl)⟩) hP hD hS hA [0, 1, 2, 3, 4, 5, 6] [] rfl rfl rfl (by decide) (fun H locs hP hD hS => ?_)
  have hP : va_P D vwCl [(ad 0, .inr (7, [.int x4.1, .ref (ad 1), .ref (ad 2), .ref (ad 3), .int x4.2.2.2.2.1, .ref (ad 4), .int x4.2.2.2.2.2.2.1, .ref (ad 5), .int x4.2.2.2.2.2.2.2.2.1, .int x4.2.2.2.2.2.2.2.2.2.1, .int x4.2.2.2.2.2.2.2.2.2.2.1, .ref (ad 6), .int x4.2.2.2.2.2.2.2.2.2.2.2.2.1, .int x4.2.2.2.2.2.2.2.2.2.2.2.2.2.1, .int x4.2.2.2.2.2.2.2.2.2.2.2.2.2.2.1, .int x4.2.2.2.2.2.2.2.2.2.2.2.2.2.2.2.1, .int x4.2.2.2.2.2.2.2.2.2.2.2.2.2.2.2.2.1, .int x4.2.2.2.2.2.2.2.2.2.2.2.2.2.2.2.2.2])), (ad 1, .inl (cI, 72, .inl x4.2.1)), (ad 2, .inl (cI, 72, .inl x4.2.2.1)), (ad 3, .inl (cI, 288, .inl x4.2.2.2.1)), (ad 4, .inl (cI, 72, .inl x4.2.2.2.2.2.1)), (ad 5, .inl (cI, 60, .inl x4.2.2.2.2.2.2.2.1)), (ad 6, .inl (cI, 32768, .inl x4.2.2.2.2.2.2.2.2.2.2.2.1))] H := hP
  have hD : va_D A [(ad 0, .inr (7, [.int x4.1, .ref (ad 1), .ref (ad 2), .ref (ad 3), .int x4.2.2.2.2.1, .ref (ad 4), .int x4.2.2.2.2.2.2.1, .ref (ad 5), .int x4.2.2.2.2.2.2.2.2.1, .int x4.2.2.2.2.2.2.2.2.2.1, .int x4.2.2.2.2.2.2.2.2.2.2.1, .ref (ad 6), .int x4.2.2.2.2.2.2.2.2.2.2.2.2.1, .int x4.2.2.2.2.2.2.2.2.2.2.2.2.2.1, .int x4.2.2.2.2.2.2.2.2.2.2.2.2.2.2.1, .int x4.2.2.2.2.2.2.2.2.2.2.2.2.2.2.2.1, .int x4.2.2.2.2.2.2.2.2.2.2.2.2.2.2.2.2.1, .int x4.2.2.2.2.2.2.2.2.2.2.2.2.2.2.2.2.2])), (ad 1, .inl (cI, 72, .inl x4.2.1)), (ad 2, .inl (cI, 72, .inl x4.2.2.1)), (ad 3, .inl (cI, 288, .inl x4.2.2.2.1)), (ad 4, .inl (cI, 72, .inl x4.2.2.2.2.2.1)), (ad 5, .inl (cI, 60, .inl x4.2.2.2.2.2.2.2.1)), (ad 6, .inl (cI, 32768, .inl x4.2.2.2.2.2.2.2.2.2.2.2.1))] := hD
  refine lv_aload_n hx hb dX7_makesLost_40 rfl (lv_at hl 1 rfl) ?_
  refine lv_iload_n hx hb dX7_makesLost_41 rfl (lv_at hl 0 rfl) ?_
  refine lv_iconst (v := (2 : Int32)) hx hb dX7_makesLost_42 (by decide) ?_
  obtain ⟨x5, hcx5, hf⟩ := gB hf
  refine k_r (r_V (As := [.int (v.2.1 17), .int (2 : Int32)]) (rest := []) (n := 2) ⟨hx, hb, hml, hown, hts⟩ (c_X7_of l D cI cR ad x4 (v.2.1 17) (2 : Int32) _ x5 hcx5) kM_X7_123 kN_X7_of kV_X7_of kZ_X7 kK_X7_of ⟨rfl, rfl⟩ ⟨(Nat.le_of_ble_eq_true rfl), (Nat.le_of_ble_eq_true rfl)⟩ pd_X7_of rfl hK hN hP hD [0, 1, 2, 3, 4, 5, 6] rfl rfl 0 7 rfl rfl rfl hl.1 (Nat.le_of_ble_eq_true rfl) dX7_makesLost_43 ⟨(Nat.le_of_ble_eq_true rfl), (Nat.le_of_ble_eq_true rfl)⟩) ?_
  exact z_i hf (fun r => r.1) (fun r => oX7 cI cR ad r.2) hx hb hr hlk hS hP hD dX7_makesLost_46
def f_X7_makes (v : tX7) (p1 : Int32) : Option (Int32 × tX7) :=
  (if p1 = 0 then (f_X7_makesLost v).bind fun x2 => some (p1, x2.2) else (if p1 = (5 : Int32) then (f_X7_makesToken v).bind fun x1 => some (p1, x1.2) else (f_X7_makesDrive v p1).bind fun x0 => some (p1, x0.2)))
abbrev rm_X7_makes : Room := { frames := 4, cells := 0, slots := 0, locals := 90 }
set_option maxHeartbeats 4000000 in
set_option maxRecDepth 100000 in
theorem c_X7_makes (l : Launch) (D : va_G) (cI cR : ClassId) (ad : Nat → Nat) (v : tX7) (p1 : Int32) (sz : Nat) (r : (Int32 × tX7)) (hf : f_X7_makes v p1 = some r) : Met l yX7_makes (wM yX7_makes cX7_makes 2 (some (.int))) rm_X7_makes (cPre D (tysA cI cR) ([.ref (ad 0), .int p1] : List Value) (oX7 cI cR ad v) sz) (qI D (oX7 cI cR ad r.2) r.1 (va_A (oX7 cI cR ad v) sz)) 0 0 (va_A (oX7 cI cR ad v) sz) := by
  refine en_M (own := RX7) (lv := [(0, .ref (ad 0)), (1, .int p1)]) (by decide +kernel) rfl (Nat.le_of_ble_eq_true rfl) rfl (fun p e s m below meth c hx hb hr hlk hml hown hnm hts hsz hP hK hD hN ls hl => ?_)
  subst hsz
  generalize hAe : va_A (oX7 cI cR ad v) s.heap.size = A at hD ⊢
  have hA : ∀ q : Nat, s.heap.size ≤ q → A q := fun q h => by rw [← hAe]; exact Or.inr h
  have hS : va_S A s.heap s.heap [] := va_S.rf
  have hP : va_P D vwCl [(ad 0, .inr (7, [.int v.1, .ref (ad 1), .ref (ad 2), .ref (ad 3), .int v.2.2.2.2.1, .ref (ad 4), .int v.2.2.2.2.2.2.1, .ref (ad 5), .int v.2.2.2.2.2.2.2.2.1, .int v.2.2.2.2.2.2.2.2.2.1, .int v.2.2.2.2.2.2.2.2.2.2.1, .ref (ad 6), .int v.2.2.2.2.2.2.2.2.2.2.2.2.1, .int v.2.2.2.2.2.2.2.2.2.2.2.2.2.1, .int v.2.2.2.2.2.2.2.2.2.2.2.2.2.2.1, .int v.2.2.2.2.2.2.2.2.2.2.2.2.2.2.2.1, .int v.2.2.2.2.2.2.2.2.2.2.2.2.2.2.2.2.1, .int v.2.2.2.2.2.2.2.2.2.2.2.2.2.2.2.2.2])), (ad 1, .inl (cI, 72, .inl v.2.1)), (ad 2, .inl (cI, 72, .inl v.2.2.1)), (ad 3, .inl (cI, 288, .inl v.2.2.2.1)), (ad 4, .inl (cI, 72, .inl v.2.2.2.2.2.1)), (ad 5, .inl (cI, 60, .inl v.2.2.2.2.2.2.2.1)), (ad 6, .inl (cI, 32768, .inl v.2.2.2.2.2.2.2.2.2.2.2.1))] s.heap := hP
  have hD : va_D A [(ad 0, .inr (7, [.int v.1, .ref (ad 1), .ref (ad 2), .ref (ad 3), .int v.2.2.2.2.1, .ref (ad 4), .int v.2.2.2.2.2.2.1, .ref (ad 5), .int v.2.2.2.2.2.2.2.2.1, .int v.2.2.2.2.2.2.2.2.2.1, .int v.2.2.2.2.2.2.2.2.2.2.1, .ref (ad 6), .int v.2.2.2.2.2.2.2.2.2.2.2.2.1, .int v.2.2.2.2.2.2.2.2.2.2.2.2.2.1, .int v.2.2.2.2.2.2.2.2.2.2.2.2.2.2.1, .int v.2.2.2.2.2.2.2.2.2.2.2.2.2.2.2.1, .int v.2.2.2.2.2.2.2.2.2.2.2.2.2.2.2.2.1, .int v.2.2.2.2.2.2.2.2.2.2.2.2.2.2.2.2.2])), (ad 1, .inl (cI, 72, .inl v.2.1)), (ad 2, .inl (cI, 72, .inl v.2.2.1)), (ad 3, .inl (cI, 288, .inl v.2.2.2.1)), (ad 4, .inl (cI, 72, .inl v.2.2.2.2.2.1)), (ad 5, .inl (cI, 60, .inl v.2.2.2.2.2.2.2.1)), (ad 6, .inl (cI, 32768, .inl v.2.2.2.2.2.2.2.2.2.2.2.1))] := hD
  unfold f_X7_makes at hf
  refine lv_iload_n hx hb dX7_makes_0 rfl (lv_at hl 1 rfl) ?_
  refine lv_if_ne (tgt := 12) hx hb dX7_makes_1 (by decide) (fun c0 => ?_) (fun c0 => ?_)
  · replace hf := gF hf c0
    refine lv_iload_n hx hb dX7_makes_12 rfl (lv_at hl 1 rfl) ?_
    refine lv_iconst (v := (5 : Int32)) hx hb dX7_makes_13 (by decide) ?_
    refine lv_icmp_ne (tgt := 25) hx hb dX7_makes_14 (by decide) (fun c1 => ?_) (fun c1 => ?_)
    · replace hf := gF hf c1
      refine lv_aload_n hx hb dX7_makes_25 rfl (lv_at hl 0 rfl) ?_
      refine lv_iload_n hx hb dX7_makes_26 rfl (lv_at hl 1 rfl) ?_
      obtain ⟨x0, hcx0, hf⟩ := gB hf
      refine j_i (wr := []) (w_V (As := [.int p1]) (rest := []) (n := 1) ⟨hx, hb, hml, hown, hts⟩ (c_X7_makesDrive l D cI cR ad v p1 _ x0 hcx0) kM_X7_138 kN_X7_makesDrive kV_X7_makesDrive kZ_X7 kK_X7_makesDrive ⟨rfl, rfl⟩ ⟨(Nat.le_of_ble_eq_true rfl), (Nat.le_of_ble_eq_true rfl)⟩ pd_X7_makesDrive rfl hK hN hP hD [0, 1, 2, 3, 4, 5, 6] rfl rfl 0 7 rfl rfl rfl hl.1 (Nat.le_of_ble_eq_true rfl) dX7_makes_27 ⟨(Nat.le_of_ble_eq_true rfl), (Nat.le_of_ble_eq_true rfl)⟩) hP hD hS hA [0, 1, 2, 3, 4, 5, 6] [] rfl rfl rfl (by decide) (fun H locs hP hD hS => ?_)
      have hP : va_P D vwCl [(ad 0, .inr (7, [.int x0.2.1, .ref (ad 1), .ref (ad 2), .ref (ad 3), .int x0.2.2.2.2.2.1, .ref (ad 4), .int x0.2.2.2.2.2.2.2.1, .ref (ad 5), .int x0.2.2.2.2.2.2.2.2.2.1, .int x0.2.2.2.2.2.2.2.2.2.2.1, .int x0.2.2.2.2.2.2.2.2.2.2.2.1, .ref (ad 6), .int x0.2.2.2.2.2.2.2.2.2.2.2.2.2.1, .int x0.2.2.2.2.2.2.2.2.2.2.2.2.2.2.1, .int x0.2.2.2.2.2.2.2.2.2.2.2.2.2.2.2.1, .int x0.2.2.2.2.2.2.2.2.2.2.2.2.2.2.2.2.1, .int x0.2.2.2.2.2.2.2.2.2.2.2.2.2.2.2.2.2.1, .int x0.2.2.2.2.2.2.2.2.2.2.2.2.2.2.2.2.2.2])), (ad 1, .inl (cI, 72, .inl x0.2.2.1)), (ad 2, .inl (cI, 72, .inl x0.2.2.2.1)), (ad 3, .inl (cI, 288, .inl x0.2.2.2.2.1)), (ad 4, .inl (cI, 72, .inl x0.2.2.2.2.2.2.1)), (ad 5, .inl (cI, 60, .inl x0.2.2.2.2.2.2.2.2.1)), (ad 6, .inl (cI, 32768, .inl x0.2.2.2.2.2.2.2.2.2.2.2.2.1))] H := hP
      have hD : va_D A [(ad 0, .inr (7, [.int x0.2.1, .ref (ad 1), .ref (ad 2), .ref (ad 3), .int x0.2.2.2.2.2.1, .ref (ad 4), .int x0.2.2.2.2.2.2.2.1, .ref (ad 5), .int x0.2.2.2.2.2.2.2.2.2.1, .int x0.2.2.2.2.2.2.2.2.2.2.1, .int x0.2.2.2.2.2.2.2.2.2.2.2.1, .ref (ad 6), .int x0.2.2.2.2.2.2.2.2.2.2.2.2.2.1, .int x0.2.2.2.2.2.2.2.2.2.2.2.2.2.2.1, .int x0.2.2.2.2.2.2.2.2.2.2.2.2.2.2.2.1, .int x0.2.2.2.2.2.2.2.2.2.2.2.2.2.2.2.2.1, .int x0.2.2.2.2.2.2.2.2.2.2.2.2.2.2.2.2.2.1, .int x0.2.2.2.2.2.2.2.2.2.2.2.2.2.2.2.2.2.2])), (ad 1, .inl (cI, 72, .inl x0.2.2.1)), (ad 2, .inl (cI, 72, .inl x0.2.2.2.1)), (ad 3, .inl (cI, 288, .inl x0.2.2.2.2.1)), (ad 4, .inl (cI, 72, .inl x0.2.2.2.2.2.2.1)), (ad 5, .inl (cI, 60, .inl x0.2.2.2.2.2.2.2.2.1)), (ad 6, .inl (cI, 32768, .inl x0.2.2.2.2.2.2.2.2.2.2.2.2.1))] := hD
      refine lv_pop hx hb dX7_makes_30 rfl ?_
      refine lv_iload_n hx hb dX7_makes_31 rfl (lv_at hl 1 rfl) ?_
      exact z_i hf (fun r => r.1) (fun r => oX7 cI cR ad r.2) hx hb hr hlk hS hP hD dX7_makes_32
    · replace hf := gT hf c1
      refine lv_aload_n hx hb dX7_makes_17 rfl (lv_at hl 0 rfl) ?_
      obtain ⟨x1, hcx1, hf⟩ := gB hf
      refine j_i (wr := []) (w_V (As := []) (rest := []) (n := 0) ⟨hx, hb, hml, hown, hts⟩ (c_X7_makesToken l D cI cR ad v _ x1 hcx1) kM_X7_135 kN_X7_makesToken kV_X7_makesToken kZ_X7 kK_X7_makesToken ⟨rfl, rfl⟩ ⟨(Nat.le_of_ble_eq_true rfl), (Nat.le_of_ble_eq_true rfl)⟩ pd_X7_makesToken rfl hK hN hP hD [0, 1, 2, 3, 4, 5, 6] rfl rfl 0 7 rfl rfl rfl hl.1 (Nat.le_of_ble_eq_true rfl) dX7_makes_18 ⟨(Nat.le_of_ble_eq_true rfl), (Nat.le_of_ble_eq_true rfl)⟩) hP hD hS hA [0, 1, 2, 3, 4, 5, 6] [] rfl rfl rfl (by decide) (fun H locs hP hD hS => ?_)
      have hP : va_P D vwCl [(ad 0, .inr (7, [.int x1.2.1, .ref (ad 1), .ref (ad 2), .ref (ad 3), .int x1.2.2.2.2.2.1, .ref (ad 4), .int x1.2.2.2.2.2.2.2.1, .ref (ad 5), .int x1.2.2.2.2.2.2.2.2.2.1, .int x1.2.2.2.2.2.2.2.2.2.2.1, .int x1.2.2.2.2.2.2.2.2.2.2.2.1, .ref (ad 6), .int x1.2.2.2.2.2.2.2.2.2.2.2.2.2.1, .int x1.2.2.2.2.2.2.2.2.2.2.2.2.2.2.1, .int x1.2.2.2.2.2.2.2.2.2.2.2.2.2.2.2.1, .int x1.2.2.2.2.2.2.2.2.2.2.2.2.2.2.2.2.1, .int x1.2.2.2.2.2.2.2.2.2.2.2.2.2.2.2.2.2.1, .int x1.2.2.2.2.2.2.2.2.2.2.2.2.2.2.2.2.2.2])), (ad 1, .inl (cI, 72, .inl x1.2.2.1)), (ad 2, .inl (cI, 72, .inl x1.2.2.2.1)), (ad 3, .inl (cI, 288, .inl x1.2.2.2.2.1)), (ad 4, .inl (cI, 72, .inl x1.2.2.2.2.2.2.1)), (ad 5, .inl (cI, 60, .inl x1.2.2.2.2.2.2.2.2.1)), (ad 6, .inl (cI, 32768, .inl x1.2.2.2.2.2.2.2.2.2.2.2.2.1))] H := hP
      have hD : va_D A [(ad 0, .inr (7, [.int x1.2.1, .ref (ad 1), .ref (ad 2), .ref (ad 3), .int x1.2.2.2.2.2.1, .ref (ad 4), .int x1.2.2.2.2.2.2.2.1, .ref (ad 5), .int x1.2.2.2.2.2.2.2.2.2.1, .int x1.2.2.2.2.2.2.2.2.2.2.1, .int x1.2.2.2.2.2.2.2.2.2.2.2.1, .ref (ad 6), .int x1.2.2.2.2.2.2.2.2.2.2.2.2.2.1, .int x1.2.2.2.2.2.2.2.2.2.2.2.2.2.2.1, .int x1.2.2.2.2.2.2.2.2.2.2.2.2.2.2.2.1, .int x1.2.2.2.2.2.2.2.2.2.2.2.2.2.2.2.2.1, .int x1.2.2.2.2.2.2.2.2.2.2.2.2.2.2.2.2.2.1, .int x1.2.2.2.2.2.2.2.2.2.2.2.2.2.2.2.2.2.2])), (ad 1, .inl (cI, 72, .inl x1.2.2.1)), (ad 2, .inl (cI, 72, .inl x1.2.2.2.1)), (ad 3, .inl (cI, 288, .inl x1.2.2.2.2.1)), (ad 4, .inl (cI, 72, .inl x1.2.2.2.2.2.2.1)), (ad 5, .inl (cI, 60, .inl x1.2.2.2.2.2.2.2.2.1)), (ad 6, .inl (cI, 32768, .inl x1.2.2.2.2.2.2.2.2.2.2.2.2.1))] := hD
      refine lv_pop hx hb dX7_makes_21 rfl ?_
      refine lv_goto (tgt := 31) hx hb dX7_makes_22 (by decide) ?_
      refine lv_iload_n hx hb dX7_makes_31 rfl (lv_at hl 1 rfl) ?_
      exact z_i hf (fun r => r.1) (fun r => oX7 cI cR ad r.2) hx hb hr hlk hS hP hD dX7_makes_32
  · replace hf := gT hf c0
    refine lv_aload_n hx hb dX7_makes_4 rfl (lv_at hl 0 rfl) ?_
    obtain ⟨x2, hcx2, hf⟩ := gB hf
    refine j_i (wr := []) (w_V (As := []) (rest := []) (n := 0) ⟨hx, hb, hml, hown, hts⟩ (c_X7_makesLost l D cI cR ad v _ x2 hcx2) kM_X7_132 kN_X7_makesLost kV_X7_makesLost kZ_X7 kK_X7_makesLost ⟨rfl, rfl⟩ ⟨(Nat.le_of_ble_eq_true rfl), (Nat.le_of_ble_eq_true rfl)⟩ pd_X7_makesLost rfl hK hN hP hD [0, 1, 2, 3, 4, 5, 6] rfl rfl 0 7 rfl rfl rfl hl.1 (Nat.le_of_ble_eq_true rfl) dX7_makes_5 ⟨(Nat.le_of_ble_eq_true rfl), (Nat.le_of_ble_eq_true rfl)⟩) hP hD hS hA [0, 1, 2, 3, 4, 5, 6] [] rfl rfl rfl (by decide) (fun H locs hP hD hS => ?_)
    have hP : va_P D vwCl [(ad 0, .inr (7, [.int x2.2.1, .ref (ad 1), .ref (ad 2), .ref (ad 3), .int x2.2.2.2.2.2.1, .ref (ad 4), .int x2.2.2.2.2.2.2.2.1, .ref (ad 5), .int x2.2.2.2.2.2.2.2.2.2.1, .int x2.2.2.2.2.2.2.2.2.2.2.1, .int x2.2.2.2.2.2.2.2.2.2.2.2.1, .ref (ad 6), .int x2.2.2.2.2.2.2.2.2.2.2.2.2.2.1, .int x2.2.2.2.2.2.2.2.2.2.2.2.2.2.2.1, .int x2.2.2.2.2.2.2.2.2.2.2.2.2.2.2.2.1, .int x2.2.2.2.2.2.2.2.2.2.2.2.2.2.2.2.2.1, .int x2.2.2.2.2.2.2.2.2.2.2.2.2.2.2.2.2.2.1, .int x2.2.2.2.2.2.2.2.2.2.2.2.2.2.2.2.2.2.2])), (ad 1, .inl (cI, 72, .inl x2.2.2.1)), (ad 2, .inl (cI, 72, .inl x2.2.2.2.1)), (ad 3, .inl (cI, 288, .inl x2.2.2.2.2.1)), (ad 4, .inl (cI, 72, .inl x2.2.2.2.2.2.2.1)), (ad 5, .inl (cI, 60, .inl x2.2.2.2.2.2.2.2.2.1)), (ad 6, .inl (cI, 32768, .inl x2.2.2.2.2.2.2.2.2.2.2.2.2.1))] H := hP
    have hD : va_D A [(ad 0, .inr (7, [.int x2.2.1, .ref (ad 1), .ref (ad 2), .ref (ad 3), .int x2.2.2.2.2.2.1, .ref (ad 4), .int x2.2.2.2.2.2.2.2.1, .ref (ad 5), .int x2.2.2.2.2.2.2.2.2.2.1, .int x2.2.2.2.2.2.2.2.2.2.2.1, .int x2.2.2.2.2.2.2.2.2.2.2.2.1, .ref (ad 6), .int x2.2.2.2.2.2.2.2.2.2.2.2.2.2.1, .int x2.2.2.2.2.2.2.2.2.2.2.2.2.2.2.1, .int x2.2.2.2.2.2.2.2.2.2.2.2.2.2.2.2.1, .int x2.2.2.2.2.2.2.2.2.2.2.2.2.2.2.2.2.1, .int x2.2.2.2.2.2.2.2.2.2.2.2.2.2.2.2.2.2.1, .int x2.2.2.2.2.2.2.2.2.2.2.2.2.2.2.2.2.2.2])), (ad 1, .inl (cI, 72, .inl x2.2.2.1)), (ad 2, .inl (cI, 72, .inl x2.2.2.2.1)), (ad 3, .inl (cI, 288, .inl x2.2.2.2.2.1)), (ad 4, .inl (cI, 72, .inl x2.2.2.2.2.2.2.1)), (ad 5, .inl (cI, 60, .inl x2.2.2.2.2.2.2.2.2.1)), (ad 6, .inl (cI, 32768, .inl x2.2.2.2.2.2.2.2.2.2.2.2.2.1))] := hD
    refine lv_pop hx hb dX7_makes_8 rfl ?_
    refine lv_goto (tgt := 31) hx hb dX7_makes_9 (by decide) ?_
    refine lv_iload_n hx hb dX7_makes_31 rfl (lv_at hl 1 rfl) ?_
    exact z_i hf (fun r => r.1) (fun r => oX7 cI cR ad r.2) hx hb hr hlk hS hP hD dX7_makes_32
def f_X7_refuses_J40 (v : tX7) (l1 : Int32) (l2 : Int32) (k0 : Int32) (k1 : Int32) : Option Int32 :=
  (if k1 = k0 then (if l1 = (5 : Int32) then (f_X7_of v (v.2.1 17) (1 : Int32)).bind fun x0 => (if x0 = 0 then some (5 : Int32) else some (0 : Int32)) else (if l1 ≤ (v.2.1 0) then some (0 : Int32) else some (4 : Int32))) else (if l2 = 0 then some (3 : Int32) else some (2 : Int32)))
def f_X7_refuses_J29 (v : tX7) (l1 : Int32) (k0 : Int32) : Option Int32 :=
  (if l1 = 0 then f_X7_refuses_J40 v l1 k0 (1 : Int32) k0 else f_X7_refuses_J40 v l1 k0 (0 : Int32) k0)
def f_X7_refuses (v : tX7) (p1 : Int32) : Option Int32 :=
  (f_X7_isOver v).bind fun x1 => (if x1 = 0 then (f_X7_of v (v.2.1 17) (2 : Int32)).bind fun x2 => (if x2 ≤ 0 then f_X7_refuses_J29 v p1 (0 : Int32) else f_X7_refuses_J29 v p1 (1 : Int32)) else some (1 : Int32))
abbrev rm_X7_refuses : Room := { frames := 1, cells := 0, slots := 0, locals := 22 }
set_option maxHeartbeats 4000000 in
set_option maxRecDepth 100000 in
theorem c_X7_refuses (l : Launch) (D : va_G) (cI cR : ClassId) (ad : Nat → Nat) (v : tX7) (p1 : Int32) (sz : Nat) (r : Int32) (hf : f_X7_refuses v p1 = some r) : Met l yX7_refuses (wM yX7_refuses cX7_refuses 3 (some (.int))) rm_X7_refuses (cPre D (tysA cI cR) ([.ref (ad 0), .int p1] : List Value) (oX7 cI cR ad v) sz) (QcRead r) 0 0 (fun _ => False) := by
  refine en_M (own := RX7) (lv := [(0, .ref (ad 0)), (1, .int p1)]) (by decide +kernel) rfl (Nat.le_of_ble_eq_true rfl) rfl (fun p e s m below meth c hx hb hr hlk hml hown hnm hts hsz hP hK hD hN ls hl => ?_)
  generalize va_A (oX7 cI cR ad v) sz = A at hD
  have hP : va_P D vwCl [(ad 0, .inr (7, [.int v.1, .ref (ad 1), .ref (ad 2), .ref (ad 3), .int v.2.2.2.2.1, .ref (ad 4), .int v.2.2.2.2.2.2.1, .ref (ad 5), .int v.2.2.2.2.2.2.2.2.1, .int v.2.2.2.2.2.2.2.2.2.1, .int v.2.2.2.2.2.2.2.2.2.2.1, .ref (ad 6), .int v.2.2.2.2.2.2.2.2.2.2.2.2.1, .int v.2.2.2.2.2.2.2.2.2.2.2.2.2.1, .int v.2.2.2.2.2.2.2.2.2.2.2.2.2.2.1, .int v.2.2.2.2.2.2.2.2.2.2.2.2.2.2.2.1, .int v.2.2.2.2.2.2.2.2.2.2.2.2.2.2.2.2.1, .int v.2.2.2.2.2.2.2.2.2.2.2.2.2.2.2.2.2])), (ad 1, .inl (cI, 72, .inl v.2.1)), (ad 2, .inl (cI, 72, .inl v.2.2.1)), (ad 3, .inl (cI, 288, .inl v.2.2.2.1)), (ad 4, .inl (cI, 72, .inl v.2.2.2.2.2.1)), (ad 5, .inl (cI, 60, .inl v.2.2.2.2.2.2.2.1)), (ad 6, .inl (cI, 32768, .inl v.2.2.2.2.2.2.2.2.2.2.2.1))] s.heap := hP
  have hD : va_D A [(ad 0, .inr (7, [.int v.1, .ref (ad 1), .ref (ad 2), .ref (ad 3), .int v.2.2.2.2.1, .ref (ad 4), .int v.2.2.2.2.2.2.1, .ref (ad 5), .int v.2.2.2.2.2.2.2.2.1, .int v.2.2.2.2.2.2.2.2.2.1, .int v.2.2.2.2.2.2.2.2.2.2.1, .ref (ad 6), .int v.2.2.2.2.2.2.2.2.2.2.2.2.1, .int v.2.2.2.2.2.2.2.2.2.2.2.2.2.1, .int v.2.2.2.2.2.2.2.2.2.2.2.2.2.2.1, .int v.2.2.2.2.2.2.2.2.2.2.2.2.2.2.2.1, .int v.2.2.2.2.2.2.2.2.2.2.2.2.2.2.2.2.1, .int v.2.2.2.2.2.2.2.2.2.2.2.2.2.2.2.2.2])), (ad 1, .inl (cI, 72, .inl v.2.1)), (ad 2, .inl (cI, 72, .inl v.2.2.1)), (ad 3, .inl (cI, 288, .inl v.2.2.2.1)), (ad 4, .inl (cI, 72, .inl v.2.2.2.2.2.1)), (ad 5, .inl (cI, 60, .inl v.2.2.2.2.2.2.2.1)), (ad 6, .inl (cI, 32768, .inl v.2.2.2.2.2.2.2.2.2.2.2.1))] := hD
  have J40 : ∀ (l1 : Int32) (l2 : Int32) (k0 : Int32) (k1 : Int32) (ls : Array Slot), lv_has ls 3 [(0, .ref (ad 0)), (1, .int l1), (2, .int l2)] → f_X7_refuses_J40 v l1 l2 k0 k1 = some r → W p l e rm_X7_refuses s m ([.ref (ad 0), .int p1] : List Value).toArray below meth c s.heap [] 0 0 (MQ below (QcRead r) ([.ref (ad 0), .int p1] : List Value).toArray s 0 0 (fun _ => False)) (F0 m 40 ls [.int k0, .int k1]) := by
    intro l1 l2 k0 k1 ls hl hf
    unfold f_X7_refuses_J40 at hf
    refine lv_icmp_eq (tgt := 53) hx hb dX7_refuses_40 (by decide) (fun c0 => ?_) (fun c0 => ?_)
    · replace hf := gT hf c0
      refine lv_iload_n hx hb dX7_refuses_53 rfl (lv_at hl 1 rfl) ?_
      refine lv_iconst (v := (5 : Int32)) hx hb dX7_refuses_54 (by decide) ?_
      refine lv_icmp_ne (tgt := 79) hx hb dX7_refuses_55 (by decide) (fun c1 => ?_) (fun c1 => ?_)
      · replace hf := gF hf c1
        refine lv_iload_n hx hb dX7_refuses_79 rfl (lv_at hl 1 rfl) ?_
        refine lv_aload_n hx hb dX7_refuses_80 rfl (lv_at hl 0 rfl) ?_
        refine va_get (D := D) (ci := 7) (v := .ref (ad 1)) (C := RX7) (T := TX7) (N := 18) hx hb hts inA_X7 hown hK hP 0 rfl rfl 1 (by decide) (hts _ kF_X7_7) (fun _ h9 => h9) rfl dX7_refuses_81 ?_
        refine lv_iconst (v := (0 : Int32)) hx hb dX7_refuses_84 (by decide) ?_
        refine va_iald hx hb hK hP 1 0 rfl rfl (ig_in (by decide)) dX7_refuses_85 ?_
        refine W.eq (g2 := F0 m 86 ls [.int (v.2.1 0), .int l1]) rfl ?_
        refine lv_icmp_le (tgt := 93) hx hb dX7_refuses_86 (by decide) (fun c2 => ?_) (fun c2 => ?_)
        · replace hf := gT hf c2
          refine lv_iconst (v := (0 : Int32)) hx hb dX7_refuses_93 (by decide) ?_
          exact z_r hf hx hb hr hlk dX7_refuses_94
        · replace hf := gF hf c2
          refine lv_iconst (v := (4 : Int32)) hx hb dX7_refuses_89 (by decide) ?_
          refine lv_goto (tgt := 94) hx hb dX7_refuses_90 (by decide) ?_
          exact z_r hf hx hb hr hlk dX7_refuses_94
      · replace hf := gT hf c1
        refine lv_aload_n hx hb dX7_refuses_58 rfl (lv_at hl 0 rfl) ?_
        refine lv_aload_n hx hb dX7_refuses_59 rfl (lv_at hl 0 rfl) ?_
        refine va_get (D := D) (ci := 7) (v := .ref (ad 1)) (C := RX7) (T := TX7) (N := 18) hx hb hts inA_X7 hown hK hP 0 rfl rfl 1 (by decide) (hts _ kF_X7_7) (fun _ h9 => h9) rfl dX7_refuses_60 ?_
        refine lv_bipush (v := (17 : Int32)) hx hb dX7_refuses_63 (by decide) ?_
        refine va_iald hx hb hK hP 1 0 rfl rfl (ig_in (by decide)) dX7_refuses_65 ?_
        refine W.eq (g2 := F0 m 66 ls [.int (v.2.1 17), .ref (ad 0)]) rfl ?_
        refine lv_iconst (v := (1 : Int32)) hx hb dX7_refuses_66 (by decide) ?_
        obtain ⟨x0, hcx0, hf⟩ := gB hf
        refine k_r (r_V (As := [.int (v.2.1 17), .int (1 : Int32)]) (rest := []) (n := 2) ⟨hx, hb, hml, hown, hts⟩ (c_X7_of l D cI cR ad v (v.2.1 17) (1 : Int32) _ x0 hcx0) kM_X7_123 kN_X7_of kV_X7_of kZ_X7 kK_X7_of ⟨rfl, rfl⟩ ⟨(Nat.le_of_ble_eq_true rfl), (Nat.le_of_ble_eq_true rfl)⟩ pd_X7_of rfl hK hN hP hD [0, 1, 2, 3, 4, 5, 6] rfl rfl 0 7 rfl rfl rfl hl.1 (Nat.le_of_ble_eq_true rfl) dX7_refuses_67 ⟨(Nat.le_of_ble_eq_true rfl), (Nat.le_of_ble_eq_true rfl)⟩) ?_
        refine lv_if_ne (tgt := 77) hx hb dX7_refuses_70 (by decide) (fun c3 => ?_) (fun c3 => ?_)
        · replace hf := gF hf c3
          refine lv_iconst (v := (0 : Int32)) hx hb dX7_refuses_77 (by decide) ?_
          exact z_r hf hx hb hr hlk dX7_refuses_78
        · replace hf := gT hf c3
          refine lv_iconst (v := (5 : Int32)) hx hb dX7_refuses_73 (by decide) ?_
          refine lv_goto (tgt := 78) hx hb dX7_refuses_74 (by decide) ?_
          exact z_r hf hx hb hr hlk dX7_refuses_78
    · replace hf := gF hf c0
      refine lv_iload_n hx hb dX7_refuses_43 rfl (lv_at hl 2 rfl) ?_
      refine lv_if_eq (tgt := 51) hx hb dX7_refuses_44 (by decide) (fun c4 => ?_) (fun c4 => ?_)
      · replace hf := gT hf c4
        refine lv_iconst (v := (3 : Int32)) hx hb dX7_refuses_51 (by decide) ?_
        exact z_r hf hx hb hr hlk dX7_refuses_52
      · replace hf := gF hf c4
        refine lv_iconst (v := (2 : Int32)) hx hb dX7_refuses_47 (by decide) ?_
        refine lv_goto (tgt := 52) hx hb dX7_refuses_48 (by decide) ?_
        exact z_r hf hx hb hr hlk dX7_refuses_52
  have J29 : ∀ (l1 : Int32) (k0 : Int32) (ls : Array Slot), lv_has ls 3 [(0, .ref (ad 0)), (1, .int l1)] → f_X7_refuses_J29 v l1 k0 = some r → W p l e rm_X7_refuses s m ([.ref (ad 0), .int p1] : List Value).toArray below meth c s.heap [] 0 0 (MQ below (QcRead r) ([.ref (ad 0), .int p1] : List Value).toArray s 0 0 (fun _ => False)) (F0 m 29 ls [.int k0]) := by
    intro l1 k0 ls hl hf
    unfold f_X7_refuses_J29 at hf
    refine lv_istore_n (lv' := [(2, .int k0), (0, .ref (ad 0)), (1, .int l1)]) hx hb dX7_refuses_29 rfl hl (by decide) rfl (fun ls hl => ?_)
    refine lv_iload_n hx hb dX7_refuses_30 rfl (lv_at hl 0 rfl) ?_
    refine lv_iload_n hx hb dX7_refuses_31 rfl (lv_at hl 2 rfl) ?_
    refine lv_if_ne (tgt := 39) hx hb dX7_refuses_32 (by decide) (fun c5 => ?_) (fun c5 => ?_)
    · replace hf := gF hf c5
      refine lv_iconst (v := (0 : Int32)) hx hb dX7_refuses_39 (by decide) ?_
      exact J40 l1 k0 (0 : Int32) k0 ls (lv_sub hl [1, 2, 0] rfl) hf
    · replace hf := gT hf c5
      refine lv_iconst (v := (1 : Int32)) hx hb dX7_refuses_35 (by decide) ?_
      refine lv_goto (tgt := 40) hx hb dX7_refuses_36 (by decide) ?_
      exact J40 l1 k0 (1 : Int32) k0 ls (lv_sub hl [1, 2, 0] rfl) hf
  unfold f_X7_refuses at hf
  refine lv_aload_n hx hb dX7_refuses_0 rfl (lv_at hl 0 rfl) ?_
  obtain ⟨x1, hcx1, hf⟩ := gB hf
  refine k_r (r_V (As := []) (rest := []) (n := 0) ⟨hx, hb, hml, hown, hts⟩ (c_X7_isOver l D cI cR ad v _ x1 hcx1) kM_X7_116 kN_X7_isOver kV_X7_isOver kZ_X7 kK_X7_isOver ⟨rfl, rfl⟩ ⟨(Nat.le_of_ble_eq_true rfl), (Nat.le_of_ble_eq_true rfl)⟩ pd_X7_isOver rfl hK hN hP hD [0, 1, 2, 3, 4, 5, 6] rfl rfl 0 7 rfl rfl rfl hl.1 (Nat.le_of_ble_eq_true rfl) dX7_refuses_1 ⟨(Nat.le_of_ble_eq_true rfl), (Nat.le_of_ble_eq_true rfl)⟩) ?_
  refine lv_if_eq (tgt := 9) hx hb dX7_refuses_4 (by decide) (fun c6 => ?_) (fun c6 => ?_)
  · replace hf := gT hf c6
    refine lv_aload_n hx hb dX7_refuses_9 rfl (lv_at hl 0 rfl) ?_
    refine lv_aload_n hx hb dX7_refuses_10 rfl (lv_at hl 0 rfl) ?_
    refine va_get (D := D) (ci := 7) (v := .ref (ad 1)) (C := RX7) (T := TX7) (N := 18) hx hb hts inA_X7 hown hK hP 0 rfl rfl 1 (by decide) (hts _ kF_X7_7) (fun _ h9 => h9) rfl dX7_refuses_11 ?_
    refine lv_bipush (v := (17 : Int32)) hx hb dX7_refuses_14 (by decide) ?_
    refine va_iald hx hb hK hP 1 0 rfl rfl (ig_in (by decide)) dX7_refuses_16 ?_
    refine W.eq (g2 := F0 m 17 ls [.int (v.2.1 17), .ref (ad 0)]) rfl ?_
    refine lv_iconst (v := (2 : Int32)) hx hb dX7_refuses_17 (by decide) ?_
    obtain ⟨x2, hcx2, hf⟩ := gB hf
    refine k_r (r_V (As := [.int (v.2.1 17), .int (2 : Int32)]) (rest := []) (n := 2) ⟨hx, hb, hml, hown, hts⟩ (c_X7_of l D cI cR ad v (v.2.1 17) (2 : Int32) _ x2 hcx2) kM_X7_123 kN_X7_of kV_X7_of kZ_X7 kK_X7_of ⟨rfl, rfl⟩ ⟨(Nat.le_of_ble_eq_true rfl), (Nat.le_of_ble_eq_true rfl)⟩ pd_X7_of rfl hK hN hP hD [0, 1, 2, 3, 4, 5, 6] rfl rfl 0 7 rfl rfl rfl hl.1 (Nat.le_of_ble_eq_true rfl) dX7_refuses_18 ⟨(Nat.le_of_ble_eq_true rfl), (Nat.le_of_ble_eq_true rfl)⟩) ?_
    refine lv_if_le (tgt := 28) hx hb dX7_refuses_21 (by decide) (fun c7 => ?_) (fun c7 => ?_)
    · replace hf := gT hf c7
      refine lv_iconst (v := (0 : Int32)) hx hb dX7_refuses_28 (by decide) ?_
      exact J29 p1 (0 : Int32) ls (lv_sub hl [0, 1] rfl) hf
    · replace hf := gF hf c7
      refine lv_iconst (v := (1 : Int32)) hx hb dX7_refuses_24 (by decide) ?_
      refine lv_goto (tgt := 29) hx hb dX7_refuses_25 (by decide) ?_
      exact J29 p1 (1 : Int32) ls (lv_sub hl [0, 1] rfl) hf
  · replace hf := gF hf c6
    refine lv_iconst (v := (1 : Int32)) hx hb dX7_refuses_7 (by decide) ?_
    exact z_r hf hx hb hr hlk dX7_refuses_8
def f_X7_records_L50 : Nat → Int32 → tX7 → Option tX7
  | 0, _, _ => none
  | nL50 + 1, l1, v =>
    (if (72 : Int32) ≤ l1 then some (v.1, v.2.1, v.2.2.1, v.2.2.2.1, (v.2.2.2.2.1 + (1 : Int32)), v.2.2.2.2.2.1, v.2.2.2.2.2.2.1, v.2.2.2.2.2.2.2.1, v.2.2.2.2.2.2.2.2.1, v.2.2.2.2.2.2.2.2.2.1, v.2.2.2.2.2.2.2.2.2.2.1, v.2.2.2.2.2.2.2.2.2.2.2.1, v.2.2.2.2.2.2.2.2.2.2.2.2.1, v.2.2.2.2.2.2.2.2.2.2.2.2.2.1, v.2.2.2.2.2.2.2.2.2.2.2.2.2.2.1, v.2.2.2.2.2.2.2.2.2.2.2.2.2.2.2.1, v.2.2.2.2.2.2.2.2.2.2.2.2.2.2.2.2.1, v.2.2.2.2.2.2.2.2.2.2.2.2.2.2.2.2.2) else (if ig l1 72 = true then (if ig (((72 : Int32) * v.2.2.2.2.1) + l1) 288 = true then f_X7_records_L50 nL50 (l1 + (1 : Int32)) (v.1, v.2.1, v.2.2.1, (upd v.2.2.2.1 (((72 : Int32) * v.2.2.2.2.1) + l1).toNatClampNeg (v.2.1 l1.toNatClampNeg)), v.2.2.2.2.1, v.2.2.2.2.2.1, v.2.2.2.2.2.2.1, v.2.2.2.2.2.2.2.1, v.2.2.2.2.2.2.2.2.1, v.2.2.2.2.2.2.2.2.2.1, v.2.2.2.2.2.2.2.2.2.2.1, v.2.2.2.2.2.2.2.2.2.2.2.1, v.2.2.2.2.2.2.2.2.2.2.2.2.1, v.2.2.2.2.2.2.2.2.2.2.2.2.2.1, v.2.2.2.2.2.2.2.2.2.2.2.2.2.2.1, v.2.2.2.2.2.2.2.2.2.2.2.2.2.2.2.1, v.2.2.2.2.2.2.2.2.2.2.2.2.2.2.2.2.1, v.2.2.2.2.2.2.2.2.2.2.2.2.2.2.2.2.2) else none) else none))
def f_X7_records_J48 (v : tX7) : Option tX7 :=
  f_X7_records_L50 gas (0 : Int32) v
def f_X7_records_L10 : Nat → Int32 → tX7 → Option tX7
  | 0, _, _ => none
  | nL10 + 1, l1, v =>
    (if (216 : Int32) ≤ l1 then f_X7_records_J48 (v.1, v.2.1, v.2.2.1, v.2.2.2.1, (v.2.2.2.2.1 - (1 : Int32)), v.2.2.2.2.2.1, v.2.2.2.2.2.2.1, v.2.2.2.2.2.2.2.1, v.2.2.2.2.2.2.2.2.1, v.2.2.2.2.2.2.2.2.2.1, v.2.2.2.2.2.2.2.2.2.2.1, v.2.2.2.2.2.2.2.2.2.2.2.1, v.2.2.2.2.2.2.2.2.2.2.2.2.1, v.2.2.2.2.2.2.2.2.2.2.2.2.2.1, v.2.2.2.2.2.2.2.2.2.2.2.2.2.2.1, v.2.2.2.2.2.2.2.2.2.2.2.2.2.2.2.1, v.2.2.2.2.2.2.2.2.2.2.2.2.2.2.2.2.1, v.2.2.2.2.2.2.2.2.2.2.2.2.2.2.2.2.2) else (if ig (l1 + (72 : Int32)) 288 = true then (if ig l1 288 = true then f_X7_records_L10 nL10 (l1 + (1 : Int32)) (v.1, v.2.1, v.2.2.1, (upd v.2.2.2.1 l1.toNatClampNeg (v.2.2.2.1 (l1 + (72 : Int32)).toNatClampNeg)), v.2.2.2.2.1, v.2.2.2.2.2.1, v.2.2.2.2.2.2.1, v.2.2.2.2.2.2.2.1, v.2.2.2.2.2.2.2.2.1, v.2.2.2.2.2.2.2.2.2.1, v.2.2.2.2.2.2.2.2.2.2.1, v.2.2.2.2.2.2.2.2.2.2.2.1, v.2.2.2.2.2.2.2.2.2.2.2.2.1, v.2.2.2.2.2.2.2.2.2.2.2.2.2.1, v.2.2.2.2.2.2.2.2.2.2.2.2.2.2.1, v.2.2.2.2.2.2.2.2.2.2.2.2.2.2.2.1, v.2.2.2.2.2.2.2.2.2.2.2.2.2.2.2.2.1, v.2.2.2.2.2.2.2.2.2.2.2.2.2.2.2.2.2) else none) else none))
def f_X7_records (v : tX7) : Option tX7 :=
  (if v.2.2.2.2.1 = (4 : Int32) then f_X7_records_L10 gas (0 : Int32) v else f_X7_records_J48 v)
abbrev rm_X7_records : Room := { frames := 0, cells := 0, slots := 0, locals := 0 }
set_option maxHeartbeats 4000000 in
set_option maxRecDepth 100000 in
theorem c_X7_records (l : Launch) (D : va_G) (cI cR : ClassId) (ad : Nat → Nat) (v : tX7) (sz : Nat) (r : tX7) (hf : f_X7_records v = some r) : Met l yX7_records (wM yX7_records cX7_records 2 none) rm_X7_records (cPre D (tysA cI cR) ([.ref (ad 0)] : List Value) (oX7 cI cR ad v) sz) (qV D (oX7 cI cR ad r) (va_A (oX7 cI cR ad v) sz)) 0 0 (va_A (oX7 cI cR ad v) sz) := by
  refine en_M (own := RX7) (lv := [(0, .ref (ad 0))]) (by decide +kernel) rfl (Nat.le_of_ble_eq_true rfl) rfl (fun p e s m below meth c hx hb hr hlk hml hown hnm hts hsz hP hK hD hN ls hl => ?_)
  subst hsz
  generalize hAe : va_A (oX7 cI cR ad v) s.heap.size = A at hD ⊢
  have hA : ∀ q : Nat, s.heap.size ≤ q → A q := fun q h => by rw [← hAe]; exact Or.inr h
  have hS : va_S A s.heap s.heap [] := va_S.rf
  have hP : va_P D vwCl [(ad 0, .inr (7, [.int v.1, .ref (ad 1), .ref (ad 2), .ref (ad 3), .int v.2.2.2.2.1, .ref (ad 4), .int v.2.2.2.2.2.2.1, .ref (ad 5), .int v.2.2.2.2.2.2.2.2.1, .int v.2.2.2.2.2.2.2.2.2.1, .int v.2.2.2.2.2.2.2.2.2.2.1, .ref (ad 6), .int v.2.2.2.2.2.2.2.2.2.2.2.2.1, .int v.2.2.2.2.2.2.2.2.2.2.2.2.2.1, .int v.2.2.2.2.2.2.2.2.2.2.2.2.2.2.1, .int v.2.2.2.2.2.2.2.2.2.2.2.2.2.2.2.1, .int v.2.2.2.2.2.2.2.2.2.2.2.2.2.2.2.2.1, .int v.2.2.2.2.2.2.2.2.2.2.2.2.2.2.2.2.2])), (ad 1, .inl (cI, 72, .inl v.2.1)), (ad 2, .inl (cI, 72, .inl v.2.2.1)), (ad 3, .inl (cI, 288, .inl v.2.2.2.1)), (ad 4, .inl (cI, 72, .inl v.2.2.2.2.2.1)), (ad 5, .inl (cI, 60, .inl v.2.2.2.2.2.2.2.1)), (ad 6, .inl (cI, 32768, .inl v.2.2.2.2.2.2.2.2.2.2.2.1))] s.heap := hP
  have hD : va_D A [(ad 0, .inr (7, [.int v.1, .ref (ad 1), .ref (ad 2), .ref (ad 3), .int v.2.2.2.2.1, .ref (ad 4), .int v.2.2.2.2.2.2.1, .ref (ad 5), .int v.2.2.2.2.2.2.2.2.1, .int v.2.2.2.2.2.2.2.2.2.1, .int v.2.2.2.2.2.2.2.2.2.2.1, .ref (ad 6), .int v.2.2.2.2.2.2.2.2.2.2.2.2.1, .int v.2.2.2.2.2.2.2.2.2.2.2.2.2.1, .int v.2.2.2.2.2.2.2.2.2.2.2.2.2.2.1, .int v.2.2.2.2.2.2.2.2.2.2.2.2.2.2.2.1, .int v.2.2.2.2.2.2.2.2.2.2.2.2.2.2.2.2.1, .int v.2.2.2.2.2.2.2.2.2.2.2.2.2.2.2.2.2])), (ad 1, .inl (cI, 72, .inl v.2.1)), (ad 2, .inl (cI, 72, .inl v.2.2.1)), (ad 3, .inl (cI, 288, .inl v.2.2.2.1)), (ad 4, .inl (cI, 72, .inl v.2.2.2.2.2.1)), (ad 5, .inl (cI, 60, .inl v.2.2.2.2.2.2.2.1)), (ad 6, .inl (cI, 32768, .inl v.2.2.2.2.2.2.2.2.2.2.2.1))] := hD
  have L50 : ∀ (nL50 : Nat) (l1 : Int32) (v : tX7) (H : Heap) (locs : List Loc) (ls : Array Slot), va_P D vwCl [(ad 0, .inr (7, [.int v.1, .ref (ad 1), .ref (ad 2), .ref (ad 3), .int v.2.2.2.2.1, .ref (ad 4), .int v.2.2.2.2.2.2.1, .ref (ad 5), .int v.2.2.2.2.2.2.2.2.1, .int v.2.2.2.2.2.2.2.2.2.1, .int v.2.2.2.2.2.2.2.2.2.2.1, .ref (ad 6), .int v.2.2.2.2.2.2.2.2.2.2.2.2.1, .int v.2.2.2.2.2.2.2.2.2.2.2.2.2.1, .int v.2.2.2.2.2.2.2.2.2.2.2.2.2.2.1, .int v.2.2.2.2.2.2.2.2.2.2.2.2.2.2.2.1, .int v.2.2.2.2.2.2.2.2.2.2.2.2.2.2.2.2.1, .int v.2.2.2.2.2.2.2.2.2.2.2.2.2.2.2.2.2])), (ad 1, .inl (cI, 72, .inl v.2.1)), (ad 2, .inl (cI, 72, .inl v.2.2.1)), (ad 3, .inl (cI, 288, .inl v.2.2.2.1)), (ad 4, .inl (cI, 72, .inl v.2.2.2.2.2.1)), (ad 5, .inl (cI, 60, .inl v.2.2.2.2.2.2.2.1)), (ad 6, .inl (cI, 32768, .inl v.2.2.2.2.2.2.2.2.2.2.2.1))] H → va_D A [(ad 0, .inr (7, [.int v.1, .ref (ad 1), .ref (ad 2), .ref (ad 3), .int v.2.2.2.2.1, .ref (ad 4), .int v.2.2.2.2.2.2.1, .ref (ad 5), .int v.2.2.2.2.2.2.2.2.1, .int v.2.2.2.2.2.2.2.2.2.1, .int v.2.2.2.2.2.2.2.2.2.2.1, .ref (ad 6), .int v.2.2.2.2.2.2.2.2.2.2.2.2.1, .int v.2.2.2.2.2.2.2.2.2.2.2.2.2.1, .int v.2.2.2.2.2.2.2.2.2.2.2.2.2.2.1, .int v.2.2.2.2.2.2.2.2.2.2.2.2.2.2.2.1, .int v.2.2.2.2.2.2.2.2.2.2.2.2.2.2.2.2.1, .int v.2.2.2.2.2.2.2.2.2.2.2.2.2.2.2.2.2])), (ad 1, .inl (cI, 72, .inl v.2.1)), (ad 2, .inl (cI, 72, .inl v.2.2.1)), (ad 3, .inl (cI, 288, .inl v.2.2.2.1)), (ad 4, .inl (cI, 72, .inl v.2.2.2.2.2.1)), (ad 5, .inl (cI, 60, .inl v.2.2.2.2.2.2.2.1)), (ad 6, .inl (cI, 32768, .inl v.2.2.2.2.2.2.2.2.2.2.2.1))] → va_S A s.heap H locs → lv_has ls 2 [(0, .ref (ad 0)), (1, .int l1)] → f_X7_records_L50 nL50 l1 v = some r → W p l e rm_X7_records s m ([.ref (ad 0)] : List Value).toArray below meth c H locs 0 0 (MQ below (qV D (oX7 cI cR ad r) A) ([.ref (ad 0)] : List Value).toArray s 0 0 A) (F0 m 50 ls []) := by
    intro nL50
    induction nL50 with
    | zero =>
      intro l1 v H locs ls hP hD hS hl hf
      cases hf
    | succ nL50 ih_L50 =>
      intro l1 v H locs ls hP hD hS hl hf
      rw [f_X7_records_L50] at hf
      refine lv_iload_n hx hb dX7_records_50 rfl (lv_at hl 1 rfl) ?_
      refine lv_bipush (v := (72 : Int32)) hx hb dX7_records_51 (by decide) ?_
      refine lv_icmp_ge (tgt := 82) hx hb dX7_records_53 (by decide) (fun c0 => ?_) (fun c0 => ?_)
      · replace hf := gT hf c0
        refine lv_aload_n hx hb dX7_records_82 rfl (lv_at hl 0 rfl) ?_
        refine lv_dup hx hb dX7_records_83 rfl ?_
        refine va_get (D := D) (ci := 7) (v := .int v.2.2.2.2.1) (C := RX7) (T := TX7) (N := 18) hx hb hts inA_X7 hown hK hP 0 rfl rfl 4 (by decide) (hts _ kF_X7_46) (fun _ h9 => h9) rfl dX7_records_84 ?_
        refine lv_iconst (v := (1 : Int32)) hx hb dX7_records_87 (by decide) ?_
        refine lv_iadd hx hb dX7_records_88 ?_
        refine va_put (D := D) (ci := 7) (v := .int (v.2.2.2.2.1 + (1 : Int32))) (ty := .int) (C := RX7) (T := TX7) (N := 18) hx hb hts inA_X7 tyX7 tyX7_ok nmX7 hown hK hP hD hS 0 rfl rfl 4 (by decide) (hts _ kF_X7_46) (fun _ h9 => h9) rfl (tyX7_ok 4 (by decide)) rfl rfl (Nat.le_of_ble_eq_true rfl) dX7_records_89 (fun H locs hP hD hS => ?_)
        have hP : va_P D vwCl [(ad 0, .inr (7, [.int v.1, .ref (ad 1), .ref (ad 2), .ref (ad 3), .int (v.2.2.2.2.1 + (1 : Int32)), .ref (ad 4), .int v.2.2.2.2.2.2.1, .ref (ad 5), .int v.2.2.2.2.2.2.2.2.1, .int v.2.2.2.2.2.2.2.2.2.1, .int v.2.2.2.2.2.2.2.2.2.2.1, .ref (ad 6), .int v.2.2.2.2.2.2.2.2.2.2.2.2.1, .int v.2.2.2.2.2.2.2.2.2.2.2.2.2.1, .int v.2.2.2.2.2.2.2.2.2.2.2.2.2.2.1, .int v.2.2.2.2.2.2.2.2.2.2.2.2.2.2.2.1, .int v.2.2.2.2.2.2.2.2.2.2.2.2.2.2.2.2.1, .int v.2.2.2.2.2.2.2.2.2.2.2.2.2.2.2.2.2])), (ad 1, .inl (cI, 72, .inl v.2.1)), (ad 2, .inl (cI, 72, .inl v.2.2.1)), (ad 3, .inl (cI, 288, .inl v.2.2.2.1)), (ad 4, .inl (cI, 72, .inl v.2.2.2.2.2.1)), (ad 5, .inl (cI, 60, .inl v.2.2.2.2.2.2.2.1)), (ad 6, .inl (cI, 32768, .inl v.2.2.2.2.2.2.2.2.2.2.2.1))] H := hP
        have hD : va_D A [(ad 0, .inr (7, [.int v.1, .ref (ad 1), .ref (ad 2), .ref (ad 3), .int (v.2.2.2.2.1 + (1 : Int32)), .ref (ad 4), .int v.2.2.2.2.2.2.1, .ref (ad 5), .int v.2.2.2.2.2.2.2.2.1, .int v.2.2.2.2.2.2.2.2.2.1, .int v.2.2.2.2.2.2.2.2.2.2.1, .ref (ad 6), .int v.2.2.2.2.2.2.2.2.2.2.2.2.1, .int v.2.2.2.2.2.2.2.2.2.2.2.2.2.1, .int v.2.2.2.2.2.2.2.2.2.2.2.2.2.2.1, .int v.2.2.2.2.2.2.2.2.2.2.2.2.2.2.2.1, .int v.2.2.2.2.2.2.2.2.2.2.2.2.2.2.2.2.1, .int v.2.2.2.2.2.2.2.2.2.2.2.2.2.2.2.2.2])), (ad 1, .inl (cI, 72, .inl v.2.1)), (ad 2, .inl (cI, 72, .inl v.2.2.1)), (ad 3, .inl (cI, 288, .inl v.2.2.2.1)), (ad 4, .inl (cI, 72, .inl v.2.2.2.2.2.1)), (ad 5, .inl (cI, 60, .inl v.2.2.2.2.2.2.2.1)), (ad 6, .inl (cI, 32768, .inl v.2.2.2.2.2.2.2.2.2.2.2.1))] := hD
        exact z_v hf (fun r => oX7 cI cR ad r) hx hb hr hlk hS hP hD dX7_records_92
      · replace hf := gF hf c0
        refine lv_aload_n hx hb dX7_records_56 rfl (lv_at hl 0 rfl) ?_
        refine va_get (D := D) (ci := 7) (v := .ref (ad 3)) (C := RX7) (T := TX7) (N := 18) hx hb hts inA_X7 hown hK hP 0 rfl rfl 3 (by decide) (hts _ kF_X7_16) (fun _ h9 => h9) rfl dX7_records_57 ?_
        refine lv_bipush (v := (72 : Int32)) hx hb dX7_records_60 (by decide) ?_
        refine lv_aload_n hx hb dX7_records_62 rfl (lv_at hl 0 rfl) ?_
        refine va_get (D := D) (ci := 7) (v := .int v.2.2.2.2.1) (C := RX7) (T := TX7) (N := 18) hx hb hts inA_X7 hown hK hP 0 rfl rfl 4 (by decide) (hts _ kF_X7_46) (fun _ h9 => h9) rfl dX7_records_63 ?_
        refine lv_imul hx hb dX7_records_66 ?_
        refine lv_iload_n hx hb dX7_records_67 rfl (lv_at hl 1 rfl) ?_
        refine lv_iadd hx hb dX7_records_68 ?_
        refine lv_aload_n hx hb dX7_records_69 rfl (lv_at hl 0 rfl) ?_
        refine va_get (D := D) (ci := 7) (v := .ref (ad 1)) (C := RX7) (T := TX7) (N := 18) hx hb hts inA_X7 hown hK hP 0 rfl rfl 1 (by decide) (hts _ kF_X7_7) (fun _ h9 => h9) rfl dX7_records_70 ?_
        refine lv_iload_n hx hb dX7_records_73 rfl (lv_at hl 1 rfl) ?_
        obtain ⟨g0, hf⟩ := gd hf
        refine va_iald hx hb hK hP 1 0 rfl rfl (ig_in g0) dX7_records_74 ?_
        obtain ⟨g0, hf⟩ := gd hf
        refine va_iast hx hb hK hP hD hS 3 0 rfl rfl (ig_in g0) dX7_records_75 (fun H locs hP hD hS => ?_)
        have hP : va_P D vwCl [(ad 0, .inr (7, [.int v.1, .ref (ad 1), .ref (ad 2), .ref (ad 3), .int v.2.2.2.2.1, .ref (ad 4), .int v.2.2.2.2.2.2.1, .ref (ad 5), .int v.2.2.2.2.2.2.2.2.1, .int v.2.2.2.2.2.2.2.2.2.1, .int v.2.2.2.2.2.2.2.2.2.2.1, .ref (ad 6), .int v.2.2.2.2.2.2.2.2.2.2.2.2.1, .int v.2.2.2.2.2.2.2.2.2.2.2.2.2.1, .int v.2.2.2.2.2.2.2.2.2.2.2.2.2.2.1, .int v.2.2.2.2.2.2.2.2.2.2.2.2.2.2.2.1, .int v.2.2.2.2.2.2.2.2.2.2.2.2.2.2.2.2.1, .int v.2.2.2.2.2.2.2.2.2.2.2.2.2.2.2.2.2])), (ad 1, .inl (cI, 72, .inl v.2.1)), (ad 2, .inl (cI, 72, .inl v.2.2.1)), (ad 3, .inl (cI, 288, .inl (upd v.2.2.2.1 (((72 : Int32) * v.2.2.2.2.1) + l1).toNatClampNeg (v.2.1 l1.toNatClampNeg)))), (ad 4, .inl (cI, 72, .inl v.2.2.2.2.2.1)), (ad 5, .inl (cI, 60, .inl v.2.2.2.2.2.2.2.1)), (ad 6, .inl (cI, 32768, .inl v.2.2.2.2.2.2.2.2.2.2.2.1))] H := hP
        have hD : va_D A [(ad 0, .inr (7, [.int v.1, .ref (ad 1), .ref (ad 2), .ref (ad 3), .int v.2.2.2.2.1, .ref (ad 4), .int v.2.2.2.2.2.2.1, .ref (ad 5), .int v.2.2.2.2.2.2.2.2.1, .int v.2.2.2.2.2.2.2.2.2.1, .int v.2.2.2.2.2.2.2.2.2.2.1, .ref (ad 6), .int v.2.2.2.2.2.2.2.2.2.2.2.2.1, .int v.2.2.2.2.2.2.2.2.2.2.2.2.2.1, .int v.2.2.2.2.2.2.2.2.2.2.2.2.2.2.1, .int v.2.2.2.2.2.2.2.2.2.2.2.2.2.2.2.1, .int v.2.2.2.2.2.2.2.2.2.2.2.2.2.2.2.2.1, .int v.2.2.2.2.2.2.2.2.2.2.2.2.2.2.2.2.2])), (ad 1, .inl (cI, 72, .inl v.2.1)), (ad 2, .inl (cI, 72, .inl v.2.2.1)), (ad 3, .inl (cI, 288, .inl (upd v.2.2.2.1 (((72 : Int32) * v.2.2.2.2.1) + l1).toNatClampNeg (v.2.1 l1.toNatClampNeg)))), (ad 4, .inl (cI, 72, .inl v.2.2.2.2.2.1)), (ad 5, .inl (cI, 60, .inl v.2.2.2.2.2.2.2.1)), (ad 6, .inl (cI, 32768, .inl v.2.2.2.2.2.2.2.2.2.2.2.1))] := hD
        refine lv_iinc (v := (l1 + (1 : Int32))) (lv' := [(1, .int (l1 + (1 : Int32))), (0, .ref (ad 0))]) hx hb dX7_records_76 hl (k := 1) rfl rfl (by decide) rfl (fun ls hl => ?_)
        refine lv_goto (tgt := 50) hx hb dX7_records_79 (by decide) ?_
        exact ih_L50 (l1 + (1 : Int32)) (v.1, v.2.1, v.2.2.1, (upd v.2.2.2.1 (((72 : Int32) * v.2.2.2.2.1) + l1).toNatClampNeg (v.2.1 l1.toNatClampNeg)), v.2.2.2.2.1, v.2.2.2.2.2.1, v.2.2.2.2.2.2.1, v.2.2.2.2.2.2.2.1, v.2.2.2.2.2.2.2.2.1, v.2.2.2.2.2.2.2.2.2.1, v.2.2.2.2.2.2.2.2.2.2.1, v.2.2.2.2.2.2.2.2.2.2.2.1, v.2.2.2.2.2.2.2.2.2.2.2.2.1, v.2.2.2.2.2.2.2.2.2.2.2.2.2.1, v.2.2.2.2.2.2.2.2.2.2.2.2.2.2.1, v.2.2.2.2.2.2.2.2.2.2.2.2.2.2.2.1, v.2.2.2.2.2.2.2.2.2.2.2.2.2.2.2.2.1, v.2.2.2.2.2.2.2.2.2.2.2.2.2.2.2.2.2) _ _ ls hP hD hS (lv_sub hl [1, 0] rfl) hf
  have J48 : ∀ (v : tX7) (H : Heap) (locs : List Loc) (ls : Array Slot), va_P D vwCl [(ad 0, .inr (7, [.int v.1, .ref (ad 1), .ref (ad 2), .ref (ad 3), .int v.2.2.2.2.1, .ref (ad 4), .int v.2.2.2.2.2.2.1, .ref (ad 5), .int v.2.2.2.2.2.2.2.2.1, .int v.2.2.2.2.2.2.2.2.2.1, .int v.2.2.2.2.2.2.2.2.2.2.1, .ref (ad 6), .int v.2.2.2.2.2.2.2.2.2.2.2.2.1, .int v.2.2.2.2.2.2.2.2.2.2.2.2.2.1, .int v.2.2.2.2.2.2.2.2.2.2.2.2.2.2.1, .int v.2.2.2.2.2.2.2.2.2.2.2.2.2.2.2.1, .int v.2.2.2.2.2.2.2.2.2.2.2.2.2.2.2.2.1, .int v.2.2.2.2.2.2.2.2.2.2.2.2.2.2.2.2.2])), (ad 1, .inl (cI, 72, .inl v.2.1)), (ad 2, .inl (cI, 72, .inl v.2.2.1)), (ad 3, .inl (cI, 288, .inl v.2.2.2.1)), (ad 4, .inl (cI, 72, .inl v.2.2.2.2.2.1)), (ad 5, .inl (cI, 60, .inl v.2.2.2.2.2.2.2.1)), (ad 6, .inl (cI, 32768, .inl v.2.2.2.2.2.2.2.2.2.2.2.1))] H → va_D A [(ad 0, .inr (7, [.int v.1, .ref (ad 1), .ref (ad 2), .ref (ad 3), .int v.2.2.2.2.1, .ref (ad 4), .int v.2.2.2.2.2.2.1, .ref (ad 5), .int v.2.2.2.2.2.2.2.2.1, .int v.2.2.2.2.2.2.2.2.2.1, .int v.2.2.2.2.2.2.2.2.2.2.1, .ref (ad 6), .int v.2.2.2.2.2.2.2.2.2.2.2.2.1, .int v.2.2.2.2.2.2.2.2.2.2.2.2.2.1, .int v.2.2.2.2.2.2.2.2.2.2.2.2.2.2.1, .int v.2.2.2.2.2.2.2.2.2.2.2.2.2.2.2.1, .int v.2.2.2.2.2.2.2.2.2.2.2.2.2.2.2.2.1, .int v.2.2.2.2.2.2.2.2.2.2.2.2.2.2.2.2.2])), (ad 1, .inl (cI, 72, .inl v.2.1)), (ad 2, .inl (cI, 72, .inl v.2.2.1)), (ad 3, .inl (cI, 288, .inl v.2.2.2.1)), (ad 4, .inl (cI, 72, .inl v.2.2.2.2.2.1)), (ad 5, .inl (cI, 60, .inl v.2.2.2.2.2.2.2.1)), (ad 6, .inl (cI, 32768, .inl v.2.2.2.2.2.2.2.2.2.2.2.1))] → va_S A s.heap H locs → lv_has ls 2 [(0, .ref (ad 0))] → f_X7_records_J48 v = some r → W p l e rm_X7_records s m ([.ref (ad 0)] : List Value).toArray below meth c H locs 0 0 (MQ below (qV D (oX7 cI cR ad r) A) ([.ref (ad 0)] : List Value).toArray s 0 0 A) (F0 m 48 ls []) := by
    intro v H locs ls hP hD hS hl hf
    unfold f_X7_records_J48 at hf
    refine lv_iconst (v := (0 : Int32)) hx hb dX7_records_48 (by decide) ?_
    refine lv_istore_n (lv' := [(1, .int (0 : Int32)), (0, .ref (ad 0))]) hx hb dX7_records_49 rfl hl (by decide) rfl (fun ls hl => ?_)
    exact L50 gas (0 : Int32) v _ _ ls hP hD hS (lv_sub hl [1, 0] rfl) hf
  have L10 : ∀ (nL10 : Nat) (l1 : Int32) (v : tX7) (H : Heap) (locs : List Loc) (ls : Array Slot), va_P D vwCl [(ad 0, .inr (7, [.int v.1, .ref (ad 1), .ref (ad 2), .ref (ad 3), .int v.2.2.2.2.1, .ref (ad 4), .int v.2.2.2.2.2.2.1, .ref (ad 5), .int v.2.2.2.2.2.2.2.2.1, .int v.2.2.2.2.2.2.2.2.2.1, .int v.2.2.2.2.2.2.2.2.2.2.1, .ref (ad 6), .int v.2.2.2.2.2.2.2.2.2.2.2.2.1, .int v.2.2.2.2.2.2.2.2.2.2.2.2.2.1, .int v.2.2.2.2.2.2.2.2.2.2.2.2.2.2.1, .int v.2.2.2.2.2.2.2.2.2.2.2.2.2.2.2.1, .int v.2.2.2.2.2.2.2.2.2.2.2.2.2.2.2.2.1, .int v.2.2.2.2.2.2.2.2.2.2.2.2.2.2.2.2.2])), (ad 1, .inl (cI, 72, .inl v.2.1)), (ad 2, .inl (cI, 72, .inl v.2.2.1)), (ad 3, .inl (cI, 288, .inl v.2.2.2.1)), (ad 4, .inl (cI, 72, .inl v.2.2.2.2.2.1)), (ad 5, .inl (cI, 60, .inl v.2.2.2.2.2.2.2.1)), (ad 6, .inl (cI, 32768, .inl v.2.2.2.2.2.2.2.2.2.2.2.1))] H → va_D A [(ad 0, .inr (7, [.int v.1, .ref (ad 1), .ref (ad 2), .ref (ad 3), .int v.2.2.2.2.1, .ref (ad 4), .int v.2.2.2.2.2.2.1, .ref (ad 5), .int v.2.2.2.2.2.2.2.2.1, .int v.2.2.2.2.2.2.2.2.2.1, .int v.2.2.2.2.2.2.2.2.2.2.1, .ref (ad 6), .int v.2.2.2.2.2.2.2.2.2.2.2.2.1, .int v.2.2.2.2.2.2.2.2.2.2.2.2.2.1, .int v.2.2.2.2.2.2.2.2.2.2.2.2.2.2.1, .int v.2.2.2.2.2.2.2.2.2.2.2.2.2.2.2.1, .int v.2.2.2.2.2.2.2.2.2.2.2.2.2.2.2.2.1, .int v.2.2.2.2.2.2.2.2.2.2.2.2.2.2.2.2.2])), (ad 1, .inl (cI, 72, .inl v.2.1)), (ad 2, .inl (cI, 72, .inl v.2.2.1)), (ad 3, .inl (cI, 288, .inl v.2.2.2.1)), (ad 4, .inl (cI, 72, .inl v.2.2.2.2.2.1)), (ad 5, .inl (cI, 60, .inl v.2.2.2.2.2.2.2.1)), (ad 6, .inl (cI, 32768, .inl v.2.2.2.2.2.2.2.2.2.2.2.1))] → va_S A s.heap H locs → lv_has ls 2 [(0, .ref (ad 0)), (1, .int l1)] → f_X7_records_L10 nL10 l1 v = some r → W p l e rm_X7_records s m ([.ref (ad 0)] : List Value).toArray below meth c H locs 0 0 (MQ below (qV D (oX7 cI cR ad r) A) ([.ref (ad 0)] : List Value).toArray s 0 0 A) (F0 m 10 ls []) := by
    intro nL10
    induction nL10 with
    | zero =>
      intro l1 v H locs ls hP hD hS hl hf
      cases hf
    | succ nL10 ih_L10 =>
      intro l1 v H locs ls hP hD hS hl hf
      rw [f_X7_records_L10] at hf
      refine lv_iload_n hx hb dX7_records_10 rfl (lv_at hl 1 rfl) ?_
      refine lv_sipush (v := (216 : Int32)) hx hb dX7_records_11 (by decide) ?_
      refine lv_icmp_ge (tgt := 38) hx hb dX7_records_14 (by decide) (fun c1 => ?_) (fun c1 => ?_)
      · replace hf := gT hf c1
        refine lv_aload_n hx hb dX7_records_38 rfl (lv_at hl 0 rfl) ?_
        refine lv_dup hx hb dX7_records_39 rfl ?_
        refine va_get (D := D) (ci := 7) (v := .int v.2.2.2.2.1) (C := RX7) (T := TX7) (N := 18) hx hb hts inA_X7 hown hK hP 0 rfl rfl 4 (by decide) (hts _ kF_X7_46) (fun _ h9 => h9) rfl dX7_records_40 ?_
        refine lv_iconst (v := (1 : Int32)) hx hb dX7_records_43 (by decide) ?_
        refine lv_isub hx hb dX7_records_44 ?_
        refine va_put (D := D) (ci := 7) (v := .int (v.2.2.2.2.1 - (1 : Int32))) (ty := .int) (C := RX7) (T := TX7) (N := 18) hx hb hts inA_X7 tyX7 tyX7_ok nmX7 hown hK hP hD hS 0 rfl rfl 4 (by decide) (hts _ kF_X7_46) (fun _ h9 => h9) rfl (tyX7_ok 4 (by decide)) rfl rfl (Nat.le_of_ble_eq_true rfl) dX7_records_45 (fun H locs hP hD hS => ?_)
        have hP : va_P D vwCl [(ad 0, .inr (7, [.int v.1, .ref (ad 1), .ref (ad 2), .ref (ad 3), .int (v.2.2.2.2.1 - (1 : Int32)), .ref (ad 4), .int v.2.2.2.2.2.2.1, .ref (ad 5), .int v.2.2.2.2.2.2.2.2.1, .int v.2.2.2.2.2.2.2.2.2.1, .int v.2.2.2.2.2.2.2.2.2.2.1, .ref (ad 6), .int v.2.2.2.2.2.2.2.2.2.2.2.2.1, .int v.2.2.2.2.2.2.2.2.2.2.2.2.2.1, .int v.2.2.2.2.2.2.2.2.2.2.2.2.2.2.1, .int v.2.2.2.2.2.2.2.2.2.2.2.2.2.2.2.1, .int v.2.2.2.2.2.2.2.2.2.2.2.2.2.2.2.2.1, .int v.2.2.2.2.2.2.2.2.2.2.2.2.2.2.2.2.2])), (ad 1, .inl (cI, 72, .inl v.2.1)), (ad 2, .inl (cI, 72, .inl v.2.2.1)), (ad 3, .inl (cI, 288, .inl v.2.2.2.1)), (ad 4, .inl (cI, 72, .inl v.2.2.2.2.2.1)), (ad 5, .inl (cI, 60, .inl v.2.2.2.2.2.2.2.1)), (ad 6, .inl (cI, 32768, .inl v.2.2.2.2.2.2.2.2.2.2.2.1))] H := hP
        have hD : va_D A [(ad 0, .inr (7, [.int v.1, .ref (ad 1), .ref (ad 2), .ref (ad 3), .int (v.2.2.2.2.1 - (1 : Int32)), .ref (ad 4), .int v.2.2.2.2.2.2.1, .ref (ad 5), .int v.2.2.2.2.2.2.2.2.1, .int v.2.2.2.2.2.2.2.2.2.1, .int v.2.2.2.2.2.2.2.2.2.2.1, .ref (ad 6), .int v.2.2.2.2.2.2.2.2.2.2.2.2.1, .int v.2.2.2.2.2.2.2.2.2.2.2.2.2.1, .int v.2.2.2.2.2.2.2.2.2.2.2.2.2.2.1, .int v.2.2.2.2.2.2.2.2.2.2.2.2.2.2.2.1, .int v.2.2.2.2.2.2.2.2.2.2.2.2.2.2.2.2.1, .int v.2.2.2.2.2.2.2.2.2.2.2.2.2.2.2.2.2])), (ad 1, .inl (cI, 72, .inl v.2.1)), (ad 2, .inl (cI, 72, .inl v.2.2.1)), (ad 3, .inl (cI, 288, .inl v.2.2.2.1)), (ad 4, .inl (cI, 72, .inl v.2.2.2.2.2.1)), (ad 5, .inl (cI, 60, .inl v.2.2.2.2.2.2.2.1)), (ad 6, .inl (cI, 32768, .inl v.2.2.2.2.2.2.2.2.2.2.2.1))] := hD
        exact J48 (v.1, v.2.1, v.2.2.1, v.2.2.2.1, (v.2.2.2.2.1 - (1 : Int32)), v.2.2.2.2.2.1, v.2.2.2.2.2.2.1, v.2.2.2.2.2.2.2.1, v.2.2.2.2.2.2.2.2.1, v.2.2.2.2.2.2.2.2.2.1, v.2.2.2.2.2.2.2.2.2.2.1, v.2.2.2.2.2.2.2.2.2.2.2.1, v.2.2.2.2.2.2.2.2.2.2.2.2.1, v.2.2.2.2.2.2.2.2.2.2.2.2.2.1, v.2.2.2.2.2.2.2.2.2.2.2.2.2.2.1, v.2.2.2.2.2.2.2.2.2.2.2.2.2.2.2.1, v.2.2.2.2.2.2.2.2.2.2.2.2.2.2.2.2.1, v.2.2.2.2.2.2.2.2.2.2.2.2.2.2.2.2.2) _ _ ls hP hD hS (lv_sub hl [0] rfl) hf
      · replace hf := gF hf c1
        refine lv_aload_n hx hb dX7_records_17 rfl (lv_at hl 0 rfl) ?_
        refine va_get (D := D) (ci := 7) (v := .ref (ad 3)) (C := RX7) (T := TX7) (N := 18) hx hb hts inA_X7 hown hK hP 0 rfl rfl 3 (by decide) (hts _ kF_X7_16) (fun _ h9 => h9) rfl dX7_records_18 ?_
        refine lv_iload_n hx hb dX7_records_21 rfl (lv_at hl 1 rfl) ?_
        refine lv_aload_n hx hb dX7_records_22 rfl (lv_at hl 0 rfl) ?_
        refine va_get (D := D) (ci := 7) (v := .ref (ad 3)) (C := RX7) (T := TX7) (N := 18) hx hb hts inA_X7 hown hK hP 0 rfl rfl 3 (by decide) (hts _ kF_X7_16) (fun _ h9 => h9) rfl dX7_records_23 ?_
        refine lv_iload_n hx hb dX7_records_26 rfl (lv_at hl 1 rfl) ?_
        refine lv_bipush (v := (72 : Int32)) hx hb dX7_records_27 (by decide) ?_
        refine lv_iadd hx hb dX7_records_29 ?_
        obtain ⟨g0, hf⟩ := gd hf
        refine va_iald hx hb hK hP 3 0 rfl rfl (ig_in g0) dX7_records_30 ?_
        obtain ⟨g0, hf⟩ := gd hf
        refine va_iast hx hb hK hP hD hS 3 0 rfl rfl (ig_in g0) dX7_records_31 (fun H locs hP hD hS => ?_)
        have hP : va_P D vwCl [(ad 0, .inr (7, [.int v.1, .ref (ad 1), .ref (ad 2), .ref (ad 3), .int v.2.2.2.2.1, .ref (ad 4), .int v.2.2.2.2.2.2.1, .ref (ad 5), .int v.2.2.2.2.2.2.2.2.1, .int v.2.2.2.2.2.2.2.2.2.1, .int v.2.2.2.2.2.2.2.2.2.2.1, .ref (ad 6), .int v.2.2.2.2.2.2.2.2.2.2.2.2.1, .int v.2.2.2.2.2.2.2.2.2.2.2.2.2.1, .int v.2.2.2.2.2.2.2.2.2.2.2.2.2.2.1, .int v.2.2.2.2.2.2.2.2.2.2.2.2.2.2.2.1, .int v.2.2.2.2.2.2.2.2.2.2.2.2.2.2.2.2.1, .int v.2.2.2.2.2.2.2.2.2.2.2.2.2.2.2.2.2])), (ad 1, .inl (cI, 72, .inl v.2.1)), (ad 2, .inl (cI, 72, .inl v.2.2.1)), (ad 3, .inl (cI, 288, .inl (upd v.2.2.2.1 l1.toNatClampNeg (v.2.2.2.1 (l1 + (72 : Int32)).toNatClampNeg)))), (ad 4, .inl (cI, 72, .inl v.2.2.2.2.2.1)), (ad 5, .inl (cI, 60, .inl v.2.2.2.2.2.2.2.1)), (ad 6, .inl (cI, 32768, .inl v.2.2.2.2.2.2.2.2.2.2.2.1))] H := hP
        have hD : va_D A [(ad 0, .inr (7, [.int v.1, .ref (ad 1), .ref (ad 2), .ref (ad 3), .int v.2.2.2.2.1, .ref (ad 4), .int v.2.2.2.2.2.2.1, .ref (ad 5), .int v.2.2.2.2.2.2.2.2.1, .int v.2.2.2.2.2.2.2.2.2.1, .int v.2.2.2.2.2.2.2.2.2.2.1, .ref (ad 6), .int v.2.2.2.2.2.2.2.2.2.2.2.2.1, .int v.2.2.2.2.2.2.2.2.2.2.2.2.2.1, .int v.2.2.2.2.2.2.2.2.2.2.2.2.2.2.1, .int v.2.2.2.2.2.2.2.2.2.2.2.2.2.2.2.1, .int v.2.2.2.2.2.2.2.2.2.2.2.2.2.2.2.2.1, .int v.2.2.2.2.2.2.2.2.2.2.2.2.2.2.2.2.2])), (ad 1, .inl (cI, 72, .inl v.2.1)), (ad 2, .inl (cI, 72, .inl v.2.2.1)), (ad 3, .inl (cI, 288, .inl (upd v.2.2.2.1 l1.toNatClampNeg (v.2.2.2.1 (l1 + (72 : Int32)).toNatClampNeg)))), (ad 4, .inl (cI, 72, .inl v.2.2.2.2.2.1)), (ad 5, .inl (cI, 60, .inl v.2.2.2.2.2.2.2.1)), (ad 6, .inl (cI, 32768, .inl v.2.2.2.2.2.2.2.2.2.2.2.1))] := hD
        refine lv_iinc (v := (l1 + (1 : Int32))) (lv' := [(1, .int (l1 + (1 : Int32))), (0, .ref (ad 0))]) hx hb dX7_records_32 hl (k := 1) rfl rfl (by decide) rfl (fun ls hl => ?_)
        refine lv_goto (tgt := 10) hx hb dX7_records_35 (by decide) ?_
        exact ih_L10 (l1 + (1 : Int32)) (v.1, v.2.1, v.2.2.1, (upd v.2.2.2.1 l1.toNatClampNeg (v.2.2.2.1 (l1 + (72 : Int32)).toNatClampNeg)), v.2.2.2.2.1, v.2.2.2.2.2.1, v.2.2.2.2.2.2.1, v.2.2.2.2.2.2.2.1, v.2.2.2.2.2.2.2.2.1, v.2.2.2.2.2.2.2.2.2.1, v.2.2.2.2.2.2.2.2.2.2.1, v.2.2.2.2.2.2.2.2.2.2.2.1, v.2.2.2.2.2.2.2.2.2.2.2.2.1, v.2.2.2.2.2.2.2.2.2.2.2.2.2.1, v.2.2.2.2.2.2.2.2.2.2.2.2.2.2.1, v.2.2.2.2.2.2.2.2.2.2.2.2.2.2.2.1, v.2.2.2.2.2.2.2.2.2.2.2.2.2.2.2.2.1, v.2.2.2.2.2.2.2.2.2.2.2.2.2.2.2.2.2) _ _ ls hP hD hS (lv_sub hl [1, 0] rfl) hf
  unfold f_X7_records at hf
  refine lv_aload_n hx hb dX7_records_0 rfl (lv_at hl 0 rfl) ?_
  refine va_get (D := D) (ci := 7) (v := .int v.2.2.2.2.1) (C := RX7) (T := TX7) (N := 18) hx hb hts inA_X7 hown hK hP 0 rfl rfl 4 (by decide) (hts _ kF_X7_46) (fun _ h9 => h9) rfl dX7_records_1 ?_
  refine lv_iconst (v := (4 : Int32)) hx hb dX7_records_4 (by decide) ?_
  refine lv_icmp_ne (tgt := 48) hx hb dX7_records_5 (by decide) (fun c2 => ?_) (fun c2 => ?_)
  · replace hf := gF hf c2
    exact J48 v _ _ ls hP hD hS (lv_sub hl [0] rfl) hf
  · replace hf := gT hf c2
    refine lv_iconst (v := (0 : Int32)) hx hb dX7_records_8 (by decide) ?_
    refine lv_istore_n (lv' := [(1, .int (0 : Int32)), (0, .ref (ad 0))]) hx hb dX7_records_9 rfl hl (by decide) rfl (fun ls hl => ?_)
    exact L10 gas (0 : Int32) v _ _ ls hP hD hS (lv_sub hl [1, 0] rfl) hf
def f_X7_begins_L3 : Nat → Int32 → tX7 → Option tX7
  | 0, _, _ => none
  | nL3 + 1, l1, v =>
    (if (72 : Int32) ≤ l1 then (f_X7_lay v (0 : Int32) (1 : Int32) (1 : Int32)).bind fun x0 => (f_X7_lay x0 (1 : Int32) (1 : Int32) (1 : Int32)).bind fun x1 => some (x1.1, (upd (upd (upd (upd x1.2.1 17 (0 : Int32)) 18 (0 : Int32)) 22 (-4 : Int32)) 19 (((upd (upd (upd x1.2.1 17 (0 : Int32)) 18 (0 : Int32)) 22 (-4 : Int32)) 19) + (1 : Int32))), x1.2.2.1, x1.2.2.2.1, x1.2.2.2.2.1, x1.2.2.2.2.2.1, x1.2.2.2.2.2.2.1, x1.2.2.2.2.2.2.2.1, x1.2.2.2.2.2.2.2.2.1, x1.2.2.2.2.2.2.2.2.2.1, x1.2.2.2.2.2.2.2.2.2.2.1, x1.2.2.2.2.2.2.2.2.2.2.2.1, x1.2.2.2.2.2.2.2.2.2.2.2.2.1, x1.2.2.2.2.2.2.2.2.2.2.2.2.2.1, x1.2.2.2.2.2.2.2.2.2.2.2.2.2.2.1, x1.2.2.2.2.2.2.2.2.2.2.2.2.2.2.2.1, x1.2.2.2.2.2.2.2.2.2.2.2.2.2.2.2.2.1, x1.2.2.2.2.2.2.2.2.2.2.2.2.2.2.2.2.2) else (if ig l1 72 = true then f_X7_begins_L3 nL3 (l1 + (1 : Int32)) (v.1, (upd v.2.1 l1.toNatClampNeg (0 : Int32)), v.2.2.1, v.2.2.2.1, v.2.2.2.2.1, v.2.2.2.2.2.1, v.2.2.2.2.2.2.1, v.2.2.2.2.2.2.2.1, v.2.2.2.2.2.2.2.2.1, v.2.2.2.2.2.2.2.2.2.1, v.2.2.2.2.2.2.2.2.2.2.1, v.2.2.2.2.2.2.2.2.2.2.2.1, v.2.2.2.2.2.2.2.2.2.2.2.2.1, v.2.2.2.2.2.2.2.2.2.2.2.2.2.1, v.2.2.2.2.2.2.2.2.2.2.2.2.2.2.1, v.2.2.2.2.2.2.2.2.2.2.2.2.2.2.2.1, v.2.2.2.2.2.2.2.2.2.2.2.2.2.2.2.2.1, v.2.2.2.2.2.2.2.2.2.2.2.2.2.2.2.2.2) else none))
def f_X7_begins (v : tX7) : Option tX7 :=
  f_X7_begins_L3 gas (23 : Int32) v
abbrev rm_X7_begins : Room := { frames := 1, cells := 0, slots := 0, locals := 23 }
set_option maxHeartbeats 4000000 in
set_option maxRecDepth 100000 in
theorem c_X7_begins (l : Launch) (D : va_G) (cI cR : ClassId) (ad : Nat → Nat) (v : tX7) (sz : Nat) (r : tX7) (hf : f_X7_begins v = some r) : Met l yX7_begins (wM yX7_begins cX7_begins 2 none) rm_X7_begins (cPre D (tysA cI cR) ([.ref (ad 0)] : List Value) (oX7 cI cR ad v) sz) (qV D (oX7 cI cR ad r) (va_A (oX7 cI cR ad v) sz)) 0 0 (va_A (oX7 cI cR ad v) sz) := by
  refine en_M (own := RX7) (lv := [(0, .ref (ad 0))]) (by decide +kernel) rfl (Nat.le_of_ble_eq_true rfl) rfl (fun p e s m below meth c hx hb hr hlk hml hown hnm hts hsz hP hK hD hN ls hl => ?_)
  subst hsz
  generalize hAe : va_A (oX7 cI cR ad v) s.heap.size = A at hD ⊢
  have hA : ∀ q : Nat, s.heap.size ≤ q → A q := fun q h => by rw [← hAe]; exact Or.inr h
  have hS : va_S A s.heap s.heap [] := va_S.rf
  have hP : va_P D vwCl [(ad 0, .inr (7, [.int v.1, .ref (ad 1), .ref (ad 2), .ref (ad 3), .int v.2.2.2.2.1, .ref (ad 4), .int v.2.2.2.2.2.2.1, .ref (ad 5), .int v.2.2.2.2.2.2.2.2.1, .int v.2.2.2.2.2.2.2.2.2.1, .int v.2.2.2.2.2.2.2.2.2.2.1, .ref (ad 6), .int v.2.2.2.2.2.2.2.2.2.2.2.2.1, .int v.2.2.2.2.2.2.2.2.2.2.2.2.2.1, .int v.2.2.2.2.2.2.2.2.2.2.2.2.2.2.1, .int v.2.2.2.2.2.2.2.2.2.2.2.2.2.2.2.1, .int v.2.2.2.2.2.2.2.2.2.2.2.2.2.2.2.2.1, .int v.2.2.2.2.2.2.2.2.2.2.2.2.2.2.2.2.2])), (ad 1, .inl (cI, 72, .inl v.2.1)), (ad 2, .inl (cI, 72, .inl v.2.2.1)), (ad 3, .inl (cI, 288, .inl v.2.2.2.1)), (ad 4, .inl (cI, 72, .inl v.2.2.2.2.2.1)), (ad 5, .inl (cI, 60, .inl v.2.2.2.2.2.2.2.1)), (ad 6, .inl (cI, 32768, .inl v.2.2.2.2.2.2.2.2.2.2.2.1))] s.heap := hP
  have hD : va_D A [(ad 0, .inr (7, [.int v.1, .ref (ad 1), .ref (ad 2), .ref (ad 3), .int v.2.2.2.2.1, .ref (ad 4), .int v.2.2.2.2.2.2.1, .ref (ad 5), .int v.2.2.2.2.2.2.2.2.1, .int v.2.2.2.2.2.2.2.2.2.1, .int v.2.2.2.2.2.2.2.2.2.2.1, .ref (ad 6), .int v.2.2.2.2.2.2.2.2.2.2.2.2.1, .int v.2.2.2.2.2.2.2.2.2.2.2.2.2.1, .int v.2.2.2.2.2.2.2.2.2.2.2.2.2.2.1, .int v.2.2.2.2.2.2.2.2.2.2.2.2.2.2.2.1, .int v.2.2.2.2.2.2.2.2.2.2.2.2.2.2.2.2.1, .int v.2.2.2.2.2.2.2.2.2.2.2.2.2.2.2.2.2])), (ad 1, .inl (cI, 72, .inl v.2.1)), (ad 2, .inl (cI, 72, .inl v.2.2.1)), (ad 3, .inl (cI, 288, .inl v.2.2.2.1)), (ad 4, .inl (cI, 72, .inl v.2.2.2.2.2.1)), (ad 5, .inl (cI, 60, .inl v.2.2.2.2.2.2.2.1)), (ad 6, .inl (cI, 32768, .inl v.2.2.2.2.2.2.2.2.2.2.2.1))] := hD
  have L3 : ∀ (nL3 : Nat) (l1 : Int32) (v : tX7) (H : Heap) (locs : List Loc) (ls : Array Slot), va_P D vwCl [(ad 0, .inr (7, [.int v.1, .ref (ad 1), .ref (ad 2), .ref (ad 3), .int v.2.2.2.2.1, .ref (ad 4), .int v.2.2.2.2.2.2.1, .ref (ad 5), .int v.2.2.2.2.2.2.2.2.1, .int v.2.2.2.2.2.2.2.2.2.1, .int v.2.2.2.2.2.2.2.2.2.2.1, .ref (ad 6), .int v.2.2.2.2.2.2.2.2.2.2.2.2.1, .int v.2.2.2.2.2.2.2.2.2.2.2.2.2.1, .int v.2.2.2.2.2.2.2.2.2.2.2.2.2.2.1, .int v.2.2.2.2.2.2.2.2.2.2.2.2.2.2.2.1, .int v.2.2.2.2.2.2.2.2.2.2.2.2.2.2.2.2.1, .int v.2.2.2.2.2.2.2.2.2.2.2.2.2.2.2.2.2])), (ad 1, .inl (cI, 72, .inl v.2.1)), (ad 2, .inl (cI, 72, .inl v.2.2.1)), (ad 3, .inl (cI, 288, .inl v.2.2.2.1)), (ad 4, .inl (cI, 72, .inl v.2.2.2.2.2.1)), (ad 5, .inl (cI, 60, .inl v.2.2.2.2.2.2.2.1)), (ad 6, .inl (cI, 32768, .inl v.2.2.2.2.2.2.2.2.2.2.2.1))] H → va_D A [(ad 0, .inr (7, [.int v.1, .ref (ad 1), .ref (ad 2), .ref (ad 3), .int v.2.2.2.2.1, .ref (ad 4), .int v.2.2.2.2.2.2.1, .ref (ad 5), .int v.2.2.2.2.2.2.2.2.1, .int v.2.2.2.2.2.2.2.2.2.1, .int v.2.2.2.2.2.2.2.2.2.2.1, .ref (ad 6), .int v.2.2.2.2.2.2.2.2.2.2.2.2.1, .int v.2.2.2.2.2.2.2.2.2.2.2.2.2.1, .int v.2.2.2.2.2.2.2.2.2.2.2.2.2.2.1, .int v.2.2.2.2.2.2.2.2.2.2.2.2.2.2.2.1, .int v.2.2.2.2.2.2.2.2.2.2.2.2.2.2.2.2.1, .int v.2.2.2.2.2.2.2.2.2.2.2.2.2.2.2.2.2])), (ad 1, .inl (cI, 72, .inl v.2.1)), (ad 2, .inl (cI, 72, .inl v.2.2.1)), (ad 3, .inl (cI, 288, .inl v.2.2.2.1)), (ad 4, .inl (cI, 72, .inl v.2.2.2.2.2.1)), (ad 5, .inl (cI, 60, .inl v.2.2.2.2.2.2.2.1)), (ad 6, .inl (cI, 32768, .inl v.2.2.2.2.2.2.2.2.2.2.2.1))] → va_S A s.heap H locs → lv_has ls 2 [(0, .ref (ad 0)), (1, .int l1)] → f_X7_begins_L3 nL3 l1 v = some r → W p l e rm_X7_begins s m ([.ref (ad 0)] : List Value).toArray below meth c H locs 0 0 (MQ below (qV D (oX7 cI cR ad r) A) ([.ref (ad 0)] : List Value).toArray s 0 0 A) (F0 m 3 ls []) := by
    intro nL3
    induction nL3 with
    | zero =>
      intro l1 v H locs ls hP hD hS hl hf
      cases hf
    | succ nL3 ih_L3 =>
      intro l1 v H locs ls hP hD hS hl hf
      rw [f_X7_begins_L3] at hf
      refine lv_iload_n hx hb dX7_begins_3 rfl (lv_at hl 1 rfl) ?_
      refine lv_bipush (v := (72 : Int32)) hx hb dX7_begins_4 (by decide) ?_
      refine lv_icmp_ge (tgt := 22) hx hb dX7_begins_6 (by decide) (fun c0 => ?_) (fun c0 => ?_)
      · replace hf := gT hf c0
        refine lv_aload_n hx hb dX7_begins_22 rfl (lv_at hl 0 rfl) ?_
        refine lv_iconst (v := (0 : Int32)) hx hb dX7_begins_23 (by decide) ?_
        refine lv_iconst (v := (1 : Int32)) hx hb dX7_begins_24 (by decide) ?_
        refine lv_iconst (v := (1 : Int32)) hx hb dX7_begins_25 (by decide) ?_
        obtain ⟨x0, hcx0, hf⟩ := gB hf
        refine j_v (wr := []) (w_V (As := [.int (0 : Int32), .int (1 : Int32), .int (1 : Int32)]) (rest := []) (n := 3) ⟨hx, hb, hml, hown, hts⟩ (c_X7_lay l D cI cR ad v (0 : Int32) (1 : Int32) (1 : Int32) _ x0 hcx0) kM_X7_42 kN_X7_lay kV_X7_lay kZ_X7 kK_X7_lay ⟨rfl, rfl⟩ ⟨(Nat.le_of_ble_eq_true rfl), (Nat.le_of_ble_eq_true rfl)⟩ pd_X7_lay rfl hK hN hP hD [0, 1, 2, 3, 4, 5, 6] rfl rfl 0 7 rfl rfl rfl hl.1 (Nat.le_of_ble_eq_true rfl) dX7_begins_26 ⟨(Nat.le_of_ble_eq_true rfl), (Nat.le_of_ble_eq_true rfl)⟩) hP hD hS hA [0, 1, 2, 3, 4, 5, 6] [] rfl rfl rfl (by decide) (fun H locs hP hD hS => ?_)
        have hP : va_P D vwCl [(ad 0, .inr (7, [.int x0.1, .ref (ad 1), .ref (ad 2), .ref (ad 3), .int x0.2.2.2.2.1, .ref (ad 4), .int x0.2.2.2.2.2.2.1, .ref (ad 5), .int x0.2.2.2.2.2.2.2.2.1, .int x0.2.2.2.2.2.2.2.2.2.1, .int x0.2.2.2.2.2.2.2.2.2.2.1, .ref (ad 6), .int x0.2.2.2.2.2.2.2.2.2.2.2.2.1, .int x0.2.2.2.2.2.2.2.2.2.2.2.2.2.1, .int x0.2.2.2.2.2.2.2.2.2.2.2.2.2.2.1, .int x0.2.2.2.2.2.2.2.2.2.2.2.2.2.2.2.1, .int x0.2.2.2.2.2.2.2.2.2.2.2.2.2.2.2.2.1, .int x0.2.2.2.2.2.2.2.2.2.2.2.2.2.2.2.2.2])), (ad 1, .inl (cI, 72, .inl x0.2.1)), (ad 2, .inl (cI, 72, .inl x0.2.2.1)), (ad 3, .inl (cI, 288, .inl x0.2.2.2.1)), (ad 4, .inl (cI, 72, .inl x0.2.2.2.2.2.1)), (ad 5, .inl (cI, 60, .inl x0.2.2.2.2.2.2.2.1)), (ad 6, .inl (cI, 32768, .inl x0.2.2.2.2.2.2.2.2.2.2.2.1))] H := hP
        have hD : va_D A [(ad 0, .inr (7, [.int x0.1, .ref (ad 1), .ref (ad 2), .ref (ad 3), .int x0.2.2.2.2.1, .ref (ad 4), .int x0.2.2.2.2.2.2.1, .ref (ad 5), .int x0.2.2.2.2.2.2.2.2.1, .int x0.2.2.2.2.2.2.2.2.2.1, .int x0.2.2.2.2.2.2.2.2.2.2.1, .ref (ad 6), .int x0.2.2.2.2.2.2.2.2.2.2.2.2.1, .int x0.2.2.2.2.2.2.2.2.2.2.2.2.2.1, .int x0.2.2.2.2.2.2.2.2.2.2.2.2.2.2.1, .int x0.2.2.2.2.2.2.2.2.2.2.2.2.2.2.2.1, .int x0.2.2.2.2.2.2.2.2.2.2.2.2.2.2.2.2.1, .int x0.2.2.2.2.2.2.2.2.2.2.2.2.2.2.2.2.2])), (ad 1, .inl (cI, 72, .inl x0.2.1)), (ad 2, .inl (cI, 72, .inl x0.2.2.1)), (ad 3, .inl (cI, 288, .inl x0.2.2.2.1)), (ad 4, .inl (cI, 72, .inl x0.2.2.2.2.2.1)), (ad 5, .inl (cI, 60, .inl x0.2.2.2.2.2.2.2.1)), (ad 6, .inl (cI, 32768, .inl x0.2.2.2.2.2.2.2.2.2.2.2.1))] := hD
        refine lv_aload_n hx hb dX7_begins_29 rfl (lv_at hl 0 rfl) ?_
        refine lv_iconst (v := (1 : Int32)) hx hb dX7_begins_30 (by decide) ?_
        refine lv_iconst (v := (1 : Int32)) hx hb dX7_begins_31 (by decide) ?_
        refine lv_iconst (v := (1 : Int32)) hx hb dX7_begins_32 (by decide) ?_
        obtain ⟨x1, hcx1, hf⟩ := gB hf
        refine j_v (wr := []) (w_V (As := [.int (1 : Int32), .int (1 : Int32), .int (1 : Int32)]) (rest := []) (n := 3) ⟨hx, hb, hml, hown, hts⟩ (c_X7_lay l D cI cR ad x0 (1 : Int32) (1 : Int32) (1 : Int32) _ x1 hcx1) kM_X7_42 kN_X7_lay kV_X7_lay kZ_X7 kK_X7_lay ⟨rfl, rfl⟩ ⟨(Nat.le_of_ble_eq_true rfl), (Nat.le_of_ble_eq_true rfl)⟩ pd_X7_lay rfl hK hN hP hD [0, 1, 2, 3, 4, 5, 6] rfl rfl 0 7 rfl rfl rfl hl.1 (Nat.le_of_ble_eq_true rfl) dX7_begins_33 ⟨(Nat.le_of_ble_eq_true rfl), (Nat.le_of_ble_eq_true rfl)⟩) hP hD hS hA [0, 1, 2, 3, 4, 5, 6] [] rfl rfl rfl (by decide) (fun H locs hP hD hS => ?_)
        have hP : va_P D vwCl [(ad 0, .inr (7, [.int x1.1, .ref (ad 1), .ref (ad 2), .ref (ad 3), .int x1.2.2.2.2.1, .ref (ad 4), .int x1.2.2.2.2.2.2.1, .ref (ad 5), .int x1.2.2.2.2.2.2.2.2.1, .int x1.2.2.2.2.2.2.2.2.2.1, .int x1.2.2.2.2.2.2.2.2.2.2.1, .ref (ad 6), .int x1.2.2.2.2.2.2.2.2.2.2.2.2.1, .int x1.2.2.2.2.2.2.2.2.2.2.2.2.2.1, .int x1.2.2.2.2.2.2.2.2.2.2.2.2.2.2.1, .int x1.2.2.2.2.2.2.2.2.2.2.2.2.2.2.2.1, .int x1.2.2.2.2.2.2.2.2.2.2.2.2.2.2.2.2.1, .int x1.2.2.2.2.2.2.2.2.2.2.2.2.2.2.2.2.2])), (ad 1, .inl (cI, 72, .inl x1.2.1)), (ad 2, .inl (cI, 72, .inl x1.2.2.1)), (ad 3, .inl (cI, 288, .inl x1.2.2.2.1)), (ad 4, .inl (cI, 72, .inl x1.2.2.2.2.2.1)), (ad 5, .inl (cI, 60, .inl x1.2.2.2.2.2.2.2.1)), (ad 6, .inl (cI, 32768, .inl x1.2.2.2.2.2.2.2.2.2.2.2.1))] H := hP
        have hD : va_D A [(ad 0, .inr (7, [.int x1.1, .ref (ad 1), .ref (ad 2), .ref (ad 3), .int x1.2.2.2.2.1, .ref (ad 4), .int x1.2.2.2.2.2.2.1, .ref (ad 5), .int x1.2.2.2.2.2.2.2.2.1, .int x1.2.2.2.2.2.2.2.2.2.1, .int x1.2.2.2.2.2.2.2.2.2.2.1, .ref (ad 6), .int x1.2.2.2.2.2.2.2.2.2.2.2.2.1, .int x1.2.2.2.2.2.2.2.2.2.2.2.2.2.1, .int x1.2.2.2.2.2.2.2.2.2.2.2.2.2.2.1, .int x1.2.2.2.2.2.2.2.2.2.2.2.2.2.2.2.1, .int x1.2.2.2.2.2.2.2.2.2.2.2.2.2.2.2.2.1, .int x1.2.2.2.2.2.2.2.2.2.2.2.2.2.2.2.2.2])), (ad 1, .inl (cI, 72, .inl x1.2.1)), (ad 2, .inl (cI, 72, .inl x1.2.2.1)), (ad 3, .inl (cI, 288, .inl x1.2.2.2.1)), (ad 4, .inl (cI, 72, .inl x1.2.2.2.2.2.1)), (ad 5, .inl (cI, 60, .inl x1.2.2.2.2.2.2.2.1)), (ad 6, .inl (cI, 32768, .inl x1.2.2.2.2.2.2.2.2.2.2.2.1))] := hD
        refine lv_aload_n hx hb dX7_begins_36 rfl (lv_at hl 0 rfl) ?_
        refine va_get (D := D) (ci := 7) (v := .ref (ad 1)) (C := RX7) (T := TX7) (N := 18) hx hb hts inA_X7 hown hK hP 0 rfl rfl 1 (by decide) (hts _ kF_X7_7) (fun _ h9 => h9) rfl dX7_begins_37 ?_
        refine lv_bipush (v := (17 : Int32)) hx hb dX7_begins_40 (by decide) ?_
        refine lv_iconst (v := (0 : Int32)) hx hb dX7_begins_42 (by decide) ?_
        refine va_iast hx hb hK hP hD hS 1 0 rfl rfl (ig_in (by decide)) dX7_begins_43 (fun H locs hP hD hS => ?_)
        have hP : va_P D vwCl [(ad 0, .inr (7, [.int x1.1, .ref (ad 1), .ref (ad 2), .ref (ad 3), .int x1.2.2.2.2.1, .ref (ad 4), .int x1.2.2.2.2.2.2.1, .ref (ad 5), .int x1.2.2.2.2.2.2.2.2.1, .int x1.2.2.2.2.2.2.2.2.2.1, .int x1.2.2.2.2.2.2.2.2.2.2.1, .ref (ad 6), .int x1.2.2.2.2.2.2.2.2.2.2.2.2.1, .int x1.2.2.2.2.2.2.2.2.2.2.2.2.2.1, .int x1.2.2.2.2.2.2.2.2.2.2.2.2.2.2.1, .int x1.2.2.2.2.2.2.2.2.2.2.2.2.2.2.2.1, .int x1.2.2.2.2.2.2.2.2.2.2.2.2.2.2.2.2.1, .int x1.2.2.2.2.2.2.2.2.2.2.2.2.2.2.2.2.2])), (ad 1, .inl (cI, 72, .inl (upd x1.2.1 17 (0 : Int32)))), (ad 2, .inl (cI, 72, .inl x1.2.2.1)), (ad 3, .inl (cI, 288, .inl x1.2.2.2.1)), (ad 4, .inl (cI, 72, .inl x1.2.2.2.2.2.1)), (ad 5, .inl (cI, 60, .inl x1.2.2.2.2.2.2.2.1)), (ad 6, .inl (cI, 32768, .inl x1.2.2.2.2.2.2.2.2.2.2.2.1))] H := hP
        have hD : va_D A [(ad 0, .inr (7, [.int x1.1, .ref (ad 1), .ref (ad 2), .ref (ad 3), .int x1.2.2.2.2.1, .ref (ad 4), .int x1.2.2.2.2.2.2.1, .ref (ad 5), .int x1.2.2.2.2.2.2.2.2.1, .int x1.2.2.2.2.2.2.2.2.2.1, .int x1.2.2.2.2.2.2.2.2.2.2.1, .ref (ad 6), .int x1.2.2.2.2.2.2.2.2.2.2.2.2.1, .int x1.2.2.2.2.2.2.2.2.2.2.2.2.2.1, .int x1.2.2.2.2.2.2.2.2.2.2.2.2.2.2.1, .int x1.2.2.2.2.2.2.2.2.2.2.2.2.2.2.2.1, .int x1.2.2.2.2.2.2.2.2.2.2.2.2.2.2.2.2.1, .int x1.2.2.2.2.2.2.2.2.2.2.2.2.2.2.2.2.2])), (ad 1, .inl (cI, 72, .inl (upd x1.2.1 17 (0 : Int32)))), (ad 2, .inl (cI, 72, .inl x1.2.2.1)), (ad 3, .inl (cI, 288, .inl x1.2.2.2.1)), (ad 4, .inl (cI, 72, .inl x1.2.2.2.2.2.1)), (ad 5, .inl (cI, 60, .inl x1.2.2.2.2.2.2.2.1)), (ad 6, .inl (cI, 32768, .inl x1.2.2.2.2.2.2.2.2.2.2.2.1))] := hD
        refine lv_aload_n hx hb dX7_begins_44 rfl (lv_at hl 0 rfl) ?_
        refine va_get (D := D) (ci := 7) (v := .ref (ad 1)) (C := RX7) (T := TX7) (N := 18) hx hb hts inA_X7 hown hK hP 0 rfl rfl 1 (by decide) (hts _ kF_X7_7) (fun _ h9 => h9) rfl dX7_begins_45 ?_
        refine lv_bipush (v := (18 : Int32)) hx hb dX7_begins_48 (by decide) ?_
        refine lv_iconst (v := (0 : Int32)) hx hb dX7_begins_50 (by decide) ?_
        refine va_iast hx hb hK hP hD hS 1 0 rfl rfl (ig_in (by decide)) dX7_begins_51 (fun H locs hP hD hS => ?_)
        have hP : va_P D vwCl [(ad 0, .inr (7, [.int x1.1, .ref (ad 1), .ref (ad 2), .ref (ad 3), .int x1.2.2.2.2.1, .ref (ad 4), .int x1.2.2.2.2.2.2.1, .ref (ad 5), .int x1.2.2.2.2.2.2.2.2.1, .int x1.2.2.2.2.2.2.2.2.2.1, .int x1.2.2.2.2.2.2.2.2.2.2.1, .ref (ad 6), .int x1.2.2.2.2.2.2.2.2.2.2.2.2.1, .int x1.2.2.2.2.2.2.2.2.2.2.2.2.2.1, .int x1.2.2.2.2.2.2.2.2.2.2.2.2.2.2.1, .int x1.2.2.2.2.2.2.2.2.2.2.2.2.2.2.2.1, .int x1.2.2.2.2.2.2.2.2.2.2.2.2.2.2.2.2.1, .int x1.2.2.2.2.2.2.2.2.2.2.2.2.2.2.2.2.2])), (ad 1, .inl (cI, 72, .inl (upd (upd x1.2.1 17 (0 : Int32)) 18 (0 : Int32)))), (ad 2, .inl (cI, 72, .inl x1.2.2.1)), (ad 3, .inl (cI, 288, .inl x1.2.2.2.1)), (ad 4, .inl (cI, 72, .inl x1.2.2.2.2.2.1)), (ad 5, .inl (cI, 60, .inl x1.2.2.2.2.2.2.2.1)), (ad 6, .inl (cI, 32768, .inl x1.2.2.2.2.2.2.2.2.2.2.2.1))] H := hP
        have hD : va_D A [(ad 0, .inr (7, [.int x1.1, .ref (ad 1), .ref (ad 2), .ref (ad 3), .int x1.2.2.2.2.1, .ref (ad 4), .int x1.2.2.2.2.2.2.1, .ref (ad 5), .int x1.2.2.2.2.2.2.2.2.1, .int x1.2.2.2.2.2.2.2.2.2.1, .int x1.2.2.2.2.2.2.2.2.2.2.1, .ref (ad 6), .int x1.2.2.2.2.2.2.2.2.2.2.2.2.1, .int x1.2.2.2.2.2.2.2.2.2.2.2.2.2.1, .int x1.2.2.2.2.2.2.2.2.2.2.2.2.2.2.1, .int x1.2.2.2.2.2.2.2.2.2.2.2.2.2.2.2.1, .int x1.2.2.2.2.2.2.2.2.2.2.2.2.2.2.2.2.1, .int x1.2.2.2.2.2.2.2.2.2.2.2.2.2.2.2.2.2])), (ad 1, .inl (cI, 72, .inl (upd (upd x1.2.1 17 (0 : Int32)) 18 (0 : Int32)))), (ad 2, .inl (cI, 72, .inl x1.2.2.1)), (ad 3, .inl (cI, 288, .inl x1.2.2.2.1)), (ad 4, .inl (cI, 72, .inl x1.2.2.2.2.2.1)), (ad 5, .inl (cI, 60, .inl x1.2.2.2.2.2.2.2.1)), (ad 6, .inl (cI, 32768, .inl x1.2.2.2.2.2.2.2.2.2.2.2.1))] := hD
        refine lv_aload_n hx hb dX7_begins_52 rfl (lv_at hl 0 rfl) ?_
        refine va_get (D := D) (ci := 7) (v := .ref (ad 1)) (C := RX7) (T := TX7) (N := 18) hx hb hts inA_X7 hown hK hP 0 rfl rfl 1 (by decide) (hts _ kF_X7_7) (fun _ h9 => h9) rfl dX7_begins_53 ?_
        refine lv_bipush (v := (22 : Int32)) hx hb dX7_begins_56 (by decide) ?_
        refine lv_bipush (v := (-4 : Int32)) hx hb dX7_begins_58 (by decide) ?_
        refine va_iast hx hb hK hP hD hS 1 0 rfl rfl (ig_in (by decide)) dX7_begins_60 (fun H locs hP hD hS => ?_)
        have hP : va_P D vwCl [(ad 0, .inr (7, [.int x1.1, .ref (ad 1), .ref (ad 2), .ref (ad 3), .int x1.2.2.2.2.1, .ref (ad 4), .int x1.2.2.2.2.2.2.1, .ref (ad 5), .int x1.2.2.2.2.2.2.2.2.1, .int x1.2.2.2.2.2.2.2.2.2.1, .int x1.2.2.2.2.2.2.2.2.2.2.1, .ref (ad 6), .int x1.2.2.2.2.2.2.2.2.2.2.2.2.1, .int x1.2.2.2.2.2.2.2.2.2.2.2.2.2.1, .int x1.2.2.2.2.2.2.2.2.2.2.2.2.2.2.1, .int x1.2.2.2.2.2.2.2.2.2.2.2.2.2.2.2.1, .int x1.2.2.2.2.2.2.2.2.2.2.2.2.2.2.2.2.1, .int x1.2.2.2.2.2.2.2.2.2.2.2.2.2.2.2.2.2])), (ad 1, .inl (cI, 72, .inl (upd (upd (upd x1.2.1 17 (0 : Int32)) 18 (0 : Int32)) 22 (-4 : Int32)))), (ad 2, .inl (cI, 72, .inl x1.2.2.1)), (ad 3, .inl (cI, 288, .inl x1.2.2.2.1)), (ad 4, .inl (cI, 72, .inl x1.2.2.2.2.2.1)), (ad 5, .inl (cI, 60, .inl x1.2.2.2.2.2.2.2.1)), (ad 6, .inl (cI, 32768, .inl x1.2.2.2.2.2.2.2.2.2.2.2.1))] H := hP
        have hD : va_D A [(ad 0, .inr (7, [.int x1.1, .ref (ad 1), .ref (ad 2), .ref (ad 3), .int x1.2.2.2.2.1, .ref (ad 4), .int x1.2.2.2.2.2.2.1, .ref (ad 5), .int x1.2.2.2.2.2.2.2.2.1, .int x1.2.2.2.2.2.2.2.2.2.1, .int x1.2.2.2.2.2.2.2.2.2.2.1, .ref (ad 6), .int x1.2.2.2.2.2.2.2.2.2.2.2.2.1, .int x1.2.2.2.2.2.2.2.2.2.2.2.2.2.1, .int x1.2.2.2.2.2.2.2.2.2.2.2.2.2.2.1, .int x1.2.2.2.2.2.2.2.2.2.2.2.2.2.2.2.1, .int x1.2.2.2.2.2.2.2.2.2.2.2.2.2.2.2.2.1, .int x1.2.2.2.2.2.2.2.2.2.2.2.2.2.2.2.2.2])), (ad 1, .inl (cI, 72, .inl (upd (upd (upd x1.2.1 17 (0 : Int32)) 18 (0 : Int32)) 22 (-4 : Int32)))), (ad 2, .inl (cI, 72, .inl x1.2.2.1)), (ad 3, .inl (cI, 288, .inl x1.2.2.2.1)), (ad 4, .inl (cI, 72, .inl x1.2.2.2.2.2.1)), (ad 5, .inl (cI, 60, .inl x1.2.2.2.2.2.2.2.1)), (ad 6, .inl (cI, 32768, .inl x1.2.2.2.2.2.2.2.2.2.2.2.1))] := hD
        refine lv_aload_n hx hb dX7_begins_61 rfl (lv_at hl 0 rfl) ?_
        refine va_get (D := D) (ci := 7) (v := .ref (ad 1)) (C := RX7) (T := TX7) (N := 18) hx hb hts inA_X7 hown hK hP 0 rfl rfl 1 (by decide) (hts _ kF_X7_7) (fun _ h9 => h9) rfl dX7_begins_62 ?_
        refine lv_bipush (v := (19 : Int32)) hx hb dX7_begins_65 (by decide) ?_
        refine lv_dup2_11 hx hb dX7_begins_67 rfl rfl ?_
        refine va_iald hx hb hK hP 1 0 rfl rfl (ig_in (by decide)) dX7_begins_68 ?_
        refine W.eq (g2 := F0 m 69 ls [.int ((upd (upd (upd x1.2.1 17 (0 : Int32)) 18 (0 : Int32)) 22 (-4 : Int32)) 19), .int (19 : Int32), .ref (ad 1)]) rfl ?_
        refine lv_iconst (v := (1 : Int32)) hx hb dX7_begins_69 (by decide) ?_
        refine lv_iadd hx hb dX7_begins_70 ?_
        refine va_iast hx hb hK hP hD hS 1 0 rfl rfl (ig_in (by decide)) dX7_begins_71 (fun H locs hP hD hS => ?_)
        have hP : va_P D vwCl [(ad 0, .inr (7, [.int x1.1, .ref (ad 1), .ref (ad 2), .ref (ad 3), .int x1.2.2.2.2.1, .ref (ad 4), .int x1.2.2.2.2.2.2.1, .ref (ad 5), .int x1.2.2.2.2.2.2.2.2.1, .int x1.2.2.2.2.2.2.2.2.2.1, .int x1.2.2.2.2.2.2.2.2.2.2.1, .ref (ad 6), .int x1.2.2.2.2.2.2.2.2.2.2.2.2.1, .int x1.2.2.2.2.2.2.2.2.2.2.2.2.2.1, .int x1.2.2.2.2.2.2.2.2.2.2.2.2.2.2.1, .int x1.2.2.2.2.2.2.2.2.2.2.2.2.2.2.2.1, .int x1.2.2.2.2.2.2.2.2.2.2.2.2.2.2.2.2.1, .int x1.2.2.2.2.2.2.2.2.2.2.2.2.2.2.2.2.2])), (ad 1, .inl (cI, 72, .inl (upd (upd (upd (upd x1.2.1 17 (0 : Int32)) 18 (0 : Int32)) 22 (-4 : Int32)) 19 (((upd (upd (upd x1.2.1 17 (0 : Int32)) 18 (0 : Int32)) 22 (-4 : Int32)) 19) + (1 : Int32))))), (ad 2, .inl (cI, 72, .inl x1.2.2.1)), (ad 3, .inl (cI, 288, .inl x1.2.2.2.1)), (ad 4, .inl (cI, 72, .inl x1.2.2.2.2.2.1)), (ad 5, .inl (cI, 60, .inl x1.2.2.2.2.2.2.2.1)), (ad 6, .inl (cI, 32768, .inl x1.2.2.2.2.2.2.2.2.2.2.2.1))] H := hP
        have hD : va_D A [(ad 0, .inr (7, [.int x1.1, .ref (ad 1), .ref (ad 2), .ref (ad 3), .int x1.2.2.2.2.1, .ref (ad 4), .int x1.2.2.2.2.2.2.1, .ref (ad 5), .int x1.2.2.2.2.2.2.2.2.1, .int x1.2.2.2.2.2.2.2.2.2.1, .int x1.2.2.2.2.2.2.2.2.2.2.1, .ref (ad 6), .int x1.2.2.2.2.2.2.2.2.2.2.2.2.1, .int x1.2.2.2.2.2.2.2.2.2.2.2.2.2.1, .int x1.2.2.2.2.2.2.2.2.2.2.2.2.2.2.1, .int x1.2.2.2.2.2.2.2.2.2.2.2.2.2.2.2.1, .int x1.2.2.2.2.2.2.2.2.2.2.2.2.2.2.2.2.1, .int x1.2.2.2.2.2.2.2.2.2.2.2.2.2.2.2.2.2])), (ad 1, .inl (cI, 72, .inl (upd (upd (upd (upd x1.2.1 17 (0 : Int32)) 18 (0 : Int32)) 22 (-4 : Int32)) 19 (((upd (upd (upd x1.2.1 17 (0 : Int32)) 18 (0 : Int32)) 22 (-4 : Int32)) 19) + (1 : Int32))))), (ad 2, .inl (cI, 72, .inl x1.2.2.1)), (ad 3, .inl (cI, 288, .inl x1.2.2.2.1)), (ad 4, .inl (cI, 72, .inl x1.2.2.2.2.2.1)), (ad 5, .inl (cI, 60, .inl x1.2.2.2.2.2.2.2.1)), (ad 6, .inl (cI, 32768, .inl x1.2.2.2.2.2.2.2.2.2.2.2.1))] := hD
        exact z_v hf (fun r => oX7 cI cR ad r) hx hb hr hlk hS hP hD dX7_begins_72
      · replace hf := gF hf c0
        refine lv_aload_n hx hb dX7_begins_9 rfl (lv_at hl 0 rfl) ?_
        refine va_get (D := D) (ci := 7) (v := .ref (ad 1)) (C := RX7) (T := TX7) (N := 18) hx hb hts inA_X7 hown hK hP 0 rfl rfl 1 (by decide) (hts _ kF_X7_7) (fun _ h9 => h9) rfl dX7_begins_10 ?_
        refine lv_iload_n hx hb dX7_begins_13 rfl (lv_at hl 1 rfl) ?_
        refine lv_iconst (v := (0 : Int32)) hx hb dX7_begins_14 (by decide) ?_
        obtain ⟨g0, hf⟩ := gd hf
        refine va_iast hx hb hK hP hD hS 1 0 rfl rfl (ig_in g0) dX7_begins_15 (fun H locs hP hD hS => ?_)
        have hP : va_P D vwCl [(ad 0, .inr (7, [.int v.1, .ref (ad 1), .ref (ad 2), .ref (ad 3), .int v.2.2.2.2.1, .ref (ad 4), .int v.2.2.2.2.2.2.1, .ref (ad 5), .int v.2.2.2.2.2.2.2.2.1, .int v.2.2.2.2.2.2.2.2.2.1, .int v.2.2.2.2.2.2.2.2.2.2.1, .ref (ad 6), .int v.2.2.2.2.2.2.2.2.2.2.2.2.1, .int v.2.2.2.2.2.2.2.2.2.2.2.2.2.1, .int v.2.2.2.2.2.2.2.2.2.2.2.2.2.2.1, .int v.2.2.2.2.2.2.2.2.2.2.2.2.2.2.2.1, .int v.2.2.2.2.2.2.2.2.2.2.2.2.2.2.2.2.1, .int v.2.2.2.2.2.2.2.2.2.2.2.2.2.2.2.2.2])), (ad 1, .inl (cI, 72, .inl (upd v.2.1 l1.toNatClampNeg (0 : Int32)))), (ad 2, .inl (cI, 72, .inl v.2.2.1)), (ad 3, .inl (cI, 288, .inl v.2.2.2.1)), (ad 4, .inl (cI, 72, .inl v.2.2.2.2.2.1)), (ad 5, .inl (cI, 60, .inl v.2.2.2.2.2.2.2.1)), (ad 6, .inl (cI, 32768, .inl v.2.2.2.2.2.2.2.2.2.2.2.1))] H := hP
        have hD : va_D A [(ad 0, .inr (7, [.int v.1, .ref (ad 1), .ref (ad 2), .ref (ad 3), .int v.2.2.2.2.1, .ref (ad 4), .int v.2.2.2.2.2.2.1, .ref (ad 5), .int v.2.2.2.2.2.2.2.2.1, .int v.2.2.2.2.2.2.2.2.2.1, .int v.2.2.2.2.2.2.2.2.2.2.1, .ref (ad 6), .int v.2.2.2.2.2.2.2.2.2.2.2.2.1, .int v.2.2.2.2.2.2.2.2.2.2.2.2.2.1, .int v.2.2.2.2.2.2.2.2.2.2.2.2.2.2.1, .int v.2.2.2.2.2.2.2.2.2.2.2.2.2.2.2.1, .int v.2.2.2.2.2.2.2.2.2.2.2.2.2.2.2.2.1, .int v.2.2.2.2.2.2.2.2.2.2.2.2.2.2.2.2.2])), (ad 1, .inl (cI, 72, .inl (upd v.2.1 l1.toNatClampNeg (0 : Int32)))), (ad 2, .inl (cI, 72, .inl v.2.2.1)), (ad 3, .inl (cI, 288, .inl v.2.2.2.1)), (ad 4, .inl (cI, 72, .inl v.2.2.2.2.2.1)), (ad 5, .inl (cI, 60, .inl v.2.2.2.2.2.2.2.1)), (ad 6, .inl (cI, 32768, .inl v.2.2.2.2.2.2.2.2.2.2.2.1))] := hD
        refine lv_iinc (v := (l1 + (1 : Int32))) (lv' := [(1, .int (l1 + (1 : Int32))), (0, .ref (ad 0))]) hx hb dX7_begins_16 hl (k := 1) rfl rfl (by decide) rfl (fun ls hl => ?_)
        refine lv_goto (tgt := 3) hx hb dX7_begins_19 (by decide) ?_
        exact ih_L3 (l1 + (1 : Int32)) (v.1, (upd v.2.1 l1.toNatClampNeg (0 : Int32)), v.2.2.1, v.2.2.2.1, v.2.2.2.2.1, v.2.2.2.2.2.1, v.2.2.2.2.2.2.1, v.2.2.2.2.2.2.2.1, v.2.2.2.2.2.2.2.2.1, v.2.2.2.2.2.2.2.2.2.1, v.2.2.2.2.2.2.2.2.2.2.1, v.2.2.2.2.2.2.2.2.2.2.2.1, v.2.2.2.2.2.2.2.2.2.2.2.2.1, v.2.2.2.2.2.2.2.2.2.2.2.2.2.1, v.2.2.2.2.2.2.2.2.2.2.2.2.2.2.1, v.2.2.2.2.2.2.2.2.2.2.2.2.2.2.2.1, v.2.2.2.2.2.2.2.2.2.2.2.2.2.2.2.2.1, v.2.2.2.2.2.2.2.2.2.2.2.2.2.2.2.2.2) _ _ ls hP hD hS (lv_sub hl [1, 0] rfl) hf
  unfold f_X7_begins at hf
  refine lv_bipush (v := (23 : Int32)) hx hb dX7_begins_0 (by decide) ?_
  refine lv_istore_n (lv' := [(1, .int (23 : Int32)), (0, .ref (ad 0))]) hx hb dX7_begins_2 rfl hl (by decide) rfl (fun ls hl => ?_)
  exact L3 gas (23 : Int32) v _ _ ls hP hD hS (lv_sub hl [1, 0] rfl) hf

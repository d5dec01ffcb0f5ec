def f_X5_guessAllAfter_J54 (kL2 : Int32 → Int32 → tX5 → Option tX5) (l1 : Int32) (l2 : Int32) (v : tX5) : Option tX5 :=
  kL2 l1 (l2 + (1 : Int32)) v
def f_X5_guessAllAfter_J26 (kL2 : Int32 → Int32 → tX5 → Option tX5) (l1 : Int32) (l2 : Int32) (k0 : Int32) (v : tX5) : Option tX5 :=
  (if k0 = (-1 : Int32) then f_X5_guessAllAfter_J54 kL2 l1 l2 v else (f_X6_at 16384 v.2.2.2.2.1 k0).bind fun x0 => (if x0 = 0 then (f_X6_put 16384 v.2.2.2.2.1 k0 (1000 : Int32)).bind fun x1 => f_X5_guessAllAfter_J54 kL2 l1 l2 (v.1, v.2.1, v.2.2.1, v.2.2.2.1, x1, v.2.2.2.2.2.1, v.2.2.2.2.2.2.1, v.2.2.2.2.2.2.2.1, v.2.2.2.2.2.2.2.2) else f_X5_guessAllAfter_J54 kL2 l1 l2 v))
def f_X5_guessAllAfter_L2 : Nat → Int32 → Int32 → tX5 → Option tX5
  | 0, _, _, _ => none
  | nL2 + 1, l1, l2, v =>
    (if (5 : Int32) < l2 then some v else (f_X5_isPossible v l1 l2).bind fun x2 => (if x2 = 0 then f_X5_guessAllAfter_J26 (f_X5_guessAllAfter_L2 nL2) l1 l2 (-1 : Int32) v else (f_X5_after v l1 l2).bind fun x3 => f_X5_guessAllAfter_J26 (f_X5_guessAllAfter_L2 nL2) l1 l2 x3 v))
def f_X5_guessAllAfter (v : tX5) (p1 : Int32) : Option tX5 :=
  f_X5_guessAllAfter_L2 gas p1 (0 : Int32) v
abbrev rm_X5_guessAllAfter : Room := { frames := 2, cells := 0, slots := 0, locals := 49 }
set_option maxHeartbeats 4000000 in
set_option maxRecDepth 100000 in
theorem c_X5_guessAllAfter (l : Launch) (D : va_G) (cI cR : ClassId) (ad : Nat → Nat) (v : tX5) (p1 : Int32) (sz : Nat) (r : tX5) (hf : f_X5_guessAllAfter v p1 = some r) : Met l yX5_guessAllAfter (wM yX5_guessAllAfter cX5_guessAllAfter 4 none) rm_X5_guessAllAfter (cPre D (tysA cI cR) ([.ref (ad 0), .int p1] : List Value) (oX5 cI cR ad v) sz) (qV D (oX5 cI cR ad r) (va_A (oX5 cI cR ad v) sz)) 0 0 (va_A (oX5 cI cR ad v) sz) := by
  refine en_M (own := RX5) (lv := [(0, .ref (ad 0)), (1, .int p1)]) (by decide +kernel) rfl (Nat.le_of_ble_eq_true rfl) rfl (fun p e s m below meth c hx hb hr hlk hml hown hnm hts hsz hP hK hD hN ls hl => ?_)
  subst hsz
  generalize hAe : va_A (oX5 cI cR ad v) s.heap.size = A at hD ⊢
  have hA : ∀ q : Nat, s.heap.size ≤ q → A q := fun q h => by rw [← hAe]; exact Or.inr h
  have hS : va_S A s.heap s.heap [] := va_S.rf
  have hP : va_P D vwCl [(ad 0, .inr (5, [.ref (ad 1), .ref (ad 3), .ref (ad 4), .ref (ad 5), .ref (ad 6), .ref (ad 7), .int v.2.2.2.2.2.2.1, .int v.2.2.2.2.2.2.2.1, .int v.2.2.2.2.2.2.2.2])), (ad 1, .inr (3, [.ref (ad 2), .int v.1.2])), (ad 2, .inl (cI, 15, .inl v.1.1)), (ad 3, .inl (cI, 1024, .inl v.2.1)), (ad 4, .inl (cI, 64, .inl v.2.2.1)), (ad 5, .inl (cI, 16384, .inl v.2.2.2.1)), (ad 6, .inl (cI, 16384, .inl v.2.2.2.2.1)), (ad 7, .inl (cI, 16384, .inl v.2.2.2.2.2.1))] s.heap := hP
  have hD : va_D A [(ad 0, .inr (5, [.ref (ad 1), .ref (ad 3), .ref (ad 4), .ref (ad 5), .ref (ad 6), .ref (ad 7), .int v.2.2.2.2.2.2.1, .int v.2.2.2.2.2.2.2.1, .int v.2.2.2.2.2.2.2.2])), (ad 1, .inr (3, [.ref (ad 2), .int v.1.2])), (ad 2, .inl (cI, 15, .inl v.1.1)), (ad 3, .inl (cI, 1024, .inl v.2.1)), (ad 4, .inl (cI, 64, .inl v.2.2.1)), (ad 5, .inl (cI, 16384, .inl v.2.2.2.1)), (ad 6, .inl (cI, 16384, .inl v.2.2.2.2.1)), (ad 7, .inl (cI, 16384, .inl v.2.2.2.2.2.1))] := hD
  have L2 : ∀ (nL2 : Nat) (l1 : Int32) (l2 : Int32) (v : tX5) (H : Heap) (locs : List Loc) (ls : Array Slot), va_P D vwCl [(ad 0, .inr (5, [.ref (ad 1), .ref (ad 3), .ref (ad 4), .ref (ad 5), .ref (ad 6), .ref (ad 7), .int v.2.2.2.2.2.2.1, .int v.2.2.2.2.2.2.2.1, .int v.2.2.2.2.2.2.2.2])), (ad 1, .inr (3, [.ref (ad 2), .int v.1.2])), (ad 2, .inl (cI, 15, .inl v.1.1)), (ad 3, .inl (cI, 1024, .inl v.2.1)), (ad 4, .inl (cI, 64, .inl v.2.2.1)), (ad 5, .inl (cI, 16384, .inl v.2.2.2.1)), (ad 6, .inl (cI, 16384, .inl v.2.2.2.2.1)), (ad 7, .inl (cI, 16384, .inl v.2.2.2.2.2.1))] H → va_D A [(ad 0, .inr (5, [.ref (ad 1), .ref (ad 3), .ref (ad 4), .ref (ad 5), .ref (ad 6), .ref (ad 7), .int v.2.2.2.2.2.2.1, .int v.2.2.2.2.2.2.2.1, .int v.2.2.2.2.2.2.2.2])), (ad 1, .inr (3, [.ref (ad 2), .int v.1.2])), (ad 2, .inl (cI, 15, .inl v.1.1)), (ad 3, .inl (cI, 1024, .inl v.2.1)), (ad 4, .inl (cI, 64, .inl v.2.2.1)), (ad 5, .inl (cI, 16384, .inl v.2.2.2.1)), (ad 6, .inl (cI, 16384, .inl v.2.2.2.2.1)), (ad 7, .inl (cI, 16384, .inl v.2.2.2.2.2.1))] → va_S A s.heap H locs → lv_has ls 4 [(0, .ref (ad 0)), (1, .int l1), (2, .int l2)] → f_X5_guessAllAfter_L2 nL2 l1 l2 v = some r → W p l e rm_X5_guessAllAfter s m ([.ref (ad 0), .int p1] : List Value).toArray below meth c H locs 0 0 (MQ below (qV D (oX5 cI cR ad r) A) ([.ref (ad 0), .int p1] : List Value).toArray s 0 0 A) (F0 m 2 ls []) := by
    intro nL2
    induction nL2 with
    | zero =>
      intro l1 l2 v H locs ls hP hD hS hl hf
      cases hf
    | succ nL2 ih_L2 =>
      have J54 : ∀ (l1 : Int32) (l2 : Int32) (v : tX5) (H : Heap) (locs : List Loc) (ls : Array Slot), va_P D vwCl [(ad 0, .inr (5, [.ref (ad 1), .ref (ad 3), .ref (ad 4), .ref (ad 5), .ref (ad 6), .ref (ad 7), .int v.2.2.2.2.2.2.1, .int v.2.2.2.2.2.2.2.1, .int v.2.2.2.2.2.2.2.2])), (ad 1, .inr (3, [.ref (ad 2), .int v.1.2])), (ad 2, .inl (cI, 15, .inl v.1.1)), (ad 3, .inl (cI, 1024, .inl v.2.1)), (ad 4, .inl (cI, 64, .inl v.2.2.1)), (ad 5, .inl (cI, 16384, .inl v.2.2.2.1)), (ad 6, .inl (cI, 16384, .inl v.2.2.2.2.1)), (ad 7, .inl (cI, 16384, .inl v.2.2.2.2.2.1))] H → va_D A [(ad 0, .inr (5, [.ref (ad 1), .ref (ad 3), .ref (ad 4), .ref (ad 5), .ref (ad 6), .ref (ad 7), .int v.2.2.2.2.2.2.1, .int v.2.2.2.2.2.2.2.1, .int v.2.2.2.2.2.2.2.2])), (ad 1, .inr (3, [.ref (ad 2), .int v.1.2])), (ad 2, .inl (cI, 15, .inl v.1.1)), (ad 3, .inl (cI, 1024, .inl v.2.1)), (ad 4, .inl (cI, 64, .inl v.2.2.1)), (ad 5, .inl (cI, 16384, .inl v.2.2.2.1)), (ad 6, .inl (cI, 16384, .inl v.2.2.2.2.1)), (ad 7, .inl (cI, 16384, .inl v.2.2.2.2.2.1))] → va_S A s.heap H locs → lv_has ls 4 [(0, .ref (ad 0)), (1, .int l1), (2, .int l2)] → f_X5_guessAllAfter_J54 (f_X5_guessAllAfter_L2 nL2) l1 l2 v = some r → W p l e rm_X5_guessAllAfter s m ([.ref (ad 0), .int p1] : List Value).toArray below meth c H locs 0 0 (MQ below (qV D (oX5 cI cR ad r) A) ([.ref (ad 0), .int p1] : List Value).toArray s 0 0 A) (F0 m 54 ls []) := by
        intro l1 l2 v H locs ls hP hD hS hl hf
        unfold f_X5_guessAllAfter_J54 at hf
        refine lv_iinc (v := (l2 + (1 : Int32))) (lv' := [(2, .int (l2 + (1 : Int32))), (0, .ref (ad 0)), (1, .int l1)]) hx hb dX5_guessAllAfter_54 hl (k := 2) rfl rfl (by decide) rfl (fun ls hl => ?_)
        refine lv_goto (tgt := 2) hx hb dX5_guessAllAfter_57 (by decide) ?_
        exact ih_L2 l1 (l2 + (1 : Int32)) v _ _ ls hP hD hS (lv_sub hl [1, 2, 0] rfl) hf
      have J26 : ∀ (l1 : Int32) (l2 : Int32) (k0 : Int32) (v : tX5) (H : Heap) (locs : List Loc) (ls : Array Slot), va_P D vwCl [(ad 0, .inr (5, [.ref (ad 1), .ref (ad 3), .ref (ad 4), .ref (ad 5), .ref (ad 6), .ref (ad 7), .int v.2.2.2.2.2.2.1, .int v.2.2.2.2.2.2.2.1, .int v.2.2.2.2.2.2.2.2])), (ad 1, .inr (3, [.ref (ad 2), .int v.1.2])), (ad 2, .inl (cI, 15, .inl v.1.1)), (ad 3, .inl (cI, 1024, .inl v.2.1)), (ad 4, .inl (cI, 64, .inl v.2.2.1)), (ad 5, .inl (cI, 16384, .inl v.2.2.2.1)), (ad 6, .inl (cI, 16384, .inl v.2.2.2.2.1)), (ad 7, .inl (cI, 16384, .inl v.2.2.2.2.2.1))] H → va_D A [(ad 0, .inr (5, [.ref (ad 1), .ref (ad 3), .ref (ad 4), .ref (ad 5), .ref (ad 6), .ref (ad 7), .int v.2.2.2.2.2.2.1, .int v.2.2.2.2.2.2.2.1, .int v.2.2.2.2.2.2.2.2])), (ad 1, .inr (3, [.ref (ad 2), .int v.1.2])), (ad 2, .inl (cI, 15, .inl v.1.1)), (ad 3, .inl (cI, 1024, .inl v.2.1)), (ad 4, .inl (cI, 64, .inl v.2.2.1)), (ad 5, .inl (cI, 16384, .inl v.2.2.2.1)), (ad 6, .inl (cI, 16384, .inl v.2.2.2.2.1)), (ad 7, .inl (cI, 16384, .inl v.2.2.2.2.2.1))] → va_S A s.heap H locs → lv_has ls 4 [(0, .ref (ad 0)), (1, .int l1), (2, .int l2)] → f_X5_guessAllAfter_J26 (f_X5_guessAllAfter_L2 nL2) l1 l2 k0 v = some r → W p l e rm_X5_guessAllAfter s m ([.ref (ad 0), .int p1] : List Value).toArray below meth c H locs 0 0 (MQ below (qV D (oX5 cI cR ad r) A) ([.ref (ad 0), .int p1] : List Value).toArray s 0 0 A) (F0 m 26 ls [.int k0]) := by
        intro l1 l2 k0 v H locs ls hP hD hS hl hf
        unfold f_X5_guessAllAfter_J26 at hf
        refine lv_istore_n (lv' := [(3, .int k0), (0, .ref (ad 0)), (1, .int l1), (2, .int l2)]) hx hb dX5_guessAllAfter_26 rfl hl (by decide) rfl (fun ls hl => ?_)
        refine lv_iload_n hx hb dX5_guessAllAfter_27 rfl (lv_at hl 0 rfl) ?_
        refine lv_iconst (v := (-1 : Int32)) hx hb dX5_guessAllAfter_28 (by decide) ?_
        refine lv_icmp_eq (tgt := 54) hx hb dX5_guessAllAfter_29 (by decide) (fun c0 => ?_) (fun c0 => ?_)
        · replace hf := gT hf c0
          exact J54 l1 l2 v _ _ ls hP hD hS (lv_sub hl [1, 2, 3] rfl) hf
        · replace hf := gF hf c0
          refine lv_aload_n hx hb dX5_guessAllAfter_32 rfl (lv_at hl 1 rfl) ?_
          refine va_get (D := D) (ci := 5) (v := .ref (ad 6)) (C := RX5) (T := TX5) (N := 9) hx hb hts inA_X5 hown hK hP 0 rfl rfl 4 (by decide) (hts _ kF_X5_28) (fun _ h9 => h9) rfl dX5_guessAllAfter_33 ?_
          refine lv_iload_n hx hb dX5_guessAllAfter_36 rfl (lv_at hl 0 rfl) ?_
          obtain ⟨x0, hcx0, hf⟩ := gB hf
          refine k_r (run_weak (w_SN (As := [.ref (ad 6), .int k0]) (rest := []) (n := 2) ⟨hx, hb, hml, hown, hts⟩ (c_X6_at l D cI cR (ad 6) 16384 v.2.2.2.2.1 k0 _ x0 hcx0) (nM_X5_98 hN) kS_X6_at kZ_X6 kK_X6_at ⟨rfl, rfl⟩ ⟨(Nat.le_of_ble_eq_true rfl), (Nat.le_of_ble_eq_true rfl)⟩ pd_X6_at rfl hK hN hP hD [6] rfl rfl rfl hl.1 (Nat.le_of_ble_eq_true rfl) dX5_guessAllAfter_37 ⟨(Nat.le_of_ble_eq_true rfl), (Nat.le_of_ble_eq_true rfl)⟩)) ?_
          refine lv_if_ne (tgt := 54) hx hb dX5_guessAllAfter_40 (by decide) (fun c1 => ?_) (fun c1 => ?_)
          · replace hf := gF hf c1
            exact J54 l1 l2 v _ _ ls hP hD hS (lv_sub hl [1, 2, 3] rfl) hf
          · replace hf := gT hf c1
            refine lv_aload_n hx hb dX5_guessAllAfter_43 rfl (lv_at hl 1 rfl) ?_
            refine va_get (D := D) (ci := 5) (v := .ref (ad 6)) (C := RX5) (T := TX5) (N := 9) hx hb hts inA_X5 hown hK hP 0 rfl rfl 4 (by decide) (hts _ kF_X5_28) (fun _ h9 => h9) rfl dX5_guessAllAfter_44 ?_
            refine lv_iload_n hx hb dX5_guessAllAfter_47 rfl (lv_at hl 0 rfl) ?_
            refine lv_sipush (v := (1000 : Int32)) hx hb dX5_guessAllAfter_48 (by decide) ?_
            obtain ⟨x1, hcx1, hf⟩ := gB hf
            refine j_v (wr := [(ad 0, .inr (5, [.ref (ad 1), .ref (ad 3), .ref (ad 4), .ref (ad 5), .ref (ad 6), .ref (ad 7), .int v.2.2.2.2.2.2.1, .int v.2.2.2.2.2.2.2.1, .int v.2.2.2.2.2.2.2.2])), (ad 1, .inr (3, [.ref (ad 2), .int v.1.2])), (ad 2, .inl (cI, 15, .inl v.1.1)), (ad 3, .inl (cI, 1024, .inl v.2.1)), (ad 4, .inl (cI, 64, .inl v.2.2.1)), (ad 5, .inl (cI, 16384, .inl v.2.2.2.1)), (ad 7, .inl (cI, 16384, .inl v.2.2.2.2.2.1))]) (w_SN (As := [.ref (ad 6), .int k0, .int (1000 : Int32)]) (rest := []) (n := 3) ⟨hx, hb, hml, hown, hts⟩ (c_X6_put l D cI cR (ad 6) 16384 v.2.2.2.2.1 k0 (1000 : Int32) _ x1 hcx1) (nM_X5_59 hN) kS_X6_put kZ_X6 kK_X6_put ⟨rfl, rfl⟩ ⟨(Nat.le_of_ble_eq_true rfl), (Nat.le_of_ble_eq_true rfl)⟩ pd_X6_put rfl hK hN hP hD [6] rfl rfl rfl hl.1 (Nat.le_of_ble_eq_true rfl) dX5_guessAllAfter_51 ⟨(Nat.le_of_ble_eq_true rfl), (Nat.le_of_ble_eq_true rfl)⟩) hP hD hS hA [6] [0, 1, 2, 3, 4, 5, 7] rfl rfl rfl (by decide) (fun H locs hP hD hS => ?_)
            have hP : va_P D vwCl [(ad 0, .inr (5, [.ref (ad 1), .ref (ad 3), .ref (ad 4), .ref (ad 5), .ref (ad 6), .ref (ad 7), .int v.2.2.2.2.2.2.1, .int v.2.2.2.2.2.2.2.1, .int v.2.2.2.2.2.2.2.2])), (ad 1, .inr (3, [.ref (ad 2), .int v.1.2])), (ad 2, .inl (cI, 15, .inl v.1.1)), (ad 3, .inl (cI, 1024, .inl v.2.1)), (ad 4, .inl (cI, 64, .inl v.2.2.1)), (ad 5, .inl (cI, 16384, .inl v.2.2.2.1)), (ad 7, .inl (cI, 16384, .inl v.2.2.2.2.2.1)), (ad 6, .inl (cI, 16384, .inl x1))] H := hP
            have hD : va_D A [(ad 0, .inr (5, [.ref (ad 1), .ref (ad 3), .ref (ad 4), .ref (ad 5), .ref (ad 6), .ref (ad 7), .int v.2.2.2.2.2.2.1, .int v.2.2.2.2.2.2.2.1, .int v.2.2.2.2.2.2.2.2])), (ad 1, .inr (3, [.ref (ad 2), .int v.1.2])), (ad 2, .inl (cI, 15, .inl v.1.1)), (ad 3, .inl (cI, 1024, .inl v.2.1)), (ad 4, .inl (cI, 64, .inl v.2.2.1)), (ad 5, .inl (cI, 16384, .inl v.2.2.2.1)), (ad 7, .inl (cI, 16384, .inl v.2.2.2.2.2.1)), (ad 6, .inl (cI, 16384, .inl x1))] := hD
            exact J54 l1 l2 (v.1, v.2.1, v.2.2.1, v.2.2.2.1, x1, v.2.2.2.2.2.1, v.2.2.2.2.2.2.1, v.2.2.2.2.2.2.2.1, v.2.2.2.2.2.2.2.2) _ _ ls (hP.subm [0, 1, 2, 3, 4, 5, 7, 6] rfl) (hD.sub [0, 1, 2, 3, 4, 5, 7, 6] rfl rfl) hS (lv_sub hl [1, 2, 3] rfl) hf
      intro l1 l2 v H locs ls hP hD hS hl hf
      rw [f_X5_guessAllAfter_L2] at hf
      refine lv_iload_n hx hb dX5_guessAllAfter_2 rfl (lv_at hl 2 rfl) ?_
      refine lv_iconst (v := (5 : Int32)) hx hb dX5_guessAllAfter_3 (by decide) ?_
      refine lv_icmp_gt (tgt := 60) hx hb dX5_guessAllAfter_4 (by decide) (fun c2 => ?_) (fun c2 => ?_)
      · replace hf := gT hf c2
        exact z_v hf (fun r => oX5 cI cR ad r) hx hb hr hlk hS hP hD dX5_guessAllAfter_60
      · replace hf := gF hf c2
        refine lv_aload_n hx hb dX5_guessAllAfter_7 rfl (lv_at hl 0 rfl) ?_
        refine lv_iload_n hx hb dX5_guessAllAfter_8 rfl (lv_at hl 1 rfl) ?_
        refine lv_iload_n hx hb dX5_guessAllAfter_9 rfl (lv_at hl 2 rfl) ?_
        obtain ⟨x2, hcx2, hf⟩ := gB hf
        refine k_r (r_V (As := [.int l1, .int l2]) (rest := []) (n := 2) ⟨hx, hb, hml, hown, hts⟩ (c_X5_isPossible l D cI cR ad v l1 l2 _ x2 hcx2) kM_X5_117 kN_X5_isPossible kV_X5_isPossible kZ_X5 kK_X5_isPossible ⟨rfl, rfl⟩ ⟨(Nat.le_of_ble_eq_true rfl), (Nat.le_of_ble_eq_true rfl)⟩ pd_X5_isPossible rfl hK hN hP hD [0, 1, 2, 3, 4, 5, 6, 7] rfl rfl 0 5 rfl rfl rfl hl.1 (Nat.le_of_ble_eq_true rfl) dX5_guessAllAfter_10 ⟨(Nat.le_of_ble_eq_true rfl), (Nat.le_of_ble_eq_true rfl)⟩) ?_
        refine lv_if_eq (tgt := 25) hx hb dX5_guessAllAfter_13 (by decide) (fun c3 => ?_) (fun c3 => ?_)
        · replace hf := gT hf c3
          refine lv_iconst (v := (-1 : Int32)) hx hb dX5_guessAllAfter_25 (by decide) ?_
          exact J26 l1 l2 (-1 : Int32) v _ _ ls hP hD hS (lv_sub hl [0, 1, 2] rfl) hf
        · replace hf := gF hf c3
          refine lv_aload_n hx hb dX5_guessAllAfter_16 rfl (lv_at hl 0 rfl) ?_
          refine lv_iload_n hx hb dX5_guessAllAfter_17 rfl (lv_at hl 1 rfl) ?_
          refine lv_iload_n hx hb dX5_guessAllAfter_18 rfl (lv_at hl 2 rfl) ?_
          obtain ⟨x3, hcx3, hf⟩ := gB hf
          refine k_r (r_V (As := [.int l1, .int l2]) (rest := []) (n := 2) ⟨hx, hb, hml, hown, hts⟩ (c_X5_after l D cI cR ad v l1 l2 _ x3 hcx3) kM_X5_110 kN_X5_after kV_X5_after kZ_X5 kK_X5_after ⟨rfl, rfl⟩ ⟨(Nat.le_of_ble_eq_true rfl), (Nat.le_of_ble_eq_true rfl)⟩ pd_X5_after rfl hK hN hP hD [0, 1, 2, 3, 4, 5, 6, 7] rfl rfl 0 5 rfl rfl rfl hl.1 (Nat.le_of_ble_eq_true rfl) dX5_guessAllAfter_19 ⟨(Nat.le_of_ble_eq_true rfl), (Nat.le_of_ble_eq_true rfl)⟩) ?_
          refine lv_goto (tgt := 26) hx hb dX5_guessAllAfter_22 (by decide) ?_
          exact J26 l1 l2 x3 v _ _ ls hP hD hS (lv_sub hl [0, 1, 2] rfl) hf
  unfold f_X5_guessAllAfter at hf
  refine lv_iconst (v := (0 : Int32)) hx hb dX5_guessAllAfter_0 (by decide) ?_
  refine lv_istore_n (lv' := [(2, .int (0 : Int32)), (0, .ref (ad 0)), (1, .int p1)]) hx hb dX5_guessAllAfter_1 rfl hl (by decide) rfl (fun ls hl => ?_)
  exact L2 gas p1 (0 : Int32) v _ _ ls hP hD hS (lv_sub hl [1, 2, 0] rfl) hf
def f_X5_gather_J150 (kL18 : Int32 → tX5 → Option tX5) (kL34 : Int32 → Int32 → tX5 → Option tX5) (l2 : Int32) (l3 : Int32) (v : tX5) : Option tX5 :=
  kL34 l2 (l3 + (-1 : Int32)) v
def f_X5_gather_J144 (kL18 : Int32 → tX5 → Option tX5) (kL34 : Int32 → Int32 → tX5 → Option tX5) (kL41 : Int32 → Int32 → Int32 → tX5 → Option tX5) (l2 : Int32) (l3 : Int32) (l4 : Int32) (v : tX5) : Option tX5 :=
  kL41 l2 l3 (l4 + (1 : Int32)) v
def f_X5_gather_L41 (kL18 : Int32 → tX5 → Option tX5) (kL34 : Int32 → Int32 → tX5 → Option tX5) : Nat → Int32 → Int32 → Int32 → tX5 → Option tX5
  | 0, _, _, _, _ => none
  | nL41 + 1, l2, l3, l4, v =>
    (if v.1.2 < l4 then f_X5_gather_J150 kL18 kL34 l2 l3 v else (if l2 < l4 then f_X5_gather_J150 kL18 kL34 l2 l3 v else (f_X6_at 64 v.2.2.1 l3).bind fun x0 => (if v.1.2 < (l2 - l4) then f_X5_gather_J144 kL18 kL34 (f_X5_gather_L41 kL18 kL34 nL41) l2 l3 l4 v else (f_X6_at 16384 v.2.2.2.2.1 (((l4 <<< ((10 : Int32) &&& 31)) ||| (((l2 - l4) &&& (15 : Int32)) <<< ((6 : Int32) &&& 31))) ||| x0)).bind fun x1 => (if x1 = (1000 : Int32) then (f_X6_put 16384 v.2.2.2.2.2.1 v.2.2.2.2.2.2.1 (((l4 <<< ((10 : Int32) &&& 31)) ||| (((l2 - l4) &&& (15 : Int32)) <<< ((6 : Int32) &&& 31))) ||| x0)).bind fun x2 => (f_X5_guessAllAfter (v.1, v.2.1, v.2.2.1, v.2.2.2.1, v.2.2.2.2.1, x2, (v.2.2.2.2.2.2.1 + (1 : Int32)), v.2.2.2.2.2.2.2.1, v.2.2.2.2.2.2.2.2) (((l4 <<< ((10 : Int32) &&& 31)) ||| (((l2 - l4) &&& (15 : Int32)) <<< ((6 : Int32) &&& 31))) ||| x0)).bind fun x3 => f_X5_gather_J144 kL18 kL34 (f_X5_gather_L41 kL18 kL34 nL41) l2 l3 l4 x3 else f_X5_gather_J144 kL18 kL34 (f_X5_gather_L41 kL18 kL34 nL41) l2 l3 l4 v))))
def f_X5_gather_L34 (kL18 : Int32 → tX5 → Option tX5) : Nat → Int32 → Int32 → tX5 → Option tX5
  | 0, _, _, _ => none
  | nL34 + 1, l2, l3, v =>
    (if l3 < 0 then kL18 (l2 + (1 : Int32)) v else f_X5_gather_L41 kL18 (f_X5_gather_L34 kL18 nL34) gas l2 l3 (0 : Int32) v)
def f_X5_gather_L18 : Nat → Int32 → tX5 → Option tX5
  | 0, _, _ => none
  | nL18 + 1, l2, v =>
    (if ((2 : Int32) * v.1.2) < l2 then some v else f_X5_gather_L34 (f_X5_gather_L18 nL18) gas l2 (63 : Int32) v)
def f_X5_gather (v : tX5) (p1 : Int32) : Option tX5 :=
  (f_X6_put 16384 v.2.2.2.2.1 p1 (1000 : Int32)).bind fun x4 => f_X5_gather_L18 gas (0 : Int32) (v.1, v.2.1, v.2.2.1, v.2.2.2.1, x4, v.2.2.2.2.2.1, (0 : Int32), v.2.2.2.2.2.2.2.1, v.2.2.2.2.2.2.2.2)
abbrev rm_X5_gather : Room := { frames := 3, cells := 0, slots := 0, locals := 72 }
set_option maxHeartbeats 4000000 in
set_option maxRecDepth 100000 in
theorem c_X5_gather (l : Launch) (D : va_G) (cI cR : ClassId) (ad : Nat → Nat) (v : tX5) (p1 : Int32) (sz : Nat) (r : tX5) (hf : f_X5_gather v p1 = some r) : Met l yX5_gather (wM yX5_gather cX5_gather 6 none) rm_X5_gather (cPre D (tysA cI cR) ([.ref (ad 0), .int p1] : List Value) (oX5 cI cR ad v) sz) (qV D (oX5 cI cR ad r) (va_A (oX5 cI cR ad v) sz)) 0 0 (va_A (oX5 cI cR ad v) sz) := by
  refine en_M (own := RX5) (lv := [(0, .ref (ad 0)), (1, .int p1)]) (by decide +kernel) rfl (Nat.le_of_ble_eq_true rfl) rfl (fun p e s m below meth c hx hb hr hlk hml hown hnm hts hsz hP hK hD hN ls hl => ?_)
  subst hsz
  generalize hAe : va_A (oX5 cI cR ad v) s.heap.size = A at hD ⊢
  have hA : ∀ q : Nat, s.heap.size ≤ q → A q := fun q h => by rw [← hAe]; exact Or.inr h
  have hS : va_S A s.heap s.heap [] := va_S.rf
  have hP : va_P D vwCl [(ad 0, .inr (5, [.ref (ad 1), .ref (ad 3), .ref (ad 4), .ref (ad 5), .ref (ad 6), .ref (ad 7), .int v.2.2.2.2.2.2.1, .int v.2.2.2.2.2.2.2.1, .int v.2.2.2.2.2.2.2.2])), (ad 1, .inr (3, [.ref (ad 2), .int v.1.2])), (ad 2, .inl (cI, 15, .inl v.1.1)), (ad 3, .inl (cI, 1024, .inl v.2.1)), (ad 4, .inl (cI, 64, .inl v.2.2.1)), (ad 5, .inl (cI, 16384, .inl v.2.2.2.1)), (ad 6, .inl (cI, 16384, .inl v.2.2.2.2.1)), (ad 7, .inl (cI, 16384, .inl v.2.2.2.2.2.1))] s.heap := hP
  have hD : va_D A [(ad 0, .inr (5, [.ref (ad 1), .ref (ad 3), .ref (ad 4), .ref (ad 5), .ref (ad 6), .ref (ad 7), .int v.2.2.2.2.2.2.1, .int v.2.2.2.2.2.2.2.1, .int v.2.2.2.2.2.2.2.2])), (ad 1, .inr (3, [.ref (ad 2), .int v.1.2])), (ad 2, .inl (cI, 15, .inl v.1.1)), (ad 3, .inl (cI, 1024, .inl v.2.1)), (ad 4, .inl (cI, 64, .inl v.2.2.1)), (ad 5, .inl (cI, 16384, .inl v.2.2.2.1)), (ad 6, .inl (cI, 16384, .inl v.2.2.2.2.1)), (ad 7, .inl (cI, 16384, .inl v.2.2.2.2.2.1))] := hD
  have L18 : ∀ (nL18 : Nat) (l2 : Int32) (v : tX5) (H : Heap) (locs : List Loc) (ls : Array Slot), va_P D vwCl [(ad 0, .inr (5, [.ref (ad 1), .ref (ad 3), .ref (ad 4), .ref (ad 5), .ref (ad 6), .ref (ad 7), .int v.2.2.2.2.2.2.1, .int v.2.2.2.2.2.2.2.1, .int v.2.2.2.2.2.2.2.2])), (ad 1, .inr (3, [.ref (ad 2), .int v.1.2])), (ad 2, .inl (cI, 15, .inl v.1.1)), (ad 3, .inl (cI, 1024, .inl v.2.1)), (ad 4, .inl (cI, 64, .inl v.2.2.1)), (ad 5, .inl (cI, 16384, .inl v.2.2.2.1)), (ad 6, .inl (cI, 16384, .inl v.2.2.2.2.1)), (ad 7, .inl (cI, 16384, .inl v.2.2.2.2.2.1))] H → va_D A [(ad 0, .inr (5, [.ref (ad 1), .ref (ad 3), .ref (ad 4), .ref (ad 5), .ref (ad 6), .ref (ad 7), .int v.2.2.2.2.2.2.1, .int v.2.2.2.2.2.2.2.1, .int v.2.2.2.2.2.2.2.2])), (ad 1, .inr (3, [.ref (ad 2), .int v.1.2])), (ad 2, .inl (cI, 15, .inl v.1.1)), (ad 3, .inl (cI, 1024, .inl v.2.1)), (ad 4, .inl (cI, 64, .inl v.2.2.1)), (ad 5, .inl (cI, 16384, .inl v.2.2.2.1)), (ad 6, .inl (cI, 16384, .inl v.2.2.2.2.1)), (ad 7, .inl (cI, 16384, .inl v.2.2.2.2.2.1))] → va_S A s.heap H locs → lv_has ls 6 [(0, .ref (ad 0)), (2, .int l2)] → f_X5_gather_L18 nL18 l2 v = some r → W p l e rm_X5_gather s m ([.ref (ad 0), .int p1] : List Value).toArray below meth c H locs 0 0 (MQ below (qV D (oX5 cI cR ad r) A) ([.ref (ad 0), .int p1] : List Value).toArray s 0 0 A) (F0 m 18 ls []) := by
    intro nL18
    induction nL18 with
    | zero =>
      intro l2 v H locs ls hP hD hS hl hf
      cases hf
    | succ nL18 ih_L18 =>
      have L34 : ∀ (nL34 : Nat) (l2 : Int32) (l3 : Int32) (v : tX5) (H : Heap) (locs : List Loc) (ls : Array Slot), va_P D vwCl [(ad 0, .inr (5, [.ref (ad 1), .ref (ad 3), .ref (ad 4), .ref (ad 5), .ref (ad 6), .ref (ad 7), .int v.2.2.2.2.2.2.1, .int v.2.2.2.2.2.2.2.1, .int v.2.2.2.2.2.2.2.2])), (ad 1, .inr (3, [.ref (ad 2), .int v.1.2])), (ad 2, .inl (cI, 15, .inl v.1.1)), (ad 3, .inl (cI, 1024, .inl v.2.1)), (ad 4, .inl (cI, 64, .inl v.2.2.1)), (ad 5, .inl (cI, 16384, .inl v.2.2.2.1)), (ad 6, .inl (cI, 16384, .inl v.2.2.2.2.1)), (ad 7, .inl (cI, 16384, .inl v.2.2.2.2.2.1))] H → va_D A [(ad 0, .inr (5, [.ref (ad 1), .ref (ad 3), .ref (ad 4), .ref (ad 5), .ref (ad 6), .ref (ad 7), .int v.2.2.2.2.2.2.1, .int v.2.2.2.2.2.2.2.1, .int v.2.2.2.2.2.2.2.2])), (ad 1, .inr (3, [.ref (ad 2), .int v.1.2])), (ad 2, .inl (cI, 15, .inl v.1.1)), (ad 3, .inl (cI, 1024, .inl v.2.1)), (ad 4, .inl (cI, 64, .inl v.2.2.1)), (ad 5, .inl (cI, 16384, .inl v.2.2.2.1)), (ad 6, .inl (cI, 16384, .inl v.2.2.2.2.1)), (ad 7, .inl (cI, 16384, .inl v.2.2.2.2.2.1))] → va_S A s.heap H locs → lv_has ls 6 [(0, .ref (ad 0)), (2, .int l2), (3, .int l3)] → f_X5_gather_L34 (f_X5_gather_L18 nL18) nL34 l2 l3 v = some r → W p l e rm_X5_gather s m ([.ref (ad 0), .int p1] : List Value).toArray below meth c H locs 0 0 (MQ below (qV D (oX5 cI cR ad r) A) ([.ref (ad 0), .int p1] : List Value).toArray s 0 0 A) (F0 m 34 ls []) := by
        intro nL34
        induction nL34 with
        | zero =>
          intro l2 l3 v H locs ls hP hD hS hl hf
          cases hf
        | succ nL34 ih_L34 =>
          have J150 : ∀ (l2 : Int32) (l3 : Int32) (v : tX5) (H : Heap) (locs : List Loc) (ls : Array Slot), va_P D vwCl [(ad 0, .inr (5, [.ref (ad 1), .ref (ad 3), .ref (ad 4), .ref (ad 5), .ref (ad 6), .ref (ad 7), .int v.2.2.2.2.2.2.1, .int v.2.2.2.2.2.2.2.1, .int v.2.2.2.2.2.2.2.2])), (ad 1, .inr (3, [.ref (ad 2), .int v.1.2])), (ad 2, .inl (cI, 15, .inl v.1.1)), (ad 3, .inl (cI, 1024, .inl v.2.1)), (ad 4, .inl (cI, 64, .inl v.2.2.1)), (ad 5, .inl (cI, 16384, .inl v.2.2.2.1)), (ad 6, .inl (cI, 16384, .inl v.2.2.2.2.1)), (ad 7, .inl (cI, 16384, .inl v.2.2.2.2.2.1))] H → va_D A [(ad 0, .inr (5, [.ref (ad 1), .ref (ad 3), .ref (ad 4), .ref (ad 5), .ref (ad 6), .ref (ad 7), .int v.2.2.2.2.2.2.1, .int v.2.2.2.2.2.2.2.1, .int v.2.2.2.2.2.2.2.2])), (ad 1, .inr (3, [.ref (ad 2), .int v.1.2])), (ad 2, .inl (cI, 15, .inl v.1.1)), (ad 3, .inl (cI, 1024, .inl v.2.1)), (ad 4, .inl (cI, 64, .inl v.2.2.1)), (ad 5, .inl (cI, 16384, .inl v.2.2.2.1)), (ad 6, .inl (cI, 16384, .inl v.2.2.2.2.1)), (ad 7, .inl (cI, 16384, .inl v.2.2.2.2.2.1))] → va_S A s.heap H locs → lv_has ls 6 [(0, .ref (ad 0)), (2, .int l2), (3, .int l3)] → f_X5_gather_J150 (f_X5_gather_L18 nL18) (f_X5_gather_L34 (f_X5_gather_L18 nL18) nL34) l2 l3 v = some r → W p l e rm_X5_gather s m ([.ref (ad 0), .int p1] : List Value).toArray below meth c H locs 0 0 (MQ below (qV D (oX5 cI cR ad r) A) ([.ref (ad 0), .int p1] : List Value).toArray s 0 0 A) (F0 m 150 ls []) := by
            intro l2 l3 v H locs ls hP hD hS hl hf
            unfold f_X5_gather_J150 at hf
            refine lv_iinc (v := (l3 + (-1 : Int32))) (lv' := [(3, .int (l3 + (-1 : Int32))), (0, .ref (ad 0)), (2, .int l2)]) hx hb dX5_gather_150 hl (k := 2) rfl rfl (by decide) rfl (fun ls hl => ?_)
            refine lv_goto (tgt := 34) hx hb dX5_gather_153 (by decide) ?_
            exact ih_L34 l2 (l3 + (-1 : Int32)) v _ _ ls hP hD hS (lv_sub hl [1, 2, 0] rfl) hf
          have L41 : ∀ (nL41 : Nat) (l2 : Int32) (l3 : Int32) (l4 : Int32) (v : tX5) (H : Heap) (locs : List Loc) (ls : Array Slot), va_P D vwCl [(ad 0, .inr (5, [.ref (ad 1), .ref (ad 3), .ref (ad 4), .ref (ad 5), .ref (ad 6), .ref (ad 7), .int v.2.2.2.2.2.2.1, .int v.2.2.2.2.2.2.2.1, .int v.2.2.2.2.2.2.2.2])), (ad 1, .inr (3, [.ref (ad 2), .int v.1.2])), (ad 2, .inl (cI, 15, .inl v.1.1)), (ad 3, .inl (cI, 1024, .inl v.2.1)), (ad 4, .inl (cI, 64, .inl v.2.2.1)), (ad 5, .inl (cI, 16384, .inl v.2.2.2.1)), (ad 6, .inl (cI, 16384, .inl v.2.2.2.2.1)), (ad 7, .inl (cI, 16384, .inl v.2.2.2.2.2.1))] H → va_D A [(ad 0, .inr (5, [.ref (ad 1), .ref (ad 3), .ref (ad 4), .ref (ad 5), .ref (ad 6), .ref (ad 7), .int v.2.2.2.2.2.2.1, .int v.2.2.2.2.2.2.2.1, .int v.2.2.2.2.2.2.2.2])), (ad 1, .inr (3, [.ref (ad 2), .int v.1.2])), (ad 2, .inl (cI, 15, .inl v.1.1)), (ad 3, .inl (cI, 1024, .inl v.2.1)), (ad 4, .inl (cI, 64, .inl v.2.2.1)), (ad 5, .inl (cI, 16384, .inl v.2.2.2.1)), (ad 6, .inl (cI, 16384, .inl v.2.2.2.2.1)), (ad 7, .inl (cI, 16384, .inl v.2.2.2.2.2.1))] → va_S A s.heap H locs → lv_has ls 6 [(0, .ref (ad 0)), (2, .int l2), (3, .int l3), (4, .int l4)] → f_X5_gather_L41 (f_X5_gather_L18 nL18) (f_X5_gather_L34 (f_X5_gather_L18 nL18) nL34) nL41 l2 l3 l4 v = some r → W p l e rm_X5_gather s m ([.ref (ad 0), .int p1] : List Value).toArray below meth c H locs 0 0 (MQ below (qV D (oX5 cI cR ad r) A) ([.ref (ad 0), .int p1] : List Value).toArray s 0 0 A) (F0 m 41 ls []) := by
            intro nL41
            induction nL41 with
            | zero =>
              intro l2 l3 l4 v H locs ls hP hD hS hl hf
              cases hf
            | succ nL41 ih_L41 =>
              have J144 : ∀ (l2 : Int32) (l3 : Int32) (l4 : Int32) (v : tX5) (H : Heap) (locs : List Loc) (ls : Array Slot), va_P D vwCl [(ad 0, .inr (5, [.ref (ad 1), .ref (ad 3), .ref (ad 4), .ref (ad 5), .ref (ad 6), .ref (ad 7), .int v.2.2.2.2.2.2.1, .int v.2.2.2.2.2.2.2.1, .int v.2.2.2.2.2.2.2.2])), (ad 1, .inr (3, [.ref (ad 2), .int v.1.2])), (ad 2, .inl (cI, 15, .inl v.1.1)), (ad 3, .inl (cI, 1024, .inl v.2.1)), (ad 4, .inl (cI, 64, .inl v.2.2.1)), (ad 5, .inl (cI, 16384, .inl v.2.2.2.1)), (ad 6, .inl (cI, 16384, .inl v.2.2.2.2.1)), (ad 7, .inl (cI, 16384, .inl v.2.2.2.2.2.1))] H → va_D A [(ad 0, .inr (5, [.ref (ad 1), .ref (ad 3), .ref (ad 4), .ref (ad 5), .ref (ad 6), .ref (ad 7), .int v.2.2.2.2.2.2.1, .int v.2.2.2.2.2.2.2.1, .int v.2.2.2.2.2.2.2.2])), (ad 1, .inr (3, [.ref (ad 2), .int v.1.2])), (ad 2, .inl (cI, 15, .inl v.1.1)), (ad 3, .inl (cI, 1024, .inl v.2.1)), (ad 4, .inl (cI, 64, .inl v.2.2.1)), (ad 5, .inl (cI, 16384, .inl v.2.2.2.1)), (ad 6, .inl (cI, 16384, .inl v.2.2.2.2.1)), (ad 7, .inl (cI, 16384, .inl v.2.2.2.2.2.1))] → va_S A s.heap H locs → lv_has ls 6 [(0, .ref (ad 0)), (2, .int l2), (3, .int l3), (4, .int l4)] → f_X5_gather_J144 (f_X5_gather_L18 nL18) (f_X5_gather_L34 (f_X5_gather_L18 nL18) nL34) (f_X5_gather_L41 (f_X5_gather_L18 nL18) (f_X5_gather_L34 (f_X5_gather_L18 nL18) nL34) nL41) l2 l3 l4 v = some r → W p l e rm_X5_gather s m ([.ref (ad 0), .int p1] : List Value).toArray below meth c H locs 0 0 (MQ below (qV D (oX5 cI cR ad r) A) ([.ref (ad 0), .int p1] : List Value).toArray s 0 0 A) (F0 m 144 ls []) := by
                intro l2 l3 l4 v H locs ls hP hD hS hl hf
                unfold f_X5_gather_J144 at hf
                refine lv_iinc (v := (l4 + (1 : Int32))) (lv' := [(4, .int (l4 + (1 : Int32))), (0, .ref (ad 0)), (2, .int l2), (3, .int l3)]) hx hb dX5_gather_144 hl (k := 3) rfl rfl (by decide) rfl (fun ls hl => ?_)
                refine lv_goto (tgt := 41) hx hb dX5_gather_147 (by decide) ?_
                exact ih_L41 l2 l3 (l4 + (1 : Int32)) v _ _ ls hP hD hS (lv_sub hl [1, 2, 3, 0] rfl) hf
              intro l2 l3 l4 v H locs ls hP hD hS hl hf
              rw [f_X5_gather_L41] at hf
              refine lv_iload hx hb dX5_gather_41 (lv_at hl 3 rfl) ?_
              refine lv_aload_n hx hb dX5_gather_43 rfl (lv_at hl 0 rfl) ?_
              refine va_get (D := D) (ci := 5) (v := .ref (ad 1)) (C := RX5) (T := TX5) (N := 9) hx hb hts inA_X5 hown hK hP 0 rfl rfl 0 (by decide) (hts _ kF_X5_12) (fun _ h9 => h9) rfl dX5_gather_44 ?_
              refine va_getN (D := D) (ci := 3) (v := .int v.1.2) (C := RX3) (T := TX3) (N := 2) hx hb hts inA_X3 hown hK hP 1 rfl rfl 1 (by decide) (va_Nw.use rfl (nF_X5_83 hN)) (fun _ h9 => h9) rfl dX5_gather_47 ?_
              refine lv_icmp_gt (tgt := 150) hx hb dX5_gather_50 (by decide) (fun c0 => ?_) (fun c0 => ?_)
              · replace hf := gT hf c0
                exact J150 l2 l3 v _ _ ls hP hD hS (lv_sub hl [0, 1, 2] rfl) hf
              · replace hf := gF hf c0
                refine lv_iload hx hb dX5_gather_53 (lv_at hl 3 rfl) ?_
                refine lv_iload_n hx hb dX5_gather_55 rfl (lv_at hl 1 rfl) ?_
                refine lv_icmp_gt (tgt := 150) hx hb dX5_gather_56 (by decide) (fun c1 => ?_) (fun c1 => ?_)
                · replace hf := gT hf c1
                  exact J150 l2 l3 v _ _ ls hP hD hS (lv_sub hl [0, 1, 2] rfl) hf
                · replace hf := gF hf c1
                  refine lv_iload hx hb dX5_gather_59 (lv_at hl 3 rfl) ?_
                  refine lv_bipush (v := (10 : Int32)) hx hb dX5_gather_61 (by decide) ?_
                  refine lv_ishl hx hb dX5_gather_63 ?_
                  refine lv_iload_n hx hb dX5_gather_64 rfl (lv_at hl 1 rfl) ?_
                  refine lv_iload hx hb dX5_gather_65 (lv_at hl 3 rfl) ?_
                  refine lv_isub hx hb dX5_gather_67 ?_
                  refine lv_bipush (v := (15 : Int32)) hx hb dX5_gather_68 (by decide) ?_
                  refine lv_iand hx hb dX5_gather_70 ?_
                  refine lv_bipush (v := (6 : Int32)) hx hb dX5_gather_71 (by decide) ?_
                  refine lv_ishl hx hb dX5_gather_73 ?_
                  refine lv_ior hx hb dX5_gather_74 ?_
                  refine lv_aload_n hx hb dX5_gather_75 rfl (lv_at hl 0 rfl) ?_
                  refine va_get (D := D) (ci := 5) (v := .ref (ad 4)) (C := RX5) (T := TX5) (N := 9) hx hb hts inA_X5 hown hK hP 0 rfl rfl 2 (by decide) (hts _ kF_X5_22) (fun _ h9 => h9) rfl dX5_gather_76 ?_
                  refine lv_iload_n hx hb dX5_gather_79 rfl (lv_at hl 2 rfl) ?_
                  obtain ⟨x0, hcx0, hf⟩ := gB hf
                  refine k_r (run_weak (w_SN (As := [.ref (ad 4), .int l3]) (rest := [.int ((l4 <<< ((10 : Int32) &&& 31)) ||| (((l2 - l4) &&& (15 : Int32)) <<< ((6 : Int32) &&& 31)))]) (n := 2) ⟨hx, hb, hml, hown, hts⟩ (c_X6_at l D cI cR (ad 4) 64 v.2.2.1 l3 _ x0 hcx0) (nM_X5_98 hN) kS_X6_at kZ_X6 kK_X6_at ⟨rfl, rfl⟩ ⟨(Nat.le_of_ble_eq_true rfl), (Nat.le_of_ble_eq_true rfl)⟩ pd_X6_at rfl hK hN hP hD [4] rfl rfl rfl hl.1 (Nat.le_of_ble_eq_true rfl) dX5_gather_80 ⟨(Nat.le_of_ble_eq_true rfl), (Nat.le_of_ble_eq_true rfl)⟩)) ?_
                  refine lv_ior hx hb dX5_gather_83 ?_
                  refine lv_istore (lv' := [(5, .int (((l4 <<< ((10 : Int32) &&& 31)) ||| (((l2 - l4) &&& (15 : Int32)) <<< ((6 : Int32) &&& 31))) ||| x0)), (0, .ref (ad 0)), (2, .int l2), (3, .int l3), (4, .int l4)]) hx hb dX5_gather_84 hl (by decide) rfl (fun ls hl => ?_)
                  refine lv_iload_n hx hb dX5_gather_86 rfl (lv_at hl 2 rfl) ?_
                  refine lv_iload hx hb dX5_gather_87 (lv_at hl 4 rfl) ?_
                  refine lv_isub hx hb dX5_gather_89 ?_
                  refine lv_aload_n hx hb dX5_gather_90 rfl (lv_at hl 1 rfl) ?_
                  refine va_get (D := D) (ci := 5) (v := .ref (ad 1)) (C := RX5) (T := TX5) (N := 9) hx hb hts inA_X5 hown hK hP 0 rfl rfl 0 (by decide) (hts _ kF_X5_12) (fun _ h9 => h9) rfl dX5_gather_91 ?_
                  refine va_getN (D := D) (ci := 3) (v := .int v.1.2) (C := RX3) (T := TX3) (N := 2) hx hb hts inA_X3 hown hK hP 1 rfl rfl 1 (by decide) (va_Nw.use rfl (nF_X5_83 hN)) (fun _ h9 => h9) rfl dX5_gather_94 ?_
                  refine lv_icmp_gt (tgt := 144) hx hb dX5_gather_97 (by decide) (fun c2 => ?_) (fun c2 => ?_)
                  · replace hf := gT hf c2
                    exact J144 l2 l3 l4 v _ _ ls hP hD hS (lv_sub hl [1, 2, 3, 4] rfl) hf
                  · replace hf := gF hf c2
                    refine lv_aload_n hx hb dX5_gather_100 rfl (lv_at hl 1 rfl) ?_
                    refine va_get (D := D) (ci := 5) (v := .ref (ad 6)) (C := RX5) (T := TX5) (N := 9) hx hb hts inA_X5 hown hK hP 0 rfl rfl 4 (by decide) (hts _ kF_X5_28) (fun _ h9 => h9) rfl dX5_gather_101 ?_
                    refine lv_iload hx hb dX5_gather_104 (lv_at hl 0 rfl) ?_
                    obtain ⟨x1, hcx1, hf⟩ := gB hf
                    refine k_r (run_weak (w_SN (As := [.ref (ad 6), .int (((l4 <<< ((10 : Int32) &&& 31)) ||| (((l2 - l4) &&& (15 : Int32)) <<< ((6 : Int32) &&& 31))) ||| x0)]) (rest := []) (n := 2) ⟨hx, hb, hml, hown, hts⟩ (c_X6_at l D cI cR (ad 6) 16384 v.2.2.2.2.1 (((l4 <<< ((10 : Int32) &&& 31)) ||| (((l2 - l4) &&& (15 : Int32)) <<< ((6 : Int32) &&& 31))) ||| x0) _ x1 hcx1) (nM_X5_98 hN) kS_X6_at kZ_X6 kK_X6_at ⟨rfl, rfl⟩ ⟨(Nat.le_of_ble_eq_true rfl), (Nat.le_of_ble_eq_true rfl)⟩ pd_X6_at rfl hK hN hP hD [6] rfl rfl rfl hl.1 (Nat.le_of_ble_eq_true rfl) dX5_gather_106 ⟨(Nat.le_of_ble_eq_true rfl), (Nat.le_of_ble_eq_true rfl)⟩)) ?_
                    refine lv_sipush (v := (1000 : Int32)) hx hb dX5_gather_109 (by decide) ?_
                    refine lv_icmp_ne (tgt := 144) hx hb dX5_gather_112 (by decide) (fun c3 => ?_) (fun c3 => ?_)
                    · replace hf := gF hf c3
                      exact J144 l2 l3 l4 v _ _ ls hP hD hS (lv_sub hl [1, 2, 3, 4] rfl) hf
                    · replace hf := gT hf c3
                      refine lv_aload_n hx hb dX5_gather_115 rfl (lv_at hl 1 rfl) ?_
                      refine va_get (D := D) (ci := 5) (v := .ref (ad 7)) (C := RX5) (T := TX5) (N := 9) hx hb hts inA_X5 hown hK hP 0 rfl rfl 5 (by decide) (hts _ kF_X5_31) (fun _ h9 => h9) rfl dX5_gather_116 ?_
                      refine lv_aload_n hx hb dX5_gather_119 rfl (lv_at hl 1 rfl) ?_
                      refine va_get (D := D) (ci := 5) (v := .int v.2.2.2.2.2.2.1) (C := RX5) (T := TX5) (N := 9) hx hb hts inA_X5 hown hK hP 0 rfl rfl 6 (by decide) (hts _ kF_X5_34) (fun _ h9 => h9) rfl dX5_gather_120 ?_
                      refine lv_iload hx hb dX5_gather_123 (lv_at hl 0 rfl) ?_
                      obtain ⟨x2, hcx2, hf⟩ := gB hf
                      refine j_v (wr := [(ad 0, .inr (5, [.ref (ad 1), .ref (ad 3), .ref (ad 4), .ref (ad 5), .ref (ad 6), .ref (ad 7), .int v.2.2.2.2.2.2.1, .int v.2.2.2.2.2.2.2.1, .int v.2.2.2.2.2.2.2.2])), (ad 1, .inr (3, [.ref (ad 2), .int v.1.2])), (ad 2, .inl (cI, 15, .inl v.1.1)), (ad 3, .inl (cI, 1024, .inl v.2.1)), (ad 4, .inl (cI, 64, .inl v.2.2.1)), (ad 5, .inl (cI, 16384, .inl v.2.2.2.1)), (ad 6, .inl (cI, 16384, .inl v.2.2.2.2.1))]) (w_SN (As := [.ref (ad 7), .int v.2.2.2.2.2.2.1, .int (((l4 <<< ((10 : Int32) &&& 31)) ||| (((l2 - l4) &&& (15 : Int32)) <<< ((6 : Int32) &&& 31))) ||| x0)]) (rest := []) (n := 3) ⟨hx, hb, hml, hown, hts⟩ (c_X6_put l D cI cR (ad 7) 16384 v.2.2.2.2.2.1 v.2.2.2.2.2.2.1 (((l4 <<< ((10 : Int32) &&& 31)) ||| (((l2 - l4) &&& (15 : Int32)) <<< ((6 : Int32) &&& 31))) ||| x0) _ x2 hcx2) (nM_X5_59 hN) kS_X6_put kZ_X6 kK_X6_put ⟨rfl, rfl⟩ ⟨(Nat.le_of_ble_eq_true rfl), (Nat.le_of_ble_eq_true rfl)⟩ pd_X6_put rfl hK hN hP hD [7] rfl rfl rfl hl.1 (Nat.le_of_ble_eq_true rfl) dX5_gather_125 ⟨(Nat.le_of_ble_eq_true rfl), (Nat.le_of_ble_eq_true rfl)⟩) hP hD hS hA [7] [0, 1, 2, 3, 4, 5, 6] rfl rfl rfl (by decide) (fun H locs hP hD hS => ?_)
                      have hP : va_P D vwCl [(ad 0, .inr (5, [.ref (ad 1), .ref (ad 3), .ref (ad 4), .ref (ad 5), .ref (ad 6), .ref (ad 7), .int v.2.2.2.2.2.2.1, .int v.2.2.2.2.2.2.2.1, .int v.2.2.2.2.2.2.2.2])), (ad 1, .inr (3, [.ref (ad 2), .int v.1.2])), (ad 2, .inl (cI, 15, .inl v.1.1)), (ad 3, .inl (cI, 1024, .inl v.2.1)), (ad 4, .inl (cI, 64, .inl v.2.2.1)), (ad 5, .inl (cI, 16384, .inl v.2.2.2.1)), (ad 6, .inl (cI, 16384, .inl v.2.2.2.2.1)), (ad 7, .inl (cI, 16384, .inl x2))] H := hP
                      have hD : va_D A [(ad 0, .inr (5, [.ref (ad 1), .ref (ad 3), .ref (ad 4), .ref (ad 5), .ref (ad 6), .ref (ad 7), .int v.2.2.2.2.2.2.1, .int v.2.2.2.2.2.2.2.1, .int v.2.2.2.2.2.2.2.2])), (ad 1, .inr (3, [.ref (ad 2), .int v.1.2])), (ad 2, .inl (cI, 15, .inl v.1.1)), (ad 3, .inl (cI, 1024, .inl v.2.1)), (ad 4, .inl (cI, 64, .inl v.2.2.1)), (ad 5, .inl (cI, 16384, .inl v.2.2.2.1)), (ad 6, .inl (cI, 16384, .inl v.2.2.2.2.1)), (ad 7, .inl (cI, 16384, .inl x2))] := hD
                      refine lv_aload_n hx hb dX5_gather_128 rfl (lv_at hl 1 rfl) ?_
                      refine lv_dup hx hb dX5_gather_129 rfl ?_
                      refine va_get (D := D) (ci := 5) (v := .int v.2.2.2.2.2.2.1) (C := RX5) (T := TX5) (N := 9) hx hb hts inA_X5 hown hK hP 0 rfl rfl 6 (by decide) (hts _ kF_X5_34) (fun _ h9 => h9) rfl dX5_gather_130 ?_
                      refine lv_iconst (v := (1 : Int32)) hx hb dX5_gather_133 (by decide) ?_
                      refine lv_iadd hx hb dX5_gather_134 ?_
                      refine va_put (D := D) (ci := 5) (v := .int (v.2.2.2.2.2.2.1 + (1 : Int32))) (ty := .int) (C := RX5) (T := TX5) (N := 9) hx hb hts inA_X5 tyX5 tyX5_ok nmX5 hown hK hP hD hS 0 rfl rfl 6 (by decide) (hts _ kF_X5_34) (fun _ h9 => h9) rfl (tyX5_ok 6 (by decide)) rfl rfl (Nat.le_of_ble_eq_true rfl) dX5_gather_135 (fun H locs hP hD hS => ?_)
                      have hP : va_P D vwCl [(ad 0, .inr (5, [.ref (ad 1), .ref (ad 3), .ref (ad 4), .ref (ad 5), .ref (ad 6), .ref (ad 7), .int (v.2.2.2.2.2.2.1 + (1 : Int32)), .int v.2.2.2.2.2.2.2.1, .int v.2.2.2.2.2.2.2.2])), (ad 1, .inr (3, [.ref (ad 2), .int v.1.2])), (ad 2, .inl (cI, 15, .inl v.1.1)), (ad 3, .inl (cI, 1024, .inl v.2.1)), (ad 4, .inl (cI, 64, .inl v.2.2.1)), (ad 5, .inl (cI, 16384, .inl v.2.2.2.1)), (ad 6, .inl (cI, 16384, .inl v.2.2.2.2.1)), (ad 7, .inl (cI, 16384, .inl x2))] H := hP
                      have hD : va_D A [(ad 0, .inr (5, [.ref (ad 1), .ref (ad 3), .ref (ad 4), .ref (ad 5), .ref (ad 6), .ref (ad 7), .int (v.2.2.2.2.2.2.1 + (1 : Int32)), .int v.2.2.2.2.2.2.2.1, .int v.2.2.2.2.2.2.2.2])), (ad 1, .inr (3, [.ref (ad 2), .int v.1.2])), (ad 2, .inl (cI, 15, .inl v.1.1)), (ad 3, .inl (cI, 1024, .inl v.2.1)), (ad 4, .inl (cI, 64, .inl v.2.2.1)), (ad 5, .inl (cI, 16384, .inl v.2.2.2.1)), (ad 6, .inl (cI, 16384, .inl v.2.2.2.2.1)), (ad 7, .inl (cI, 16384, .inl x2))] := hD
                      refine lv_aload_n hx hb dX5_gather_138 rfl (lv_at hl 1 rfl) ?_
                      refine lv_iload hx hb dX5_gather_139 (lv_at hl 0 rfl) ?_
                      obtain ⟨x3, hcx3, hf⟩ := gB hf
                      refine j_v (wr := []) (w_V (As := [.int (((l4 <<< ((10 : Int32) &&& 31)) ||| (((l2 - l4) &&& (15 : Int32)) <<< ((6 : Int32) &&& 31))) ||| x0)]) (rest := []) (n := 1) ⟨hx, hb, hml, hown, hts⟩ (c_X5_guessAllAfter l D cI cR ad (v.1, v.2.1, v.2.2.1, v.2.2.2.1, v.2.2.2.2.1, x2, (v.2.2.2.2.2.2.1 + (1 : Int32)), v.2.2.2.2.2.2.2.1, v.2.2.2.2.2.2.2.2) (((l4 <<< ((10 : Int32) &&& 31)) ||| (((l2 - l4) &&& (15 : Int32)) <<< ((6 : Int32) &&& 31))) ||| x0) _ x3 hcx3) kM_X5_132 kN_X5_guessAllAfter kV_X5_guessAllAfter kZ_X5 kK_X5_guessAllAfter ⟨rfl, rfl⟩ ⟨(Nat.le_of_ble_eq_true rfl), (Nat.le_of_ble_eq_true rfl)⟩ pd_X5_guessAllAfter rfl hK hN hP hD [0, 1, 2, 3, 4, 5, 6, 7] rfl rfl 0 5 rfl rfl rfl hl.1 (Nat.le_of_ble_eq_true rfl) dX5_gather_141 ⟨(Nat.le_of_ble_eq_true rfl), (Nat.le_of_ble_eq_true rfl)⟩) hP hD hS hA [0, 1, 2, 3, 4, 5, 6, 7] [] rfl rfl rfl (by decide) (fun H locs hP hD hS => ?_)
                      have hP : va_P D vwCl [(ad 0, .inr (5, [.ref (ad 1), .ref (ad 3), .ref (ad 4), .ref (ad 5), .ref (ad 6), .ref (ad 7), .int x3.2.2.2.2.2.2.1, .int x3.2.2.2.2.2.2.2.1, .int x3.2.2.2.2.2.2.2.2])), (ad 1, .inr (3, [.ref (ad 2), .int x3.1.2])), (ad 2, .inl (cI, 15, .inl x3.1.1)), (ad 3, .inl (cI, 1024, .inl x3.2.1)), (ad 4, .inl (cI, 64, .inl x3.2.2.1)), (ad 5, .inl (cI, 16384, .inl x3.2.2.2.1)), (ad 6, .inl (cI, 16384, .inl x3.2.2.2.2.1)), (ad 7, .inl (cI, 16384, .inl x3.2.2.2.2.2.1))] H := hP
                      have hD : va_D A [(ad 0, .inr (5, [.ref (ad 1), .ref (ad 3), .ref (ad 4), .ref (ad 5), .ref (ad 6), .ref (ad 7), .int x3.2.2.2.2.2.2.1, .int x3.2.2.2.2.2.2.2.1, .int x3.2.2.2.2.2.2.2.2])), (ad 1, .inr (3, [.ref (ad 2), .int x3.1.2])), (ad 2, .inl (cI, 15, .inl x3.1.1)), (ad 3, .inl (cI, 1024, .inl x3.2.1)), (ad 4, .inl (cI, 64, .inl x3.2.2.1)), (ad 5, .inl (cI, 16384, .inl x3.2.2.2.1)), (ad 6, .inl (cI, 16384, .inl x3.2.2.2.2.1)), (ad 7, .inl (cI, 16384, .inl x3.2.2.2.2.2.1))] := hD
                      exact J144 l2 l3 l4 x3 _ _ ls hP hD hS (lv_sub hl [1, 2, 3, 4] rfl) hf
          intro l2 l3 v H locs ls hP hD hS hl hf
          rw [f_X5_gather_L34] at hf
          refine lv_iload_n hx hb dX5_gather_34 rfl (lv_at hl 2 rfl) ?_
          refine lv_if_lt (tgt := 156) hx hb dX5_gather_35 (by decide) (fun c4 => ?_) (fun c4 => ?_)
          · replace hf := gT hf c4
            refine lv_iinc (v := (l2 + (1 : Int32))) (lv' := [(2, .int (l2 + (1 : Int32))), (0, .ref (ad 0)), (3, .int l3)]) hx hb dX5_gather_156 hl (k := 1) rfl rfl (by decide) rfl (fun ls hl => ?_)
            refine lv_goto (tgt := 18) hx hb dX5_gather_159 (by decide) ?_
            exact ih_L18 (l2 + (1 : Int32)) v _ _ ls hP hD hS (lv_sub hl [1, 0] rfl) hf
          · replace hf := gF hf c4
            refine lv_iconst (v := (0 : Int32)) hx hb dX5_gather_38 (by decide) ?_
            refine lv_istore (lv' := [(4, .int (0 : Int32)), (0, .ref (ad 0)), (2, .int l2), (3, .int l3)]) hx hb dX5_gather_39 hl (by decide) rfl (fun ls hl => ?_)
            exact L41 gas l2 l3 (0 : Int32) v _ _ ls hP hD hS (lv_sub hl [1, 2, 3, 0] rfl) hf
      intro l2 v H locs ls hP hD hS hl hf
      rw [f_X5_gather_L18] at hf
      refine lv_iload_n hx hb dX5_gather_18 rfl (lv_at hl 1 rfl) ?_
      refine lv_iconst (v := (2 : Int32)) hx hb dX5_gather_19 (by decide) ?_
      refine lv_aload_n hx hb dX5_gather_20 rfl (lv_at hl 0 rfl) ?_
      refine va_get (D := D) (ci := 5) (v := .ref (ad 1)) (C := RX5) (T := TX5) (N := 9) hx hb hts inA_X5 hown hK hP 0 rfl rfl 0 (by decide) (hts _ kF_X5_12) (fun _ h9 => h9) rfl dX5_gather_21 ?_
      refine va_getN (D := D) (ci := 3) (v := .int v.1.2) (C := RX3) (T := TX3) (N := 2) hx hb hts inA_X3 hown hK hP 1 rfl rfl 1 (by decide) (va_Nw.use rfl (nF_X5_83 hN)) (fun _ h9 => h9) rfl dX5_gather_24 ?_
      refine lv_imul hx hb dX5_gather_27 ?_
      refine lv_icmp_gt (tgt := 162) hx hb dX5_gather_28 (by decide) (fun c5 => ?_) (fun c5 => ?_)
      · replace hf := gT hf c5
        exact z_v hf (fun r => oX5 cI cR ad r) hx hb hr hlk hS hP hD dX5_gather_162
      · replace hf := gF hf c5
        refine lv_bipush (v := (63 : Int32)) hx hb dX5_gather_31 (by decide) ?_
        refine lv_istore_n (lv' := [(3, .int (63 : Int32)), (0, .ref (ad 0)), (2, .int l2)]) hx hb dX5_gather_33 rfl hl (by decide) rfl (fun ls hl => ?_)
        exact L34 gas l2 (63 : Int32) v _ _ ls hP hD hS (lv_sub hl [1, 2, 0] rfl) hf
  unfold f_X5_gather at hf
  refine lv_aload_n hx hb dX5_gather_0 rfl (lv_at hl 0 rfl) ?_
  refine lv_iconst (v := (0 : Int32)) hx hb dX5_gather_1 (by decide) ?_
  refine va_put (D := D) (ci := 5) (v := .int (0 : Int32)) (ty := .int) (C := RX5) (T := TX5) (N := 9) hx hb hts inA_X5 tyX5 tyX5_ok nmX5 hown hK hP hD hS 0 rfl rfl 6 (by decide) (hts _ kF_X5_34) (fun _ h9 => h9) rfl (tyX5_ok 6 (by decide)) rfl rfl (Nat.le_of_ble_eq_true rfl) dX5_gather_2 (fun H locs hP hD hS => ?_)
  have hP : va_P D vwCl [(ad 0, .inr (5, [.ref (ad 1), .ref (ad 3), .ref (ad 4), .ref (ad 5), .ref (ad 6), .ref (ad 7), .int (0 : Int32), .int v.2.2.2.2.2.2.2.1, .int v.2.2.2.2.2.2.2.2])), (ad 1, .inr (3, [.ref (ad 2), .int v.1.2])), (ad 2, .inl (cI, 15, .inl v.1.1)), (ad 3, .inl (cI, 1024, .inl v.2.1)), (ad 4, .inl (cI, 64, .inl v.2.2.1)), (ad 5, .inl (cI, 16384, .inl v.2.2.2.1)), (ad 6, .inl (cI, 16384, .inl v.2.2.2.2.1)), (ad 7, .inl (cI, 16384, .inl v.2.2.2.2.2.1))] H := hP
  have hD : va_D A [(ad 0, .inr (5, [.ref (ad 1), .ref (ad 3), .ref (ad 4), .ref (ad 5), .ref (ad 6), .ref (ad 7), .int (0 : Int32), .int v.2.2.2.2.2.2.2.1, .int v.2.2.2.2.2.2.2.2])), (ad 1, .inr (3, [.ref (ad 2), .int v.1.2])), (ad 2, .inl (cI, 15, .inl v.1.1)), (ad 3, .inl (cI, 1024, .inl v.2.1)), (ad 4, .inl (cI, 64, .inl v.2.2.1)), (ad 5, .inl (cI, 16384, .inl v.2.2.2.1)), (ad 6, .inl (cI, 16384, .inl v.2.2.2.2.1)), (ad 7, .inl (cI, 16384, .inl v.2.2.2.2.2.1))] := hD
  refine lv_aload_n hx hb dX5_gather_5 rfl (lv_at hl 0 rfl) ?_
  refine va_get (D := D) (ci := 5) (v := .ref (ad 6)) (C := RX5) (T := TX5) (N := 9) hx hb hts inA_X5 hown hK hP 0 rfl rfl 4 (by decide) (hts _ kF_X5_28) (fun _ h9 => h9) rfl dX5_gather_6 ?_
  refine lv_iload_n hx hb dX5_gather_9 rfl (lv_at hl 1 rfl) ?_
  refine lv_sipush (v := (1000 : Int32)) hx hb dX5_gather_10 (by decide) ?_
  obtain ⟨x4, hcx4, hf⟩ := gB hf
  refine j_v (wr := [(ad 0, .inr (5, [.ref (ad 1), .ref (ad 3), .ref (ad 4), .ref (ad 5), .ref (ad 6), .ref (ad 7), .int (0 : Int32), .int v.2.2.2.2.2.2.2.1, .int v.2.2.2.2.2.2.2.2])), (ad 1, .inr (3, [.ref (ad 2), .int v.1.2])), (ad 2, .inl (cI, 15, .inl v.1.1)), (ad 3, .inl (cI, 1024, .inl v.2.1)), (ad 4, .inl (cI, 64, .inl v.2.2.1)), (ad 5, .inl (cI, 16384, .inl v.2.2.2.1)), (ad 7, .inl (cI, 16384, .inl v.2.2.2.2.2.1))]) (w_SN (As := [.ref (ad 6), .int p1, .int (1000 : Int32)]) (rest := []) (n := 3) ⟨hx, hb, hml, hown, hts⟩ (c_X6_put l D cI cR (ad 6) 16384 v.2.2.2.2.1 p1 (1000 : Int32) _ x4 hcx4) (nM_X5_59 hN) kS_X6_put kZ_X6 kK_X6_put ⟨rfl, rfl⟩ ⟨(Nat.le_of_ble_eq_true rfl), (Nat.le_of_ble_eq_true rfl)⟩ pd_X6_put rfl hK hN hP hD [6] rfl rfl rfl hl.1 (Nat.le_of_ble_eq_true rfl) dX5_gather_13 ⟨(Nat.le_of_ble_eq_true rfl), (Nat.le_of_ble_eq_true rfl)⟩) hP hD hS hA [6] [0, 1, 2, 3, 4, 5, 7] rfl rfl rfl (by decide) (fun H locs hP hD hS => ?_)
  have hP : va_P D vwCl [(ad 0, .inr (5, [.ref (ad 1), .ref (ad 3), .ref (ad 4), .ref (ad 5), .ref (ad 6), .ref (ad 7), .int (0 : Int32), .int v.2.2.2.2.2.2.2.1, .int v.2.2.2.2.2.2.2.2])), (ad 1, .inr (3, [.ref (ad 2), .int v.1.2])), (ad 2, .inl (cI, 15, .inl v.1.1)), (ad 3, .inl (cI, 1024, .inl v.2.1)), (ad 4, .inl (cI, 64, .inl v.2.2.1)), (ad 5, .inl (cI, 16384, .inl v.2.2.2.1)), (ad 7, .inl (cI, 16384, .inl v.2.2.2.2.2.1)), (ad 6, .inl (cI, 16384, .inl x4))] H := hP
  have hD : va_D A [(ad 0, .inr (5, [.ref (ad 1), .ref (ad 3), .ref (ad 4), .ref (ad 5), .ref (ad 6), .ref (ad 7), .int (0 : Int32), .int v.2.2.2.2.2.2.2.1, .int v.2.2.2.2.2.2.2.2])), (ad 1, .inr (3, [.ref (ad 2), .int v.1.2])), (ad 2, .inl (cI, 15, .inl v.1.1)), (ad 3, .inl (cI, 1024, .inl v.2.1)), (ad 4, .inl (cI, 64, .inl v.2.2.1)), (ad 5, .inl (cI, 16384, .inl v.2.2.2.1)), (ad 7, .inl (cI, 16384, .inl v.2.2.2.2.2.1)), (ad 6, .inl (cI, 16384, .inl x4))] := hD
  refine lv_iconst (v := (0 : Int32)) hx hb dX5_gather_16 (by decide) ?_
  refine lv_istore_n (lv' := [(2, .int (0 : Int32)), (0, .ref (ad 0)), (1, .int p1)]) hx hb dX5_gather_17 rfl hl (by decide) rfl (fun ls hl => ?_)
  exact L18 gas (0 : Int32) (v.1, v.2.1, v.2.2.1, v.2.2.2.1, x4, v.2.2.2.2.2.1, (0 : Int32), v.2.2.2.2.2.2.2.1, v.2.2.2.2.2.2.2.2) _ _ ls (hP.subm [0, 1, 2, 3, 4, 5, 7, 6] rfl) (hD.sub [0, 1, 2, 3, 4, 5, 7, 6] rfl rfl) hS (lv_sub hl [1, 0] rfl) hf
def f_X5_worthBy_swept_J26 (v : tX5) (k0 : Int32) : Option Int32 :=
  (f_X5_oneTurnBefore k0).bind fun x0 => some x0
def f_X5_worthBy_swept (v : tX5) (p2 : Int32) (p3 : Int32) : Option Int32 :=
  (f_X5_after v p2 p3).bind fun x1 => (if x1 = (-1 : Int32) then f_X5_worthBy_swept_J26 v (-500 : Int32) else (f_X6_at 16384 v.2.2.2.2.1 x1).bind fun x2 => f_X5_worthBy_swept_J26 v x2)
abbrev rm_X5_worthBy_swept : Room := { frames := 2, cells := 0, slots := 0, locals := 49 }
set_option maxHeartbeats 4000000 in
set_option maxRecDepth 100000 in
theorem c_X5_worthBy_swept (l : Launch) (D : va_G) (cI cR : ClassId) (ad : Nat → Nat) (v : tX5) (p2 : Int32) (p3 : Int32) (sz : Nat) (r : Int32) (hf : f_X5_worthBy_swept v p2 p3 = some r) : Met l yX5_worthBy (wM yX5_worthBy cX5_worthBy 5 (some (.int))) rm_X5_worthBy_swept (cPre D (tysA cI cR) ([.ref (ad 0), .ref (ad 6), .int p2, .int p3] : List Value) (oX5 cI cR ad v) sz) (QcRead r) 0 0 (fun _ => False) := by
  refine en_M (own := RX5) (lv := [(0, .ref (ad 0)), (1, .ref (ad 6)), (2, .int p2), (3, .int p3)]) (by decide +kernel) rfl (Nat.le_of_ble_eq_true rfl) rfl (fun p e s m below meth c hx hb hr hlk hml hown hnm hts hsz hP hK hD hN ls hl => ?_)
  generalize va_A (oX5 cI cR ad v) sz = A at hD
  have hP : va_P D vwCl [(ad 0, .inr (5, [.ref (ad 1), .ref (ad 3), .ref (ad 4), .ref (ad 5), .ref (ad 6), .ref (ad 7), .int v.2.2.2.2.2.2.1, .int v.2.2.2.2.2.2.2.1, .int v.2.2.2.2.2.2.2.2])), (ad 1, .inr (3, [.ref (ad 2), .int v.1.2])), (ad 2, .inl (cI, 15, .inl v.1.1)), (ad 3, .inl (cI, 1024, .inl v.2.1)), (ad 4, .inl (cI, 64, .inl v.2.2.1)), (ad 5, .inl (cI, 16384, .inl v.2.2.2.1)), (ad 6, .inl (cI, 16384, .inl v.2.2.2.2.1)), (ad 7, .inl (cI, 16384, .inl v.2.2.2.2.2.1))] s.heap := hP
  have hD : va_D A [(ad 0, .inr (5, [.ref (ad 1), .ref (ad 3), .ref (ad 4), .ref (ad 5), .ref (ad 6), .ref (ad 7), .int v.2.2.2.2.2.2.1, .int v.2.2.2.2.2.2.2.1, .int v.2.2.2.2.2.2.2.2])), (ad 1, .inr (3, [.ref (ad 2), .int v.1.2])), (ad 2, .inl (cI, 15, .inl v.1.1)), (ad 3, .inl (cI, 1024, .inl v.2.1)), (ad 4, .inl (cI, 64, .inl v.2.2.1)), (ad 5, .inl (cI, 16384, .inl v.2.2.2.1)), (ad 6, .inl (cI, 16384, .inl v.2.2.2.2.1)), (ad 7, .inl (cI, 16384, .inl v.2.2.2.2.2.1))] := hD
  have J26 : ∀ (k0 : Int32) (ls : Array Slot), lv_has ls 5 [] → f_X5_worthBy_swept_J26 v k0 = some r → W p l e rm_X5_worthBy_swept s m ([.ref (ad 0), .ref (ad 6), .int p2, .int p3] : List Value).toArray below meth c s.heap [] 0 0 (MQ below (QcRead r) ([.ref (ad 0), .ref (ad 6), .int p2, .int p3] : List Value).toArray s 0 0 (fun _ => False)) (F0 m 26 ls [.int k0]) := by
    intro k0 ls hl hf
    unfold f_X5_worthBy_swept_J26 at hf
    obtain ⟨x0, hcx0, hf⟩ := gB hf
    refine k_r (r_S (As := [.int k0]) (rest := []) (n := 1) ⟨hx, hb, hml, hown, hts⟩ (c_X5_oneTurnBefore l D cI cR k0 _ x0 hcx0) kM_X5_124 kS_X5_oneTurnBefore kZ_X5 kK_X5_oneTurnBefore ⟨rfl, rfl⟩ ⟨(Nat.le_of_ble_eq_true rfl), (Nat.le_of_ble_eq_true rfl)⟩ pd_X5_oneTurnBefore rfl hK hN hP hD [] rfl rfl rfl hl.1 (Nat.le_of_ble_eq_true rfl) dX5_worthBy_26 ⟨(Nat.le_of_ble_eq_true rfl), (Nat.le_of_ble_eq_true rfl)⟩) ?_
    exact z_r hf hx hb hr hlk dX5_worthBy_29
  unfold f_X5_worthBy_swept at hf
  refine lv_aload_n hx hb dX5_worthBy_0 rfl (lv_at hl 0 rfl) ?_
  refine lv_iload_n hx hb dX5_worthBy_1 rfl (lv_at hl 2 rfl) ?_
  refine lv_iload_n hx hb dX5_worthBy_2 rfl (lv_at hl 3 rfl) ?_
  obtain ⟨x1, hcx1, hf⟩ := gB hf
  refine k_r (r_V (As := [.int p2, .int p3]) (rest := []) (n := 2) ⟨hx, hb, hml, hown, hts⟩ (c_X5_after l D cI cR ad v p2 p3 _ x1 hcx1) kM_X5_110 kN_X5_after kV_X5_after kZ_X5 kK_X5_after ⟨rfl, rfl⟩ ⟨(Nat.le_of_ble_eq_true rfl), (Nat.le_of_ble_eq_true rfl)⟩ pd_X5_after rfl hK hN hP hD [0, 1, 2, 3, 4, 5, 6, 7] rfl rfl 0 5 rfl rfl rfl hl.1 (Nat.le_of_ble_eq_true rfl) dX5_worthBy_3 ⟨(Nat.le_of_ble_eq_true rfl), (Nat.le_of_ble_eq_true rfl)⟩) ?_
  refine lv_istore (lv' := [(4, .int x1), (0, .ref (ad 0)), (1, .ref (ad 6)), (2, .int p2), (3, .int p3)]) hx hb dX5_worthBy_6 hl (by decide) rfl (fun ls hl => ?_)
  refine lv_iload hx hb dX5_worthBy_8 (lv_at hl 0 rfl) ?_
  refine lv_iconst (v := (-1 : Int32)) hx hb dX5_worthBy_10 (by decide) ?_
  refine lv_icmp_ne (tgt := 20) hx hb dX5_worthBy_11 (by decide) (fun c0 => ?_) (fun c0 => ?_)
  · replace hf := gF hf c0
    refine lv_aload_n hx hb dX5_worthBy_20 rfl (lv_at hl 2 rfl) ?_
    refine lv_iload hx hb dX5_worthBy_21 (lv_at hl 0 rfl) ?_
    obtain ⟨x2, hcx2, hf⟩ := gB hf
    refine k_r (run_weak (w_SN (As := [.ref (ad 6), .int x1]) (rest := []) (n := 2) ⟨hx, hb, hml, hown, hts⟩ (c_X6_at l D cI cR (ad 6) 16384 v.2.2.2.2.1 x1 _ x2 hcx2) (nM_X5_98 hN) kS_X6_at kZ_X6 kK_X6_at ⟨rfl, rfl⟩ ⟨(Nat.le_of_ble_eq_true rfl), (Nat.le_of_ble_eq_true rfl)⟩ pd_X6_at rfl hK hN hP hD [6] rfl rfl rfl hl.1 (Nat.le_of_ble_eq_true rfl) dX5_worthBy_23 ⟨(Nat.le_of_ble_eq_true rfl), (Nat.le_of_ble_eq_true rfl)⟩)) ?_
    exact J26 x2 ls (lv_sub hl [] rfl) hf
  · replace hf := gT hf c0
    refine lv_sipush (v := (-500 : Int32)) hx hb dX5_worthBy_14 (by decide) ?_
    refine lv_goto (tgt := 26) hx hb dX5_worthBy_17 (by decide) ?_
    exact J26 (-500 : Int32) ls (lv_sub hl [] rfl) hf
def f_X5_greatestSwept_J35 (v : tX5) (kL6 : Int32 → Int32 → Int32 → Option Int32) (l1 : Int32) (l2 : Int32) (l3 : Int32) : Option Int32 :=
  kL6 l1 l2 (l3 + (1 : Int32))
def f_X5_greatestSwept_L6 (v : tX5) : Nat → Int32 → Int32 → Int32 → Option Int32
  | 0, _, _, _ => none
  | nL6 + 1, l1, l2, l3 =>
    (if (5 : Int32) < l3 then some l2 else (f_X5_isPossible v l1 l3).bind fun x0 => (if x0 = 0 then f_X5_greatestSwept_J35 v (f_X5_greatestSwept_L6 v nL6) l1 l2 l3 else (f_X5_worthBy_swept v l1 l3).bind fun x1 => f_X5_greatestSwept_J35 v (f_X5_greatestSwept_L6 v nL6) l1 (if l2 < x1 then x1 else l2) l3))
def f_X5_greatestSwept (v : tX5) (p1 : Int32) : Option Int32 :=
  f_X5_greatestSwept_L6 v gas p1 (-500 : Int32) (0 : Int32)
abbrev rm_X5_greatestSwept : Room := { frames := 3, cells := 0, slots := 0, locals := 73 }
set_option maxHeartbeats 4000000 in
set_option maxRecDepth 100000 in
theorem c_X5_greatestSwept (l : Launch) (D : va_G) (cI cR : ClassId) (ad : Nat → Nat) (v : tX5) (p1 : Int32) (sz : Nat) (r : Int32) (hf : f_X5_greatestSwept v p1 = some r) : Met l yX5_greatestSwept (wM yX5_greatestSwept cX5_greatestSwept 4 (some (.int))) rm_X5_greatestSwept (cPre D (tysA cI cR) ([.ref (ad 0), .int p1] : List Value) (oX5 cI cR ad v) sz) (QcRead r) 0 0 (fun _ => False) := by
  refine en_M (own := RX5) (lv := [(0, .ref (ad 0)), (1, .int p1)]) (by decide +kernel) rfl (Nat.le_of_ble_eq_true rfl) rfl (fun p e s m below meth c hx hb hr hlk hml hown hnm hts hsz hP hK hD hN ls hl => ?_)
  generalize va_A (oX5 cI cR ad v) sz = A at hD
  have hP : va_P D vwCl [(ad 0, .inr (5, [.ref (ad 1), .ref (ad 3), .ref (ad 4), .ref (ad 5), .ref (ad 6), .ref (ad 7), .int v.2.2.2.2.2.2.1, .int v.2.2.2.2.2.2.2.1, .int v.2.2.2.2.2.2.2.2])), (ad 1, .inr (3, [.ref (ad 2), .int v.1.2])), (ad 2, .inl (cI, 15, .inl v.1.1)), (ad 3, .inl (cI, 1024, .inl v.2.1)), (ad 4, .inl (cI, 64, .inl v.2.2.1)), (ad 5, .inl (cI, 16384, .inl v.2.2.2.1)), (ad 6, .inl (cI, 16384, .inl v.2.2.2.2.1)), (ad 7, .inl (cI, 16384, .inl v.2.2.2.2.2.1))] s.heap := hP
  have hD : va_D A [(ad 0, .inr (5, [.ref (ad 1), .ref (ad 3), .ref (ad 4), .ref (ad 5), .ref (ad 6), .ref (ad 7), .int v.2.2.2.2.2.2.1, .int v.2.2.2.2.2.2.2.1, .int v.2.2.2.2.2.2.2.2])), (ad 1, .inr (3, [.ref (ad 2), .int v.1.2])), (ad 2, .inl (cI, 15, .inl v.1.1)), (ad 3, .inl (cI, 1024, .inl v.2.1)), (ad 4, .inl (cI, 64, .inl v.2.2.1)), (ad 5, .inl (cI, 16384, .inl v.2.2.2.1)), (ad 6, .inl (cI, 16384, .inl v.2.2.2.2.1)), (ad 7, .inl (cI, 16384, .inl v.2.2.2.2.2.1))] := hD
  have L6 : ∀ (nL6 : Nat) (l1 : Int32) (l2 : Int32) (l3 : Int32) (ls : Array Slot), lv_has ls 4 [(0, .ref (ad 0)), (1, .int l1), (2, .int l2), (3, .int l3)] → f_X5_greatestSwept_L6 v nL6 l1 l2 l3 = some r → W p l e rm_X5_greatestSwept s m ([.ref (ad 0), .int p1] : List Value).toArray below meth c s.heap [] 0 0 (MQ below (QcRead r) ([.ref (ad 0), .int p1] : List Value).toArray s 0 0 (fun _ => False)) (F0 m 6 ls []) := by
    intro nL6
    induction nL6 with
    | zero =>
      intro l1 l2 l3 ls hl hf
      cases hf
    | succ nL6 ih_L6 =>
      have J35 : ∀ (l1 : Int32) (l2 : Int32) (l3 : Int32) (ls : Array Slot), lv_has ls 4 [(0, .ref (ad 0)), (1, .int l1), (2, .int l2), (3, .int l3)] → f_X5_greatestSwept_J35 v (f_X5_greatestSwept_L6 v nL6) l1 l2 l3 = some r → W p l e rm_X5_greatestSwept s m ([.ref (ad 0), .int p1] : List Value).toArray below meth c s.heap [] 0 0 (MQ below (QcRead r) ([.ref (ad 0), .int p1] : List Value).toArray s 0 0 (fun _ => False)) (F0 m 35 ls []) := by
        intro l1 l2 l3 ls hl hf
        unfold f_X5_greatestSwept_J35 at hf
        refine lv_iinc (v := (l3 + (1 : Int32))) (lv' := [(3, .int (l3 + (1 : Int32))), (0, .ref (ad 0)), (1, .int l1), (2, .int l2)]) hx hb dX5_greatestSwept_35 hl (k := 3) rfl rfl (by decide) rfl (fun ls hl => ?_)
        refine lv_goto (tgt := 6) hx hb dX5_greatestSwept_38 (by decide) ?_
        exact ih_L6 l1 l2 (l3 + (1 : Int32)) ls (lv_sub hl [1, 2, 3, 0] rfl) hf
      intro l1 l2 l3 ls hl hf
      rw [f_X5_greatestSwept_L6] at hf
      refine lv_iload_n hx hb dX5_greatestSwept_6 rfl (lv_at hl 3 rfl) ?_
      refine lv_iconst (v := (5 : Int32)) hx hb dX5_greatestSwept_7 (by decide) ?_
      refine lv_icmp_gt (tgt := 41) hx hb dX5_greatestSwept_8 (by decide) (fun c0 => ?_) (fun c0 => ?_)
      · replace hf := gT hf c0
        refine lv_iload_n hx hb dX5_greatestSwept_41 rfl (lv_at hl 2 rfl) ?_
        exact z_r hf hx hb hr hlk dX5_greatestSwept_42
      · replace hf := gF hf c0
        refine lv_aload_n hx hb dX5_greatestSwept_11 rfl (lv_at hl 0 rfl) ?_
        refine lv_iload_n hx hb dX5_greatestSwept_12 rfl (lv_at hl 1 rfl) ?_
        refine lv_iload_n hx hb dX5_greatestSwept_13 rfl (lv_at hl 3 rfl) ?_
        obtain ⟨x0, hcx0, hf⟩ := gB hf
        refine k_r (r_V (As := [.int l1, .int l3]) (rest := []) (n := 2) ⟨hx, hb, hml, hown, hts⟩ (c_X5_isPossible l D cI cR ad v l1 l3 _ x0 hcx0) kM_X5_117 kN_X5_isPossible kV_X5_isPossible kZ_X5 kK_X5_isPossible ⟨rfl, rfl⟩ ⟨(Nat.le_of_ble_eq_true rfl), (Nat.le_of_ble_eq_true rfl)⟩ pd_X5_isPossible rfl hK hN hP hD [0, 1, 2, 3, 4, 5, 6, 7] rfl rfl 0 5 rfl rfl rfl hl.1 (Nat.le_of_ble_eq_true rfl) dX5_greatestSwept_14 ⟨(Nat.le_of_ble_eq_true rfl), (Nat.le_of_ble_eq_true rfl)⟩) ?_
        refine lv_if_eq (tgt := 35) hx hb dX5_greatestSwept_17 (by decide) (fun c1 => ?_) (fun c1 => ?_)
        · replace hf := gT hf c1
          exact J35 l1 l2 l3 ls (lv_sub hl [0, 1, 2, 3] rfl) hf
        · replace hf := gF hf c1
          refine lv_iload_n hx hb dX5_greatestSwept_20 rfl (lv_at hl 2 rfl) ?_
          refine lv_aload_n hx hb dX5_greatestSwept_21 rfl (lv_at hl 0 rfl) ?_
          refine lv_aload_n hx hb dX5_greatestSwept_22 rfl (lv_at hl 0 rfl) ?_
          refine va_get (D := D) (ci := 5) (v := .ref (ad 6)) (C := RX5) (T := TX5) (N := 9) hx hb hts inA_X5 hown hK hP 0 rfl rfl 4 (by decide) (hts _ kF_X5_28) (fun _ h9 => h9) rfl dX5_greatestSwept_23 ?_
          refine lv_iload_n hx hb dX5_greatestSwept_26 rfl (lv_at hl 1 rfl) ?_
          refine lv_iload_n hx hb dX5_greatestSwept_27 rfl (lv_at hl 3 rfl) ?_
          obtain ⟨x1, hcx1, hf⟩ := gB hf
          refine k_r (r_V (As := [.ref (ad 6), .int l1, .int l3]) (rest := [.int l2]) (n := 3) ⟨hx, hb, hml, hown, hts⟩ (c_X5_worthBy_swept l D cI cR ad v l1 l3 _ x1 hcx1) kM_X5_113 kN_X5_worthBy kV_X5_worthBy kZ_X5 kK_X5_worthBy ⟨rfl, rfl⟩ ⟨(Nat.le_of_ble_eq_true rfl), (Nat.le_of_ble_eq_true rfl)⟩ pd_X5_worthBy rfl hK hN hP hD [0, 1, 2, 3, 4, 5, 6, 7] rfl rfl 0 5 rfl rfl rfl hl.1 (Nat.le_of_ble_eq_true rfl) dX5_greatestSwept_28 ⟨(Nat.le_of_ble_eq_true rfl), (Nat.le_of_ble_eq_true rfl)⟩) ?_
          refine va_mmax hx hb (hml.trans hl.1.symm) hown (hts _ kM_X5_127) (hts _ kS_J9_max_7cf53) (hts _ kZ_J9) (hts _ kK_J9_max_7cf53) (Nat.le_of_ble_eq_true rfl) (Nat.le_of_ble_eq_true rfl) (Nat.le_of_ble_eq_true rfl) (Nat.le_of_ble_eq_true rfl) dX5_greatestSwept_31 ?_
          refine lv_istore_n (lv' := [(2, .int (if l2 < x1 then x1 else l2)), (0, .ref (ad 0)), (1, .int l1), (3, .int l3)]) hx hb dX5_greatestSwept_34 rfl hl (by decide) rfl (fun ls hl => ?_)
          exact J35 l1 (if l2 < x1 then x1 else l2) l3 ls (lv_sub hl [1, 2, 0, 3] rfl) hf
  unfold f_X5_greatestSwept at hf
  refine lv_sipush (v := (-500 : Int32)) hx hb dX5_greatestSwept_0 (by decide) ?_
  refine lv_istore_n (lv' := [(2, .int (-500 : Int32)), (0, .ref (ad 0)), (1, .int p1)]) hx hb dX5_greatestSwept_3 rfl hl (by decide) rfl (fun ls hl => ?_)
  refine lv_iconst (v := (0 : Int32)) hx hb dX5_greatestSwept_4 (by decide) ?_
  refine lv_istore_n (lv' := [(3, .int (0 : Int32)), (2, .int (-500 : Int32)), (0, .ref (ad 0)), (1, .int p1)]) hx hb dX5_greatestSwept_5 rfl hl (by decide) rfl (fun ls hl => ?_)
  exact L6 gas p1 (-500 : Int32) (0 : Int32) ls (lv_sub hl [2, 3, 1, 0] rfl) hf
def f_X5_sweep_J51 (kL9 : Int32 → Int32 → tX5 → Option (Int32 × tX5)) (l2 : Int32) (l3 : Int32) (l4 : Int32) (k0 : Int32) (v : tX5) : Option (Int32 × tX5) :=
  (f_X6_put 16384 v.2.2.2.2.1 l3 l4).bind fun x0 => kL9 k0 (l2 + (-1 : Int32)) (v.1, v.2.1, v.2.2.1, v.2.2.2.1, x0, v.2.2.2.2.2.1, v.2.2.2.2.2.2.1, v.2.2.2.2.2.2.2.1, v.2.2.2.2.2.2.2.2)
def f_X5_sweep_J46 (kL9 : Int32 → Int32 → tX5 → Option (Int32 × tX5)) (l2 : Int32) (l3 : Int32) (l4 : Int32) (v : tX5) : Option (Int32 × tX5) :=
  f_X5_sweep_J51 kL9 l2 l3 l4 (1 : Int32) v
def f_X5_sweep_L9 : Nat → Int32 → Int32 → tX5 → Option (Int32 × tX5)
  | 0, _, _, _ => none
  | nL9 + 1, l1, l2, v =>
    (if l2 < 0 then (if bq l1 = true then some (l1, v) else none) else (f_X6_at 16384 v.2.2.2.2.2.1 l2).bind fun x1 => (f_X5_greatestSwept v x1).bind fun x2 => (if l1 = 0 then (f_X6_at 16384 v.2.2.2.2.1 x1).bind fun x3 => (if x2 = x3 then f_X5_sweep_J51 (f_X5_sweep_L9 nL9) l2 x1 x2 (0 : Int32) v else f_X5_sweep_J46 (f_X5_sweep_L9 nL9) l2 x1 x2 v) else f_X5_sweep_J46 (f_X5_sweep_L9 nL9) l2 x1 x2 v))
def f_X5_sweep (v : tX5) : Option (Int32 × tX5) :=
  f_X5_sweep_L9 gas (0 : Int32) (v.2.2.2.2.2.2.1 - (1 : Int32)) v
abbrev rm_X5_sweep : Room := { frames := 4, cells := 0, slots := 0, locals := 96 }
set_option maxHeartbeats 4000000 in
set_option maxRecDepth 100000 in
theorem c_X5_sweep (l : Launch) (D : va_G) (cI cR : ClassId) (ad : Nat → Nat) (v : tX5) (sz : Nat) (r : (Int32 × tX5)) (hf : f_X5_sweep v = some r) : Met l yX5_sweep (wM yX5_sweep cX5_sweep 5 (some (.boolean))) rm_X5_sweep (cPre D (tysA cI cR) ([.ref (ad 0)] : List Value) (oX5 cI cR ad v) sz) (qI D (oX5 cI cR ad r.2) r.1 (va_A (oX5 cI cR ad v) sz)) 0 0 (va_A (oX5 cI cR ad v) sz) := by
  refine en_M (own := RX5) (lv := [(0, .ref (ad 0))]) (by decide +kernel) rfl (Nat.le_of_ble_eq_true rfl) rfl (fun p e s m below meth c hx hb hr hlk hml hown hnm hts hsz hP hK hD hN ls hl => ?_)
  subst hsz
  generalize hAe : va_A (oX5 cI cR ad v) s.heap.size = A at hD ⊢
  have hA : ∀ q : Nat, s.heap.size ≤ q → A q := fun q h => by rw [← hAe]; exact Or.inr h
  have hS : va_S A s.heap s.heap [] := va_S.rf
  have hP : va_P D vwCl [(ad 0, .inr (5, [.ref (ad 1), .ref (ad 3), .ref (ad 4), .ref (ad 5), .ref (ad 6), .ref (ad 7), .int v.2.2.2.2.2.2.1, .int v.2.2.2.2.2.2.2.1, .int v.2.2.2.2.2.2.2.2])), (ad 1, .inr (3, [.ref (ad 2), .int v.1.2])), (ad 2, .inl (cI, 15, .inl v.1.1)), (ad 3, .inl (cI, 1024, .inl v.2.1)), (ad 4, .inl (cI, 64, .inl v.2.2.1)), (ad 5, .inl (cI, 16384, .inl v.2.2.2.1)), (ad 6, .inl (cI, 16384, .inl v.2.2.2.2.1)), (ad 7, .inl (cI, 16384, .inl v.2.2.2.2.2.1))] s.heap := hP
  have hD : va_D A [(ad 0, .inr (5, [.ref (ad 1), .ref (ad 3), .ref (ad 4), .ref (ad 5), .ref (ad 6), .ref (ad 7), .int v.2.2.2.2.2.2.1, .int v.2.2.2.2.2.2.2.1, .int v.2.2.2.2.2.2.2.2])), (ad 1, .inr (3, [.ref (ad 2), .int v.1.2])), (ad 2, .inl (cI, 15, .inl v.1.1)), (ad 3, .inl (cI, 1024, .inl v.2.1)), (ad 4, .inl (cI, 64, .inl v.2.2.1)), (ad 5, .inl (cI, 16384, .inl v.2.2.2.1)), (ad 6, .inl (cI, 16384, .inl v.2.2.2.2.1)), (ad 7, .inl (cI, 16384, .inl v.2.2.2.2.2.1))] := hD
  have L9 : ∀ (nL9 : Nat) (l1 : Int32) (l2 : Int32) (v : tX5) (H : Heap) (locs : List Loc) (ls : Array Slot), va_P D vwCl [(ad 0, .inr (5, [.ref (ad 1), .ref (ad 3), .ref (ad 4), .ref (ad 5), .ref (ad 6), .ref (ad 7), .int v.2.2.2.2.2.2.1, .int v.2.2.2.2.2.2.2.1, .int v.2.2.2.2.2.2.2.2])), (ad 1, .inr (3, [.ref (ad 2), .int v.1.2])), (ad 2, .inl (cI, 15, .inl v.1.1)), (ad 3, .inl (cI, 1024, .inl v.2.1)), (ad 4, .inl (cI, 64, .inl v.2.2.1)), (ad 5, .inl (cI, 16384, .inl v.2.2.2.1)), (ad 6, .inl (cI, 16384, .inl v.2.2.2.2.1)), (ad 7, .inl (cI, 16384, .inl v.2.2.2.2.2.1))] H → va_D A [(ad 0, .inr (5, [.ref (ad 1), .ref (ad 3), .ref (ad 4), .ref (ad 5), .ref (ad 6), .ref (ad 7), .int v.2.2.2.2.2.2.1, .int v.2.2.2.2.2.2.2.1, .int v.2.2.2.2.2.2.2.2])), (ad 1, .inr (3, [.ref (ad 2), .int v.1.2])), (ad 2, .inl (cI, 15, .inl v.1.1)), (ad 3, .inl (cI, 1024, .inl v.2.1)), (ad 4, .inl (cI, 64, .inl v.2.2.1)), (ad 5, .inl (cI, 16384, .inl v.2.2.2.1)), (ad 6, .inl (cI, 16384, .inl v.2.2.2.2.1)), (ad 7, .inl (cI, 16384, .inl v.2.2.2.2.2.1))] → va_S A s.heap H locs → lv_has ls 5 [(0, .ref (ad 0)), (1, .int l1), (2, .int l2)] → f_X5_sweep_L9 nL9 l1 l2 v = some r → W p l e rm_X5_sweep s m ([.ref (ad 0)] : List Value).toArray below meth c H locs 0 0 (MQ below (qI D (oX5 cI cR ad r.2) r.1 A) ([.ref (ad 0)] : List Value).toArray s 0 0 A) (F0 m 9 ls []) := by
    intro nL9
    induction nL9 with
    | zero =>
      intro l1 l2 v H locs ls hP hD hS hl hf
      cases hf
    | succ nL9 ih_L9 =>
      have J51 : ∀ (l2 : Int32) (l3 : Int32) (l4 : Int32) (k0 : Int32) (v : tX5) (H : Heap) (locs : List Loc) (ls : Array Slot), va_P D vwCl [(ad 0, .inr (5, [.ref (ad 1), .ref (ad 3), .ref (ad 4), .ref (ad 5), .ref (ad 6), .ref (ad 7), .int v.2.2.2.2.2.2.1, .int v.2.2.2.2.2.2.2.1, .int v.2.2.2.2.2.2.2.2])), (ad 1, .inr (3, [.ref (ad 2), .int v.1.2])), (ad 2, .inl (cI, 15, .inl v.1.1)), (ad 3, .inl (cI, 1024, .inl v.2.1)), (ad 4, .inl (cI, 64, .inl v.2.2.1)), (ad 5, .inl (cI, 16384, .inl v.2.2.2.1)), (ad 6, .inl (cI, 16384, .inl v.2.2.2.2.1)), (ad 7, .inl (cI, 16384, .inl v.2.2.2.2.2.1))] H → va_D A [(ad 0, .inr (5, [.ref (ad 1), .ref (ad 3), .ref (ad 4), .ref (ad 5), .ref (ad 6), .ref (ad 7), .int v.2.2.2.2.2.2.1, .int v.2.2.2.2.2.2.2.1, .int v.2.2.2.2.2.2.2.2])), (ad 1, .inr (3, [.ref (ad 2), .int v.1.2])), (ad 2, .inl (cI, 15, .inl v.1.1)), (ad 3, .inl (cI, 1024, .inl v.2.1)), (ad 4, .inl (cI, 64, .inl v.2.2.1)), (ad 5, .inl (cI, 16384, .inl v.2.2.2.1)), (ad 6, .inl (cI, 16384, .inl v.2.2.2.2.1)), (ad 7, .inl (cI, 16384, .inl v.2.2.2.2.2.1))] → va_S A s.heap H locs → lv_has ls 5 [(0, .ref (ad 0)), (2, .int l2), (3, .int l3), (4, .int l4)] → f_X5_sweep_J51 (f_X5_sweep_L9 nL9) l2 l3 l4 k0 v = some r → W p l e rm_X5_sweep s m ([.ref (ad 0)] : List Value).toArray below meth c H locs 0 0 (MQ below (qI D (oX5 cI cR ad r.2) r.1 A) ([.ref (ad 0)] : List Value).toArray s 0 0 A) (F0 m 51 ls [.int k0]) := by
        intro l2 l3 l4 k0 v H locs ls hP hD hS hl hf
        unfold f_X5_sweep_J51 at hf
        refine lv_istore_n (lv' := [(1, .int k0), (0, .ref (ad 0)), (2, .int l2), (3, .int l3), (4, .int l4)]) hx hb dX5_sweep_51 rfl hl (by decide) rfl (fun ls hl => ?_)
        refine lv_aload_n hx hb dX5_sweep_52 rfl (lv_at hl 1 rfl) ?_
        refine va_get (D := D) (ci := 5) (v := .ref (ad 6)) (C := RX5) (T := TX5) (N := 9) hx hb hts inA_X5 hown hK hP 0 rfl rfl 4 (by decide) (hts _ kF_X5_28) (fun _ h9 => h9) rfl dX5_sweep_53 ?_
        refine lv_iload_n hx hb dX5_sweep_56 rfl (lv_at hl 3 rfl) ?_
        refine lv_iload hx hb dX5_sweep_57 (lv_at hl 4 rfl) ?_
        obtain ⟨x0, hcx0, hf⟩ := gB hf
        refine j_v (wr := [(ad 0, .inr (5, [.ref (ad 1), .ref (ad 3), .ref (ad 4), .ref (ad 5), .ref (ad 6), .ref (ad 7), .int v.2.2.2.2.2.2.1, .int v.2.2.2.2.2.2.2.1, .int v.2.2.2.2.2.2.2.2])), (ad 1, .inr (3, [.ref (ad 2), .int v.1.2])), (ad 2, .inl (cI, 15, .inl v.1.1)), (ad 3, .inl (cI, 1024, .inl v.2.1)), (ad 4, .inl (cI, 64, .inl v.2.2.1)), (ad 5, .inl (cI, 16384, .inl v.2.2.2.1)), (ad 7, .inl (cI, 16384, .inl v.2.2.2.2.2.1))]) (w_SN (As := [.ref (ad 6), .int l3, .int l4]) (rest := []) (n := 3) ⟨hx, hb, hml, hown, hts⟩ (c_X6_put l D cI cR (ad 6) 16384 v.2.2.2.2.1 l3 l4 _ x0 hcx0) (nM_X5_59 hN) kS_X6_put kZ_X6 kK_X6_put ⟨rfl, rfl⟩ ⟨(Nat.le_of_ble_eq_true rfl), (Nat.le_of_ble_eq_true rfl)⟩ pd_X6_put rfl hK hN hP hD [6] rfl rfl rfl hl.1 (Nat.le_of_ble_eq_true rfl) dX5_sweep_59 ⟨(Nat.le_of_ble_eq_true rfl), (Nat.le_of_ble_eq_true rfl)⟩) hP hD hS hA [6] [0, 1, 2, 3, 4, 5, 7] rfl rfl rfl (by decide) (fun H locs hP hD hS => ?_)
        have hP : va_P D vwCl [(ad 0, .inr (5, [.ref (ad 1), .ref (ad 3), .ref (ad 4), .ref (ad 5), .ref (ad 6), .ref (ad 7), .int v.2.2.2.2.2.2.1, .int v.2.2.2.2.2.2.2.1, .int v.2.2.2.2.2.2.2.2])), (ad 1, .inr (3, [.ref (ad 2), .int v.1.2])), (ad 2, .inl (cI, 15, .inl v.1.1)), (ad 3, .inl (cI, 1024, .inl v.2.1)), (ad 4, .inl (cI, 64, .inl v.2.2.1)), (ad 5, .inl (cI, 16384, .inl v.2.2.2.1)), (ad 7, .inl (cI, 16384, .inl v.2.2.2.2.2.1)), (ad 6, .inl (cI, 16384, .inl x0))] H := hP
        have hD : va_D A [(ad 0, .inr (5, [.ref (ad 1), .ref (ad 3), .ref (ad 4), .ref (ad 5), .ref (ad 6), .ref (ad 7), .int v.2.2.2.2.2.2.1, .int v.2.2.2.2.2.2.2.1, .int v.2.2.2.2.2.2.2.2])), (ad 1, .inr (3, [.ref (ad 2), .int v.1.2])), (ad 2, .inl (cI, 15, .inl v.1.1)), (ad 3, .inl (cI, 1024, .inl v.2.1)), (ad 4, .inl (cI, 64, .inl v.2.2.1)), (ad 5, .inl (cI, 16384, .inl v.2.2.2.1)), (ad 7, .inl (cI, 16384, .inl v.2.2.2.2.2.1)), (ad 6, .inl (cI, 16384, .inl x0))] := hD
        refine lv_iinc (v := (l2 + (-1 : Int32))) (lv' := [(2, .int (l2 + (-1 : Int32))), (1, .int k0), (0, .ref (ad 0)), (3, .int l3), (4, .int l4)]) hx hb dX5_sweep_62 hl (k := 2) rfl rfl (by decide) rfl (fun ls hl => ?_)
        refine lv_goto (tgt := 9) hx hb dX5_sweep_65 (by decide) ?_
        exact ih_L9 k0 (l2 + (-1 : Int32)) (v.1, v.2.1, v.2.2.1, v.2.2.2.1, x0, v.2.2.2.2.2.1, v.2.2.2.2.2.2.1, v.2.2.2.2.2.2.2.1, v.2.2.2.2.2.2.2.2) _ _ ls (hP.subm [0, 1, 2, 3, 4, 5, 7, 6] rfl) (hD.sub [0, 1, 2, 3, 4, 5, 7, 6] rfl rfl) hS (lv_sub hl [2, 1, 0] rfl) hf
      have J46 : ∀ (l2 : Int32) (l3 : Int32) (l4 : Int32) (v : tX5) (H : Heap) (locs : List Loc) (ls : Array Slot), va_P D vwCl [(ad 0, .inr (5, [.ref (ad 1), .ref (ad 3), .ref (ad 4), .ref (ad 5), .ref (ad 6), .ref (ad 7), .int v.2.2.2.2.2.2.1, .int v.2.2.2.2.2.2.2.1, .int v.2.2.2.2.2.2.2.2])), (ad 1, .inr (3, [.ref (ad 2), .int v.1.2])), (ad 2, .inl (cI, 15, .inl v.1.1)), (ad 3, .inl (cI, 1024, .inl v.2.1)), (ad 4, .inl (cI, 64, .inl v.2.2.1)), (ad 5, .inl (cI, 16384, .inl v.2.2.2.1)), (ad 6, .inl (cI, 16384, .inl v.2.2.2.2.1)), (ad 7, .inl (cI, 16384, .inl v.2.2.2.2.2.1))] H → va_D A [(ad 0, .inr (5, [.ref (ad 1), .ref (ad 3), .ref (ad 4), .ref (ad 5), .ref (ad 6), .ref (ad 7), .int v.2.2.2.2.2.2.1, .int v.2.2.2.2.2.2.2.1, .int v.2.2.2.2.2.2.2.2])), (ad 1, .inr (3, [.ref (ad 2), .int v.1.2])), (ad 2, .inl (cI, 15, .inl v.1.1)), (ad 3, .inl (cI, 1024, .inl v.2.1)), (ad 4, .inl (cI, 64, .inl v.2.2.1)), (ad 5, .inl (cI, 16384, .inl v.2.2.2.1)), (ad 6, .inl (cI, 16384, .inl v.2.2.2.2.1)), (ad 7, .inl (cI, 16384, .inl v.2.2.2.2.2.1))] → va_S A s.heap H locs → lv_has ls 5 [(0, .ref (ad 0)), (2, .int l2), (3, .int l3), (4, .int l4)] → f_X5_sweep_J46 (f_X5_sweep_L9 nL9) l2 l3 l4 v = some r → W p l e rm_X5_sweep s m ([.ref (ad 0)] : List Value).toArray below meth c H locs 0 0 (MQ below (qI D (oX5 cI cR ad r.2) r.1 A) ([.ref (ad 0)] : List Value).toArray s 0 0 A) (F0 m 46 ls []) := by
        intro l2 l3 l4 v H locs ls hP hD hS hl hf
        unfold f_X5_sweep_J46 at hf
        refine lv_iconst (v := (1 : Int32)) hx hb dX5_sweep_46 (by decide) ?_
        refine lv_goto (tgt := 51) hx hb dX5_sweep_47 (by decide) ?_
        exact J51 l2 l3 l4 (1 : Int32) v _ _ ls hP hD hS (lv_sub hl [0, 1, 2, 3] rfl) hf
      intro l1 l2 v H locs ls hP hD hS hl hf
      rw [f_X5_sweep_L9] at hf
      refine lv_iload_n hx hb dX5_sweep_9 rfl (lv_at hl 2 rfl) ?_
      refine lv_if_lt (tgt := 68) hx hb dX5_sweep_10 (by decide) (fun c0 => ?_) (fun c0 => ?_)
      · replace hf := gT hf c0
        refine lv_iload_n hx hb dX5_sweep_68 rfl (lv_at hl 1 rfl) ?_
        obtain ⟨g0, hf⟩ := gd hf
        exact z_z hf (fun r => r.1) (fun r => oX5 cI cR ad r.2) hx hb hr hlk g0 hS hP hD dX5_sweep_69
      · replace hf := gF hf c0
        refine lv_aload_n hx hb dX5_sweep_13 rfl (lv_at hl 0 rfl) ?_
        refine va_get (D := D) (ci := 5) (v := .ref (ad 7)) (C := RX5) (T := TX5) (N := 9) hx hb hts inA_X5 hown hK hP 0 rfl rfl 5 (by decide) (hts _ kF_X5_31) (fun _ h9 => h9) rfl dX5_sweep_14 ?_
        refine lv_iload_n hx hb dX5_sweep_17 rfl (lv_at hl 2 rfl) ?_
        obtain ⟨x1, hcx1, hf⟩ := gB hf
        refine k_r (run_weak (w_SN (As := [.ref (ad 7), .int l2]) (rest := []) (n := 2) ⟨hx, hb, hml, hown, hts⟩ (c_X6_at l D cI cR (ad 7) 16384 v.2.2.2.2.2.1 l2 _ x1 hcx1) (nM_X5_98 hN) kS_X6_at kZ_X6 kK_X6_at ⟨rfl, rfl⟩ ⟨(Nat.le_of_ble_eq_true rfl), (Nat.le_of_ble_eq_true rfl)⟩ pd_X6_at rfl hK hN hP hD [7] rfl rfl rfl hl.1 (Nat.le_of_ble_eq_true rfl) dX5_sweep_18 ⟨(Nat.le_of_ble_eq_true rfl), (Nat.le_of_ble_eq_true rfl)⟩)) ?_
        refine lv_istore_n (lv' := [(3, .int x1), (0, .ref (ad 0)), (1, .int l1), (2, .int l2)]) hx hb dX5_sweep_21 rfl hl (by decide) rfl (fun ls hl => ?_)
        refine lv_aload_n hx hb dX5_sweep_22 rfl (lv_at hl 1 rfl) ?_
        refine lv_iload_n hx hb dX5_sweep_23 rfl (lv_at hl 0 rfl) ?_
        obtain ⟨x2, hcx2, hf⟩ := gB hf
        refine k_r (r_V (As := [.int x1]) (rest := []) (n := 1) ⟨hx, hb, hml, hown, hts⟩ (c_X5_greatestSwept l D cI cR ad v x1 _ x2 hcx2) kM_X5_135 kN_X5_greatestSwept kV_X5_greatestSwept kZ_X5 kK_X5_greatestSwept ⟨rfl, rfl⟩ ⟨(Nat.le_of_ble_eq_true rfl), (Nat.le_of_ble_eq_true rfl)⟩ pd_X5_greatestSwept rfl hK hN hP hD [0, 1, 2, 3, 4, 5, 6, 7] rfl rfl 0 5 rfl rfl rfl hl.1 (Nat.le_of_ble_eq_true rfl) dX5_sweep_24 ⟨(Nat.le_of_ble_eq_true rfl), (Nat.le_of_ble_eq_true rfl)⟩) ?_
        refine lv_istore (lv' := [(4, .int x2), (3, .int x1), (0, .ref (ad 0)), (1, .int l1), (2, .int l2)]) hx hb dX5_sweep_27 hl (by decide) rfl (fun ls hl => ?_)
        refine lv_iload_n hx hb dX5_sweep_29 rfl (lv_at hl 3 rfl) ?_
        refine lv_if_ne (tgt := 46) hx hb dX5_sweep_30 (by decide) (fun c1 => ?_) (fun c1 => ?_)
        · replace hf := gF hf c1
          exact J46 l2 x1 x2 v _ _ ls hP hD hS (lv_sub hl [2, 4, 1, 0] rfl) hf
        · replace hf := gT hf c1
          refine lv_iload hx hb dX5_sweep_33 (lv_at hl 0 rfl) ?_
          refine lv_aload_n hx hb dX5_sweep_35 rfl (lv_at hl 2 rfl) ?_
          refine va_get (D := D) (ci := 5) (v := .ref (ad 6)) (C := RX5) (T := TX5) (N := 9) hx hb hts inA_X5 hown hK hP 0 rfl rfl 4 (by decide) (hts _ kF_X5_28) (fun _ h9 => h9) rfl dX5_sweep_36 ?_
          refine lv_iload_n hx hb dX5_sweep_39 rfl (lv_at hl 1 rfl) ?_
          obtain ⟨x3, hcx3, hf⟩ := gB hf
          refine k_r (run_weak (w_SN (As := [.ref (ad 6), .int x1]) (rest := [.int x2]) (n := 2) ⟨hx, hb, hml, hown, hts⟩ (c_X6_at l D cI cR (ad 6) 16384 v.2.2.2.2.1 x1 _ x3 hcx3) (nM_X5_98 hN) kS_X6_at kZ_X6 kK_X6_at ⟨rfl, rfl⟩ ⟨(Nat.le_of_ble_eq_true rfl), (Nat.le_of_ble_eq_true rfl)⟩ pd_X6_at rfl hK hN hP hD [6] rfl rfl rfl hl.1 (Nat.le_of_ble_eq_true rfl) dX5_sweep_40 ⟨(Nat.le_of_ble_eq_true rfl), (Nat.le_of_ble_eq_true rfl)⟩)) ?_
          refine lv_icmp_eq (tgt := 50) hx hb dX5_sweep_43 (by decide) (fun c2 => ?_) (fun c2 => ?_)
          · replace hf := gT hf c2
            refine lv_iconst (v := (0 : Int32)) hx hb dX5_sweep_50 (by decide) ?_
            exact J51 l2 x1 x2 (0 : Int32) v _ _ ls hP hD hS (lv_sub hl [2, 4, 1, 0] rfl) hf
          · replace hf := gF hf c2
            exact J46 l2 x1 x2 v _ _ ls hP hD hS (lv_sub hl [2, 4, 1, 0] rfl) hf
  unfold f_X5_sweep at hf
  refine lv_iconst (v := (0 : Int32)) hx hb dX5_sweep_0 (by decide) ?_
  refine lv_istore_n (lv' := [(1, .int (0 : Int32)), (0, .ref (ad 0))]) hx hb dX5_sweep_1 rfl hl (by decide) rfl (fun ls hl => ?_)
  refine lv_aload_n hx hb dX5_sweep_2 rfl (lv_at hl 1 rfl) ?_
  refine va_get (D := D) (ci := 5) (v := .int v.2.2.2.2.2.2.1) (C := RX5) (T := TX5) (N := 9) hx hb hts inA_X5 hown hK hP 0 rfl rfl 6 (by decide) (hts _ kF_X5_34) (fun _ h9 => h9) rfl dX5_sweep_3 ?_
  refine lv_iconst (v := (1 : Int32)) hx hb dX5_sweep_6 (by decide) ?_
  refine lv_isub hx hb dX5_sweep_7 ?_
  refine lv_istore_n (lv' := [(2, .int (v.2.2.2.2.2.2.1 - (1 : Int32))), (1, .int (0 : Int32)), (0, .ref (ad 0))]) hx hb dX5_sweep_8 rfl hl (by decide) rfl (fun ls hl => ?_)
  exact L9 gas (0 : Int32) (v.2.2.2.2.2.2.1 - (1 : Int32)) v _ _ ls hP hD hS (lv_sub hl [2, 1, 0] rfl) hf
def f_X5_toldBySweeps_J57 (v1 : tX2) (l2 : Int32) (v : tX5) : Option (Int32 × tX5) :=
  (f_X6_at 16384 v.2.2.2.2.1 l2).bind fun x0 => some (x0, v)
def f_X5_toldBySweeps_L34 (v1 : tX2) : Nat → Int32 → Int32 → Int32 → tX5 → Option (Int32 × tX5)
  | 0, _, _, _, _ => none
  | nL34 + 1, l2, l3, l4, v =>
    (if (1000 : Int32) ≤ l4 then f_X5_toldBySweeps_J57 v1 l2 v else (if l3 = 0 then f_X5_toldBySweeps_J57 v1 l2 v else (f_X5_sweep v).bind fun x1 => f_X5_toldBySweeps_L34 v1 nL34 l2 x1.1 (l4 + (1 : Int32)) x1.2))
def f_X5_toldBySweeps_J31 (v1 : tX2) (l2 : Int32) (l3 : Int32) (v : tX5) : Option (Int32 × tX5) :=
  f_X5_toldBySweeps_L34 v1 gas l2 l3 (0 : Int32) v
def f_X5_toldBySweeps_J21 (v1 : tX2) (l2 : Int32) (k0 : Int32) (v : tX5) : Option (Int32 × tX5) :=
  (if k0 = 0 then f_X5_toldBySweeps_J31 v1 l2 k0 v else (f_X5_gather v l2).bind fun x2 => f_X5_toldBySweeps_J31 v1 l2 k0 x2)
def f_X5_toldBySweeps (v : tX5) (v1 : tX2) : Option (Int32 × tX5) :=
  (f_X5_standOf v1).bind fun x3 => (f_X6_at 16384 v.2.2.2.2.1 x3).bind fun x4 => (if x4 = 0 then f_X5_toldBySweeps_J21 v1 x3 (1 : Int32) v else f_X5_toldBySweeps_J21 v1 x3 (0 : Int32) v)
abbrev rm_X5_toldBySweeps : Room := { frames := 5, cells := 0, slots := 0, locals := 120 }
set_option maxHeartbeats 4000000 in
set_option maxRecDepth 100000 in
theorem c_X5_toldBySweeps (l : Launch) (D : va_G) (cI cR : ClassId) (ad : Nat → Nat) (v : tX5) (ad1 : Nat → Nat) (v1 : tX2) (sz : Nat) (r : (Int32 × tX5)) (hf : f_X5_toldBySweeps v v1 = some r) : Met l yX5_toldBySweeps (wM yX5_toldBySweeps cX5_toldBySweeps 5 (some (.int))) rm_X5_toldBySweeps (cPre D (tysA cI cR) ([.ref (ad 0), .ref (ad1 0)] : List Value) (oX5 cI cR ad v ++ oX2 cI cR ad1 v1) sz) (qI D (oX5 cI cR ad r.2 ++ oX2 cI cR ad1 v1) r.1 (va_A (oX5 cI cR ad v ++ oX2 cI cR ad1 v1) sz)) 0 0 (va_A (oX5 cI cR ad v ++ oX2 cI cR ad1 v1) sz) := by
  refine en_M (own := RX5) (lv := [(0, .ref (ad 0)), (1, .ref (ad1 0))]) (by decide +kernel) rfl (Nat.le_of_ble_eq_true rfl) rfl (fun p e s m below meth c hx hb hr hlk hml hown hnm hts hsz hP hK hD hN ls hl => ?_)
  subst hsz
  generalize hAe : va_A (oX5 cI cR ad v ++ oX2 cI cR ad1 v1) s.heap.size = A at hD ⊢
  have hA : ∀ q : Nat, s.heap.size ≤ q → A q := fun q h => by rw [← hAe]; exact Or.inr h
  have hS : va_S A s.heap s.heap [] := va_S.rf
  have hP : va_P D vwCl [(ad 0, .inr (5, [.ref (ad 1), .ref (ad 3), .ref (ad 4), .ref (ad 5), .ref (ad 6), .ref (ad 7), .int v.2.2.2.2.2.2.1, .int v.2.2.2.2.2.2.2.1, .int v.2.2.2.2.2.2.2.2])), (ad 1, .inr (3, [.ref (ad 2), .int v.1.2])), (ad 2, .inl (cI, 15, .inl v.1.1)), (ad 3, .inl (cI, 1024, .inl v.2.1)), (ad 4, .inl (cI, 64, .inl v.2.2.1)), (ad 5, .inl (cI, 16384, .inl v.2.2.2.1)), (ad 6, .inl (cI, 16384, .inl v.2.2.2.2.1)), (ad 7, .inl (cI, 16384, .inl v.2.2.2.2.2.1)), (ad1 0, .inr (2, [.ref (ad1 1), .ref (ad1 3), .ref (ad1 5), .int v1.2.2.2.1, .int v1.2.2.2.2.1, .int v1.2.2.2.2.2.1, .int v1.2.2.2.2.2.2.1, .int v1.2.2.2.2.2.2.2.1, .int v1.2.2.2.2.2.2.2.2.1, .int v1.2.2.2.2.2.2.2.2.2.1, .int v1.2.2.2.2.2.2.2.2.2.2])), (ad1 1, .inr (3, [.ref (ad1 2), .int v1.1.2])), (ad1 2, .inl (cI, 15, .inl v1.1.1)), (ad1 3, .inr (4, [.ref (ad1 4), .int v1.2.1.2.1, .int v1.2.1.2.2.1, .int v1.2.1.2.2.2.1, .int v1.2.1.2.2.2.2.1, .int v1.2.1.2.2.2.2.2.1, .int v1.2.1.2.2.2.2.2.2.1, .int v1.2.1.2.2.2.2.2.2.2.1, .int v1.2.1.2.2.2.2.2.2.2.2])), (ad1 4, .inl (cI, 15, .inl v1.2.1.1)), (ad1 5, .inr (4, [.ref (ad1 6), .int v1.2.2.1.2.1, .int v1.2.2.1.2.2.1, .int v1.2.2.1.2.2.2.1, .int v1.2.2.1.2.2.2.2.1, .int v1.2.2.1.2.2.2.2.2.1, .int v1.2.2.1.2.2.2.2.2.2.1, .int v1.2.2.1.2.2.2.2.2.2.2.1, .int v1.2.2.1.2.2.2.2.2.2.2.2])), (ad1 6, .inl (cI, 15, .inl v1.2.2.1.1))] s.heap := hP
  have hD : va_D A [(ad 0, .inr (5, [.ref (ad 1), .ref (ad 3), .ref (ad 4), .ref (ad 5), .ref (ad 6), .ref (ad 7), .int v.2.2.2.2.2.2.1, .int v.2.2.2.2.2.2.2.1, .int v.2.2.2.2.2.2.2.2])), (ad 1, .inr (3, [.ref (ad 2), .int v.1.2])), (ad 2, .inl (cI, 15, .inl v.1.1)), (ad 3, .inl (cI, 1024, .inl v.2.1)), (ad 4, .inl (cI, 64, .inl v.2.2.1)), (ad 5, .inl (cI, 16384, .inl v.2.2.2.1)), (ad 6, .inl (cI, 16384, .inl v.2.2.2.2.1)), (ad 7, .inl (cI, 16384, .inl v.2.2.2.2.2.1)), (ad1 0, .inr (2, [.ref (ad1 1), .ref (ad1 3), .ref (ad1 5), .int v1.2.2.2.1, .int v1.2.2.2.2.1, .int v1.2.2.2.2.2.1, .int v1.2.2.2.2.2.2.1, .int v1.2.2.2.2.2.2.2.1, .int v1.2.2.2.2.2.2.2.2.1, .int v1.2.2.2.2.2.2.2.2.2.1, .int v1.2.2.2.2.2.2.2.2.2.2])), (ad1 1, .inr (3, [.ref (ad1 2), .int v1.1.2])), (ad1 2, .inl (cI, 15, .inl v1.1.1)), (ad1 3, .inr (4, [.ref (ad1 4), .int v1.2.1.2.1, .int v1.2.1.2.2.1, .int v1.2.1.2.2.2.1, .int v1.2.1.2.2.2.2.1, .int v1.2.1.2.2.2.2.2.1, .int v1.2.1.2.2.2.2.2.2.1, .int v1.2.1.2.2.2.2.2.2.2.1, .int v1.2.1.2.2.2.2.2.2.2.2])), (ad1 4, .inl (cI, 15, .inl v1.2.1.1)), (ad1 5, .inr (4, [.ref (ad1 6), .int v1.2.2.1.2.1, .int v1.2.2.1.2.2.1, .int v1.2.2.1.2.2.2.1, .int v1.2.2.1.2.2.2.2.1, .int v1.2.2.1.2.2.2.2.2.1, .int v1.2.2.1.2.2.2.2.2.2.1, .int v1.2.2.1.2.2.2.2.2.2.2.1, .int v1.2.2.1.2.2.2.2.2.2.2.2])), (ad1 6, .inl (cI, 15, .inl v1.2.2.1.1))] := hD
  have J57 : ∀ (l2 : Int32) (v : tX5) (H : Heap) (locs : List Loc) (ls : Array Slot), va_P D vwCl [(ad 0, .inr (5, [.ref (ad 1), .ref (ad 3), .ref (ad 4), .ref (ad 5), .ref (ad 6), .ref (ad 7), .int v.2.2.2.2.2.2.1, .int v.2.2.2.2.2.2.2.1, .int v.2.2.2.2.2.2.2.2])), (ad 1, .inr (3, [.ref (ad 2), .int v.1.2])), (ad 2, .inl (cI, 15, .inl v.1.1)), (ad 3, .inl (cI, 1024, .inl v.2.1)), (ad 4, .inl (cI, 64, .inl v.2.2.1)), (ad 5, .inl (cI, 16384, .inl v.2.2.2.1)), (ad 6, .inl (cI, 16384, .inl v.2.2.2.2.1)), (ad 7, .inl (cI, 16384, .inl v.2.2.2.2.2.1)), (ad1 0, .inr (2, [.ref (ad1 1), .ref (ad1 3), .ref (ad1 5), .int v1.2.2.2.1, .int v1.2.2.2.2.1, .int v1.2.2.2.2.2.1, .int v1.2.2.2.2.2.2.1, .int v1.2.2.2.2.2.2.2.1, .int v1.2.2.2.2.2.2.2.2.1, .int v1.2.2.2.2.2.2.2.2.2.1, .int v1.2.2.2.2.2.2.2.2.2.2])), (ad1 1, .inr (3, [.ref (ad1 2), .int v1.1.2])), (ad1 2, .inl (cI, 15, .inl v1.1.1)), (ad1 3, .inr (4, [.ref (ad1 4), .int v1.2.1.2.1, .int v1.2.1.2.2.1, .int v1.2.1.2.2.2.1, .int v1.2.1.2.2.2.2.1, .int v1.2.1.2.2.2.2.2.1, .int v1.2.1.2.2.2.2.2.2.1, .int v1.2.1.2.2.2.2.2.2.2.1, .int v1.2.1.2.2.2.2.2.2.2.2])), (ad1 4, .inl (cI, 15, .inl v1.2.1.1)), (ad1 5, .inr (4, [.ref (ad1 6), .int v1.2.2.1.2.1, .int v1.2.2.1.2.2.1, .int v1.2.2.1.2.2.2.1, .int v1.2.2.1.2.2.2.2.1, .int v1.2.2.1.2.2.2.2.2.1, .int v1.2.2.1.2.2.2.2.2.2.1, .int v1.2.2.1.2.2.2.2.2.2.2.1, .int v1.2.2.1.2.2.2.2.2.2.2.2])), (ad1 6, .inl (cI, 15, .inl v1.2.2.1.1))] H → va_D A [(ad 0, .inr (5, [.ref (ad 1), .ref (ad 3), .ref (ad 4), .ref (ad 5), .ref (ad 6), .ref (ad 7), .int v.2.2.2.2.2.2.1, .int v.2.2.2.2.2.2.2.1, .int v.2.2.2.2.2.2.2.2])), (ad 1, .inr (3, [.ref (ad 2), .int v.1.2])), (ad 2, .inl (cI, 15, .inl v.1.1)), (ad 3, .inl (cI, 1024, .inl v.2.1)), (ad 4, .inl (cI, 64, .inl v.2.2.1)), (ad 5, .inl (cI, 16384, .inl v.2.2.2.1)), (ad 6, .inl (cI, 16384, .inl v.2.2.2.2.1)), (ad 7, .inl (cI, 16384, .inl v.2.2.2.2.2.1)), (ad1 0, .inr (2, [.ref (ad1 1), .ref (ad1 3), .ref (ad1 5), .int v1.2.2.2.1, .int v1.2.2.2.2.1, .int v1.2.2.2.2.2.1, .int v1.2.2.2.2.2.2.1, .int v1.2.2.2.2.2.2.2.1, .int v1.2.2.2.2.2.2.2.2.1, .int v1.2.2.2.2.2.2.2.2.2.1, .int v1.2.2.2.2.2.2.2.2.2.2])), (ad1 1, .inr (3, [.ref (ad1 2), .int v1.1.2])), (ad1 2, .inl (cI, 15, .inl v1.1.1)), (ad1 3, .inr (4, [.ref (ad1 4), .int v1.2.1.2.1, .int v1.2.1.2.2.1, .int v1.2.1.2.2.2.1, .int v1.2.1.2.2.2.2.1, .int v1.2.1.2.2.2.2.2.1, .int v1.2.1.2.2.2.2.2.2.1, .int v1.2.1.2.2.2.2.2.2.2.1, .int v1.2.1.2.2.2.2.2.2.2.2])), (ad1 4, .inl (cI, 15, .inl v1.2.1.1)), (ad1 5, .inr (4, [.ref (ad1 6), .int v1.2.2.1.2.1, .int v1.2.2.1.2.2.1, .int v1.2.2.1.2.2.2.1, .int v1.2.2.1.2.2.2.2.1, .int v1.2.2.1.2.2.2.2.2.1, .int v1.2.2.1.2.2.2.2.2.2.1, .int v1.2.2.1.2.2.2.2.2.2.2.1, .int v1.2.2.1.2.2.2.2.2.2.2.2])), (ad1 6, .inl (cI, 15, .inl v1.2.2.1.1))] → va_S A s.heap H locs → lv_has ls 5 [(0, .ref (ad 0)), (2, .int l2)] → f_X5_toldBySweeps_J57 v1 l2 v = some r → W p l e rm_X5_toldBySweeps s m ([.ref (ad 0), .ref (ad1 0)] : List Value).toArray below meth c H locs 0 0 (MQ below (qI D (oX5 cI cR ad r.2 ++ oX2 cI cR ad1 v1) r.1 A) ([.ref (ad 0), .ref (ad1 0)] : List Value).toArray s 0 0 A) (F0 m 57 ls []) := by
    intro l2 v H locs ls hP hD hS hl hf
    unfold f_X5_toldBySweeps_J57 at hf
    refine lv_aload_n hx hb dX5_toldBySweeps_57 rfl (lv_at hl 0 rfl) ?_
    refine va_get (D := D) (ci := 5) (v := .ref (ad 6)) (C := RX5) (T := TX5) (N := 9) hx hb hts inA_X5 hown hK hP 0 rfl rfl 4 (by decide) (hts _ kF_X5_28) (fun _ h9 => h9) rfl dX5_toldBySweeps_58 ?_
    refine lv_iload_n hx hb dX5_toldBySweeps_61 rfl (lv_at hl 1 rfl) ?_
    obtain ⟨x0, hcx0, hf⟩ := gB hf
    refine k_r (run_weak (w_SN (As := [.ref (ad 6), .int l2]) (rest := []) (n := 2) ⟨hx, hb, hml, hown, hts⟩ (c_X6_at l D cI cR (ad 6) 16384 v.2.2.2.2.1 l2 _ x0 hcx0) (nM_X5_98 hN) kS_X6_at kZ_X6 kK_X6_at ⟨rfl, rfl⟩ ⟨(Nat.le_of_ble_eq_true rfl), (Nat.le_of_ble_eq_true rfl)⟩ pd_X6_at rfl hK hN hP hD [6] rfl rfl rfl hl.1 (Nat.le_of_ble_eq_true rfl) dX5_toldBySweeps_62 ⟨(Nat.le_of_ble_eq_true rfl), (Nat.le_of_ble_eq_true rfl)⟩)) ?_
    exact z_i hf (fun r => r.1) (fun r => oX5 cI cR ad r.2 ++ oX2 cI cR ad1 v1) hx hb hr hlk hS hP hD dX5_toldBySweeps_65
  have L34 : ∀ (nL34 : Nat) (l2 : Int32) (l3 : Int32) (l4 : Int32) (v : tX5) (H : Heap) (locs : List Loc) (ls : Array Slot), va_P D vwCl [(ad 0, .inr (5, [.ref (ad 1), .ref (ad 3), .ref (ad 4), .ref (ad 5), .ref (ad 6), .ref (ad 7), .int v.2.2.2.2.2.2.1, .int v.2.2.2.2.2.2.2.1, .int v.2.2.2.2.2.2.2.2])), (ad 1, .inr (3, [.ref (ad 2), .int v.1.2])), (ad 2, .inl (cI, 15, .inl v.1.1)), (ad 3, .inl (cI, 1024, .inl v.2.1)), (ad 4, .inl (cI, 64, .inl v.2.2.1)), (ad 5, .inl (cI, 16384, .inl v.2.2.2.1)), (ad 6, .inl (cI, 16384, .inl v.2.2.2.2.1)), (ad 7, .inl (cI, 16384, .inl v.2.2.2.2.2.1)), (ad1 0, .inr (2, [.ref (ad1 1), .ref (ad1 3), .ref (ad1 5), .int v1.2.2.2.1, .int v1.2.2.2.2.1, .int v1.2.2.2.2.2.1, .int v1.2.2.2.2.2.2.1, .int v1.2.2.2.2.2.2.2.1, .int v1.2.2.2.2.2.2.2.2.1, .int v1.2.2.2.2.2.2.2.2.2.1, .int v1.2.2.2.2.2.2.2.2.2.2])), (ad1 1, .inr (3, [.ref (ad1 2), .int v1.1.2])), (ad1 2, .inl (cI, 15, .inl v1.1.1)), (ad1 3, .inr (4, [.ref (ad1 4), .int v1.2.1.2.1, .int v1.2.1.2.2.1, .int v1.2.1.2.2.2.1, .int v1.2.1.2.2.2.2.1, .int v1.2.1.2.2.2.2.2.1, .int v1.2.1.2.2.2.2.2.2.1, .int v1.2.1.2.2.2.2.2.2.2.1, .int v1.2.1.2.2.2.2.2.2.2.2])), (ad1 4, .inl (cI, 15, .inl v1.2.1.1)), (ad1 5, .inr (4, [.ref (ad1 6), .int v1.2.2.1.2.1, .int v1.2.2.1.2.2.1, .int v1.2.2.1.2.2.2.1, .int v1.2.2.1.2.2.2.2.1, .int v1.2.2.1.2.2.2.2.2.1, .int v1.2.2.1.2.2.2.2.2.2.1, .int v1.2.2.1.2.2.2.2.2.2.2.1, .int v1.2.2.1.2.2.2.2.2.2.2.2])), (ad1 6, .inl (cI, 15, .inl v1.2.2.1.1))] H → va_D A [(ad 0, .inr (5, [.ref (ad 1), .ref (ad 3), .ref (ad 4), .ref (ad 5), .ref (ad 6), .ref (ad 7), .int v.2.2.2.2.2.2.1, .int v.2.2.2.2.2.2.2.1, .int v.2.2.2.2.2.2.2.2])), (ad 1, .inr (3, [.ref (ad 2), .int v.1.2])), (ad 2, .inl (cI, 15, .inl v.1.1)), (ad 3, .inl (cI, 1024, .inl v.2.1)), (ad 4, .inl (cI, 64, .inl v.2.2.1)), (ad 5, .inl (cI, 16384, .inl v.2.2.2.1)), (ad 6, .inl (cI, 16384, .inl v.2.2.2.2.1)), (ad 7, .inl (cI, 16384, .inl v.2.2.2.2.2.1)), (ad1 0, .inr (2, [.ref (ad1 1), .ref (ad1 3), .ref (ad1 5), .int v1.2.2.2.1, .int v1.2.2.2.2.1, .int v1.2.2.2.2.2.1, .int v1.2.2.2.2.2.2.1, .int v1.2.2.2.2.2.2.2.1, .int v1.2.2.2.2.2.2.2.2.1, .int v1.2.2.2.2.2.2.2.2.2.1, .int v1.2.2.2.2.2.2.2.2.2.2])), (ad1 1, .inr (3, [.ref (ad1 2), .int v1.1.2])), (ad1 2, .inl (cI, 15, .inl v1.1.1)), (ad1 3, .inr (4, [.ref (ad1 4), .int v1.2.1.2.1, .int v1.2.1.2.2.1, .int v1.2.1.2.2.2.1, .int v1.2.1.2.2.2.2.1, .int v1.2.1.2.2.2.2.2.1, .int v1.2.1.2.2.2.2.2.2.1, .int v1.2.1.2.2.2.2.2.2.2.1, .int v1.2.1.2.2.2.2.2.2.2.2])), (ad1 4, .inl (cI, 15, .inl v1.2.1.1)), (ad1 5, .inr (4, [.ref (ad1 6), .int v1.2.2.1.2.1, .int v1.2.2.1.2.2.1, .int v1.2.2.1.2.2.2.1, .int v1.2.2.1.2.2.2.2.1, .int v1.2.2.1.2.2.2.2.2.1, .int v1.2.2.1.2.2.2.2.2.2.1, .int v1.2.2.1.2.2.2.2.2.2.2.1, .int v1.2.2.1.2.2.2.2.2.2.2.2])), (ad1 6, .inl (cI, 15, .inl v1.2.2.1.1))] → va_S A s.heap H locs → lv_has ls 5 [(0, .ref (ad 0)), (2, .int l2), (3, .int l3), (4, .int l4)] → f_X5_toldBySweeps_L34 v1 nL34 l2 l3 l4 v = some r → W p l e rm_X5_toldBySweeps s m ([.ref (ad 0), .ref (ad1 0)] : List Value).toArray below meth c H locs 0 0 (MQ below (qI D (oX5 cI cR ad r.2 ++ oX2 cI cR ad1 v1) r.1 A) ([.ref (ad 0), .ref (ad1 0)] : List Value).toArray s 0 0 A) (F0 m 34 ls []) := by
    intro nL34
    induction nL34 with
    | zero =>
      intro l2 l3 l4 v H locs ls hP hD hS hl hf
      cases hf
    | succ nL34 ih_L34 =>
      intro l2 l3 l4 v H locs ls hP hD hS hl hf
      rw [f_X5_toldBySweeps_L34] at hf
      refine lv_iload hx hb dX5_toldBySweeps_34 (lv_at hl 3 rfl) ?_
      refine lv_sipush (v := (1000 : Int32)) hx hb dX5_toldBySweeps_36 (by decide) ?_
      refine lv_icmp_ge (tgt := 57) hx hb dX5_toldBySweeps_39 (by decide) (fun c0 => ?_) (fun c0 => ?_)
      · replace hf := gT hf c0
        exact J57 l2 v _ _ ls hP hD hS (lv_sub hl [0, 1] rfl) hf
      · replace hf := gF hf c0
        refine lv_iload_n hx hb dX5_toldBySweeps_42 rfl (lv_at hl 2 rfl) ?_
        refine lv_if_eq (tgt := 57) hx hb dX5_toldBySweeps_43 (by decide) (fun c1 => ?_) (fun c1 => ?_)
        · replace hf := gT hf c1
          exact J57 l2 v _ _ ls hP hD hS (lv_sub hl [0, 1] rfl) hf
        · replace hf := gF hf c1
          refine lv_aload_n hx hb dX5_toldBySweeps_46 rfl (lv_at hl 0 rfl) ?_
          obtain ⟨x1, hcx1, hf⟩ := gB hf
          refine j_i (wr := [(ad1 0, .inr (2, [.ref (ad1 1), .ref (ad1 3), .ref (ad1 5), .int v1.2.2.2.1, .int v1.2.2.2.2.1, .int v1.2.2.2.2.2.1, .int v1.2.2.2.2.2.2.1, .int v1.2.2.2.2.2.2.2.1, .int v1.2.2.2.2.2.2.2.2.1, .int v1.2.2.2.2.2.2.2.2.2.1, .int v1.2.2.2.2.2.2.2.2.2.2])), (ad1 1, .inr (3, [.ref (ad1 2), .int v1.1.2])), (ad1 2, .inl (cI, 15, .inl v1.1.1)), (ad1 3, .inr (4, [.ref (ad1 4), .int v1.2.1.2.1, .int v1.2.1.2.2.1, .int v1.2.1.2.2.2.1, .int v1.2.1.2.2.2.2.1, .int v1.2.1.2.2.2.2.2.1, .int v1.2.1.2.2.2.2.2.2.1, .int v1.2.1.2.2.2.2.2.2.2.1, .int v1.2.1.2.2.2.2.2.2.2.2])), (ad1 4, .inl (cI, 15, .inl v1.2.1.1)), (ad1 5, .inr (4, [.ref (ad1 6), .int v1.2.2.1.2.1, .int v1.2.2.1.2.2.1, .int v1.2.2.1.2.2.2.1, .int v1.2.2.1.2.2.2.2.1, .int v1.2.2.1.2.2.2.2.2.1, .int v1.2.2.1.2.2.2.2.2.2.1, .int v1.2.2.1.2.2.2.2.2.2.2.1, .int v1.2.2.1.2.2.2.2.2.2.2.2])), (ad1 6, .inl (cI, 15, .inl v1.2.2.1.1))]) (w_V (As := []) (rest := []) (n := 0) ⟨hx, hb, hml, hown, hts⟩ (c_X5_sweep l D cI cR ad v _ x1 hcx1) kM_X5_106 kN_X5_sweep kV_X5_sweep kZ_X5 kK_X5_sweep ⟨rfl, rfl⟩ ⟨(Nat.le_of_ble_eq_true rfl), (Nat.le_of_ble_eq_true rfl)⟩ pd_X5_sweep rfl hK hN hP hD [0, 1, 2, 3, 4, 5, 6, 7] rfl rfl 0 5 rfl rfl rfl hl.1 (Nat.le_of_ble_eq_true rfl) dX5_toldBySweeps_47 ⟨(Nat.le_of_ble_eq_true rfl), (Nat.le_of_ble_eq_true rfl)⟩) hP hD hS hA [0, 1, 2, 3, 4, 5, 6, 7] [8, 9, 10, 11, 12, 13, 14] rfl rfl rfl (by decide) (fun H locs hP hD hS => ?_)
          have hP : va_P D vwCl [(ad1 0, .inr (2, [.ref (ad1 1), .ref (ad1 3), .ref (ad1 5), .int v1.2.2.2.1, .int v1.2.2.2.2.1, .int v1.2.2.2.2.2.1, .int v1.2.2.2.2.2.2.1, .int v1.2.2.2.2.2.2.2.1, .int v1.2.2.2.2.2.2.2.2.1, .int v1.2.2.2.2.2.2.2.2.2.1, .int v1.2.2.2.2.2.2.2.2.2.2])), (ad1 1, .inr (3, [.ref (ad1 2), .int v1.1.2])), (ad1 2, .inl (cI, 15, .inl v1.1.1)), (ad1 3, .inr (4, [.ref (ad1 4), .int v1.2.1.2.1, .int v1.2.1.2.2.1, .int v1.2.1.2.2.2.1, .int v1.2.1.2.2.2.2.1, .int v1.2.1.2.2.2.2.2.1, .int v1.2.1.2.2.2.2.2.2.1, .int v1.2.1.2.2.2.2.2.2.2.1, .int v1.2.1.2.2.2.2.2.2.2.2])), (ad1 4, .inl (cI, 15, .inl v1.2.1.1)), (ad1 5, .inr (4, [.ref (ad1 6), .int v1.2.2.1.2.1, .int v1.2.2.1.2.2.1, .int v1.2.2.1.2.2.2.1, .int v1.2.2.1.2.2.2.2.1, .int v1.2.2.1.2.2.2.2.2.1, .int v1.2.2.1.2.2.2.2.2.2.1, .int v1.2.2.1.2.2.2.2.2.2.2.1, .int v1.2.2.1.2.2.2.2.2.2.2.2])), (ad1 6, .inl (cI, 15, .inl v1.2.2.1.1)), (ad 0, .inr (5, [.ref (ad 1), .ref (ad 3), .ref (ad 4), .ref (ad 5), .ref (ad 6), .ref (ad 7), .int x1.2.2.2.2.2.2.2.1, .int x1.2.2.2.2.2.2.2.2.1, .int x1.2.2.2.2.2.2.2.2.2])), (ad 1, .inr (3, [.ref (ad 2), .int x1.2.1.2])), (ad 2, .inl (cI, 15, .inl x1.2.1.1)), (ad 3, .inl (cI, 1024, .inl x1.2.2.1)), (ad 4, .inl (cI, 64, .inl x1.2.2.2.1)), (ad 5, .inl (cI, 16384, .inl x1.2.2.2.2.1)), (ad 6, .inl (cI, 16384, .inl x1.2.2.2.2.2.1)), (ad 7, .inl (cI, 16384, .inl x1.2.2.2.2.2.2.1))] H := hP
          have hD : va_D A [(ad1 0, .inr (2, [.ref (ad1 1), .ref (ad1 3), .ref (ad1 5), .int v1.2.2.2.1, .int v1.2.2.2.2.1, .int v1.2.2.2.2.2.1, .int v1.2.2.2.2.2.2.1, .int v1.2.2.2.2.2.2.2.1, .int v1.2.2.2.2.2.2.2.2.1, .int v1.2.2.2.2.2.2.2.2.2.1, .int v1.2.2.2.2.2.2.2.2.2.2])), (ad1 1, .inr (3, [.ref (ad1 2), .int v1.1.2])), (ad1 2, .inl (cI, 15, .inl v1.1.1)), (ad1 3, .inr (4, [.ref (ad1 4), .int v1.2.1.2.1, .int v1.2.1.2.2.1, .int v1.2.1.2.2.2.1, .int v1.2.1.2.2.2.2.1, .int v1.2.1.2.2.2.2.2.1, .int v1.2.1.2.2.2.2.2.2.1, .int v1.2.1.2.2.2.2.2.2.2.1, .int v1.2.1.2.2.2.2.2.2.2.2])), (ad1 4, .inl (cI, 15, .inl v1.2.1.1)), (ad1 5, .inr (4, [.ref (ad1 6), .int v1.2.2.1.2.1, .int v1.2.2.1.2.2.1, .int v1.2.2.1.2.2.2.1, .int v1.2.2.1.2.2.2.2.1, .int v1.2.2.1.2.2.2.2.2.1, .int v1.2.2.1.2.2.2.2.2.2.1, .int v1.2.2.1.2.2.2.2.2.2.2.1, .int v1.2.2.1.2.2.2.2.2.2.2.2])), (ad1 6, .inl (cI, 15, .inl v1.2.2.1.1)), (ad 0, .inr (5, [.ref (ad 1), .ref (ad 3), .ref (ad 4), .ref (ad 5), .ref (ad 6), .ref (ad 7), .int x1.2.2.2.2.2.2.2.1, .int x1.2.2.2.2.2.2.2.2.1, .int x1.2.2.2.2.2.2.2.2.2])), (ad 1, .inr (3, [.ref (ad 2), .int x1.2.1.2])), (ad 2, .inl (cI, 15, .inl x1.2.1.1)), (ad 3, .inl (cI, 1024, .inl x1.2.2.1)), (ad 4, .inl (cI, 64, .inl x1.2.2.2.1)), (ad 5, .inl (cI, 16384, .inl x1.2.2.2.2.1)), (ad 6, .inl (cI, 16384, .inl x1.2.2.2.2.2.1)), (ad 7, .inl (cI, 16384, .inl x1.2.2.2.2.2.2.1))] := hD
          refine lv_istore_n (lv' := [(3, .int x1.1), (0, .ref (ad 0)), (2, .int l2), (4, .int l4)]) hx hb dX5_toldBySweeps_50 rfl hl (by decide) rfl (fun ls hl => ?_)
          refine lv_iinc (v := (l4 + (1 : Int32))) (lv' := [(4, .int (l4 + (1 : Int32))), (3, .int x1.1), (0, .ref (ad 0)), (2, .int l2)]) hx hb dX5_toldBySweeps_51 hl (k := 3) rfl rfl (by decide) rfl (fun ls hl => ?_)
          refine lv_goto (tgt := 34) hx hb dX5_toldBySweeps_54 (by decide) ?_
          exact ih_L34 l2 x1.1 (l4 + (1 : Int32)) x1.2 _ _ ls (hP.subm [7, 8, 9, 10, 11, 12, 13, 14, 0, 1, 2, 3, 4, 5, 6] rfl) (hD.sub [7, 8, 9, 10, 11, 12, 13, 14, 0, 1, 2, 3, 4, 5, 6] rfl rfl) hS (lv_sub hl [2, 3, 1, 0] rfl) hf
  have J31 : ∀ (l2 : Int32) (l3 : Int32) (v : tX5) (H : Heap) (locs : List Loc) (ls : Array Slot), va_P D vwCl [(ad 0, .inr (5, [.ref (ad 1), .ref (ad 3), .ref (ad 4), .ref (ad 5), .ref (ad 6), .ref (ad 7), .int v.2.2.2.2.2.2.1, .int v.2.2.2.2.2.2.2.1, .int v.2.2.2.2.2.2.2.2])), (ad 1, .inr (3, [.ref (ad 2), .int v.1.2])), (ad 2, .inl (cI, 15, .inl v.1.1)), (ad 3, .inl (cI, 1024, .inl v.2.1)), (ad 4, .inl (cI, 64, .inl v.2.2.1)), (ad 5, .inl (cI, 16384, .inl v.2.2.2.1)), (ad 6, .inl (cI, 16384, .inl v.2.2.2.2.1)), (ad 7, .inl (cI, 16384, .inl v.2.2.2.2.2.1)), (ad1 0, .inr (2, [.ref (ad1 1), .ref (ad1 3), .ref (ad1 5), .int v1.2.2.2.1, .int v1.2.2.2.2.1, .int v1.2.2.2.2.2.1, .int v1.2.2.2.2.2.2.1, .int v1.2.2.2.2.2.2.2.1, .int v1.2.2.2.2.2.2.2.2.1, .int v1.2.2.2.2.2.2.2.2.2.1, .int v1.2.2.2.2.2.2.2.2.2.2])), (ad1 1, .inr (3, [.ref (ad1 2), .int v1.1.2])), (ad1 2, .inl (cI, 15, .inl v1.1.1)), (ad1 3, .inr (4, [.ref (ad1 4), .int v1.2.1.2.1, .int v1.2.1.2.2.1, .int v1.2.1.2.2.2.1, .int v1.2.1.2.2.2.2.1, .int v1.2.1.2.2.2.2.2.1, .int v1.2.1.2.2.2.2.2.2.1, .int v1.2.1.2.2.2.2.2.2.2.1, .int v1.2.1.2.2.2.2.2.2.2.2])), (ad1 4, .inl (cI, 15, .inl v1.2.1.1)), (ad1 5, .inr (4, [.ref (ad1 6), .int v1.2.2.1.2.1, .int v1.2.2.1.2.2.1, .int v1.2.2.1.2.2.2.1, .int v1.2.2.1.2.2.2.2.1, .int v1.2.2.1.2.2.2.2.2.1, .int v1.2.2.1.2.2.2.2.2.2.1, .int v1.2.2.1.2.2.2.2.2.2.2.1, .int v1.2.2.1.2.2.2.2.2.2.2.2])), (ad1 6, .inl (cI, 15, .inl v1.2.2.1.1))] H → va_D A [(ad 0, .inr (5, [.ref (ad 1), .ref (ad 3), .ref (ad 4), .ref (ad 5), .ref (ad 6), .ref (ad 7), .int v.2.2.2.2.2.2.1, .int v.2.2.2.2.2.2.2.1, .int v.2.2.2.2.2.2.2.2])), (ad 1, .inr (3, [.ref (ad 2), .int v.1.2])), (ad 2, .inl (cI, 15, .inl v.1.1)), (ad 3, .inl (cI, 1024, .inl v.2.1)), (ad 4, .inl (cI, 64, .inl v.2.2.1)), (ad 5, .inl (cI, 16384, .inl v.2.2.2.1)), (ad 6, .inl (cI, 16384, .inl v.2.2.2.2.1)), (ad 7, .inl (cI, 16384, .inl v.2.2.2.2.2.1)), (ad1 0, .inr (2, [.ref (ad1 1), .ref (ad1 3), .ref (ad1 5), .int v1.2.2.2.1, .int v1.2.2.2.2.1, .int v1.2.2.2.2.2.1, .int v1.2.2.2.2.2.2.1, .int v1.2.2.2.2.2.2.2.1, .int v1.2.2.2.2.2.2.2.2.1, .int v1.2.2.2.2.2.2.2.2.2.1, .int v1.2.2.2.2.2.2.2.2.2.2])), (ad1 1, .inr (3, [.ref (ad1 2), .int v1.1.2])), (ad1 2, .inl (cI, 15, .inl v1.1.1)), (ad1 3, .inr (4, [.ref (ad1 4), .int v1.2.1.2.1, .int v1.2.1.2.2.1, .int v1.2.1.2.2.2.1, .int v1.2.1.2.2.2.2.1, .int v1.2.1.2.2.2.2.2.1, .int v1.2.1.2.2.2.2.2.2.1, .int v1.2.1.2.2.2.2.2.2.2.1, .int v1.2.1.2.2.2.2.2.2.2.2])), (ad1 4, .inl (cI, 15, .inl v1.2.1.1)), (ad1 5, .inr (4, [.ref (ad1 6), .int v1.2.2.1.2.1, .int v1.2.2.1.2.2.1, .int v1.2.2.1.2.2.2.1, .int v1.2.2.1.2.2.2.2.1, .int v1.2.2.1.2.2.2.2.2.1, .int v1.2.2.1.2.2.2.2.2.2.1, .int v1.2.2.1.2.2.2.2.2.2.2.1, .int v1.2.2.1.2.2.2.2.2.2.2.2])), (ad1 6, .inl (cI, 15, .inl v1.2.2.1.1))] → va_S A s.heap H locs → lv_has ls 5 [(0, .ref (ad 0)), (2, .int l2), (3, .int l3)] → f_X5_toldBySweeps_J31 v1 l2 l3 v = some r → W p l e rm_X5_toldBySweeps s m ([.ref (ad 0), .ref (ad1 0)] : List Value).toArray below meth c H locs 0 0 (MQ below (qI D (oX5 cI cR ad r.2 ++ oX2 cI cR ad1 v1) r.1 A) ([.ref (ad 0), .ref (ad1 0)] : List Value).toArray s 0 0 A) (F0 m 31 ls []) := by
    intro l2 l3 v H locs ls hP hD hS hl hf
    unfold f_X5_toldBySweeps_J31 at hf
    refine lv_iconst (v := (0 : Int32)) hx hb dX5_toldBySweeps_31 (by decide) ?_
    refine lv_istore (lv' := [(4, .int (0 : Int32)), (0, .ref (ad 0)), (2, .int l2), (3, .int l3)]) hx hb dX5_toldBySweeps_32 hl (by decide) rfl (fun ls hl => ?_)
    exact L34 gas l2 l3 (0 : Int32) v _ _ ls hP hD hS (lv_sub hl [1, 2, 3, 0] rfl) hf
  have J21 : ∀ (l2 : Int32) (k0 : Int32) (v : tX5) (H : Heap) (locs : List Loc) (ls : Array Slot), va_P D vwCl [(ad 0, .inr (5, [.ref (ad 1), .ref (ad 3), .ref (ad 4), .ref (ad 5), .ref (ad 6), .ref (ad 7), .int v.2.2.2.2.2.2.1, .int v.2.2.2.2.2.2.2.1, .int v.2.2.2.2.2.2.2.2])), (ad 1, .inr (3, [.ref (ad 2), .int v.1.2])), (ad 2, .inl (cI, 15, .inl v.1.1)), (ad 3, .inl (cI, 1024, .inl v.2.1)), (ad 4, .inl (cI, 64, .inl v.2.2.1)), (ad 5, .inl (cI, 16384, .inl v.2.2.2.1)), (ad 6, .inl (cI, 16384, .inl v.2.2.2.2.1)), (ad 7, .inl (cI, 16384, .inl v.2.2.2.2.2.1)), (ad1 0, .inr (2, [.ref (ad1 1), .ref (ad1 3), .ref (ad1 5), .int v1.2.2.2.1, .int v1.2.2.2.2.1, .int v1.2.2.2.2.2.1, .int v1.2.2.2.2.2.2.1, .int v1.2.2.2.2.2.2.2.1, .int v1.2.2.2.2.2.2.2.2.1, .int v1.2.2.2.2.2.2.2.2.2.1, .int v1.2.2.2.2.2.2.2.2.2.2])), (ad1 1, .inr (3, [.ref (ad1 2), .int v1.1.2])), (ad1 2, .inl (cI, 15, .inl v1.1.1)), (ad1 3, .inr (4, [.ref (ad1 4), .int v1.2.1.2.1, .int v1.2.1.2.2.1, .int v1.2.1.2.2.2.1, .int v1.2.1.2.2.2.2.1, .int v1.2.1.2.2.2.2.2.1, .int v1.2.1.2.2.2.2.2.2.1, .int v1.2.1.2.2.2.2.2.2.2.1, .int v1.2.1.2.2.2.2.2.2.2.2])), (ad1 4, .inl (cI, 15, .inl v1.2.1.1)), (ad1 5, .inr (4, [.ref (ad1 6), .int v1.2.2.1.2.1, .int v1.2.2.1.2.2.1, .int v1.2.2.1.2.2.2.1, .int v1.2.2.1.2.2.2.2.1, .int v1.2.2.1.2.2.2.2.2.1, .int v1.2.2.1.2.2.2.2.2.2.1, .int v1.2.2.1.2.2.2.2.2.2.2.1, .int v1.2.2.1.2.2.2.2.2.2.2.2])), (ad1 6, .inl (cI, 15, .inl v1.2.2.1.1))] H → va_D A [(ad 0, .inr (5, [.ref (ad 1), .ref (ad 3), .ref (ad 4), .ref (ad 5), .ref (ad 6), .ref (ad 7), .int v.2.2.2.2.2.2.1, .int v.2.2.2.2.2.2.2.1, .int v.2.2.2.2.2.2.2.2])), (ad 1, .inr (3, [.ref (ad 2), .int v.1.2])), (ad 2, .inl (cI, 15, .inl v.1.1)), (ad 3, .inl (cI, 1024, .inl v.2.1)), (ad 4, .inl (cI, 64, .inl v.2.2.1)), (ad 5, .inl (cI, 16384, .inl v.2.2.2.1)), (ad 6, .inl (cI, 16384, .inl v.2.2.2.2.1)), (ad 7, .inl (cI, 16384, .inl v.2.2.2.2.2.1)), (ad1 0, .inr (2, [.ref (ad1 1), .ref (ad1 3), .ref (ad1 5), .int v1.2.2.2.1, .int v1.2.2.2.2.1, .int v1.2.2.2.2.2.1, .int v1.2.2.2.2.2.2.1, .int v1.2.2.2.2.2.2.2.1, .int v1.2.2.2.2.2.2.2.2.1, .int v1.2.2.2.2.2.2.2.2.2.1, .int v1.2.2.2.2.2.2.2.2.2.2])), (ad1 1, .inr (3, [.ref (ad1 2), .int v1.1.2])), (ad1 2, .inl (cI, 15, .inl v1.1.1)), (ad1 3, .inr (4, [.ref (ad1 4), .int v1.2.1.2.1, .int v1.2.1.2.2.1, .int v1.2.1.2.2.2.1, .int v1.2.1.2.2.2.2.1, .int v1.2.1.2.2.2.2.2.1, .int v1.2.1.2.2.2.2.2.2.1, .int v1.2.1.2.2.2.2.2.2.2.1, .int v1.2.1.2.2.2.2.2.2.2.2])), (ad1 4, .inl (cI, 15, .inl v1.2.1.1)), (ad1 5, .inr (4, [.ref (ad1 6), .int v1.2.2.1.2.1, .int v1.2.2.1.2.2.1, .int v1.2.2.1.2.2.2.1, .int v1.2.2.1.2.2.2.2.1, .int v1.2.2.1.2.2.2.2.2.1, .int v1.2.2.1.2.2.2.2.2.2.1, .int v1.2.2.1.2.2.2.2.2.2.2.1, .int v1.2.2.1.2.2.2.2.2.2.2.2])), (ad1 6, .inl (cI, 15, .inl v1.2.2.1.1))] → va_S A s.heap H locs → lv_has ls 5 [(0, .ref (ad 0)), (2, .int l2)] → f_X5_toldBySweeps_J21 v1 l2 k0 v = some r → W p l e rm_X5_toldBySweeps s m ([.ref (ad 0), .ref (ad1 0)] : List Value).toArray below meth c H locs 0 0 (MQ below (qI D (oX5 cI cR ad r.2 ++ oX2 cI cR ad1 v1) r.1 A) ([.ref (ad 0), .ref (ad1 0)] : List Value).toArray s 0 0 A) (F0 m 21 ls [.int k0]) := by
    intro l2 k0 v H locs ls hP hD hS hl hf
    unfold f_X5_toldBySweeps_J21 at hf
    refine lv_istore_n (lv' := [(3, .int k0), (0, .ref (ad 0)), (2, .int l2)]) hx hb dX5_toldBySweeps_21 rfl hl (by decide) rfl (fun ls hl => ?_)
    refine lv_iload_n hx hb dX5_toldBySweeps_22 rfl (lv_at hl 0 rfl) ?_
    refine lv_if_eq (tgt := 31) hx hb dX5_toldBySweeps_23 (by decide) (fun c2 => ?_) (fun c2 => ?_)
    · replace hf := gT hf c2
      exact J31 l2 k0 v _ _ ls hP hD hS (lv_sub hl [1, 2, 0] rfl) hf
    · replace hf := gF hf c2
      refine lv_aload_n hx hb dX5_toldBySweeps_26 rfl (lv_at hl 1 rfl) ?_
      refine lv_iload_n hx hb dX5_toldBySweeps_27 rfl (lv_at hl 2 rfl) ?_
      obtain ⟨x2, hcx2, hf⟩ := gB hf
      refine j_v (wr := [(ad1 0, .inr (2, [.ref (ad1 1), .ref (ad1 3), .ref (ad1 5), .int v1.2.2.2.1, .int v1.2.2.2.2.1, .int v1.2.2.2.2.2.1, .int v1.2.2.2.2.2.2.1, .int v1.2.2.2.2.2.2.2.1, .int v1.2.2.2.2.2.2.2.2.1, .int v1.2.2.2.2.2.2.2.2.2.1, .int v1.2.2.2.2.2.2.2.2.2.2])), (ad1 1, .inr (3, [.ref (ad1 2), .int v1.1.2])), (ad1 2, .inl (cI, 15, .inl v1.1.1)), (ad1 3, .inr (4, [.ref (ad1 4), .int v1.2.1.2.1, .int v1.2.1.2.2.1, .int v1.2.1.2.2.2.1, .int v1.2.1.2.2.2.2.1, .int v1.2.1.2.2.2.2.2.1, .int v1.2.1.2.2.2.2.2.2.1, .int v1.2.1.2.2.2.2.2.2.2.1, .int v1.2.1.2.2.2.2.2.2.2.2])), (ad1 4, .inl (cI, 15, .inl v1.2.1.1)), (ad1 5, .inr (4, [.ref (ad1 6), .int v1.2.2.1.2.1, .int v1.2.2.1.2.2.1, .int v1.2.2.1.2.2.2.1, .int v1.2.2.1.2.2.2.2.1, .int v1.2.2.1.2.2.2.2.2.1, .int v1.2.2.1.2.2.2.2.2.2.1, .int v1.2.2.1.2.2.2.2.2.2.2.1, .int v1.2.2.1.2.2.2.2.2.2.2.2])), (ad1 6, .inl (cI, 15, .inl v1.2.2.1.1))]) (w_V (As := [.int l2]) (rest := []) (n := 1) ⟨hx, hb, hml, hown, hts⟩ (c_X5_gather l D cI cR ad v l2 _ x2 hcx2) kM_X5_102 kN_X5_gather kV_X5_gather kZ_X5 kK_X5_gather ⟨rfl, rfl⟩ ⟨(Nat.le_of_ble_eq_true rfl), (Nat.le_of_ble_eq_true rfl)⟩ pd_X5_gather rfl hK hN hP hD [0, 1, 2, 3, 4, 5, 6, 7] rfl rfl 0 5 rfl rfl rfl hl.1 (Nat.le_of_ble_eq_true rfl) dX5_toldBySweeps_28 ⟨(Nat.le_of_ble_eq_true rfl), (Nat.le_of_ble_eq_true rfl)⟩) hP hD hS hA [0, 1, 2, 3, 4, 5, 6, 7] [8, 9, 10, 11, 12, 13, 14] rfl rfl rfl (by decide) (fun H locs hP hD hS => ?_)
      have hP : va_P D vwCl [(ad1 0, .inr (2, [.ref (ad1 1), .ref (ad1 3), .ref (ad1 5), .int v1.2.2.2.1, .int v1.2.2.2.2.1, .int v1.2.2.2.2.2.1, .int v1.2.2.2.2.2.2.1, .int v1.2.2.2.2.2.2.2.1, .int v1.2.2.2.2.2.2.2.2.1, .int v1.2.2.2.2.2.2.2.2.2.1, .int v1.2.2.2.2.2.2.2.2.2.2])), (ad1 1, .inr (3, [.ref (ad1 2), .int v1.1.2])), (ad1 2, .inl (cI, 15, .inl v1.1.1)), (ad1 3, .inr (4, [.ref (ad1 4), .int v1.2.1.2.1, .int v1.2.1.2.2.1, .int v1.2.1.2.2.2.1, .int v1.2.1.2.2.2.2.1, .int v1.2.1.2.2.2.2.2.1, .int v1.2.1.2.2.2.2.2.2.1, .int v1.2.1.2.2.2.2.2.2.2.1, .int v1.2.1.2.2.2.2.2.2.2.2])), (ad1 4, .inl (cI, 15, .inl v1.2.1.1)), (ad1 5, .inr (4, [.ref (ad1 6), .int v1.2.2.1.2.1, .int v1.2.2.1.2.2.1, .int v1.2.2.1.2.2.2.1, .int v1.2.2.1.2.2.2.2.1, .int v1.2.2.1.2.2.2.2.2.1, .int v1.2.2.1.2.2.2.2.2.2.1, .int v1.2.2.1.2.2.2.2.2.2.2.1, .int v1.2.2.1.2.2.2.2.2.2.2.2])), (ad1 6, .inl (cI, 15, .inl v1.2.2.1.1)), (ad 0, .inr (5, [.ref (ad 1), .ref (ad 3), .ref (ad 4), .ref (ad 5), .ref (ad 6), .ref (ad 7), .int x2.2.2.2.2.2.2.1, .int x2.2.2.2.2.2.2.2.1, .int x2.2.2.2.2.2.2.2.2])), (ad 1, .inr (3, [.ref (ad 2), .int x2.1.2])), (ad 2, .inl (cI, 15, .inl x2.1.1)), (ad 3, .inl (cI, 1024, .inl x2.2.1)), (ad 4, .inl (cI, 64, .inl x2.2.2.1)), (ad 5, .inl (cI, 16384, .inl x2.2.2.2.1)), (ad 6, .inl (cI, 16384, .inl x2.2.2.2.2.1)), (ad 7, .inl (cI, 16384, .inl x2.2.2.2.2.2.1))] H := hP
      have hD : va_D A [(ad1 0, .inr (2, [.ref (ad1 1), .ref (ad1 3), .ref (ad1 5), .int v1.2.2.2.1, .int v1.2.2.2.2.1, .int v1.2.2.2.2.2.1, .int v1.2.2.2.2.2.2.1, .int v1.2.2.2.2.2.2.2.1, .int v1.2.2.2.2.2.2.2.2.1, .int v1.2.2.2.2.2.2.2.2.2.1, .int v1.2.2.2.2.2.2.2.2.2.2])), (ad1 1, .inr (3, [.ref (ad1 2), .int v1.1.2])), (ad1 2, .inl (cI, 15, .inl v1.1.1)), (ad1 3, .inr (4, [.ref (ad1 4), .int v1.2.1.2.1, .int v1.2.1.2.2.1, .int v1.2.1.2.2.2.1, .int v1.2.1.2.2.2.2.1, .int v1.2.1.2.2.2.2.2.1, .int v1.2.1.2.2.2.2.2.2.1, .int v1.2.1.2.2.2.2.2.2.2.1, .int v1.2.1.2.2.2.2.2.2.2.2])), (ad1 4, .inl (cI, 15, .inl v1.2.1.1)), (ad1 5, .inr (4, [.ref (ad1 6), .int v1.2.2.1.2.1, .int v1.2.2.1.2.2.1, .int v1.2.2.1.2.2.2.1, .int v1.2.2.1.2.2.2.2.1, .int v1.2.2.1.2.2.2.2.2.1, .int v1.2.2.1.2.2.2.2.2.2.1, .int v1.2.2.1.2.2.2.2.2.2.2.1, .int v1.2.2.1.2.2.2.2.2.2.2.2])), (ad1 6, .inl (cI, 15, .inl v1.2.2.1.1)), (ad 0, .inr (5, [.ref (ad 1), .ref (ad 3), .ref (ad 4), .ref (ad 5), .ref (ad 6), .ref (ad 7), .int x2.2.2.2.2.2.2.1, .int x2.2.2.2.2.2.2.2.1, .int x2.2.2.2.2.2.2.2.2])), (ad 1, .inr (3, [.ref (ad 2), .int x2.1.2])), (ad 2, .inl (cI, 15, .inl x2.1.1)), (ad 3, .inl (cI, 1024, .inl x2.2.1)), (ad 4, .inl (cI, 64, .inl x2.2.2.1)), (ad 5, .inl (cI, 16384, .inl x2.2.2.2.1)), (ad 6, .inl (cI, 16384, .inl x2.2.2.2.2.1)), (ad 7, .inl (cI, 16384, .inl x2.2.2.2.2.2.1))] := hD
      exact J31 l2 k0 x2 _ _ ls (hP.subm [7, 8, 9, 10, 11, 12, 13, 14, 0, 1, 2, 3, 4, 5, 6] rfl) (hD.sub [7, 8, 9, 10, 11, 12, 13, 14, 0, 1, 2, 3, 4, 5, 6] rfl rfl) hS (lv_sub hl [1, 2, 0] rfl) hf
  unfold f_X5_toldBySweeps at hf
  refine lv_aload_n hx hb dX5_toldBySweeps_0 rfl (lv_at hl 1 rfl) ?_
  obtain ⟨x3, hcx3, hf⟩ := gB hf
  refine k_r (r_S (As := [.ref (ad1 0)]) (rest := []) (n := 1) ⟨hx, hb, hml, hown, hts⟩ (c_X5_standOf l D cI cR ad1 v1 _ x3 hcx3) kM_X5_90 kS_X5_standOf kZ_X5 kK_X5_standOf ⟨rfl, rfl⟩ ⟨(Nat.le_of_ble_eq_true rfl), (Nat.le_of_ble_eq_true rfl)⟩ pd_X5_standOf rfl hK hN hP hD [8, 9, 10, 11, 12, 13, 14] rfl rfl rfl hl.1 (Nat.le_of_ble_eq_true rfl) dX5_toldBySweeps_1 ⟨(Nat.le_of_ble_eq_true rfl), (Nat.le_of_ble_eq_true rfl)⟩) ?_
  refine lv_istore_n (lv' := [(2, .int x3), (0, .ref (ad 0)), (1, .ref (ad1 0))]) hx hb dX5_toldBySweeps_4 rfl hl (by decide) rfl (fun ls hl => ?_)
  refine lv_aload_n hx hb dX5_toldBySweeps_5 rfl (lv_at hl 1 rfl) ?_
  refine va_get (D := D) (ci := 5) (v := .ref (ad 6)) (C := RX5) (T := TX5) (N := 9) hx hb hts inA_X5 hown hK hP 0 rfl rfl 4 (by decide) (hts _ kF_X5_28) (fun _ h9 => h9) rfl dX5_toldBySweeps_6 ?_
  refine lv_iload_n hx hb dX5_toldBySweeps_9 rfl (lv_at hl 0 rfl) ?_
  obtain ⟨x4, hcx4, hf⟩ := gB hf
  refine k_r (run_weak (w_SN (As := [.ref (ad 6), .int x3]) (rest := []) (n := 2) ⟨hx, hb, hml, hown, hts⟩ (c_X6_at l D cI cR (ad 6) 16384 v.2.2.2.2.1 x3 _ x4 hcx4) (nM_X5_98 hN) kS_X6_at kZ_X6 kK_X6_at ⟨rfl, rfl⟩ ⟨(Nat.le_of_ble_eq_true rfl), (Nat.le_of_ble_eq_true rfl)⟩ pd_X6_at rfl hK hN hP hD [6] rfl rfl rfl hl.1 (Nat.le_of_ble_eq_true rfl) dX5_toldBySweeps_10 ⟨(Nat.le_of_ble_eq_true rfl), (Nat.le_of_ble_eq_true rfl)⟩)) ?_
  refine lv_if_ne (tgt := 20) hx hb dX5_toldBySweeps_13 (by decide) (fun c3 => ?_) (fun c3 => ?_)
  · replace hf := gF hf c3
    refine lv_iconst (v := (0 : Int32)) hx hb dX5_toldBySweeps_20 (by decide) ?_
    exact J21 x3 (0 : Int32) v _ _ ls hP hD hS (lv_sub hl [1, 0] rfl) hf
  · replace hf := gT hf c3
    refine lv_iconst (v := (1 : Int32)) hx hb dX5_toldBySweeps_16 (by decide) ?_
    refine lv_goto (tgt := 21) hx hb dX5_toldBySweeps_17 (by decide) ?_
    exact J21 x3 (1 : Int32) v _ _ ls hP hD hS (lv_sub hl [1, 0] rfl) hf

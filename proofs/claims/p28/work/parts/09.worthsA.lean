def f_X5_ownLoses (p0 : Int32) : Option Int32 :=
  some ((p0 >>> ((2 : Int32) &&& 31)) &&& (3 : Int32))
abbrev rm_X5_ownLoses : Room := { frames := 0, cells := 0, slots := 0, locals := 0 }
set_option maxHeartbeats 4000000 in
set_option maxRecDepth 100000 in
theorem c_X5_ownLoses (l : Launch) (D : va_G) (cI cR : ClassId) (p0 : Int32) (sz : Nat) (r : Int32) (hf : f_X5_ownLoses p0 = some r) : Met l yX5_ownLoses (wM yX5_ownLoses cX5_ownLoses 1 (some (.int))) rm_X5_ownLoses (cPre D (tysA cI cR) ([.int p0] : List Value) (([] : va_W)) sz) (QcRead r) 0 0 (fun _ => False) := by
  refine en_M (own := RX5) (lv := [(0, .int p0)]) (by decide +kernel) rfl (Nat.le_of_ble_eq_true rfl) rfl (fun p e s m below meth c hx hb hr hlk hml hown hnm hts hsz hP hK hD hN ls hl => ?_)
  generalize va_A (([] : va_W)) sz = A at hD
  have hP : va_P D vwCl [] s.heap := hP
  have hD : va_D A [] := hD
  unfold f_X5_ownLoses at hf
  refine lv_iload_n hx hb dX5_ownLoses_0 rfl (lv_at hl 0 rfl) ?_
  refine lv_iconst (v := (2 : Int32)) hx hb dX5_ownLoses_1 (by decide) ?_
  refine lv_ishr hx hb dX5_ownLoses_2 ?_
  refine lv_iconst (v := (3 : Int32)) hx hb dX5_ownLoses_3 (by decide) ?_
  refine lv_iand hx hb dX5_ownLoses_4 ?_
  exact z_r hf hx hb hr hlk dX5_ownLoses_5
def f_X5_otherLoses (p0 : Int32) : Option Int32 :=
  some (p0 &&& (3 : Int32))
abbrev rm_X5_otherLoses : Room := { frames := 0, cells := 0, slots := 0, locals := 0 }
set_option maxHeartbeats 4000000 in
set_option maxRecDepth 100000 in
theorem c_X5_otherLoses (l : Launch) (D : va_G) (cI cR : ClassId) (p0 : Int32) (sz : Nat) (r : Int32) (hf : f_X5_otherLoses p0 = some r) : Met l yX5_otherLoses (wM yX5_otherLoses cX5_otherLoses 1 (some (.int))) rm_X5_otherLoses (cPre D (tysA cI cR) ([.int p0] : List Value) (([] : va_W)) sz) (QcRead r) 0 0 (fun _ => False) := by
  refine en_M (own := RX5) (lv := [(0, .int p0)]) (by decide +kernel) rfl (Nat.le_of_ble_eq_true rfl) rfl (fun p e s m below meth c hx hb hr hlk hml hown hnm hts hsz hP hK hD hN ls hl => ?_)
  generalize va_A (([] : va_W)) sz = A at hD
  have hP : va_P D vwCl [] s.heap := hP
  have hD : va_D A [] := hD
  unfold f_X5_otherLoses at hf
  refine lv_iload_n hx hb dX5_otherLoses_0 rfl (lv_at hl 0 rfl) ?_
  refine lv_iconst (v := (3 : Int32)) hx hb dX5_otherLoses_1 (by decide) ?_
  refine lv_iand hx hb dX5_otherLoses_2 ?_
  exact z_r hf hx hb hr hlk dX5_otherLoses_3
def f_X5_orderTails_J66 (kL4 : Int32 → Int32 → tX5 → Option tX5) (kL11 : Int32 → Int32 → Int32 → tX5 → Option tX5) (kL20 : Int32 → Int32 → Int32 → Int32 → tX5 → Option tX5) (l1 : Int32) (l2 : Int32) (l3 : Int32) (l4 : Int32) (v : tX5) : Option tX5 :=
  kL20 l1 l2 l3 (l4 + (1 : Int32)) v
def f_X5_orderTails_L20 (kL4 : Int32 → Int32 → tX5 → Option tX5) (kL11 : Int32 → Int32 → Int32 → tX5 → Option tX5) : Nat → Int32 → Int32 → Int32 → Int32 → tX5 → Option tX5
  | 0, _, _, _, _, _ => none
  | nL20 + 1, l1, l2, l3, l4, v =>
    (if (64 : Int32) ≤ l4 then kL11 l1 l2 (l3 + (1 : Int32)) v else (f_J6_bitCount_0f7a4 (l4 >>> ((4 : Int32) &&& 31))).bind fun x0 => (if x0 = l2 then (f_X5_ownLoses l4).bind fun x1 => (f_X5_otherLoses l4).bind fun x2 => (if (x1 + x2) = l3 then (f_X6_put 64 v.2.2.1 l1 l4).bind fun x3 => f_X5_orderTails_J66 kL4 kL11 (f_X5_orderTails_L20 kL4 kL11 nL20) (l1 + (1 : Int32)) l2 l3 l4 (v.1, v.2.1, x3, v.2.2.2.1, v.2.2.2.2.1, v.2.2.2.2.2.1, v.2.2.2.2.2.2.1, v.2.2.2.2.2.2.2.1, v.2.2.2.2.2.2.2.2) else f_X5_orderTails_J66 kL4 kL11 (f_X5_orderTails_L20 kL4 kL11 nL20) l1 l2 l3 l4 v) else f_X5_orderTails_J66 kL4 kL11 (f_X5_orderTails_L20 kL4 kL11 nL20) l1 l2 l3 l4 v))
def f_X5_orderTails_L11 (kL4 : Int32 → Int32 → tX5 → Option tX5) : Nat → Int32 → Int32 → Int32 → tX5 → Option tX5
  | 0, _, _, _, _ => none
  | nL11 + 1, l1, l2, l3, v =>
    (if (6 : Int32) < l3 then kL4 l1 (l2 + (1 : Int32)) v else f_X5_orderTails_L20 kL4 (f_X5_orderTails_L11 kL4 nL11) gas l1 l2 l3 (0 : Int32) v)
def f_X5_orderTails_L4 : Nat → Int32 → Int32 → tX5 → Option tX5
  | 0, _, _, _ => none
  | nL4 + 1, l1, l2, v =>
    (if (2 : Int32) < l2 then some v else f_X5_orderTails_L11 (f_X5_orderTails_L4 nL4) gas l1 l2 (0 : Int32) v)
def f_X5_orderTails (v : tX5) : Option tX5 :=
  f_X5_orderTails_L4 gas (0 : Int32) (0 : Int32) v
abbrev rm_X5_orderTails : Room := { frames := 1, cells := 0, slots := 0, locals := 22 }
set_option maxHeartbeats 4000000 in
set_option maxRecDepth 100000 in
theorem c_X5_orderTails (l : Launch) (D : va_G) (cI cR : ClassId) (ad : Nat → Nat) (v : tX5) (sz : Nat) (r : tX5) (hf : f_X5_orderTails v = some r) : Met l yX5_orderTails (wM yX5_orderTails cX5_orderTails 5 none) rm_X5_orderTails (cPre D (tysA cI cR) ([.ref (ad 0)] : List Value) (oX5 cI cR ad v) sz) (qV D (oX5 cI cR ad r) (va_A (oX5 cI cR ad v) sz)) 0 0 (va_A (oX5 cI cR ad v) sz) := by
  refine en_M (own := RX5) (lv := [(0, .ref (ad 0))]) (by decide +kernel) rfl (Nat.le_of_ble_eq_true rfl) rfl (fun p e s m below meth c hx hb hr hlk hml hown hnm hts hsz hP hK hD hN ls hl => ?_)
  subst hsz
  generalize hAe : va_A (oX5 cI cR ad v) s.heap.size = A at hD ⊢
  have hA : ∀ q : Nat, s.heap.size ≤ q → A q := fun q h => by rw [← hAe]; exact Or.inr h
  have hS : va_S A s.heap s.heap [] := va_S.rf
  have hP : va_P D vwCl [(ad 0, .inr (5, [.ref (ad 1), .ref (ad 3), .ref (ad 4), .ref (ad 5), .ref (ad 6), .ref (ad 7), .int v.2.2.2.2.2.2.1, .int v.2.2.2.2.2.2.2.1, .int v.2.2.2.2.2.2.2.2])), (ad 1, .inr (3, [.ref (ad 2), .int v.1.2])), (ad 2, .inl (cI, 15, .inl v.1.1)), (ad 3, .inl (cI, 1024, .inl v.2.1)), (ad 4, .inl (cI, 64, .inl v.2.2.1)), (ad 5, .inl (cI, 16384, .inl v.2.2.2.1)), (ad 6, .inl (cI, 16384, .inl v.2.2.2.2.1)), (ad 7, .inl (cI, 16384, .inl v.2.2.2.2.2.1))] s.heap := hP
  have hD : va_D A [(ad 0, .inr (5, [.ref (ad 1), .ref (ad 3), .ref (ad 4), .ref (ad 5), .ref (ad 6), .ref (ad 7), .int v.2.2.2.2.2.2.1, .int v.2.2.2.2.2.2.2.1, .int v.2.2.2.2.2.2.2.2])), (ad 1, .inr (3, [.ref (ad 2), .int v.1.2])), (ad 2, .inl (cI, 15, .inl v.1.1)), (ad 3, .inl (cI, 1024, .inl v.2.1)), (ad 4, .inl (cI, 64, .inl v.2.2.1)), (ad 5, .inl (cI, 16384, .inl v.2.2.2.1)), (ad 6, .inl (cI, 16384, .inl v.2.2.2.2.1)), (ad 7, .inl (cI, 16384, .inl v.2.2.2.2.2.1))] := hD
  have L4 : ∀ (nL4 : Nat) (l1 : Int32) (l2 : Int32) (v : tX5) (H : Heap) (locs : List Loc) (ls : Array Slot), va_P D vwCl [(ad 0, .inr (5, [.ref (ad 1), .ref (ad 3), .ref (ad 4), .ref (ad 5), .ref (ad 6), .ref (ad 7), .int v.2.2.2.2.2.2.1, .int v.2.2.2.2.2.2.2.1, .int v.2.2.2.2.2.2.2.2])), (ad 1, .inr (3, [.ref (ad 2), .int v.1.2])), (ad 2, .inl (cI, 15, .inl v.1.1)), (ad 3, .inl (cI, 1024, .inl v.2.1)), (ad 4, .inl (cI, 64, .inl v.2.2.1)), (ad 5, .inl (cI, 16384, .inl v.2.2.2.1)), (ad 6, .inl (cI, 16384, .inl v.2.2.2.2.1)), (ad 7, .inl (cI, 16384, .inl v.2.2.2.2.2.1))] H → va_D A [(ad 0, .inr (5, [.ref (ad 1), .ref (ad 3), .ref (ad 4), .ref (ad 5), .ref (ad 6), .ref (ad 7), .int v.2.2.2.2.2.2.1, .int v.2.2.2.2.2.2.2.1, .int v.2.2.2.2.2.2.2.2])), (ad 1, .inr (3, [.ref (ad 2), .int v.1.2])), (ad 2, .inl (cI, 15, .inl v.1.1)), (ad 3, .inl (cI, 1024, .inl v.2.1)), (ad 4, .inl (cI, 64, .inl v.2.2.1)), (ad 5, .inl (cI, 16384, .inl v.2.2.2.1)), (ad 6, .inl (cI, 16384, .inl v.2.2.2.2.1)), (ad 7, .inl (cI, 16384, .inl v.2.2.2.2.2.1))] → va_S A s.heap H locs → lv_has ls 5 [(0, .ref (ad 0)), (1, .int l1), (2, .int l2)] → f_X5_orderTails_L4 nL4 l1 l2 v = some r → W p l e rm_X5_orderTails s m ([.ref (ad 0)] : List Value).toArray below meth c H locs 0 0 (MQ below (qV D (oX5 cI cR ad r) A) ([.ref (ad 0)] : List Value).toArray s 0 0 A) (F0 m 4 ls []) := by
    intro nL4
    induction nL4 with
    | zero =>
      intro l1 l2 v H locs ls hP hD hS hl hf
      cases hf
    | succ nL4 ih_L4 =>
      have L11 : ∀ (nL11 : Nat) (l1 : Int32) (l2 : Int32) (l3 : Int32) (v : tX5) (H : Heap) (locs : List Loc) (ls : Array Slot), va_P D vwCl [(ad 0, .inr (5, [.ref (ad 1), .ref (ad 3), .ref (ad 4), .ref (ad 5), .ref (ad 6), .ref (ad 7), .int v.2.2.2.2.2.2.1, .int v.2.2.2.2.2.2.2.1, .int v.2.2.2.2.2.2.2.2])), (ad 1, .inr (3, [.ref (ad 2), .int v.1.2])), (ad 2, .inl (cI, 15, .inl v.1.1)), (ad 3, .inl (cI, 1024, .inl v.2.1)), (ad 4, .inl (cI, 64, .inl v.2.2.1)), (ad 5, .inl (cI, 16384, .inl v.2.2.2.1)), (ad 6, .inl (cI, 16384, .inl v.2.2.2.2.1)), (ad 7, .inl (cI, 16384, .inl v.2.2.2.2.2.1))] H → va_D A [(ad 0, .inr (5, [.ref (ad 1), .ref (ad 3), .ref (ad 4), .ref (ad 5), .ref (ad 6), .ref (ad 7), .int v.2.2.2.2.2.2.1, .int v.2.2.2.2.2.2.2.1, .int v.2.2.2.2.2.2.2.2])), (ad 1, .inr (3, [.ref (ad 2), .int v.1.2])), (ad 2, .inl (cI, 15, .inl v.1.1)), (ad 3, .inl (cI, 1024, .inl v.2.1)), (ad 4, .inl (cI, 64, .inl v.2.2.1)), (ad 5, .inl (cI, 16384, .inl v.2.2.2.1)), (ad 6, .inl (cI, 16384, .inl v.2.2.2.2.1)), (ad 7, .inl (cI, 16384, .inl v.2.2.2.2.2.1))] → va_S A s.heap H locs → lv_has ls 5 [(0, .ref (ad 0)), (1, .int l1), (2, .int l2), (3, .int l3)] → f_X5_orderTails_L11 (f_X5_orderTails_L4 nL4) nL11 l1 l2 l3 v = some r → W p l e rm_X5_orderTails s m ([.ref (ad 0)] : List Value).toArray below meth c H locs 0 0 (MQ below (qV D (oX5 cI cR ad r) A) ([.ref (ad 0)] : List Value).toArray s 0 0 A) (F0 m 11 ls []) := by
        intro nL11
        induction nL11 with
        | zero =>
          intro l1 l2 l3 v H locs ls hP hD hS hl hf
          cases hf
        | succ nL11 ih_L11 =>
          have L20 : ∀ (nL20 : Nat) (l1 : Int32) (l2 : Int32) (l3 : Int32) (l4 : Int32) (v : tX5) (H : Heap) (locs : List Loc) (ls : Array Slot), va_P D vwCl [(ad 0, .inr (5, [.ref (ad 1), .ref (ad 3), .ref (ad 4), .ref (ad 5), .ref (ad 6), .ref (ad 7), .int v.2.2.2.2.2.2.1, .int v.2.2.2.2.2.2.2.1, .int v.2.2.2.2.2.2.2.2])), (ad 1, .inr (3, [.ref (ad 2), .int v.1.2])), (ad 2, .inl (cI, 15, .inl v.1.1)), (ad 3, .inl (cI, 1024, .inl v.2.1)), (ad 4, .inl (cI, 64, .inl v.2.2.1)), (ad 5, .inl (cI, 16384, .inl v.2.2.2.1)), (ad 6, .inl (cI, 16384, .inl v.2.2.2.2.1)), (ad 7, .inl (cI, 16384, .inl v.2.2.2.2.2.1))] H → va_D A [(ad 0, .inr (5, [.ref (ad 1), .ref (ad 3), .ref (ad 4), .ref (ad 5), .ref (ad 6), .ref (ad 7), .int v.2.2.2.2.2.2.1, .int v.2.2.2.2.2.2.2.1, .int v.2.2.2.2.2.2.2.2])), (ad 1, .inr (3, [.ref (ad 2), .int v.1.2])), (ad 2, .inl (cI, 15, .inl v.1.1)), (ad 3, .inl (cI, 1024, .inl v.2.1)), (ad 4, .inl (cI, 64, .inl v.2.2.1)), (ad 5, .inl (cI, 16384, .inl v.2.2.2.1)), (ad 6, .inl (cI, 16384, .inl v.2.2.2.2.1)), (ad 7, .inl (cI, 16384, .inl v.2.2.2.2.2.1))] → va_S A s.heap H locs → lv_has ls 5 [(0, .ref (ad 0)), (1, .int l1), (2, .int l2), (3, .int l3), (4, .int l4)] → f_X5_orderTails_L20 (f_X5_orderTails_L4 nL4) (f_X5_orderTails_L11 (f_X5_orderTails_L4 nL4) nL11) nL20 l1 l2 l3 l4 v = some r → W p l e rm_X5_orderTails s m ([.ref (ad 0)] : List Value).toArray below meth c H locs 0 0 (MQ below (qV D (oX5 cI cR ad r) A) ([.ref (ad 0)] : List Value).toArray s 0 0 A) (F0 m 20 ls []) := by
            intro nL20
            induction nL20 with
            | zero =>
              intro l1 l2 l3 l4 v H locs ls hP hD hS hl hf
              cases hf
            | succ nL20 ih_L20 =>
              have J66 : ∀ (l1 : Int32) (l2 : Int32) (l3 : Int32) (l4 : Int32) (v : tX5) (H : Heap) (locs : List Loc) (ls : Array Slot), va_P D vwCl [(ad 0, .inr (5, [.ref (ad 1), .ref (ad 3), .ref (ad 4), .ref (ad 5), .ref (ad 6), .ref (ad 7), .int v.2.2.2.2.2.2.1, .int v.2.2.2.2.2.2.2.1, .int v.2.2.2.2.2.2.2.2])), (ad 1, .inr (3, [.ref (ad 2), .int v.1.2])), (ad 2, .inl (cI, 15, .inl v.1.1)), (ad 3, .inl (cI, 1024, .inl v.2.1)), (ad 4, .inl (cI, 64, .inl v.2.2.1)), (ad 5, .inl (cI, 16384, .inl v.2.2.2.1)), (ad 6, .inl (cI, 16384, .inl v.2.2.2.2.1)), (ad 7, .inl (cI, 16384, .inl v.2.2.2.2.2.1))] H → va_D A [(ad 0, .inr (5, [.ref (ad 1), .ref (ad 3), .ref (ad 4), .ref (ad 5), .ref (ad 6), .ref (ad 7), .int v.2.2.2.2.2.2.1, .int v.2.2.2.2.2.2.2.1, .int v.2.2.2.2.2.2.2.2])), (ad 1, .inr (3, [.ref (ad 2), .int v.1.2])), (ad 2, .inl (cI, 15, .inl v.1.1)), (ad 3, .inl (cI, 1024, .inl v.2.1)), (ad 4, .inl (cI, 64, .inl v.2.2.1)), (ad 5, .inl (cI, 16384, .inl v.2.2.2.1)), (ad 6, .inl (cI, 16384, .inl v.2.2.2.2.1)), (ad 7, .inl (cI, 16384, .inl v.2.2.2.2.2.1))] → va_S A s.heap H locs → lv_has ls 5 [(0, .ref (ad 0)), (1, .int l1), (2, .int l2), (3, .int l3), (4, .int l4)] → f_X5_orderTails_J66 (f_X5_orderTails_L4 nL4) (f_X5_orderTails_L11 (f_X5_orderTails_L4 nL4) nL11) (f_X5_orderTails_L20 (f_X5_orderTails_L4 nL4) (f_X5_orderTails_L11 (f_X5_orderTails_L4 nL4) nL11) nL20) l1 l2 l3 l4 v = some r → W p l e rm_X5_orderTails s m ([.ref (ad 0)] : List Value).toArray below meth c H locs 0 0 (MQ below (qV D (oX5 cI cR ad r) A) ([.ref (ad 0)] : List Value).toArray s 0 0 A) (F0 m 66 ls []) := by
                intro l1 l2 l3 l4 v H locs ls hP hD hS hl hf
                unfold f_X5_orderTails_J66 at hf
                refine lv_iinc (v := (l4 + (1 : Int32))) (lv' := [(4, .int (l4 + (1 : Int32))), (0, .ref (ad 0)), (1, .int l1), (2, .int l2), (3, .int l3)]) hx hb dX5_orderTails_66 hl (k := 4) rfl rfl (by decide) rfl (fun ls hl => ?_)
                refine lv_goto (tgt := 20) hx hb dX5_orderTails_69 (by decide) ?_
                exact ih_L20 l1 l2 l3 (l4 + (1 : Int32)) v _ _ ls hP hD hS (lv_sub hl [1, 2, 3, 4, 0] rfl) hf
              intro l1 l2 l3 l4 v H locs ls hP hD hS hl hf
              rw [f_X5_orderTails_L20] at hf
              refine lv_iload hx hb dX5_orderTails_20 (lv_at hl 4 rfl) ?_
              refine lv_bipush (v := (64 : Int32)) hx hb dX5_orderTails_22 (by decide) ?_
              refine lv_icmp_ge (tgt := 72) hx hb dX5_orderTails_24 (by decide) (fun c0 => ?_) (fun c0 => ?_)
              · replace hf := gT hf c0
                refine lv_iinc (v := (l3 + (1 : Int32))) (lv' := [(3, .int (l3 + (1 : Int32))), (0, .ref (ad 0)), (1, .int l1), (2, .int l2), (4, .int l4)]) hx hb dX5_orderTails_72 hl (k := 3) rfl rfl (by decide) rfl (fun ls hl => ?_)
                refine lv_goto (tgt := 11) hx hb dX5_orderTails_75 (by decide) ?_
                exact ih_L11 l1 l2 (l3 + (1 : Int32)) v _ _ ls hP hD hS (lv_sub hl [1, 2, 3, 0] rfl) hf
              · replace hf := gF hf c0
                refine lv_iload hx hb dX5_orderTails_27 (lv_at hl 4 rfl) ?_
                refine lv_iconst (v := (4 : Int32)) hx hb dX5_orderTails_29 (by decide) ?_
                refine lv_ishr hx hb dX5_orderTails_30 ?_
                obtain ⟨x0, hcx0, hf⟩ := gB hf
                refine k_r (r_S (As := [.int (l4 >>> ((4 : Int32) &&& 31))]) (rest := []) (n := 1) ⟨hx, hb, hml, hown, hts⟩ (c_J6_bitCount_0f7a4 l D cI cR (l4 >>> ((4 : Int32) &&& 31)) _ x0 hcx0) kM_X5_47 kS_J6_bitCount_0f7a4 kZ_J6 kK_J6_bitCount_0f7a4 ⟨rfl, rfl⟩ ⟨(Nat.le_of_ble_eq_true rfl), (Nat.le_of_ble_eq_true rfl)⟩ pd_J6_bitCount_0f7a4 rfl hK hN hP hD [] rfl rfl rfl hl.1 (Nat.le_of_ble_eq_true rfl) dX5_orderTails_31 ⟨(Nat.le_of_ble_eq_true rfl), (Nat.le_of_ble_eq_true rfl)⟩) ?_
                refine lv_iload_n hx hb dX5_orderTails_34 rfl (lv_at hl 2 rfl) ?_
                refine lv_icmp_ne (tgt := 66) hx hb dX5_orderTails_35 (by decide) (fun c1 => ?_) (fun c1 => ?_)
                · replace hf := gF hf c1
                  exact J66 l1 l2 l3 l4 v _ _ ls hP hD hS (lv_sub hl [0, 1, 2, 3, 4] rfl) hf
                · replace hf := gT hf c1
                  refine lv_iload hx hb dX5_orderTails_38 (lv_at hl 4 rfl) ?_
                  obtain ⟨x1, hcx1, hf⟩ := gB hf
                  refine k_r (r_S (As := [.int l4]) (rest := []) (n := 1) ⟨hx, hb, hml, hown, hts⟩ (c_X5_ownLoses l D cI cR l4 _ x1 hcx1) kM_X5_53 kS_X5_ownLoses kZ_X5 kK_X5_ownLoses ⟨rfl, rfl⟩ ⟨(Nat.le_of_ble_eq_true rfl), (Nat.le_of_ble_eq_true rfl)⟩ pd_X5_ownLoses rfl hK hN hP hD [] rfl rfl rfl hl.1 (Nat.le_of_ble_eq_true rfl) dX5_orderTails_40 ⟨(Nat.le_of_ble_eq_true rfl), (Nat.le_of_ble_eq_true rfl)⟩) ?_
                  refine lv_iload hx hb dX5_orderTails_43 (lv_at hl 4 rfl) ?_
                  obtain ⟨x2, hcx2, hf⟩ := gB hf
                  refine k_r (r_S (As := [.int l4]) (rest := [.int x1]) (n := 1) ⟨hx, hb, hml, hown, hts⟩ (c_X5_otherLoses l D cI cR l4 _ x2 hcx2) kM_X5_56 kS_X5_otherLoses kZ_X5 kK_X5_otherLoses ⟨rfl, rfl⟩ ⟨(Nat.le_of_ble_eq_true rfl), (Nat.le_of_ble_eq_true rfl)⟩ pd_X5_otherLoses rfl hK hN hP hD [] rfl rfl rfl hl.1 (Nat.le_of_ble_eq_true rfl) dX5_orderTails_45 ⟨(Nat.le_of_ble_eq_true rfl), (Nat.le_of_ble_eq_true rfl)⟩) ?_
                  refine lv_iadd hx hb dX5_orderTails_48 ?_
                  refine lv_iload_n hx hb dX5_orderTails_49 rfl (lv_at hl 3 rfl) ?_
                  refine lv_icmp_ne (tgt := 66) hx hb dX5_orderTails_50 (by decide) (fun c2 => ?_) (fun c2 => ?_)
                  · replace hf := gF hf c2
                    exact J66 l1 l2 l3 l4 v _ _ ls hP hD hS (lv_sub hl [0, 1, 2, 3, 4] rfl) hf
                  · replace hf := gT hf c2
                    refine lv_aload_n hx hb dX5_orderTails_53 rfl (lv_at hl 0 rfl) ?_
                    refine va_get (D := D) (ci := 5) (v := .ref (ad 4)) (C := RX5) (T := TX5) (N := 9) hx hb hts inA_X5 hown hK hP 0 rfl rfl 2 (by decide) (hts _ kF_X5_22) (fun _ h9 => h9) rfl dX5_orderTails_54 ?_
                    refine lv_iload_n hx hb dX5_orderTails_57 rfl (lv_at hl 1 rfl) ?_
                    refine lv_iload hx hb dX5_orderTails_58 (lv_at hl 4 rfl) ?_
                    obtain ⟨x3, hcx3, hf⟩ := gB hf
                    refine j_v (wr := [(ad 0, .inr (5, [.ref (ad 1), .ref (ad 3), .ref (ad 4), .ref (ad 5), .ref (ad 6), .ref (ad 7), .int v.2.2.2.2.2.2.1, .int v.2.2.2.2.2.2.2.1, .int v.2.2.2.2.2.2.2.2])), (ad 1, .inr (3, [.ref (ad 2), .int v.1.2])), (ad 2, .inl (cI, 15, .inl v.1.1)), (ad 3, .inl (cI, 1024, .inl v.2.1)), (ad 5, .inl (cI, 16384, .inl v.2.2.2.1)), (ad 6, .inl (cI, 16384, .inl v.2.2.2.2.1)), (ad 7, .inl (cI, 16384, .inl v.2.2.2.2.2.1))]) (w_SN (As := [.ref (ad 4), .int l1, .int l4]) (rest := []) (n := 3) ⟨hx, hb, hml, hown, hts⟩ (c_X6_put l D cI cR (ad 4) 64 v.2.2.1 l1 l4 _ x3 hcx3) (nM_X5_59 hN) kS_X6_put kZ_X6 kK_X6_put ⟨rfl, rfl⟩ ⟨(Nat.le_of_ble_eq_true rfl), (Nat.le_of_ble_eq_true rfl)⟩ pd_X6_put rfl hK hN hP hD [4] rfl rfl rfl hl.1 (Nat.le_of_ble_eq_true rfl) dX5_orderTails_60 ⟨(Nat.le_of_ble_eq_true rfl), (Nat.le_of_ble_eq_true rfl)⟩) hP hD hS hA [4] [0, 1, 2, 3, 5, 6, 7] rfl rfl rfl (by decide) (fun H locs hP hD hS => ?_)
                    have hP : va_P D vwCl [(ad 0, .inr (5, [.ref (ad 1), .ref (ad 3), .ref (ad 4), .ref (ad 5), .ref (ad 6), .ref (ad 7), .int v.2.2.2.2.2.2.1, .int v.2.2.2.2.2.2.2.1, .int v.2.2.2.2.2.2.2.2])), (ad 1, .inr (3, [.ref (ad 2), .int v.1.2])), (ad 2, .inl (cI, 15, .inl v.1.1)), (ad 3, .inl (cI, 1024, .inl v.2.1)), (ad 5, .inl (cI, 16384, .inl v.2.2.2.1)), (ad 6, .inl (cI, 16384, .inl v.2.2.2.2.1)), (ad 7, .inl (cI, 16384, .inl v.2.2.2.2.2.1)), (ad 4, .inl (cI, 64, .inl x3))] H := hP
                    have hD : va_D A [(ad 0, .inr (5, [.ref (ad 1), .ref (ad 3), .ref (ad 4), .ref (ad 5), .ref (ad 6), .ref (ad 7), .int v.2.2.2.2.2.2.1, .int v.2.2.2.2.2.2.2.1, .int v.2.2.2.2.2.2.2.2])), (ad 1, .inr (3, [.ref (ad 2), .int v.1.2])), (ad 2, .inl (cI, 15, .inl v.1.1)), (ad 3, .inl (cI, 1024, .inl v.2.1)), (ad 5, .inl (cI, 16384, .inl v.2.2.2.1)), (ad 6, .inl (cI, 16384, .inl v.2.2.2.2.1)), (ad 7, .inl (cI, 16384, .inl v.2.2.2.2.2.1)), (ad 4, .inl (cI, 64, .inl x3))] := hD
                    refine lv_iinc (v := (l1 + (1 : Int32))) (lv' := [(1, .int (l1 + (1 : Int32))), (0, .ref (ad 0)), (2, .int l2), (3, .int l3), (4, .int l4)]) hx hb dX5_orderTails_63 hl (k := 1) rfl rfl (by decide) rfl (fun ls hl => ?_)
                    exact J66 (l1 + (1 : Int32)) l2 l3 l4 (v.1, v.2.1, x3, v.2.2.2.1, v.2.2.2.2.1, v.2.2.2.2.2.1, v.2.2.2.2.2.2.1, v.2.2.2.2.2.2.2.1, v.2.2.2.2.2.2.2.2) _ _ ls (hP.subm [0, 1, 2, 3, 7, 4, 5, 6] rfl) (hD.sub [0, 1, 2, 3, 7, 4, 5, 6] rfl rfl) hS (lv_sub hl [1, 0, 2, 3, 4] rfl) hf
          intro l1 l2 l3 v H locs ls hP hD hS hl hf
          rw [f_X5_orderTails_L11] at hf
          refine lv_iload_n hx hb dX5_orderTails_11 rfl (lv_at hl 3 rfl) ?_
          refine lv_bipush (v := (6 : Int32)) hx hb dX5_orderTails_12 (by decide) ?_
          refine lv_icmp_gt (tgt := 78) hx hb dX5_orderTails_14 (by decide) (fun c3 => ?_) (fun c3 => ?_)
          · replace hf := gT hf c3
            refine lv_iinc (v := (l2 + (1 : Int32))) (lv' := [(2, .int (l2 + (1 : Int32))), (0, .ref (ad 0)), (1, .int l1), (3, .int l3)]) hx hb dX5_orderTails_78 hl (k := 2) rfl rfl (by decide) rfl (fun ls hl => ?_)
            refine lv_goto (tgt := 4) hx hb dX5_orderTails_81 (by decide) ?_
            exact ih_L4 l1 (l2 + (1 : Int32)) v _ _ ls hP hD hS (lv_sub hl [1, 2, 0] rfl) hf
          · replace hf := gF hf c3
            refine lv_iconst (v := (0 : Int32)) hx hb dX5_orderTails_17 (by decide) ?_
            refine lv_istore (lv' := [(4, .int (0 : Int32)), (0, .ref (ad 0)), (1, .int l1), (2, .int l2), (3, .int l3)]) hx hb dX5_orderTails_18 hl (by decide) rfl (fun ls hl => ?_)
            exact L20 gas l1 l2 l3 (0 : Int32) v _ _ ls hP hD hS (lv_sub hl [1, 2, 3, 4, 0] rfl) hf
      intro l1 l2 v H locs ls hP hD hS hl hf
      rw [f_X5_orderTails_L4] at hf
      refine lv_iload_n hx hb dX5_orderTails_4 rfl (lv_at hl 2 rfl) ?_
      refine lv_iconst (v := (2 : Int32)) hx hb dX5_orderTails_5 (by decide) ?_
      refine lv_icmp_gt (tgt := 84) hx hb dX5_orderTails_6 (by decide) (fun c4 => ?_) (fun c4 => ?_)
      · replace hf := gT hf c4
        exact z_v hf (fun r => oX5 cI cR ad r) hx hb hr hlk hS hP hD dX5_orderTails_84
      · replace hf := gF hf c4
        refine lv_iconst (v := (0 : Int32)) hx hb dX5_orderTails_9 (by decide) ?_
        refine lv_istore_n (lv' := [(3, .int (0 : Int32)), (0, .ref (ad 0)), (1, .int l1), (2, .int l2)]) hx hb dX5_orderTails_10 rfl hl (by decide) rfl (fun ls hl => ?_)
        exact L11 gas l1 l2 (0 : Int32) v _ _ ls hP hD hS (lv_sub hl [1, 2, 3, 0] rfl) hf
  unfold f_X5_orderTails at hf
  refine lv_iconst (v := (0 : Int32)) hx hb dX5_orderTails_0 (by decide) ?_
  refine lv_istore_n (lv' := [(1, .int (0 : Int32)), (0, .ref (ad 0))]) hx hb dX5_orderTails_1 rfl hl (by decide) rfl (fun ls hl => ?_)
  refine lv_iconst (v := (0 : Int32)) hx hb dX5_orderTails_2 (by decide) ?_
  refine lv_istore_n (lv' := [(2, .int (0 : Int32)), (1, .int (0 : Int32)), (0, .ref (ad 0))]) hx hb dX5_orderTails_3 rfl hl (by decide) rfl (fun ls hl => ?_)
  exact L4 gas (0 : Int32) (0 : Int32) v _ _ ls hP hD hS (lv_sub hl [2, 1, 0] rfl) hf
def f_X5_fillRests_J86 (kL2 : Int32 → tX5 → Option tX5) (l1 : Int32) (v : tX5) : Option tX5 :=
  kL2 (l1 + (1 : Int32)) v
def f_X5_fillRests_L40 (kL2 : Int32 → tX5 → Option tX5) (kL21 : Int32 → Int32 → tX5 → Option tX5) : Nat → Int32 → Int32 → Int32 → tX5 → Option tX5
  | 0, _, _, _, _ => none
  | nL40 + 1, l1, l2, l3, v =>
    (if (4 : Int32) < l3 then kL21 l1 (l2 + (1 : Int32)) v else (f_X3_rest v.1 l1 l2 l3).bind fun x0 => (f_X6_put 1024 v.2.1 (((l1 <<< ((6 : Int32) &&& 31)) ||| (l2 <<< ((2 : Int32) &&& 31))) ||| (l3 - (1 : Int32))) x0).bind fun x1 => f_X5_fillRests_L40 kL2 kL21 nL40 l1 l2 (l3 + (1 : Int32)) (v.1, x1, v.2.2.1, v.2.2.2.1, v.2.2.2.2.1, v.2.2.2.2.2.1, v.2.2.2.2.2.2.1, v.2.2.2.2.2.2.2.1, v.2.2.2.2.2.2.2.2))
def f_X5_fillRests_L21 (kL2 : Int32 → tX5 → Option tX5) : Nat → Int32 → Int32 → tX5 → Option tX5
  | 0, _, _, _ => none
  | nL21 + 1, l1, l2, v =>
    (if (14 : Int32) < l2 then f_X5_fillRests_J86 kL2 l1 v else (if v.1.2 < l2 then f_X5_fillRests_J86 kL2 l1 v else f_X5_fillRests_L40 kL2 (f_X5_fillRests_L21 kL2 nL21) gas l1 l2 (1 : Int32) v))
def f_X5_fillRests_L2 : Nat → Int32 → tX5 → Option tX5
  | 0, _, _ => none
  | nL2 + 1, l1, v =>
    (if (14 : Int32) < l1 then some v else (if v.1.2 < l1 then some v else f_X5_fillRests_L21 (f_X5_fillRests_L2 nL2) gas l1 (0 : Int32) v))
def f_X5_fillRests (v : tX5) : Option tX5 :=
  f_X5_fillRests_L2 gas (0 : Int32) v
abbrev rm_X5_fillRests : Room := { frames := 2, cells := 0, slots := 0, locals := 50 }
set_option maxHeartbeats 4000000 in
set_option maxRecDepth 100000 in
theorem c_X5_fillRests (l : Launch) (D : va_G) (cI cR : ClassId) (ad : Nat → Nat) (v : tX5) (sz : Nat) (r : tX5) (hf : f_X5_fillRests v = some r) : Met l yX5_fillRests (wM yX5_fillRests cX5_fillRests 4 none) rm_X5_fillRests (cPre D (tysA cI cR) ([.ref (ad 0)] : List Value) (oX5 cI cR ad v) sz) (qV D (oX5 cI cR ad r) (va_A (oX5 cI cR ad v) sz)) 0 0 (va_A (oX5 cI cR ad v) sz) := by
  refine en_M (own := RX5) (lv := [(0, .ref (ad 0))]) (by decide +kernel) rfl (Nat.le_of_ble_eq_true rfl) rfl (fun p e s m below meth c hx hb hr hlk hml hown hnm hts hsz hP hK hD hN ls hl => ?_)
  subst hsz
  generalize hAe : va_A (oX5 cI cR ad v) s.heap.size = A at hD ⊢
  have hA : ∀ q : Nat, s.heap.size ≤ q → A q := fun q h => by rw [← hAe]; exact Or.inr h
  have hS : va_S A s.heap s.heap [] := va_S.rf
  have hP : va_P D vwCl [(ad 0, .inr (5, [.ref (ad 1), .ref (ad 3), .ref (ad 4), .ref (ad 5), .ref (ad 6), .ref (ad 7), .int v.2.2.2.2.2.2.1, .int v.2.2.2.2.2.2.2.1, .int v.2.2.2.2.2.2.2.2])), (ad 1, .inr (3, [.ref (ad 2), .int v.1.2])), (ad 2, .inl (cI, 15, .inl v.1.1)), (ad 3, .inl (cI, 1024, .inl v.2.1)), (ad 4, .inl (cI, 64, .inl v.2.2.1)), (ad 5, .inl (cI, 16384, .inl v.2.2.2.1)), (ad 6, .inl (cI, 16384, .inl v.2.2.2.2.1)), (ad 7, .inl (cI, 16384, .inl v.2.2.2.2.2.1))] s.heap := hP
  have hD : va_D A [(ad 0, .inr (5, [.ref (ad 1), .ref (ad 3), .ref (ad 4), .ref (ad 5), .ref (ad 6), .ref (ad 7), .int v.2.2.2.2.2.2.1, .int v.2.2.2.2.2.2.2.1, .int v.2.2.2.2.2.2.2.2])), (ad 1, .inr (3, [.ref (ad 2), .int v.1.2])), (ad 2, .inl (cI, 15, .inl v.1.1)), (ad 3, .inl (cI, 1024, .inl v.2.1)), (ad 4, .inl (cI, 64, .inl v.2.2.1)), (ad 5, .inl (cI, 16384, .inl v.2.2.2.1)), (ad 6, .inl (cI, 16384, .inl v.2.2.2.2.1)), (ad 7, .inl (cI, 16384, .inl v.2.2.2.2.2.1))] := hD
  have L2 : ∀ (nL2 : Nat) (l1 : Int32) (v : tX5) (H : Heap) (locs : List Loc) (ls : Array Slot), va_P D vwCl [(ad 0, .inr (5, [.ref (ad 1), .ref (ad 3), .ref (ad 4), .ref (ad 5), .ref (ad 6), .ref (ad 7), .int v.2.2.2.2.2.2.1, .int v.2.2.2.2.2.2.2.1, .int v.2.2.2.2.2.2.2.2])), (ad 1, .inr (3, [.ref (ad 2), .int v.1.2])), (ad 2, .inl (cI, 15, .inl v.1.1)), (ad 3, .inl (cI, 1024, .inl v.2.1)), (ad 4, .inl (cI, 64, .inl v.2.2.1)), (ad 5, .inl (cI, 16384, .inl v.2.2.2.1)), (ad 6, .inl (cI, 16384, .inl v.2.2.2.2.1)), (ad 7, .inl (cI, 16384, .inl v.2.2.2.2.2.1))] H → va_D A [(ad 0, .inr (5, [.ref (ad 1), .ref (ad 3), .ref (ad 4), .ref (ad 5), .ref (ad 6), .ref (ad 7), .int v.2.2.2.2.2.2.1, .int v.2.2.2.2.2.2.2.1, .int v.2.2.2.2.2.2.2.2])), (ad 1, .inr (3, [.ref (ad 2), .int v.1.2])), (ad 2, .inl (cI, 15, .inl v.1.1)), (ad 3, .inl (cI, 1024, .inl v.2.1)), (ad 4, .inl (cI, 64, .inl v.2.2.1)), (ad 5, .inl (cI, 16384, .inl v.2.2.2.1)), (ad 6, .inl (cI, 16384, .inl v.2.2.2.2.1)), (ad 7, .inl (cI, 16384, .inl v.2.2.2.2.2.1))] → va_S A s.heap H locs → lv_has ls 4 [(0, .ref (ad 0)), (1, .int l1)] → f_X5_fillRests_L2 nL2 l1 v = some r → W p l e rm_X5_fillRests s m ([.ref (ad 0)] : List Value).toArray below meth c H locs 0 0 (MQ below (qV D (oX5 cI cR ad r) A) ([.ref (ad 0)] : List Value).toArray s 0 0 A) (F0 m 2 ls []) := by
    intro nL2
    induction nL2 with
    | zero =>
      intro l1 v H locs ls hP hD hS hl hf
      cases hf
    | succ nL2 ih_L2 =>
      have J86 : ∀ (l1 : Int32) (v : tX5) (H : Heap) (locs : List Loc) (ls : Array Slot), va_P D vwCl [(ad 0, .inr (5, [.ref (ad 1), .ref (ad 3), .ref (ad 4), .ref (ad 5), .ref (ad 6), .ref (ad 7), .int v.2.2.2.2.2.2.1, .int v.2.2.2.2.2.2.2.1, .int v.2.2.2.2.2.2.2.2])), (ad 1, .inr (3, [.ref (ad 2), .int v.1.2])), (ad 2, .inl (cI, 15, .inl v.1.1)), (ad 3, .inl (cI, 1024, .inl v.2.1)), (ad 4, .inl (cI, 64, .inl v.2.2.1)), (ad 5, .inl (cI, 16384, .inl v.2.2.2.1)), (ad 6, .inl (cI, 16384, .inl v.2.2.2.2.1)), (ad 7, .inl (cI, 16384, .inl v.2.2.2.2.2.1))] H → va_D A [(ad 0, .inr (5, [.ref (ad 1), .ref (ad 3), .ref (ad 4), .ref (ad 5), .ref (ad 6), .ref (ad 7), .int v.2.2.2.2.2.2.1, .int v.2.2.2.2.2.2.2.1, .int v.2.2.2.2.2.2.2.2])), (ad 1, .inr (3, [.ref (ad 2), .int v.1.2])), (ad 2, .inl (cI, 15, .inl v.1.1)), (ad 3, .inl (cI, 1024, .inl v.2.1)), (ad 4, .inl (cI, 64, .inl v.2.2.1)), (ad 5, .inl (cI, 16384, .inl v.2.2.2.1)), (ad 6, .inl (cI, 16384, .inl v.2.2.2.2.1)), (ad 7, .inl (cI, 16384, .inl v.2.2.2.2.2.1))] → va_S A s.heap H locs → lv_has ls 4 [(0, .ref (ad 0)), (1, .int l1)] → f_X5_fillRests_J86 (f_X5_fillRests_L2 nL2) l1 v = some r → W p l e rm_X5_fillRests s m ([.ref (ad 0)] : List Value).toArray below meth c H locs 0 0 (MQ below (qV D (oX5 cI cR ad r) A) ([.ref (ad 0)] : List Value).toArray s 0 0 A) (F0 m 86 ls []) := by
        intro l1 v H locs ls hP hD hS hl hf
        unfold f_X5_fillRests_J86 at hf
        refine lv_iinc (v := (l1 + (1 : Int32))) (lv' := [(1, .int (l1 + (1 : Int32))), (0, .ref (ad 0))]) hx hb dX5_fillRests_86 hl (k := 1) rfl rfl (by decide) rfl (fun ls hl => ?_)
        refine lv_goto (tgt := 2) hx hb dX5_fillRests_89 (by decide) ?_
        exact ih_L2 (l1 + (1 : Int32)) v _ _ ls hP hD hS (lv_sub hl [1, 0] rfl) hf
      have L21 : ∀ (nL21 : Nat) (l1 : Int32) (l2 : Int32) (v : tX5) (H : Heap) (locs : List Loc) (ls : Array Slot), va_P D vwCl [(ad 0, .inr (5, [.ref (ad 1), .ref (ad 3), .ref (ad 4), .ref (ad 5), .ref (ad 6), .ref (ad 7), .int v.2.2.2.2.2.2.1, .int v.2.2.2.2.2.2.2.1, .int v.2.2.2.2.2.2.2.2])), (ad 1, .inr (3, [.ref (ad 2), .int v.1.2])), (ad 2, .inl (cI, 15, .inl v.1.1)), (ad 3, .inl (cI, 1024, .inl v.2.1)), (ad 4, .inl (cI, 64, .inl v.2.2.1)), (ad 5, .inl (cI, 16384, .inl v.2.2.2.1)), (ad 6, .inl (cI, 16384, .inl v.2.2.2.2.1)), (ad 7, .inl (cI, 16384, .inl v.2.2.2.2.2.1))] H → va_D A [(ad 0, .inr (5, [.ref (ad 1), .ref (ad 3), .ref (ad 4), .ref (ad 5), .ref (ad 6), .ref (ad 7), .int v.2.2.2.2.2.2.1, .int v.2.2.2.2.2.2.2.1, .int v.2.2.2.2.2.2.2.2])), (ad 1, .inr (3, [.ref (ad 2), .int v.1.2])), (ad 2, .inl (cI, 15, .inl v.1.1)), (ad 3, .inl (cI, 1024, .inl v.2.1)), (ad 4, .inl (cI, 64, .inl v.2.2.1)), (ad 5, .inl (cI, 16384, .inl v.2.2.2.1)), (ad 6, .inl (cI, 16384, .inl v.2.2.2.2.1)), (ad 7, .inl (cI, 16384, .inl v.2.2.2.2.2.1))] → va_S A s.heap H locs → lv_has ls 4 [(0, .ref (ad 0)), (1, .int l1), (2, .int l2)] → f_X5_fillRests_L21 (f_X5_fillRests_L2 nL2) nL21 l1 l2 v = some r → W p l e rm_X5_fillRests s m ([.ref (ad 0)] : List Value).toArray below meth c H locs 0 0 (MQ below (qV D (oX5 cI cR ad r) A) ([.ref (ad 0)] : List Value).toArray s 0 0 A) (F0 m 21 ls []) := by
        intro nL21
        induction nL21 with
        | zero =>
          intro l1 l2 v H locs ls hP hD hS hl hf
          cases hf
        | succ nL21 ih_L21 =>
          have L40 : ∀ (nL40 : Nat) (l1 : Int32) (l2 : Int32) (l3 : Int32) (v : tX5) (H : Heap) (locs : List Loc) (ls : Array Slot), va_P D vwCl [(ad 0, .inr (5, [.ref (ad 1), .ref (ad 3), .ref (ad 4), .ref (ad 5), .ref (ad 6), .ref (ad 7), .int v.2.2.2.2.2.2.1, .int v.2.2.2.2.2.2.2.1, .int v.2.2.2.2.2.2.2.2])), (ad 1, .inr (3, [.ref (ad 2), .int v.1.2])), (ad 2, .inl (cI, 15, .inl v.1.1)), (ad 3, .inl (cI, 1024, .inl v.2.1)), (ad 4, .inl (cI, 64, .inl v.2.2.1)), (ad 5, .inl (cI, 16384, .inl v.2.2.2.1)), (ad 6, .inl (cI, 16384, .inl v.2.2.2.2.1)), (ad 7, .inl (cI, 16384, .inl v.2.2.2.2.2.1))] H → va_D A [(ad 0, .inr (5, [.ref (ad 1), .ref (ad 3), .ref (ad 4), .ref (ad 5), .ref (ad 6), .ref (ad 7), .int v.2.2.2.2.2.2.1, .int v.2.2.2.2.2.2.2.1, .int v.2.2.2.2.2.2.2.2])), (ad 1, .inr (3, [.ref (ad 2), .int v.1.2])), (ad 2, .inl (cI, 15, .inl v.1.1)), (ad 3, .inl (cI, 1024, .inl v.2.1)), (ad 4, .inl (cI, 64, .inl v.2.2.1)), (ad 5, .inl (cI, 16384, .inl v.2.2.2.1)), (ad 6, .inl (cI, 16384, .inl v.2.2.2.2.1)), (ad 7, .inl (cI, 16384, .inl v.2.2.2.2.2.1))] → va_S A s.heap H locs → lv_has ls 4 [(0, .ref (ad 0)), (1, .int l1), (2, .int l2), (3, .int l3)] → f_X5_fillRests_L40 (f_X5_fillRests_L2 nL2) (f_X5_fillRests_L21 (f_X5_fillRests_L2 nL2) nL21) nL40 l1 l2 l3 v = some r → W p l e rm_X5_fillRests s m ([.ref (ad 0)] : List Value).toArray below meth c H locs 0 0 (MQ below (qV D (oX5 cI cR ad r) A) ([.ref (ad 0)] : List Value).toArray s 0 0 A) (F0 m 40 ls []) := by
            intro nL40
            induction nL40 with
            | zero =>
              intro l1 l2 l3 v H locs ls hP hD hS hl hf
              cases hf
            | succ nL40 ih_L40 =>
              intro l1 l2 l3 v H locs ls hP hD hS hl hf
              rw [f_X5_fillRests_L40] at hf
              refine lv_iload_n hx hb dX5_fillRests_40 rfl (lv_at hl 3 rfl) ?_
              refine lv_iconst (v := (4 : Int32)) hx hb dX5_fillRests_41 (by decide) ?_
              refine lv_icmp_gt (tgt := 80) hx hb dX5_fillRests_42 (by decide) (fun c0 => ?_) (fun c0 => ?_)
              · replace hf := gT hf c0
                refine lv_iinc (v := (l2 + (1 : Int32))) (lv' := [(2, .int (l2 + (1 : Int32))), (0, .ref (ad 0)), (1, .int l1), (3, .int l3)]) hx hb dX5_fillRests_80 hl (k := 2) rfl rfl (by decide) rfl (fun ls hl => ?_)
                refine lv_goto (tgt := 21) hx hb dX5_fillRests_83 (by decide) ?_
                exact ih_L21 l1 (l2 + (1 : Int32)) v _ _ ls hP hD hS (lv_sub hl [1, 2, 0] rfl) hf
              · replace hf := gF hf c0
                refine lv_aload_n hx hb dX5_fillRests_45 rfl (lv_at hl 0 rfl) ?_
                refine va_get (D := D) (ci := 5) (v := .ref (ad 3)) (C := RX5) (T := TX5) (N := 9) hx hb hts inA_X5 hown hK hP 0 rfl rfl 1 (by decide) (hts _ kF_X5_18) (fun _ h9 => h9) rfl dX5_fillRests_46 ?_
                refine lv_iload_n hx hb dX5_fillRests_49 rfl (lv_at hl 1 rfl) ?_
                refine lv_bipush (v := (6 : Int32)) hx hb dX5_fillRests_50 (by decide) ?_
                refine lv_ishl hx hb dX5_fillRests_52 ?_
                refine lv_iload_n hx hb dX5_fillRests_53 rfl (lv_at hl 2 rfl) ?_
                refine lv_iconst (v := (2 : Int32)) hx hb dX5_fillRests_54 (by decide) ?_
                refine lv_ishl hx hb dX5_fillRests_55 ?_
                refine lv_ior hx hb dX5_fillRests_56 ?_
                refine lv_iload_n hx hb dX5_fillRests_57 rfl (lv_at hl 3 rfl) ?_
                refine lv_iconst (v := (1 : Int32)) hx hb dX5_fillRests_58 (by decide) ?_
                refine lv_isub hx hb dX5_fillRests_59 ?_
                refine lv_ior hx hb dX5_fillRests_60 ?_
                refine lv_aload_n hx hb dX5_fillRests_61 rfl (lv_at hl 0 rfl) ?_
                refine va_get (D := D) (ci := 5) (v := .ref (ad 1)) (C := RX5) (T := TX5) (N := 9) hx hb hts inA_X5 hown hK hP 0 rfl rfl 0 (by decide) (hts _ kF_X5_12) (fun _ h9 => h9) rfl dX5_fillRests_62 ?_
                refine lv_iload_n hx hb dX5_fillRests_65 rfl (lv_at hl 1 rfl) ?_
                refine lv_iload_n hx hb dX5_fillRests_66 rfl (lv_at hl 2 rfl) ?_
                refine lv_iload_n hx hb dX5_fillRests_67 rfl (lv_at hl 3 rfl) ?_
                obtain ⟨x0, hcx0, hf⟩ := gB hf
                refine k_r (r_V (As := [.int l1, .int l2, .int l3]) (rest := [.int (((l1 <<< ((6 : Int32) &&& 31)) ||| (l2 <<< ((2 : Int32) &&& 31))) ||| (l3 - (1 : Int32))), .ref (ad 3)]) (n := 3) ⟨hx, hb, hml, hown, hts⟩ (c_X3_rest l D cI cR (fun i => ad (i + 1)) v.1 l1 l2 l3 _ x0 hcx0) kM_X5_86 kN_X3_rest kV_X3_rest kZ_X3 kK_X3_rest ⟨rfl, rfl⟩ ⟨(Nat.le_of_ble_eq_true rfl), (Nat.le_of_ble_eq_true rfl)⟩ pd_X3_rest rfl hK hN hP hD [1, 2] rfl rfl 0 3 rfl rfl rfl hl.1 (Nat.le_of_ble_eq_true rfl) dX5_fillRests_68 ⟨(Nat.le_of_ble_eq_true rfl), (Nat.le_of_ble_eq_true rfl)⟩) ?_
                obtain ⟨x1, hcx1, hf⟩ := gB hf
                refine j_v (wr := [(ad 0, .inr (5, [.ref (ad 1), .ref (ad 3), .ref (ad 4), .ref (ad 5), .ref (ad 6), .ref (ad 7), .int v.2.2.2.2.2.2.1, .int v.2.2.2.2.2.2.2.1, .int v.2.2.2.2.2.2.2.2])), (ad 1, .inr (3, [.ref (ad 2), .int v.1.2])), (ad 2, .inl (cI, 15, .inl v.1.1)), (ad 4, .inl (cI, 64, .inl v.2.2.1)), (ad 5, .inl (cI, 16384, .inl v.2.2.2.1)), (ad 6, .inl (cI, 16384, .inl v.2.2.2.2.1)), (ad 7, .inl (cI, 16384, .inl v.2.2.2.2.2.1))]) (w_SN (As := [.ref (ad 3), .int (((l1 <<< ((6 : Int32) &&& 31)) ||| (l2 <<< ((2 : Int32) &&& 31))) ||| (l3 - (1 : Int32))), .int x0]) (rest := []) (n := 3) ⟨hx, hb, hml, hown, hts⟩ (c_X6_put l D cI cR (ad 3) 1024 v.2.1 (((l1 <<< ((6 : Int32) &&& 31)) ||| (l2 <<< ((2 : Int32) &&& 31))) ||| (l3 - (1 : Int32))) x0 _ x1 hcx1) (nM_X5_59 hN) kS_X6_put kZ_X6 kK_X6_put ⟨rfl, rfl⟩ ⟨(Nat.le_of_ble_eq_true rfl), (Nat.le_of_ble_eq_true rfl)⟩ pd_X6_put rfl hK hN hP hD [3] rfl rfl rfl hl.1 (Nat.le_of_ble_eq_true rfl) dX5_fillRests_71 ⟨(Nat.le_of_ble_eq_true rfl), (Nat.le_of_ble_eq_true rfl)⟩) hP hD hS hA [3] [0, 1, 2, 4, 5, 6, 7] rfl rfl rfl (by decide) (fun H locs hP hD hS => ?_)
                have hP : va_P D vwCl [(ad 0, .inr (5, [.ref (ad 1), .ref (ad 3), .ref (ad 4), .ref (ad 5), .ref (ad 6), .ref (ad 7), .int v.2.2.2.2.2.2.1, .int v.2.2.2.2.2.2.2.1, .int v.2.2.2.2.2.2.2.2])), (ad 1, .inr (3, [.ref (ad 2), .int v.1.2])), (ad 2, .inl (cI, 15, .inl v.1.1)), (ad 4, .inl (cI, 64, .inl v.2.2.1)), (ad 5, .inl (cI, 16384, .inl v.2.2.2.1)), (ad 6, .inl (cI, 16384, .inl v.2.2.2.2.1)), (ad 7, .inl (cI, 16384, .inl v.2.2.2.2.2.1)), (ad 3, .inl (cI, 1024, .inl x1))] H := hP
                have hD : va_D A [(ad 0, .inr (5, [.ref (ad 1), .ref (ad 3), .ref (ad 4), .ref (ad 5), .ref (ad 6), .ref (ad 7), .int v.2.2.2.2.2.2.1, .int v.2.2.2.2.2.2.2.1, .int v.2.2.2.2.2.2.2.2])), (ad 1, .inr (3, [.ref (ad 2), .int v.1.2])), (ad 2, .inl (cI, 15, .inl v.1.1)), (ad 4, .inl (cI, 64, .inl v.2.2.1)), (ad 5, .inl (cI, 16384, .inl v.2.2.2.1)), (ad 6, .inl (cI, 16384, .inl v.2.2.2.2.1)), (ad 7, .inl (cI, 16384, .inl v.2.2.2.2.2.1)), (ad 3, .inl (cI, 1024, .inl x1))] := hD
                refine lv_iinc (v := (l3 + (1 : Int32))) (lv' := [(3, .int (l3 + (1 : Int32))), (0, .ref (ad 0)), (1, .int l1), (2, .int l2)]) hx hb dX5_fillRests_74 hl (k := 3) rfl rfl (by decide) rfl (fun ls hl => ?_)
                refine lv_goto (tgt := 40) hx hb dX5_fillRests_77 (by decide) ?_
                exact ih_L40 l1 l2 (l3 + (1 : Int32)) (v.1, x1, v.2.2.1, v.2.2.2.1, v.2.2.2.2.1, v.2.2.2.2.2.1, v.2.2.2.2.2.2.1, v.2.2.2.2.2.2.2.1, v.2.2.2.2.2.2.2.2) _ _ ls (hP.subm [0, 1, 2, 7, 3, 4, 5, 6] rfl) (hD.sub [0, 1, 2, 7, 3, 4, 5, 6] rfl rfl) hS (lv_sub hl [1, 2, 3, 0] rfl) hf
          intro l1 l2 v H locs ls hP hD hS hl hf
          rw [f_X5_fillRests_L21] at hf
          refine lv_iload_n hx hb dX5_fillRests_21 rfl (lv_at hl 2 rfl) ?_
          refine lv_bipush (v := (14 : Int32)) hx hb dX5_fillRests_22 (by decide) ?_
          refine lv_icmp_gt (tgt := 86) hx hb dX5_fillRests_24 (by decide) (fun c1 => ?_) (fun c1 => ?_)
          · replace hf := gT hf c1
            exact J86 l1 v _ _ ls hP hD hS (lv_sub hl [0, 1] rfl) hf
          · replace hf := gF hf c1
            refine lv_iload_n hx hb dX5_fillRests_27 rfl (lv_at hl 2 rfl) ?_
            refine lv_aload_n hx hb dX5_fillRests_28 rfl (lv_at hl 0 rfl) ?_
            refine va_get (D := D) (ci := 5) (v := .ref (ad 1)) (C := RX5) (T := TX5) (N := 9) hx hb hts inA_X5 hown hK hP 0 rfl rfl 0 (by decide) (hts _ kF_X5_12) (fun _ h9 => h9) rfl dX5_fillRests_29 ?_
            refine va_getN (D := D) (ci := 3) (v := .int v.1.2) (C := RX3) (T := TX3) (N := 2) hx hb hts inA_X3 hown hK hP 1 rfl rfl 1 (by decide) (va_Nw.use rfl (nF_X5_83 hN)) (fun _ h9 => h9) rfl dX5_fillRests_32 ?_
            refine lv_icmp_gt (tgt := 86) hx hb dX5_fillRests_35 (by decide) (fun c2 => ?_) (fun c2 => ?_)
            · replace hf := gT hf c2
              exact J86 l1 v _ _ ls hP hD hS (lv_sub hl [0, 1] rfl) hf
            · replace hf := gF hf c2
              refine lv_iconst (v := (1 : Int32)) hx hb dX5_fillRests_38 (by decide) ?_
              refine lv_istore_n (lv' := [(3, .int (1 : Int32)), (0, .ref (ad 0)), (1, .int l1), (2, .int l2)]) hx hb dX5_fillRests_39 rfl hl (by decide) rfl (fun ls hl => ?_)
              exact L40 gas l1 l2 (1 : Int32) v _ _ ls hP hD hS (lv_sub hl [1, 2, 3, 0] rfl) hf
      intro l1 v H locs ls hP hD hS hl hf
      rw [f_X5_fillRests_L2] at hf
      refine lv_iload_n hx hb dX5_fillRests_2 rfl (lv_at hl 1 rfl) ?_
      refine lv_bipush (v := (14 : Int32)) hx hb dX5_fillRests_3 (by decide) ?_
      refine lv_icmp_gt (tgt := 92) hx hb dX5_fillRests_5 (by decide) (fun c3 => ?_) (fun c3 => ?_)
      · replace hf := gT hf c3
        exact z_v hf (fun r => oX5 cI cR ad r) hx hb hr hlk hS hP hD dX5_fillRests_92
      · replace hf := gF hf c3
        refine lv_iload_n hx hb dX5_fillRests_8 rfl (lv_at hl 1 rfl) ?_
        refine lv_aload_n hx hb dX5_fillRests_9 rfl (lv_at hl 0 rfl) ?_
        refine va_get (D := D) (ci := 5) (v := .ref (ad 1)) (C := RX5) (T := TX5) (N := 9) hx hb hts inA_X5 hown hK hP 0 rfl rfl 0 (by decide) (hts _ kF_X5_12) (fun _ h9 => h9) rfl dX5_fillRests_10 ?_
        refine va_getN (D := D) (ci := 3) (v := .int v.1.2) (C := RX3) (T := TX3) (N := 2) hx hb hts inA_X3 hown hK hP 1 rfl rfl 1 (by decide) (va_Nw.use rfl (nF_X5_83 hN)) (fun _ h9 => h9) rfl dX5_fillRests_13 ?_
        refine lv_icmp_gt (tgt := 92) hx hb dX5_fillRests_16 (by decide) (fun c4 => ?_) (fun c4 => ?_)
        · replace hf := gT hf c4
          exact z_v hf (fun r => oX5 cI cR ad r) hx hb hr hlk hS hP hD dX5_fillRests_92
        · replace hf := gF hf c4
          refine lv_iconst (v := (0 : Int32)) hx hb dX5_fillRests_19 (by decide) ?_
          refine lv_istore_n (lv' := [(2, .int (0 : Int32)), (0, .ref (ad 0)), (1, .int l1)]) hx hb dX5_fillRests_20 rfl hl (by decide) rfl (fun ls hl => ?_)
          exact L21 gas l1 (0 : Int32) v _ _ ls hP hD hS (lv_sub hl [1, 2, 0] rfl) hf
  unfold f_X5_fillRests at hf
  refine lv_iconst (v := (0 : Int32)) hx hb dX5_fillRests_0 (by decide) ?_
  refine lv_istore_n (lv' := [(1, .int (0 : Int32)), (0, .ref (ad 0))]) hx hb dX5_fillRests_1 rfl hl (by decide) rfl (fun ls hl => ?_)
  exact L2 gas (0 : Int32) v _ _ ls hP hD hS (lv_sub hl [1, 0] rfl) hf
def f_X5_prepare_J37 (v1 : tX2) (v : tX5) : Option tX5 :=
  (f_X3_takeOver v.1 v1.1).bind fun x0 => (f_X5_fillRests (x0, v.2.1, v.2.2.1, v.2.2.2.1, v.2.2.2.2.1, v.2.2.2.2.2.1, v.2.2.2.2.2.2.1, v1.2.2.2.1, v1.2.2.2.2.1)).bind fun x1 => (f_X6_fillRow 16384 x1.2.2.2.1 (0 : Int32)).bind fun x2 => (f_X6_fillRow 16384 x1.2.2.2.2.1 (0 : Int32)).bind fun x3 => some (x1.1, x1.2.1, x1.2.2.1, x2, x3, x1.2.2.2.2.2.1, x1.2.2.2.2.2.2.1, x1.2.2.2.2.2.2.2.1, x1.2.2.2.2.2.2.2.2)
def f_X5_prepare (v : tX5) (v1 : tX2) : Option tX5 :=
  (if v.2.2.2.2.2.2.2.1 = v1.2.2.2.1 then (if v.2.2.2.2.2.2.2.2 = v1.2.2.2.2.1 then (f_X3_isLike v.1 v1.1).bind fun x4 => (if x4 = 0 then f_X5_prepare_J37 v1 v else some v) else f_X5_prepare_J37 v1 v) else f_X5_prepare_J37 v1 v)
abbrev rm_X5_prepare : Room := { frames := 3, cells := 0, slots := 0, locals := 73 }
set_option maxHeartbeats 4000000 in
set_option maxRecDepth 100000 in
theorem c_X5_prepare (l : Launch) (D : va_G) (cI cR : ClassId) (ad : Nat → Nat) (v : tX5) (ad1 : Nat → Nat) (v1 : tX2) (sz : Nat) (r : tX5) (hf : f_X5_prepare v v1 = some r) : Met l yX5_prepare (wM yX5_prepare cX5_prepare 2 none) rm_X5_prepare (cPre D (tysA cI cR) ([.ref (ad 0), .ref (ad1 0)] : List Value) (oX5 cI cR ad v ++ oX2 cI cR ad1 v1) sz) (qV D (oX5 cI cR ad r ++ oX2 cI cR ad1 v1) (va_A (oX5 cI cR ad v ++ oX2 cI cR ad1 v1) sz)) 0 0 (va_A (oX5 cI cR ad v ++ oX2 cI cR ad1 v1) sz) := by
  refine en_M (own := RX5) (lv := [(0, .ref (ad 0)), (1, .ref (ad1 0))]) (by decide +kernel) rfl (Nat.le_of_ble_eq_true rfl) rfl (fun p e s m below meth c hx hb hr hlk hml hown hnm hts hsz hP hK hD hN ls hl => ?_)
  subst hsz
  generalize hAe : va_A (oX5 cI cR ad v ++ oX2 cI cR ad1 v1) s.heap.size = A at hD ⊢
  have hA : ∀ q : Nat, s.heap.size ≤ q → A q := fun q h => by rw [← hAe]; exact Or.inr h
  have hS : va_S A s.heap s.heap [] := va_S.rf
  have hP : va_P D vwCl [(ad 0, .inr (5, [.ref (ad 1), .ref (ad 3), .ref (ad 4), .ref (ad 5), .ref (ad 6), .ref (ad 7), .int v.2.2.2.2.2.2.1, .int v.2.2.2.2.2.2.2.1, .int v.2.2.2.2.2.2.2.2])), (ad 1, .inr (3, [.ref (ad 2), .int v.1.2])), (ad 2, .inl (cI, 15, .inl v.1.1)), (ad 3, .inl (cI, 1024, .inl v.2.1)), (ad 4, .inl (cI, 64, .inl v.2.2.1)), (ad 5, .inl (cI, 16384, .inl v.2.2.2.1)), (ad 6, .inl (cI, 16384, .inl v.2.2.2.2.1)), (ad 7, .inl (cI, 16384, .inl v.2.2.2.2.2.1)), (ad1 0, .inr (2, [.ref (ad1 1), .ref (ad1 3), .ref (ad1 5), .int v1.2.2.2.1, .int v1.2.2.2.2.1, .int v1.2.2.2.2.2.1, .int v1.2.2.2.2.2.2.1, .int v1.2.2.2.2.2.2.2.1, .int v1.2.2.2.2.2.2.2.2.1, .int v1.2.2.2.2.2.2.2.2.2.1, .int v1.2.2.2.2.2.2.2.2.2.2])), (ad1 1, .inr (3, [.ref (ad1 2), .int v1.1.2])), (ad1 2, .inl (cI, 15, .inl v1.1.1)), (ad1 3, .inr (4, [.ref (ad1 4), .int v1.2.1.2.1, .int v1.2.1.2.2.1, .int v1.2.1.2.2.2.1, .int v1.2.1.2.2.2.2.1, .int v1.2.1.2.2.2.2.2.1, .int v1.2.1.2.2.2.2.2.2.1, .int v1.2.1.2.2.2.2.2.2.2.1, .int v1.2.1.2.2.2.2.2.2.2.2])), (ad1 4, .inl (cI, 15, .inl v1.2.1.1)), (ad1 5, .inr (4, [.ref (ad1 6), .int v1.2.2.1.2.1, .int v1.2.2.1.2.2.1, .int v1.2.2.1.2.2.2.1, .int v1.2.2.1.2.2.2.2.1, .int v1.2.2.1.2.2.2.2.2.1, .int v1.2.2.1.2.2.2.2.2.2.1, .int v1.2.2.1.2.2.2.2.2.2.2.1, .int v1.2.2.1.2.2.2.2.2.2.2.2])), (ad1 6, .inl (cI, 15, .inl v1.2.2.1.1))] s.heap := hP
  have hD : va_D A [(ad 0, .inr (5, [.ref (ad 1), .ref (ad 3), .ref (ad 4), .ref (ad 5), .ref (ad 6), .ref (ad 7), .int v.2.2.2.2.2.2.1, .int v.2.2.2.2.2.2.2.1, .int v.2.2.2.2.2.2.2.2])), (ad 1, .inr (3, [.ref (ad 2), .int v.1.2])), (ad 2, .inl (cI, 15, .inl v.1.1)), (ad 3, .inl (cI, 1024, .inl v.2.1)), (ad 4, .inl (cI, 64, .inl v.2.2.1)), (ad 5, .inl (cI, 16384, .inl v.2.2.2.1)), (ad 6, .inl (cI, 16384, .inl v.2.2.2.2.1)), (ad 7, .inl (cI, 16384, .inl v.2.2.2.2.2.1)), (ad1 0, .inr (2, [.ref (ad1 1), .ref (ad1 3), .ref (ad1 5), .int v1.2.2.2.1, .int v1.2.2.2.2.1, .int v1.2.2.2.2.2.1, .int v1.2.2.2.2.2.2.1, .int v1.2.2.2.2.2.2.2.1, .int v1.2.2.2.2.2.2.2.2.1, .int v1.2.2.2.2.2.2.2.2.2.1, .int v1.2.2.2.2.2.2.2.2.2.2])), (ad1 1, .inr (3, [.ref (ad1 2), .int v1.1.2])), (ad1 2, .inl (cI, 15, .inl v1.1.1)), (ad1 3, .inr (4, [.ref (ad1 4), .int v1.2.1.2.1, .int v1.2.1.2.2.1, .int v1.2.1.2.2.2.1, .int v1.2.1.2.2.2.2.1, .int v1.2.1.2.2.2.2.2.1, .int v1.2.1.2.2.2.2.2.2.1, .int v1.2.1.2.2.2.2.2.2.2.1, .int v1.2.1.2.2.2.2.2.2.2.2])), (ad1 4, .inl (cI, 15, .inl v1.2.1.1)), (ad1 5, .inr (4, [.ref (ad1 6), .int v1.2.2.1.2.1, .int v1.2.2.1.2.2.1, .int v1.2.2.1.2.2.2.1, .int v1.2.2.1.2.2.2.2.1, .int v1.2.2.1.2.2.2.2.2.1, .int v1.2.2.1.2.2.2.2.2.2.1, .int v1.2.2.1.2.2.2.2.2.2.2.1, .int v1.2.2.1.2.2.2.2.2.2.2.2])), (ad1 6, .inl (cI, 15, .inl v1.2.2.1.1))] := hD
  have J37 : ∀ (v : tX5) (H : Heap) (locs : List Loc) (ls : Array Slot), va_P D vwCl [(ad 0, .inr (5, [.ref (ad 1), .ref (ad 3), .ref (ad 4), .ref (ad 5), .ref (ad 6), .ref (ad 7), .int v.2.2.2.2.2.2.1, .int v.2.2.2.2.2.2.2.1, .int v.2.2.2.2.2.2.2.2])), (ad 1, .inr (3, [.ref (ad 2), .int v.1.2])), (ad 2, .inl (cI, 15, .inl v.1.1)), (ad 3, .inl (cI, 1024, .inl v.2.1)), (ad 4, .inl (cI, 64, .inl v.2.2.1)), (ad 5, .inl (cI, 16384, .inl v.2.2.2.1)), (ad 6, .inl (cI, 16384, .inl v.2.2.2.2.1)), (ad 7, .inl (cI, 16384, .inl v.2.2.2.2.2.1)), (ad1 0, .inr (2, [.ref (ad1 1), .ref (ad1 3), .ref (ad1 5), .int v1.2.2.2.1, .int v1.2.2.2.2.1, .int v1.2.2.2.2.2.1, .int v1.2.2.2.2.2.2.1, .int v1.2.2.2.2.2.2.2.1, .int v1.2.2.2.2.2.2.2.2.1, .int v1.2.2.2.2.2.2.2.2.2.1, .int v1.2.2.2.2.2.2.2.2.2.2])), (ad1 1, .inr (3, [.ref (ad1 2), .int v1.1.2])), (ad1 2, .inl (cI, 15, .inl v1.1.1)), (ad1 3, .inr (4, [.ref (ad1 4), .int v1.2.1.2.1, .int v1.2.1.2.2.1, .int v1.2.1.2.2.2.1, .int v1.2.1.2.2.2.2.1, .int v1.2.1.2.2.2.2.2.1, .int v1.2.1.2.2.2.2.2.2.1, .int v1.2.1.2.2.2.2.2.2.2.1, .int v1.2.1.2.2.2.2.2.2.2.2])), (ad1 4, .inl (cI, 15, .inl v1.2.1.1)), (ad1 5, .inr (4, [.ref (ad1 6), .int v1.2.2.1.2.1, .int v1.2.2.1.2.2.1, .int v1.2.2.1.2.2.2.1, .int v1.2.2.1.2.2.2.2.1, .int v1.2.2.1.2.2.2.2.2.1, .int v1.2.2.1.2.2.2.2.2.2.1, .int v1.2.2.1.2.2.2.2.2.2.2.1, .int v1.2.2.1.2.2.2.2.2.2.2.2])), (ad1 6, .inl (cI, 15, .inl v1.2.2.1.1))] H → va_D A [(ad 0, .inr (5, [.ref (ad 1), .ref (ad 3), .ref (ad 4), .ref (ad 5), .ref (ad 6), .ref (ad 7), .int v.2.2.2.2.2.2.1, .int v.2.2.2.2.2.2.2.1, .int v.2.2.2.2.2.2.2.2])), (ad 1, .inr (3, [.ref (ad 2), .int v.1.2])), (ad 2, .inl (cI, 15, .inl v.1.1)), (ad 3, .inl (cI, 1024, .inl v.2.1)), (ad 4, .inl (cI, 64, .inl v.2.2.1)), (ad 5, .inl (cI, 16384, .inl v.2.2.2.1)), (ad 6, .inl (cI, 16384, .inl v.2.2.2.2.1)), (ad 7, .inl (cI, 16384, .inl v.2.2.2.2.2.1)), (ad1 0, .inr (2, [.ref (ad1 1), .ref (ad1 3), .ref (ad1 5), .int v1.2.2.2.1, .int v1.2.2.2.2.1, .int v1.2.2.2.2.2.1, .int v1.2.2.2.2.2.2.1, .int v1.2.2.2.2.2.2.2.1, .int v1.2.2.2.2.2.2.2.2.1, .int v1.2.2.2.2.2.2.2.2.2.1, .int v1.2.2.2.2.2.2.2.2.2.2])), (ad1 1, .inr (3, [.ref (ad1 2), .int v1.1.2])), (ad1 2, .inl (cI, 15, .inl v1.1.1)), (ad1 3, .inr (4, [.ref (ad1 4), .int v1.2.1.2.1, .int v1.2.1.2.2.1, .int v1.2.1.2.2.2.1, .int v1.2.1.2.2.2.2.1, .int v1.2.1.2.2.2.2.2.1, .int v1.2.1.2.2.2.2.2.2.1, .int v1.2.1.2.2.2.2.2.2.2.1, .int v1.2.1.2.2.2.2.2.2.2.2])), (ad1 4, .inl (cI, 15, .inl v1.2.1.1)), (ad1 5, .inr (4, [.ref (ad1 6), .int v1.2.2.1.2.1, .int v1.2.2.1.2.2.1, .int v1.2.2.1.2.2.2.1, .int v1.2.2.1.2.2.2.2.1, .int v1.2.2.1.2.2.2.2.2.1, .int v1.2.2.1.2.2.2.2.2.2.1, .int v1.2.2.1.2.2.2.2.2.2.2.1, .int v1.2.2.1.2.2.2.2.2.2.2.2])), (ad1 6, .inl (cI, 15, .inl v1.2.2.1.1))] → va_S A s.heap H locs → lv_has ls 2 [(0, .ref (ad 0)), (1, .ref (ad1 0))] → f_X5_prepare_J37 v1 v = some r → W p l e rm_X5_prepare s m ([.ref (ad 0), .ref (ad1 0)] : List Value).toArray below meth c H locs 0 0 (MQ below (qV D (oX5 cI cR ad r ++ oX2 cI cR ad1 v1) A) ([.ref (ad 0), .ref (ad1 0)] : List Value).toArray s 0 0 A) (F0 m 37 ls []) := by
    intro v H locs ls hP hD hS hl hf
    unfold f_X5_prepare_J37 at hf
    refine lv_aload_n hx hb dX5_prepare_37 rfl (lv_at hl 0 rfl) ?_
    refine lv_aload_n hx hb dX5_prepare_38 rfl (lv_at hl 1 rfl) ?_
    refine va_getN (D := D) (ci := 2) (v := .int v1.2.2.2.1) (C := RX2) (T := TX2) (N := 11) hx hb hts inA_X2 hown hK hP 8 rfl rfl 3 (by decide) (va_Nw.use rfl (nF_X5_63 hN)) (fun _ h9 => h9) rfl dX5_prepare_39 ?_
    refine va_put (D := D) (ci := 5) (v := .int v1.2.2.2.1) (ty := .int) (C := RX5) (T := TX5) (N := 9) hx hb hts inA_X5 tyX5 tyX5_ok nmX5 hown hK hP hD hS 0 rfl rfl 7 (by decide) (hts _ kF_X5_38) (fun _ h9 => h9) rfl (tyX5_ok 7 (by decide)) rfl rfl (Nat.le_of_ble_eq_true rfl) dX5_prepare_42 (fun H locs hP hD hS => ?_)
    have hP : va_P D vwCl [(ad 0, .inr (5, [.ref (ad 1), .ref (ad 3), .ref (ad 4), .ref (ad 5), .ref (ad 6), .ref (ad 7), .int v.2.2.2.2.2.2.1, .int v1.2.2.2.1, .int v.2.2.2.2.2.2.2.2])), (ad 1, .inr (3, [.ref (ad 2), .int v.1.2])), (ad 2, .inl (cI, 15, .inl v.1.1)), (ad 3, .inl (cI, 1024, .inl v.2.1)), (ad 4, .inl (cI, 64, .inl v.2.2.1)), (ad 5, .inl (cI, 16384, .inl v.2.2.2.1)), (ad 6, .inl (cI, 16384, .inl v.2.2.2.2.1)), (ad 7, .inl (cI, 16384, .inl v.2.2.2.2.2.1)), (ad1 0, .inr (2, [.ref (ad1 1), .ref (ad1 3), .ref (ad1 5), .int v1.2.2.2.1, .int v1.2.2.2.2.1, .int v1.2.2.2.2.2.1, .int v1.2.2.2.2.2.2.1, .int v1.2.2.2.2.2.2.2.1, .int v1.2.2.2.2.2.2.2.2.1, .int v1.2.2.2.2.2.2.2.2.2.1, .int v1.2.2.2.2.2.2.2.2.2.2])), (ad1 1, .inr (3, [.ref (ad1 2), .int v1.1.2])), (ad1 2, .inl (cI, 15, .inl v1.1.1)), (ad1 3, .inr (4, [.ref (ad1 4), .int v1.2.1.2.1, .int v1.2.1.2.2.1, .int v1.2.1.2.2.2.1, .int v1.2.1.2.2.2.2.1, .int v1.2.1.2.2.2.2.2.1, .int v1.2.1.2.2.2.2.2.2.1, .int v1.2.1.2.2.2.2.2.2.2.1, .int v1.2.1.2.2.2.2.2.2.2.2])), (ad1 4, .inl (cI, 15, .inl v1.2.1.1)), (ad1 5, .inr (4, [.ref (ad1 6), .int v1.2.2.1.2.1, .int v1.2.2.1.2.2.1, .int v1.2.2.1.2.2.2.1, .int v1.2.2.1.2.2.2.2.1, .int v1.2.2.1.2.2.2.2.2.1, .int v1.2.2.1.2.2.2.2.2.2.1, .int v1.2.2.1.2.2.2.2.2.2.2.1, .int v1.2.2.1.2.2.2.2.2.2.2.2])), (ad1 6, .inl (cI, 15, .inl v1.2.2.1.1))] H := hP
    have hD : va_D A [(ad 0, .inr (5, [.ref (ad 1), .ref (ad 3), .ref (ad 4), .ref (ad 5), .ref (ad 6), .ref (ad 7), .int v.2.2.2.2.2.2.1, .int v1.2.2.2.1, .int v.2.2.2.2.2.2.2.2])), (ad 1, .inr (3, [.ref (ad 2), .int v.1.2])), (ad 2, .inl (cI, 15, .inl v.1.1)), (ad 3, .inl (cI, 1024, .inl v.2.1)), (ad 4, .inl (cI, 64, .inl v.2.2.1)), (ad 5, .inl (cI, 16384, .inl v.2.2.2.1)), (ad 6, .inl (cI, 16384, .inl v.2.2.2.2.1)), (ad 7, .inl (cI, 16384, .inl v.2.2.2.2.2.1)), (ad1 0, .inr (2, [.ref (ad1 1), .ref (ad1 3), .ref (ad1 5), .int v1.2.2.2.1, .int v1.2.2.2.2.1, .int v1.2.2.2.2.2.1, .int v1.2.2.2.2.2.2.1, .int v1.2.2.2.2.2.2.2.1, .int v1.2.2.2.2.2.2.2.2.1, .int v1.2.2.2.2.2.2.2.2.2.1, .int v1.2.2.2.2.2.2.2.2.2.2])), (ad1 1, .inr (3, [.ref (ad1 2), .int v1.1.2])), (ad1 2, .inl (cI, 15, .inl v1.1.1)), (ad1 3, .inr (4, [.ref (ad1 4), .int v1.2.1.2.1, .int v1.2.1.2.2.1, .int v1.2.1.2.2.2.1, .int v1.2.1.2.2.2.2.1, .int v1.2.1.2.2.2.2.2.1, .int v1.2.1.2.2.2.2.2.2.1, .int v1.2.1.2.2.2.2.2.2.2.1, .int v1.2.1.2.2.2.2.2.2.2.2])), (ad1 4, .inl (cI, 15, .inl v1.2.1.1)), (ad1 5, .inr (4, [.ref (ad1 6), .int v1.2.2.1.2.1, .int v1.2.2.1.2.2.1, .int v1.2.2.1.2.2.2.1, .int v1.2.2.1.2.2.2.2.1, .int v1.2.2.1.2.2.2.2.2.1, .int v1.2.2.1.2.2.2.2.2.2.1, .int v1.2.2.1.2.2.2.2.2.2.2.1, .int v1.2.2.1.2.2.2.2.2.2.2.2])), (ad1 6, .inl (cI, 15, .inl v1.2.2.1.1))] := hD
    refine lv_aload_n hx hb dX5_prepare_45 rfl (lv_at hl 0 rfl) ?_
    refine lv_aload_n hx hb dX5_prepare_46 rfl (lv_at hl 1 rfl) ?_
    refine va_getN (D := D) (ci := 2) (v := .int v1.2.2.2.2.1) (C := RX2) (T := TX2) (N := 11) hx hb hts inA_X2 hown hK hP 8 rfl rfl 4 (by decide) (va_Nw.use rfl (nF_X5_66 hN)) (fun _ h9 => h9) rfl dX5_prepare_47 ?_
    refine va_put (D := D) (ci := 5) (v := .int v1.2.2.2.2.1) (ty := .int) (C := RX5) (T := TX5) (N := 9) hx hb hts inA_X5 tyX5 tyX5_ok nmX5 hown hK hP hD hS 0 rfl rfl 8 (by decide) (hts _ kF_X5_41) (fun _ h9 => h9) rfl (tyX5_ok 8 (by decide)) rfl rfl (Nat.le_of_ble_eq_true rfl) dX5_prepare_50 (fun H locs hP hD hS => ?_)
    have hP : va_P D vwCl [(ad 0, .inr (5, [.ref (ad 1), .ref (ad 3), .ref (ad 4), .ref (ad 5), .ref (ad 6), .ref (ad 7), .int v.2.2.2.2.2.2.1, .int v1.2.2.2.1, .int v1.2.2.2.2.1])), (ad 1, .inr (3, [.ref (ad 2), .int v.1.2])), (ad 2, .inl (cI, 15, .inl v.1.1)), (ad 3, .inl (cI, 1024, .inl v.2.1)), (ad 4, .inl (cI, 64, .inl v.2.2.1)), (ad 5, .inl (cI, 16384, .inl v.2.2.2.1)), (ad 6, .inl (cI, 16384, .inl v.2.2.2.2.1)), (ad 7, .inl (cI, 16384, .inl v.2.2.2.2.2.1)), (ad1 0, .inr (2, [.ref (ad1 1), .ref (ad1 3), .ref (ad1 5), .int v1.2.2.2.1, .int v1.2.2.2.2.1, .int v1.2.2.2.2.2.1, .int v1.2.2.2.2.2.2.1, .int v1.2.2.2.2.2.2.2.1, .int v1.2.2.2.2.2.2.2.2.1, .int v1.2.2.2.2.2.2.2.2.2.1, .int v1.2.2.2.2.2.2.2.2.2.2])), (ad1 1, .inr (3, [.ref (ad1 2), .int v1.1.2])), (ad1 2, .inl (cI, 15, .inl v1.1.1)), (ad1 3, .inr (4, [.ref (ad1 4), .int v1.2.1.2.1, .int v1.2.1.2.2.1, .int v1.2.1.2.2.2.1, .int v1.2.1.2.2.2.2.1, .int v1.2.1.2.2.2.2.2.1, .int v1.2.1.2.2.2.2.2.2.1, .int v1.2.1.2.2.2.2.2.2.2.1, .int v1.2.1.2.2.2.2.2.2.2.2])), (ad1 4, .inl (cI, 15, .inl v1.2.1.1)), (ad1 5, .inr (4, [.ref (ad1 6), .int v1.2.2.1.2.1, .int v1.2.2.1.2.2.1, .int v1.2.2.1.2.2.2.1, .int v1.2.2.1.2.2.2.2.1, .int v1.2.2.1.2.2.2.2.2.1, .int v1.2.2.1.2.2.2.2.2.2.1, .int v1.2.2.1.2.2.2.2.2.2.2.1, .int v1.2.2.1.2.2.2.2.2.2.2.2])), (ad1 6, .inl (cI, 15, .inl v1.2.2.1.1))] H := hP
    have hD : va_D A [(ad 0, .inr (5, [.ref (ad 1), .ref (ad 3), .ref (ad 4), .ref (ad 5), .ref (ad 6), .ref (ad 7), .int v.2.2.2.2.2.2.1, .int v1.2.2.2.1, .int v1.2.2.2.2.1])), (ad 1, .inr (3, [.ref (ad 2), .int v.1.2])), (ad 2, .inl (cI, 15, .inl v.1.1)), (ad 3, .inl (cI, 1024, .inl v.2.1)), (ad 4, .inl (cI, 64, .inl v.2.2.1)), (ad 5, .inl (cI, 16384, .inl v.2.2.2.1)), (ad 6, .inl (cI, 16384, .inl v.2.2.2.2.1)), (ad 7, .inl (cI, 16384, .inl v.2.2.2.2.2.1)), (ad1 0, .inr (2, [.ref (ad1 1), .ref (ad1 3), .ref (ad1 5), .int v1.2.2.2.1, .int v1.2.2.2.2.1, .int v1.2.2.2.2.2.1, .int v1.2.2.2.2.2.2.1, .int v1.2.2.2.2.2.2.2.1, .int v1.2.2.2.2.2.2.2.2.1, .int v1.2.2.2.2.2.2.2.2.2.1, .int v1.2.2.2.2.2.2.2.2.2.2])), (ad1 1, .inr (3, [.ref (ad1 2), .int v1.1.2])), (ad1 2, .inl (cI, 15, .inl v1.1.1)), (ad1 3, .inr (4, [.ref (ad1 4), .int v1.2.1.2.1, .int v1.2.1.2.2.1, .int v1.2.1.2.2.2.1, .int v1.2.1.2.2.2.2.1, .int v1.2.1.2.2.2.2.2.1, .int v1.2.1.2.2.2.2.2.2.1, .int v1.2.1.2.2.2.2.2.2.2.1, .int v1.2.1.2.2.2.2.2.2.2.2])), (ad1 4, .inl (cI, 15, .inl v1.2.1.1)), (ad1 5, .inr (4, [.ref (ad1 6), .int v1.2.2.1.2.1, .int v1.2.2.1.2.2.1, .int v1.2.2.1.2.2.2.1, .int v1.2.2.1.2.2.2.2.1, .int v1.2.2.1.2.2.2.2.2.1, .int v1.2.2.1.2.2.2.2.2.2.1, .int v1.2.2.1.2.2.2.2.2.2.2.1, .int v1.2.2.1.2.2.2.2.2.2.2.2])), (ad1 6, .inl (cI, 15, .inl v1.2.2.1.1))] := hD
    refine lv_aload_n hx hb dX5_prepare_53 rfl (lv_at hl 0 rfl) ?_
    refine va_get (D := D) (ci := 5) (v := .ref (ad 1)) (C := RX5) (T := TX5) (N := 9) hx hb hts inA_X5 hown hK hP 0 rfl rfl 0 (by decide) (hts _ kF_X5_12) (fun _ h9 => h9) rfl dX5_prepare_54 ?_
    refine lv_aload_n hx hb dX5_prepare_57 rfl (lv_at hl 1 rfl) ?_
    refine va_getN (D := D) (ci := 2) (v := .ref (ad1 1)) (C := RX2) (T := TX2) (N := 11) hx hb hts inA_X2 hown hK hP 8 rfl rfl 0 (by decide) (va_Nw.use rfl (nF_X5_67 hN)) (fun _ h9 => h9) rfl dX5_prepare_58 ?_
    obtain ⟨x0, hcx0, hf⟩ := gB hf
    refine j_v (wr := [(ad 0, .inr (5, [.ref (ad 1), .ref (ad 3), .ref (ad 4), .ref (ad 5), .ref (ad 6), .ref (ad 7), .int v.2.2.2.2.2.2.1, .int v1.2.2.2.1, .int v1.2.2.2.2.1])), (ad 3, .inl (cI, 1024, .inl v.2.1)), (ad 4, .inl (cI, 64, .inl v.2.2.1)), (ad 5, .inl (cI, 16384, .inl v.2.2.2.1)), (ad 6, .inl (cI, 16384, .inl v.2.2.2.2.1)), (ad 7, .inl (cI, 16384, .inl v.2.2.2.2.2.1)), (ad1 0, .inr (2, [.ref (ad1 1), .ref (ad1 3), .ref (ad1 5), .int v1.2.2.2.1, .int v1.2.2.2.2.1, .int v1.2.2.2.2.2.1, .int v1.2.2.2.2.2.2.1, .int v1.2.2.2.2.2.2.2.1, .int v1.2.2.2.2.2.2.2.2.1, .int v1.2.2.2.2.2.2.2.2.2.1, .int v1.2.2.2.2.2.2.2.2.2.2])), (ad1 3, .inr (4, [.ref (ad1 4), .int v1.2.1.2.1, .int v1.2.1.2.2.1, .int v1.2.1.2.2.2.1, .int v1.2.1.2.2.2.2.1, .int v1.2.1.2.2.2.2.2.1, .int v1.2.1.2.2.2.2.2.2.1, .int v1.2.1.2.2.2.2.2.2.2.1, .int v1.2.1.2.2.2.2.2.2.2.2])), (ad1 4, .inl (cI, 15, .inl v1.2.1.1)), (ad1 5, .inr (4, [.ref (ad1 6), .int v1.2.2.1.2.1, .int v1.2.2.1.2.2.1, .int v1.2.2.1.2.2.2.1, .int v1.2.2.1.2.2.2.2.1, .int v1.2.2.1.2.2.2.2.2.1, .int v1.2.2.1.2.2.2.2.2.2.1, .int v1.2.2.1.2.2.2.2.2.2.2.1, .int v1.2.2.1.2.2.2.2.2.2.2.2])), (ad1 6, .inl (cI, 15, .inl v1.2.2.1.1))]) (w_V (As := [.ref (ad1 1)]) (rest := []) (n := 1) ⟨hx, hb, hml, hown, hts⟩ (c_X3_takeOver l D cI cR (fun i => ad (i + 1)) v.1 (fun i => ad1 (i + 1)) v1.1 _ x0 hcx0) kM_X5_72 kN_X3_takeOver kV_X3_takeOver kZ_X3 kK_X3_takeOver ⟨rfl, rfl⟩ ⟨(Nat.le_of_ble_eq_true rfl), (Nat.le_of_ble_eq_true rfl)⟩ pd_X3_takeOver rfl hK hN hP hD [1, 2, 9, 10] rfl rfl 0 3 rfl rfl rfl hl.1 (Nat.le_of_ble_eq_true rfl) dX5_prepare_61 ⟨(Nat.le_of_ble_eq_true rfl), (Nat.le_of_ble_eq_true rfl)⟩) hP hD hS hA [1, 2, 9, 10] [0, 3, 4, 5, 6, 7, 8, 11, 12, 13, 14] rfl rfl rfl (by decide) (fun H locs hP hD hS => ?_)
    have hP : va_P D vwCl [(ad 0, .inr (5, [.ref (ad 1), .ref (ad 3), .ref (ad 4), .ref (ad 5), .ref (ad 6), .ref (ad 7), .int v.2.2.2.2.2.2.1, .int v1.2.2.2.1, .int v1.2.2.2.2.1])), (ad 3, .inl (cI, 1024, .inl v.2.1)), (ad 4, .inl (cI, 64, .inl v.2.2.1)), (ad 5, .inl (cI, 16384, .inl v.2.2.2.1)), (ad 6, .inl (cI, 16384, .inl v.2.2.2.2.1)), (ad 7, .inl (cI, 16384, .inl v.2.2.2.2.2.1)), (ad1 0, .inr (2, [.ref (ad1 1), .ref (ad1 3), .ref (ad1 5), .int v1.2.2.2.1, .int v1.2.2.2.2.1, .int v1.2.2.2.2.2.1, .int v1.2.2.2.2.2.2.1, .int v1.2.2.2.2.2.2.2.1, .int v1.2.2.2.2.2.2.2.2.1, .int v1.2.2.2.2.2.2.2.2.2.1, .int v1.2.2.2.2.2.2.2.2.2.2])), (ad1 3, .inr (4, [.ref (ad1 4), .int v1.2.1.2.1, .int v1.2.1.2.2.1, .int v1.2.1.2.2.2.1, .int v1.2.1.2.2.2.2.1, .int v1.2.1.2.2.2.2.2.1, .int v1.2.1.2.2.2.2.2.2.1, .int v1.2.1.2.2.2.2.2.2.2.1, .int v1.2.1.2.2.2.2.2.2.2.2])), (ad1 4, .inl (cI, 15, .inl v1.2.1.1)), (ad1 5, .inr (4, [.ref (ad1 6), .int v1.2.2.1.2.1, .int v1.2.2.1.2.2.1, .int v1.2.2.1.2.2.2.1, .int v1.2.2.1.2.2.2.2.1, .int v1.2.2.1.2.2.2.2.2.1, .int v1.2.2.1.2.2.2.2.2.2.1, .int v1.2.2.1.2.2.2.2.2.2.2.1, .int v1.2.2.1.2.2.2.2.2.2.2.2])), (ad1 6, .inl (cI, 15, .inl v1.2.2.1.1)), (ad 1, .inr (3, [.ref (ad 2), .int x0.2])), (ad 2, .inl (cI, 15, .inl x0.1)), (ad1 1, .inr (3, [.ref (ad1 2), .int v1.1.2])), (ad1 2, .inl (cI, 15, .inl v1.1.1))] H := hP
    have hD : va_D A [(ad 0, .inr (5, [.ref (ad 1), .ref (ad 3), .ref (ad 4), .ref (ad 5), .ref (ad 6), .ref (ad 7), .int v.2.2.2.2.2.2.1, .int v1.2.2.2.1, .int v1.2.2.2.2.1])), (ad 3, .inl (cI, 1024, .inl v.2.1)), (ad 4, .inl (cI, 64, .inl v.2.2.1)), (ad 5, .inl (cI, 16384, .inl v.2.2.2.1)), (ad 6, .inl (cI, 16384, .inl v.2.2.2.2.1)), (ad 7, .inl (cI, 16384, .inl v.2.2.2.2.2.1)), (ad1 0, .inr (2, [.ref (ad1 1), .ref (ad1 3), .ref (ad1 5), .int v1.2.2.2.1, .int v1.2.2.2.2.1, .int v1.2.2.2.2.2.1, .int v1.2.2.2.2.2.2.1, .int v1.2.2.2.2.2.2.2.1, .int v1.2.2.2.2.2.2.2.2.1, .int v1.2.2.2.2.2.2.2.2.2.1, .int v1.2.2.2.2.2.2.2.2.2.2])), (ad1 3, .inr (4, [.ref (ad1 4), .int v1.2.1.2.1, .int v1.2.1.2.2.1, .int v1.2.1.2.2.2.1, .int v1.2.1.2.2.2.2.1, .int v1.2.1.2.2.2.2.2.1, .int v1.2.1.2.2.2.2.2.2.1, .int v1.2.1.2.2.2.2.2.2.2.1, .int v1.2.1.2.2.2.2.2.2.2.2])), (ad1 4, .inl (cI, 15, .inl v1.2.1.1)), (ad1 5, .inr (4, [.ref (ad1 6), .int v1.2.2.1.2.1, .int v1.2.2.1.2.2.1, .int v1.2.2.1.2.2.2.1, .int v1.2.2.1.2.2.2.2.1, .int v1.2.2.1.2.2.2.2.2.1, .int v1.2.2.1.2.2.2.2.2.2.1, .int v1.2.2.1.2.2.2.2.2.2.2.1, .int v1.2.2.1.2.2.2.2.2.2.2.2])), (ad1 6, .inl (cI, 15, .inl v1.2.2.1.1)), (ad 1, .inr (3, [.ref (ad 2), .int x0.2])), (ad 2, .inl (cI, 15, .inl x0.1)), (ad1 1, .inr (3, [.ref (ad1 2), .int v1.1.2])), (ad1 2, .inl (cI, 15, .inl v1.1.1))] := hD
    refine lv_aload_n hx hb dX5_prepare_64 rfl (lv_at hl 0 rfl) ?_
    obtain ⟨x1, hcx1, hf⟩ := gB hf
    refine j_v (wr := [(ad1 0, .inr (2, [.ref (ad1 1), .ref (ad1 3), .ref (ad1 5), .int v1.2.2.2.1, .int v1.2.2.2.2.1, .int v1.2.2.2.2.2.1, .int v1.2.2.2.2.2.2.1, .int v1.2.2.2.2.2.2.2.1, .int v1.2.2.2.2.2.2.2.2.1, .int v1.2.2.2.2.2.2.2.2.2.1, .int v1.2.2.2.2.2.2.2.2.2.2])), (ad1 3, .inr (4, [.ref (ad1 4), .int v1.2.1.2.1, .int v1.2.1.2.2.1, .int v1.2.1.2.2.2.1, .int v1.2.1.2.2.2.2.1, .int v1.2.1.2.2.2.2.2.1, .int v1.2.1.2.2.2.2.2.2.1, .int v1.2.1.2.2.2.2.2.2.2.1, .int v1.2.1.2.2.2.2.2.2.2.2])), (ad1 4, .inl (cI, 15, .inl v1.2.1.1)), (ad1 5, .inr (4, [.ref (ad1 6), .int v1.2.2.1.2.1, .int v1.2.2.1.2.2.1, .int v1.2.2.1.2.2.2.1, .int v1.2.2.1.2.2.2.2.1, .int v1.2.2.1.2.2.2.2.2.1, .int v1.2.2.1.2.2.2.2.2.2.1, .int v1.2.2.1.2.2.2.2.2.2.2.1, .int v1.2.2.1.2.2.2.2.2.2.2.2])), (ad1 6, .inl (cI, 15, .inl v1.2.2.1.1)), (ad1 1, .inr (3, [.ref (ad1 2), .int v1.1.2])), (ad1 2, .inl (cI, 15, .inl v1.1.1))]) (w_V (As := []) (rest := []) (n := 0) ⟨hx, hb, hml, hown, hts⟩ (c_X5_fillRests l D cI cR ad (x0, v.2.1, v.2.2.1, v.2.2.2.1, v.2.2.2.2.1, v.2.2.2.2.2.1, v.2.2.2.2.2.2.1, v1.2.2.2.1, v1.2.2.2.2.1) _ x1 hcx1) kM_X5_76 kN_X5_fillRests kV_X5_fillRests kZ_X5 kK_X5_fillRests ⟨rfl, rfl⟩ ⟨(Nat.le_of_ble_eq_true rfl), (Nat.le_of_ble_eq_true rfl)⟩ pd_X5_fillRests rfl hK hN hP hD [0, 11, 12, 1, 2, 3, 4, 5] rfl rfl 0 5 rfl rfl rfl hl.1 (Nat.le_of_ble_eq_true rfl) dX5_prepare_65 ⟨(Nat.le_of_ble_eq_true rfl), (Nat.le_of_ble_eq_true rfl)⟩) hP hD hS hA [0, 11, 12, 1, 2, 3, 4, 5] [6, 7, 8, 9, 10, 13, 14] rfl rfl rfl (by decide) (fun H locs hP hD hS => ?_)
    have hP : va_P D vwCl [(ad1 0, .inr (2, [.ref (ad1 1), .ref (ad1 3), .ref (ad1 5), .int v1.2.2.2.1, .int v1.2.2.2.2.1, .int v1.2.2.2.2.2.1, .int v1.2.2.2.2.2.2.1, .int v1.2.2.2.2.2.2.2.1, .int v1.2.2.2.2.2.2.2.2.1, .int v1.2.2.2.2.2.2.2.2.2.1, .int v1.2.2.2.2.2.2.2.2.2.2])), (ad1 3, .inr (4, [.ref (ad1 4), .int v1.2.1.2.1, .int v1.2.1.2.2.1, .int v1.2.1.2.2.2.1, .int v1.2.1.2.2.2.2.1, .int v1.2.1.2.2.2.2.2.1, .int v1.2.1.2.2.2.2.2.2.1, .int v1.2.1.2.2.2.2.2.2.2.1, .int v1.2.1.2.2.2.2.2.2.2.2])), (ad1 4, .inl (cI, 15, .inl v1.2.1.1)), (ad1 5, .inr (4, [.ref (ad1 6), .int v1.2.2.1.2.1, .int v1.2.2.1.2.2.1, .int v1.2.2.1.2.2.2.1, .int v1.2.2.1.2.2.2.2.1, .int v1.2.2.1.2.2.2.2.2.1, .int v1.2.2.1.2.2.2.2.2.2.1, .int v1.2.2.1.2.2.2.2.2.2.2.1, .int v1.2.2.1.2.2.2.2.2.2.2.2])), (ad1 6, .inl (cI, 15, .inl v1.2.2.1.1)), (ad1 1, .inr (3, [.ref (ad1 2), .int v1.1.2])), (ad1 2, .inl (cI, 15, .inl v1.1.1)), (ad 0, .inr (5, [.ref (ad 1), .ref (ad 3), .ref (ad 4), .ref (ad 5), .ref (ad 6), .ref (ad 7), .int x1.2.2.2.2.2.2.1, .int x1.2.2.2.2.2.2.2.1, .int x1.2.2.2.2.2.2.2.2])), (ad 1, .inr (3, [.ref (ad 2), .int x1.1.2])), (ad 2, .inl (cI, 15, .inl x1.1.1)), (ad 3, .inl (cI, 1024, .inl x1.2.1)), (ad 4, .inl (cI, 64, .inl x1.2.2.1)), (ad 5, .inl (cI, 16384, .inl x1.2.2.2.1)), (ad 6, .inl (cI, 16384, .inl x1.2.2.2.2.1)), (ad 7, .inl (cI, 16384, .inl x1.2.2.2.2.2.1))] H := hP
    have hD : va_D A [(ad1 0, .inr (2, [.ref (ad1 1), .ref (ad1 3), .ref (ad1 5), .int v1.2.2.2.1, .int v1.2.2.2.2.1, .int v1.2.2.2.2.2.1, .int v1.2.2.2.2.2.2.1, .int v1.2.2.2.2.2.2.2.1, .int v1.2.2.2.2.2.2.2.2.1, .int v1.2.2.2.2.2.2.2.2.2.1, .int v1.2.2.2.2.2.2.2.2.2.2])), (ad1 3, .inr (4, [.ref (ad1 4), .int v1.2.1.2.1, .int v1.2.1.2.2.1, .int v1.2.1.2.2.2.1, .int v1.2.1.2.2.2.2.1, .int v1.2.1.2.2.2.2.2.1, .int v1.2.1.2.2.2.2.2.2.1, .int v1.2.1.2.2.2.2.2.2.2.1, .int v1.2.1.2.2.2.2.2.2.2.2])), (ad1 4, .inl (cI, 15, .inl v1.2.1.1)), (ad1 5, .inr (4, [.ref (ad1 6), .int v1.2.2.1.2.1, .int v1.2.2.1.2.2.1, .int v1.2.2.1.2.2.2.1, .int v1.2.2.1.2.2.2.2.1, .int v1.2.2.1.2.2.2.2.2.1, .int v1.2.2.1.2.2.2.2.2.2.1, .int v1.2.2.1.2.2.2.2.2.2.2.1, .int v1.2.2.1.2.2.2.2.2.2.2.2])), (ad1 6, .inl (cI, 15, .inl v1.2.2.1.1)), (ad1 1, .inr (3, [.ref (ad1 2), .int v1.1.2])), (ad1 2, .inl (cI, 15, .inl v1.1.1)), (ad 0, .inr (5, [.ref (ad 1), .ref (ad 3), .ref (ad 4), .ref (ad 5), .ref (ad 6), .ref (ad 7), .int x1.2.2.2.2.2.2.1, .int x1.2.2.2.2.2.2.2.1, .int x1.2.2.2.2.2.2.2.2])), (ad 1, .inr (3, [.ref (ad 2), .int x1.1.2])), (ad 2, .inl (cI, 15, .inl x1.1.1)), (ad 3, .inl (cI, 1024, .inl x1.2.1)), (ad 4, .inl (cI, 64, .inl x1.2.2.1)), (ad 5, .inl (cI, 16384, .inl x1.2.2.2.1)), (ad 6, .inl (cI, 16384, .inl x1.2.2.2.2.1)), (ad 7, .inl (cI, 16384, .inl x1.2.2.2.2.2.1))] := hD
    refine lv_aload_n hx hb dX5_prepare_68 rfl (lv_at hl 0 rfl) ?_
    refine va_get (D := D) (ci := 5) (v := .ref (ad 5)) (C := RX5) (T := TX5) (N := 9) hx hb hts inA_X5 hown hK hP 7 rfl rfl 3 (by decide) (hts _ kF_X5_25) (fun _ h9 => h9) rfl dX5_prepare_69 ?_
    refine lv_iconst (v := (0 : Int32)) hx hb dX5_prepare_72 (by decide) ?_
    obtain ⟨x2, hcx2, hf⟩ := gB hf
    refine j_v (wr := [(ad1 0, .inr (2, [.ref (ad1 1), .ref (ad1 3), .ref (ad1 5), .int v1.2.2.2.1, .int v1.2.2.2.2.1, .int v1.2.2.2.2.2.1, .int v1.2.2.2.2.2.2.1, .int v1.2.2.2.2.2.2.2.1, .int v1.2.2.2.2.2.2.2.2.1, .int v1.2.2.2.2.2.2.2.2.2.1, .int v1.2.2.2.2.2.2.2.2.2.2])), (ad1 3, .inr (4, [.ref (ad1 4), .int v1.2.1.2.1, .int v1.2.1.2.2.1, .int v1.2.1.2.2.2.1, .int v1.2.1.2.2.2.2.1, .int v1.2.1.2.2.2.2.2.1, .int v1.2.1.2.2.2.2.2.2.1, .int v1.2.1.2.2.2.2.2.2.2.1, .int v1.2.1.2.2.2.2.2.2.2.2])), (ad1 4, .inl (cI, 15, .inl v1.2.1.1)), (ad1 5, .inr (4, [.ref (ad1 6), .int v1.2.2.1.2.1, .int v1.2.2.1.2.2.1, .int v1.2.2.1.2.2.2.1, .int v1.2.2.1.2.2.2.2.1, .int v1.2.2.1.2.2.2.2.2.1, .int v1.2.2.1.2.2.2.2.2.2.1, .int v1.2.2.1.2.2.2.2.2.2.2.1, .int v1.2.2.1.2.2.2.2.2.2.2.2])), (ad1 6, .inl (cI, 15, .inl v1.2.2.1.1)), (ad1 1, .inr (3, [.ref (ad1 2), .int v1.1.2])), (ad1 2, .inl (cI, 15, .inl v1.1.1)), (ad 0, .inr (5, [.ref (ad 1), .ref (ad 3), .ref (ad 4), .ref (ad 5), .ref (ad 6), .ref (ad 7), .int x1.2.2.2.2.2.2.1, .int x1.2.2.2.2.2.2.2.1, .int x1.2.2.2.2.2.2.2.2])), (ad 1, .inr (3, [.ref (ad 2), .int x1.1.2])), (ad 2, .inl (cI, 15, .inl x1.1.1)), (ad 3, .inl (cI, 1024, .inl x1.2.1)), (ad 4, .inl (cI, 64, .inl x1.2.2.1)), (ad 6, .inl (cI, 16384, .inl x1.2.2.2.2.1)), (ad 7, .inl (cI, 16384, .inl x1.2.2.2.2.2.1))]) (w_SN (As := [.ref (ad 5), .int (0 : Int32)]) (rest := []) (n := 2) ⟨hx, hb, hml, hown, hts⟩ (c_X6_fillRow l D cI cR (ad 5) 16384 x1.2.2.2.1 (0 : Int32) _ x2 hcx2) (nM_X5_79 hN) kS_X6_fillRow kZ_X6 kK_X6_fillRow ⟨rfl, rfl⟩ ⟨(Nat.le_of_ble_eq_true rfl), (Nat.le_of_ble_eq_true rfl)⟩ pd_X6_fillRow rfl hK hN hP hD [12] rfl rfl rfl hl.1 (Nat.le_of_ble_eq_true rfl) dX5_prepare_73 ⟨(Nat.le_of_ble_eq_true rfl), (Nat.le_of_ble_eq_true rfl)⟩) hP hD hS hA [12] [0, 1, 2, 3, 4, 5, 6, 7, 8, 9, 10, 11, 13, 14] rfl rfl rfl (by decide) (fun H locs hP hD hS => ?_)
    have hP : va_P D vwCl [(ad1 0, .inr (2, [.ref (ad1 1), .ref (ad1 3), .ref (ad1 5), .int v1.2.2.2.1, .int v1.2.2.2.2.1, .int v1.2.2.2.2.2.1, .int v1.2.2.2.2.2.2.1, .int v1.2.2.2.2.2.2.2.1, .int v1.2.2.2.2.2.2.2.2.1, .int v1.2.2.2.2.2.2.2.2.2.1, .int v1.2.2.2.2.2.2.2.2.2.2])), (ad1 3, .inr (4, [.ref (ad1 4), .int v1.2.1.2.1, .int v1.2.1.2.2.1, .int v1.2.1.2.2.2.1, .int v1.2.1.2.2.2.2.1, .int v1.2.1.2.2.2.2.2.1, .int v1.2.1.2.2.2.2.2.2.1, .int v1.2.1.2.2.2.2.2.2.2.1, .int v1.2.1.2.2.2.2.2.2.2.2])), (ad1 4, .inl (cI, 15, .inl v1.2.1.1)), (ad1 5, .inr (4, [.ref (ad1 6), .int v1.2.2.1.2.1, .int v1.2.2.1.2.2.1, .int v1.2.2.1.2.2.2.1, .int v1.2.2.1.2.2.2.2.1, .int v1.2.2.1.2.2.2.2.2.1, .int v1.2.2.1.2.2.2.2.2.2.1, .int v1.2.2.1.2.2.2.2.2.2.2.1, .int v1.2.2.1.2.2.2.2.2.2.2.2])), (ad1 6, .inl (cI, 15, .inl v1.2.2.1.1)), (ad1 1, .inr (3, [.ref (ad1 2), .int v1.1.2])), (ad1 2, .inl (cI, 15, .inl v1.1.1)), (ad 0, .inr (5, [.ref (ad 1), .ref (ad 3), .ref (ad 4), .ref (ad 5), .ref (ad 6), .ref (ad 7), .int x1.2.2.2.2.2.2.1, .int x1.2.2.2.2.2.2.2.1, .int x1.2.2.2.2.2.2.2.2])), (ad 1, .inr (3, [.ref (ad 2), .int x1.1.2])), (ad 2, .inl (cI, 15, .inl x1.1.1)), (ad 3, .inl (cI, 1024, .inl x1.2.1)), (ad 4, .inl (cI, 64, .inl x1.2.2.1)), (ad 6, .inl (cI, 16384, .inl x1.2.2.2.2.1)), (ad 7, .inl (cI, 16384, .inl x1.2.2.2.2.2.1)), (ad 5, .inl (cI, 16384, .inl x2))] H := hP
    have hD : va_D A [(ad1 0, .inr (2, [.ref (ad1 1), .ref (ad1 3), .ref (ad1 5), .int v1.2.2.2.1, .int v1.2.2.2.2.1, .int v1.2.2.2.2.2.1, .int v1.2.2.2.2.2.2.1, .int v1.2.2.2.2.2.2.2.1, .int v1.2.2.2.2.2.2.2.2.1, .int v1.2.2.2.2.2.2.2.2.2.1, .int v1.2.2.2.2.2.2.2.2.2.2])), (ad1 3, .inr (4, [.ref (ad1 4), .int v1.2.1.2.1, .int v1.2.1.2.2.1, .int v1.2.1.2.2.2.1, .int v1.2.1.2.2.2.2.1, .int v1.2.1.2.2.2.2.2.1, .int v1.2.1.2.2.2.2.2.2.1, .int v1.2.1.2.2.2.2.2.2.2.1, .int v1.2.1.2.2.2.2.2.2.2.2])), (ad1 4, .inl (cI, 15, .inl v1.2.1.1)), (ad1 5, .inr (4, [.ref (ad1 6), .int v1.2.2.1.2.1, .int v1.2.2.1.2.2.1, .int v1.2.2.1.2.2.2.1, .int v1.2.2.1.2.2.2.2.1, .int v1.2.2.1.2.2.2.2.2.1, .int v1.2.2.1.2.2.2.2.2.2.1, .int v1.2.2.1.2.2.2.2.2.2.2.1, .int v1.2.2.1.2.2.2.2.2.2.2.2])), (ad1 6, .inl (cI, 15, .inl v1.2.2.1.1)), (ad1 1, .inr (3, [.ref (ad1 2), .int v1.1.2])), (ad1 2, .inl (cI, 15, .inl v1.1.1)), (ad 0, .inr (5, [.ref (ad 1), .ref (ad 3), .ref (ad 4), .ref (ad 5), .ref (ad 6), .ref (ad 7), .int x1.2.2.2.2.2.2.1, .int x1.2.2.2.2.2.2.2.1, .int x1.2.2.2.2.2.2.2.2])), (ad 1, .inr (3, [.ref (ad 2), .int x1.1.2])), (ad 2, .inl (cI, 15, .inl x1.1.1)), (ad 3, .inl (cI, 1024, .inl x1.2.1)), (ad 4, .inl (cI, 64, .inl x1.2.2.1)), (ad 6, .inl (cI, 16384, .inl x1.2.2.2.2.1)), (ad 7, .inl (cI, 16384, .inl x1.2.2.2.2.2.1)), (ad 5, .inl (cI, 16384, .inl x2))] := hD
    refine lv_aload_n hx hb dX5_prepare_76 rfl (lv_at hl 0 rfl) ?_
    refine va_get (D := D) (ci := 5) (v := .ref (ad 6)) (C := RX5) (T := TX5) (N := 9) hx hb hts inA_X5 hown hK hP 7 rfl rfl 4 (by decide) (hts _ kF_X5_28) (fun _ h9 => h9) rfl dX5_prepare_77 ?_
    refine lv_iconst (v := (0 : Int32)) hx hb dX5_prepare_80 (by decide) ?_
    obtain ⟨x3, hcx3, hf⟩ := gB hf
    refine j_v (wr := [(ad1 0, .inr (2, [.ref (ad1 1), .ref (ad1 3), .ref (ad1 5), .int v1.2.2.2.1, .int v1.2.2.2.2.1, .int v1.2.2.2.2.2.1, .int v1.2.2.2.2.2.2.1, .int v1.2.2.2.2.2.2.2.1, .int v1.2.2.2.2.2.2.2.2.1, .int v1.2.2.2.2.2.2.2.2.2.1, .int v1.2.2.2.2.2.2.2.2.2.2])), (ad1 3, .inr (4, [.ref (ad1 4), .int v1.2.1.2.1, .int v1.2.1.2.2.1, .int v1.2.1.2.2.2.1, .int v1.2.1.2.2.2.2.1, .int v1.2.1.2.2.2.2.2.1, .int v1.2.1.2.2.2.2.2.2.1, .int v1.2.1.2.2.2.2.2.2.2.1, .int v1.2.1.2.2.2.2.2.2.2.2])), (ad1 4, .inl (cI, 15, .inl v1.2.1.1)), (ad1 5, .inr (4, [.ref (ad1 6), .int v1.2.2.1.2.1, .int v1.2.2.1.2.2.1, .int v1.2.2.1.2.2.2.1, .int v1.2.2.1.2.2.2.2.1, .int v1.2.2.1.2.2.2.2.2.1, .int v1.2.2.1.2.2.2.2.2.2.1, .int v1.2.2.1.2.2.2.2.2.2.2.1, .int v1.2.2.1.2.2.2.2.2.2.2.2])), (ad1 6, .inl (cI, 15, .inl v1.2.2.1.1)), (ad1 1, .inr (3, [.ref (ad1 2), .int v1.1.2])), (ad1 2, .inl (cI, 15, .inl v1.1.1)), (ad 0, .inr (5, [.ref (ad 1), .ref (ad 3), .ref (ad 4), .ref (ad 5), .ref (ad 6), .ref (ad 7), .int x1.2.2.2.2.2.2.1, .int x1.2.2.2.2.2.2.2.1, .int x1.2.2.2.2.2.2.2.2])), (ad 1, .inr (3, [.ref (ad 2), .int x1.1.2])), (ad 2, .inl (cI, 15, .inl x1.1.1)), (ad 3, .inl (cI, 1024, .inl x1.2.1)), (ad 4, .inl (cI, 64, .inl x1.2.2.1)), (ad 7, .inl (cI, 16384, .inl x1.2.2.2.2.2.1)), (ad 5, .inl (cI, 16384, .inl x2))]) (w_SN (As := [.ref (ad 6), .int (0 : Int32)]) (rest := []) (n := 2) ⟨hx, hb, hml, hown, hts⟩ (c_X6_fillRow l D cI cR (ad 6) 16384 x1.2.2.2.2.1 (0 : Int32) _ x3 hcx3) (nM_X5_79 hN) kS_X6_fillRow kZ_X6 kK_X6_fillRow ⟨rfl, rfl⟩ ⟨(Nat.le_of_ble_eq_true rfl), (Nat.le_of_ble_eq_true rfl)⟩ pd_X6_fillRow rfl hK hN hP hD [12] rfl rfl rfl hl.1 (Nat.le_of_ble_eq_true rfl) dX5_prepare_81 ⟨(Nat.le_of_ble_eq_true rfl), (Nat.le_of_ble_eq_true rfl)⟩) hP hD hS hA [12] [0, 1, 2, 3, 4, 5, 6, 7, 8, 9, 10, 11, 13, 14] rfl rfl rfl (by decide) (fun H locs hP hD hS => ?_)
    have hP : va_P D vwCl [(ad1 0, .inr (2, [.ref (ad1 1), .ref (ad1 3), .ref (ad1 5), .int v1.2.2.2.1, .int v1.2.2.2.2.1, .int v1.2.2.2.2.2.1, .int v1.2.2.2.2.2.2.1, .int v1.2.2.2.2.2.2.2.1, .int v1.2.2.2.2.2.2.2.2.1, .int v1.2.2.2.2.2.2.2.2.2.1, .int v1.2.2.2.2.2.2.2.2.2.2])), (ad1 3, .inr (4, [.ref (ad1 4), .int v1.2.1.2.1, .int v1.2.1.2.2.1, .int v1.2.1.2.2.2.1, .int v1.2.1.2.2.2.2.1, .int v1.2.1.2.2.2.2.2.1, .int v1.2.1.2.2.2.2.2.2.1, .int v1.2.1.2.2.2.2.2.2.2.1, .int v1.2.1.2.2.2.2.2.2.2.2])), (ad1 4, .inl (cI, 15, .inl v1.2.1.1)), (ad1 5, .inr (4, [.ref (ad1 6), .int v1.2.2.1.2.1, .int v1.2.2.1.2.2.1, .int v1.2.2.1.2.2.2.1, .int v1.2.2.1.2.2.2.2.1, .int v1.2.2.1.2.2.2.2.2.1, .int v1.2.2.1.2.2.2.2.2.2.1, .int v1.2.2.1.2.2.2.2.2.2.2.1, .int v1.2.2.1.2.2.2.2.2.2.2.2])), (ad1 6, .inl (cI, 15, .inl v1.2.2.1.1)), (ad1 1, .inr (3, [.ref (ad1 2), .int v1.1.2])), (ad1 2, .inl (cI, 15, .inl v1.1.1)), (ad 0, .inr (5, [.ref (ad 1), .ref (ad 3), .ref (ad 4), .ref (ad 5), .ref (ad 6), .ref (ad 7), .int x1.2.2.2.2.2.2.1, .int x1.2.2.2.2.2.2.2.1, .int x1.2.2.2.2.2.2.2.2])), (ad 1, .inr (3, [.ref (ad 2), .int x1.1.2])), (ad 2, .inl (cI, 15, .inl x1.1.1)), (ad 3, .inl (cI, 1024, .inl x1.2.1)), (ad 4, .inl (cI, 64, .inl x1.2.2.1)), (ad 7, .inl (cI, 16384, .inl x1.2.2.2.2.2.1)), (ad 5, .inl (cI, 16384, .inl x2)), (ad 6, .inl (cI, 16384, .inl x3))] H := hP
    have hD : va_D A [(ad1 0, .inr (2, [.ref (ad1 1), .ref (ad1 3), .ref (ad1 5), .int v1.2.2.2.1, .int v1.2.2.2.2.1, .int v1.2.2.2.2.2.1, .int v1.2.2.2.2.2.2.1, .int v1.2.2.2.2.2.2.2.1, .int v1.2.2.2.2.2.2.2.2.1, .int v1.2.2.2.2.2.2.2.2.2.1, .int v1.2.2.2.2.2.2.2.2.2.2])), (ad1 3, .inr (4, [.ref (ad1 4), .int v1.2.1.2.1, .int v1.2.1.2.2.1, .int v1.2.1.2.2.2.1, .int v1.2.1.2.2.2.2.1, .int v1.2.1.2.2.2.2.2.1, .int v1.2.1.2.2.2.2.2.2.1, .int v1.2.1.2.2.2.2.2.2.2.1, .int v1.2.1.2.2.2.2.2.2.2.2])), (ad1 4, .inl (cI, 15, .inl v1.2.1.1)), (ad1 5, .inr (4, [.ref (ad1 6), .int v1.2.2.1.2.1, .int v1.2.2.1.2.2.1, .int v1.2.2.1.2.2.2.1, .int v1.2.2.1.2.2.2.2.1, .int v1.2.2.1.2.2.2.2.2.1, .int v1.2.2.1.2.2.2.2.2.2.1, .int v1.2.2.1.2.2.2.2.2.2.2.1, .int v1.2.2.1.2.2.2.2.2.2.2.2])), (ad1 6, .inl (cI, 15, .inl v1.2.2.1.1)), (ad1 1, .inr (3, [.ref (ad1 2), .int v1.1.2])), (ad1 2, .inl (cI, 15, .inl v1.1.1)), (ad 0, .inr (5, [.ref (ad 1), .ref (ad 3), .ref (ad 4), .ref (ad 5), .ref (ad 6), .ref (ad 7), .int x1.2.2.2.2.2.2.1, .int x1.2.2.2.2.2.2.2.1, .int x1.2.2.2.2.2.2.2.2])), (ad 1, .inr (3, [.ref (ad 2), .int x1.1.2])), (ad 2, .inl (cI, 15, .inl x1.1.1)), (ad 3, .inl (cI, 1024, .inl x1.2.1)), (ad 4, .inl (cI, 64, .inl x1.2.2.1)), (ad 7, .inl (cI, 16384, .inl x1.2.2.2.2.2.1)), (ad 5, .inl (cI, 16384, .inl x2)), (ad 6, .inl (cI, 16384, .inl x3))] := hD
    exact z_v hf (fun r => oX5 cI cR ad r ++ oX2 cI cR ad1 v1) hx hb hr hlk hS (hP.subm [7, 8, 9, 10, 11, 13, 14, 12, 0, 5, 6, 1, 2, 3, 4] rfl) (hD.sub [7, 8, 9, 10, 11, 13, 14, 12, 0, 5, 6, 1, 2, 3, 4] rfl rfl) dX5_prepare_84
  unfold f_X5_prepare at hf
  refine lv_aload_n hx hb dX5_prepare_0 rfl (lv_at hl 0 rfl) ?_
  refine va_get (D := D) (ci := 5) (v := .int v.2.2.2.2.2.2.2.1) (C := RX5) (T := TX5) (N := 9) hx hb hts inA_X5 hown hK hP 0 rfl rfl 7 (by decide) (hts _ kF_X5_38) (fun _ h9 => h9) rfl dX5_prepare_1 ?_
  refine lv_aload_n hx hb dX5_prepare_4 rfl (lv_at hl 1 rfl) ?_
  refine va_getN (D := D) (ci := 2) (v := .int v1.2.2.2.1) (C := RX2) (T := TX2) (N := 11) hx hb hts inA_X2 hown hK hP 8 rfl rfl 3 (by decide) (va_Nw.use rfl (nF_X5_63 hN)) (fun _ h9 => h9) rfl dX5_prepare_5 ?_
  refine lv_icmp_ne (tgt := 37) hx hb dX5_prepare_8 (by decide) (fun c0 => ?_) (fun c0 => ?_)
  · replace hf := gF hf c0
    exact J37 v _ _ ls hP hD hS (lv_sub hl [0, 1] rfl) hf
  · replace hf := gT hf c0
    refine lv_aload_n hx hb dX5_prepare_11 rfl (lv_at hl 0 rfl) ?_
    refine va_get (D := D) (ci := 5) (v := .int v.2.2.2.2.2.2.2.2) (C := RX5) (T := TX5) (N := 9) hx hb hts inA_X5 hown hK hP 0 rfl rfl 8 (by decide) (hts _ kF_X5_41) (fun _ h9 => h9) rfl dX5_prepare_12 ?_
    refine lv_aload_n hx hb dX5_prepare_15 rfl (lv_at hl 1 rfl) ?_
    refine va_getN (D := D) (ci := 2) (v := .int v1.2.2.2.2.1) (C := RX2) (T := TX2) (N := 11) hx hb hts inA_X2 hown hK hP 8 rfl rfl 4 (by decide) (va_Nw.use rfl (nF_X5_66 hN)) (fun _ h9 => h9) rfl dX5_prepare_16 ?_
    refine lv_icmp_ne (tgt := 37) hx hb dX5_prepare_19 (by decide) (fun c1 => ?_) (fun c1 => ?_)
    · replace hf := gF hf c1
      exact J37 v _ _ ls hP hD hS (lv_sub hl [0, 1] rfl) hf
    · replace hf := gT hf c1
      refine lv_aload_n hx hb dX5_prepare_22 rfl (lv_at hl 0 rfl) ?_
      refine va_get (D := D) (ci := 5) (v := .ref (ad 1)) (C := RX5) (T := TX5) (N := 9) hx hb hts inA_X5 hown hK hP 0 rfl rfl 0 (by decide) (hts _ kF_X5_12) (fun _ h9 => h9) rfl dX5_prepare_23 ?_
      refine lv_aload_n hx hb dX5_prepare_26 rfl (lv_at hl 1 rfl) ?_
      refine va_getN (D := D) (ci := 2) (v := .ref (ad1 1)) (C := RX2) (T := TX2) (N := 11) hx hb hts inA_X2 hown hK hP 8 rfl rfl 0 (by decide) (va_Nw.use rfl (nF_X5_67 hN)) (fun _ h9 => h9) rfl dX5_prepare_27 ?_
      obtain ⟨x4, hcx4, hf⟩ := gB hf
      refine k_r (r_V (As := [.ref (ad1 1)]) (rest := []) (n := 1) ⟨hx, hb, hml, hown, hts⟩ (c_X3_isLike l D cI cR (fun i => ad (i + 1)) v.1 (fun i => ad1 (i + 1)) v1.1 _ x4 hcx4) kM_X5_68 kN_X3_isLike kV_X3_isLike kZ_X3 kK_X3_isLike ⟨rfl, rfl⟩ ⟨(Nat.le_of_ble_eq_true rfl), (Nat.le_of_ble_eq_true rfl)⟩ pd_X3_isLike rfl hK hN hP hD [1, 2, 9, 10] rfl rfl 0 3 rfl rfl rfl hl.1 (Nat.le_of_ble_eq_true rfl) dX5_prepare_30 ⟨(Nat.le_of_ble_eq_true rfl), (Nat.le_of_ble_eq_true rfl)⟩) ?_
      refine lv_if_eq (tgt := 37) hx hb dX5_prepare_33 (by decide) (fun c2 => ?_) (fun c2 => ?_)
      · replace hf := gT hf c2
        exact J37 v _ _ ls hP hD hS (lv_sub hl [0, 1] rfl) hf
      · replace hf := gF hf c2
        exact z_v hf (fun r => oX5 cI cR ad r ++ oX2 cI cR ad1 v1) hx hb hr hlk hS hP hD dX5_prepare_36
def f_X5_standOf_J34 (v : tX2) (k0 : Int32) (k1 : Int32) : Option Int32 :=
  some (((((v.2.1.2.1 <<< ((10 : Int32) &&& 31)) ||| (v.2.1.2.1 <<< ((6 : Int32) &&& 31))) ||| ((k1 ||| k0) <<< ((4 : Int32) &&& 31))) ||| (v.2.1.2.2.2.1 <<< ((2 : Int32) &&& 31))) ||| v.2.1.2.2.2.1)
def f_X5_standOf_J34b (v : tX2) (k0 : Int32) (k1 : Int32) : Option Int32 :=
  some (((((v.2.1.2.1 <<< ((10 : Int32) &&& 31)) ||| (v.2.2.1.2.1 <<< ((6 : Int32) &&& 31))) ||| ((k1 ||| k0) <<< ((4 : Int32) &&& 31))) ||| (v.2.1.2.2.2.1 <<< ((2 : Int32) &&& 31))) ||| v.2.2.1.2.2.2.1)
def f_X5_standOf_J34c (v : tX2) (k0 : Int32) (k1 : Int32) : Option Int32 :=
  some (((((v.2.2.1.2.1 <<< ((10 : Int32) &&& 31)) ||| (v.2.1.2.1 <<< ((6 : Int32) &&& 31))) ||| ((k1 ||| k0) <<< ((4 : Int32) &&& 31))) ||| (v.2.2.1.2.2.2.1 <<< ((2 : Int32) &&& 31))) ||| v.2.1.2.2.2.1)
def f_X5_standOf_J34d (v : tX2) (k0 : Int32) (k1 : Int32) : Option Int32 :=
  some (((((v.2.2.1.2.1 <<< ((10 : Int32) &&& 31)) ||| (v.2.2.1.2.1 <<< ((6 : Int32) &&& 31))) ||| ((k1 ||| k0) <<< ((4 : Int32) &&& 31))) ||| (v.2.2.1.2.2.2.1 <<< ((2 : Int32) &&& 31))) ||| v.2.2.1.2.2.2.1)
def f_X5_standOf_J22 (v : tX2) (k0 : Int32) : Option Int32 :=
  (if v.2.1.2.2.1 = 0 then f_X5_standOf_J34 v (0 : Int32) k0 else f_X5_standOf_J34 v (1 : Int32) k0)
def f_X5_standOf_J22b (v : tX2) (k0 : Int32) : Option Int32 :=
  (if v.2.2.1.2.2.1 = 0 then f_X5_standOf_J34b v (0 : Int32) k0 else f_X5_standOf_J34b v (1 : Int32) k0)
def f_X5_standOf_J22c (v : tX2) (k0 : Int32) : Option Int32 :=
  (if v.2.1.2.2.1 = 0 then f_X5_standOf_J34c v (0 : Int32) k0 else f_X5_standOf_J34c v (1 : Int32) k0)
def f_X5_standOf_J22d (v : tX2) (k0 : Int32) : Option Int32 :=
  (if v.2.2.1.2.2.1 = 0 then f_X5_standOf_J34d v (0 : Int32) k0 else f_X5_standOf_J34d v (1 : Int32) k0)
def f_X5_standOf (v : tX2) : Option Int32 :=
  (f_X2_mover v).bind fun x0 => (if x0 = 0 then (f_X2_waiting v).bind fun x1 => (if x1 = 0 then (if v.2.1.2.2.1 = 0 then f_X5_standOf_J22 v (0 : Int32) else f_X5_standOf_J22 v (2 : Int32)) else (if x1 = 1 then (if v.2.1.2.2.1 = 0 then f_X5_standOf_J22b v (0 : Int32) else f_X5_standOf_J22b v (2 : Int32)) else none)) else (if x0 = 1 then (f_X2_waiting v).bind fun x2 => (if x2 = 0 then (if v.2.2.1.2.2.1 = 0 then f_X5_standOf_J22c v (0 : Int32) else f_X5_standOf_J22c v (2 : Int32)) else (if x2 = 1 then (if v.2.2.1.2.2.1 = 0 then f_X5_standOf_J22d v (0 : Int32) else f_X5_standOf_J22d v (2 : Int32)) else none)) else none))
abbrev rm_X5_standOf : Room := { frames := 1, cells := 0, slots := 0, locals := 20 }
set_option maxHeartbeats 4000000 in
set_option maxRecDepth 100000 in
theorem c_X5_standOf (l : Launch) (D : va_G) (cI cR : ClassId) (ad : Nat → Nat) (v : tX2) (sz : Nat) (r : Int32) (hf : f_X5_standOf v = some r) : Met l yX5_standOf (wM yX5_standOf cX5_standOf 4 (some (.int))) rm_X5_standOf (cPre D (tysA cI cR) ([.ref (ad 0)] : List Value) (oX2 cI cR ad v) sz) (QcRead r) 0 0 (fun _ => False) := by
  refine en_M (own := RX5) (lv := [(0, .ref (ad 0))]) (by decide +kernel) rfl (Nat.le_of_ble_eq_true rfl) rfl (fun p e s m below meth c hx hb hr hlk hml hown hnm hts hsz hP hK hD hN ls hl => ?_)
  generalize va_A (oX2 cI cR ad v) sz = A at hD
  have hP : va_P D vwCl [(ad 0, .inr (2, [.ref (ad 1), .ref (ad 3), .ref (ad 5), .int v.2.2.2.1, .int v.2.2.2.2.1, .int v.2.2.2.2.2.1, .int v.2.2.2.2.2.2.1, .int v.2.2.2.2.2.2.2.1, .int v.2.2.2.2.2.2.2.2.1, .int v.2.2.2.2.2.2.2.2.2.1, .int v.2.2.2.2.2.2.2.2.2.2])), (ad 1, .inr (3, [.ref (ad 2), .int v.1.2])), (ad 2, .inl (cI, 15, .inl v.1.1)), (ad 3, .inr (4, [.ref (ad 4), .int v.2.1.2.1, .int v.2.1.2.2.1, .int v.2.1.2.2.2.1, .int v.2.1.2.2.2.2.1, .int v.2.1.2.2.2.2.2.1, .int v.2.1.2.2.2.2.2.2.1, .int v.2.1.2.2.2.2.2.2.2.1, .int v.2.1.2.2.2.2.2.2.2.2])), (ad 4, .inl (cI, 15, .inl v.2.1.1)), (ad 5, .inr (4, [.ref (ad 6), .int v.2.2.1.2.1, .int v.2.2.1.2.2.1, .int v.2.2.1.2.2.2.1, .int v.2.2.1.2.2.2.2.1, .int v.2.2.1.2.2.2.2.2.1, .int v.2.2.1.2.2.2.2.2.2.1, .int v.2.2.1.2.2.2.2.2.2.2.1, .int v.2.2.1.2.2.2.2.2.2.2.2])), (ad 6, .inl (cI, 15, .inl v.2.2.1.1))] s.heap := hP
  have hD : va_D A [(ad 0, .inr (2, [.ref (ad 1), .ref (ad 3), .ref (ad 5), .int v.2.2.2.1, .int v.2.2.2.2.1, .int v.2.2.2.2.2.1, .int v.2.2.2.2.2.2.1, .int v.2.2.2.2.2.2.2.1, .int v.2.2.2.2.2.2.2.2.1, .int v.2.2.2.2.2.2.2.2.2.1, .int v.2.2.2.2.2.2.2.2.2.2])), (ad 1, .inr (3, [.ref (ad 2), .int v.1.2])), (ad 2, .inl (cI, 15, .inl v.1.1)), (ad 3, .inr (4, [.ref (ad 4), .int v.2.1.2.1, .int v.2.1.2.2.1, .int v.2.1.2.2.2.1, .int v.2.1.2.2.2.2.1, .int v.2.1.2.2.2.2.2.1, .int v.2.1.2.2.2.2.2.2.1, .int v.2.1.2.2.2.2.2.2.2.1, .int v.2.1.2.2.2.2.2.2.2.2])), (ad 4, .inl (cI, 15, .inl v.2.1.1)), (ad 5, .inr (4, [.ref (ad 6), .int v.2.2.1.2.1, .int v.2.2.1.2.2.1, .int v.2.2.1.2.2.2.1, .int v.2.2.1.2.2.2.2.1, .int v.2.2.1.2.2.2.2.2.1, .int v.2.2.1.2.2.2.2.2.2.1, .int v.2.2.1.2.2.2.2.2.2.2.1, .int v.2.2.1.2.2.2.2.2.2.2.2])), (ad 6, .inl (cI, 15, .inl v.2.2.1.1))] := hD
  have J34 : ∀ (k0 : Int32) (k1 : Int32) (ls : Array Slot), lv_has ls 4 [(1, .ref (ad 3)), (2, .ref (ad 3))] → f_X5_standOf_J34 v k0 k1 = some r → W p l e rm_X5_standOf s m ([.ref (ad 0)] : List Value).toArray below meth c s.heap [] 0 0 (MQ below (QcRead r) ([.ref (ad 0)] : List Value).toArray s 0 0 (fun _ => False)) (F0 m 34 ls [.int k0, .int k1]) := by
    intro k0 k1 ls hl hf
    unfold f_X5_standOf_J34 at hf
    refine lv_ior hx hb dX5_standOf_34 ?_
    refine lv_istore_n (lv' := [(3, .int (k1 ||| k0)), (1, .ref (ad 3)), (2, .ref (ad 3))]) hx hb dX5_standOf_35 rfl hl (by decide) rfl (fun ls hl => ?_)
    refine lv_aload_n hx hb dX5_standOf_36 rfl (lv_at hl 1 rfl) ?_
    refine va_getN (D := D) (ci := 4) (v := .int v.2.1.2.1) (C := RX4) (T := TX4) (N := 9) hx hb hts inA_X4 hown hK hP 3 rfl rfl 1 (by decide) (va_Nw.use rfl (nF_X5_161 hN)) (fun _ h9 => h9) rfl dX5_standOf_37 ?_
    refine lv_bipush (v := (10 : Int32)) hx hb dX5_standOf_40 (by decide) ?_
    refine lv_ishl hx hb dX5_standOf_42 ?_
    refine lv_aload_n hx hb dX5_standOf_43 rfl (lv_at hl 2 rfl) ?_
    refine va_getN (D := D) (ci := 4) (v := .int v.2.1.2.1) (C := RX4) (T := TX4) (N := 9) hx hb hts inA_X4 hown hK hP 3 rfl rfl 1 (by decide) (va_Nw.use rfl (nF_X5_161 hN)) (fun _ h9 => h9) rfl dX5_standOf_44 ?_
    refine lv_bipush (v := (6 : Int32)) hx hb dX5_standOf_47 (by decide) ?_
    refine lv_ishl hx hb dX5_standOf_49 ?_
    refine lv_ior hx hb dX5_standOf_50 ?_
    refine lv_iload_n hx hb dX5_standOf_51 rfl (lv_at hl 0 rfl) ?_
    refine lv_iconst (v := (4 : Int32)) hx hb dX5_standOf_52 (by decide) ?_
    refine lv_ishl hx hb dX5_standOf_53 ?_
    refine lv_ior hx hb dX5_standOf_54 ?_
    refine lv_aload_n hx hb dX5_standOf_55 rfl (lv_at hl 1 rfl) ?_
    refine va_getN (D := D) (ci := 4) (v := .int v.2.1.2.2.2.1) (C := RX4) (T := TX4) (N := 9) hx hb hts inA_X4 hown hK hP 3 rfl rfl 3 (by decide) (va_Nw.use rfl (nF_X5_164 hN)) (fun _ h9 => h9) rfl dX5_standOf_56 ?_
    refine lv_iconst (v := (2 : Int32)) hx hb dX5_standOf_59 (by decide) ?_
    refine lv_ishl hx hb dX5_standOf_60 ?_
    refine lv_ior hx hb dX5_standOf_61 ?_
    refine lv_aload_n hx hb dX5_standOf_62 rfl (lv_at hl 2 rfl) ?_
    refine va_getN (D := D) (ci := 4) (v := .int v.2.1.2.2.2.1) (C := RX4) (T := TX4) (N := 9) hx hb hts inA_X4 hown hK hP 3 rfl rfl 3 (by decide) (va_Nw.use rfl (nF_X5_164 hN)) (fun _ h9 => h9) rfl dX5_standOf_63 ?_
    refine lv_ior hx hb dX5_standOf_66 ?_
    exact z_r hf hx hb hr hlk dX5_standOf_67
  have J34b : ∀ (k0 : Int32) (k1 : Int32) (ls : Array Slot), lv_has ls 4 [(1, .ref (ad 3)), (2, .ref (ad 5))] → f_X5_standOf_J34b v k0 k1 = some r → W p l e rm_X5_standOf s m ([.ref (ad 0)] : List Value).toArray below meth c s.heap [] 0 0 (MQ below (QcRead r) ([.ref (ad 0)] : List Value).toArray s 0 0 (fun _ => False)) (F0 m 34 ls [.int k0, .int k1]) := by
    intro k0 k1 ls hl hf
    unfold f_X5_standOf_J34b at hf
    refine lv_ior hx hb dX5_standOf_34 ?_
    refine lv_istore_n (lv' := [(3, .int (k1 ||| k0)), (1, .ref (ad 3)), (2, .ref (ad 5))]) hx hb dX5_standOf_35 rfl hl (by decide) rfl (fun ls hl => ?_)
    refine lv_aload_n hx hb dX5_standOf_36 rfl (lv_at hl 1 rfl) ?_
    refine va_getN (D := D) (ci := 4) (v := .int v.2.1.2.1) (C := RX4) (T := TX4) (N := 9) hx hb hts inA_X4 hown hK hP 3 rfl rfl 1 (by decide) (va_Nw.use rfl (nF_X5_161 hN)) (fun _ h9 => h9) rfl dX5_standOf_37 ?_
    refine lv_bipush (v := (10 : Int32)) hx hb dX5_standOf_40 (by decide) ?_
    refine lv_ishl hx hb dX5_standOf_42 ?_
    refine lv_aload_n hx hb dX5_standOf_43 rfl (lv_at hl 2 rfl) ?_
    refine va_getN (D := D) (ci := 4) (v := .int v.2.2.1.2.1) (C := RX4) (T := TX4) (N := 9) hx hb hts inA_X4 hown hK hP 5 rfl rfl 1 (by decide) (va_Nw.use rfl (nF_X5_161 hN)) (fun _ h9 => h9) rfl dX5_standOf_44 ?_
    refine lv_bipush (v := (6 : Int32)) hx hb dX5_standOf_47 (by decide) ?_
    refine lv_ishl hx hb dX5_standOf_49 ?_
    refine lv_ior hx hb dX5_standOf_50 ?_
    refine lv_iload_n hx hb dX5_standOf_51 rfl (lv_at hl 0 rfl) ?_
    refine lv_iconst (v := (4 : Int32)) hx hb dX5_standOf_52 (by decide) ?_
    refine lv_ishl hx hb dX5_standOf_53 ?_
    refine lv_ior hx hb dX5_standOf_54 ?_
    refine lv_aload_n hx hb dX5_standOf_55 rfl (lv_at hl 1 rfl) ?_
    refine va_getN (D := D) (ci := 4) (v := .int v.2.1.2.2.2.1) (C := RX4) (T := TX4) (N := 9) hx hb hts inA_X4 hown hK hP 3 rfl rfl 3 (by decide) (va_Nw.use rfl (nF_X5_164 hN)) (fun _ h9 => h9) rfl dX5_standOf_56 ?_
    refine lv_iconst (v := (2 : Int32)) hx hb dX5_standOf_59 (by decide) ?_
    refine lv_ishl hx hb dX5_standOf_60 ?_
    refine lv_ior hx hb dX5_standOf_61 ?_
    refine lv_aload_n hx hb dX5_standOf_62 rfl (lv_at hl 2 rfl) ?_
    refine va_getN (D := D) (ci := 4) (v := .int v.2.2.1.2.2.2.1) (C := RX4) (T := TX4) (N := 9) hx hb hts inA_X4 hown hK hP 5 rfl rfl 3 (by decide) (va_Nw.use rfl (nF_X5_164 hN)) (fun _ h9 => h9) rfl dX5_standOf_63 ?_
    refine lv_ior hx hb dX5_standOf_66 ?_
    exact z_r hf hx hb hr hlk dX5_standOf_67
  have J34c : ∀ (k0 : Int32) (k1 : Int32) (ls : Array Slot), lv_has ls 4 [(1, .ref (ad 5)), (2, .ref (ad 3))] → f_X5_standOf_J34c v k0 k1 = some r → W p l e rm_X5_standOf s m ([.ref (ad 0)] : List Value).toArray below meth c s.heap [] 0 0 (MQ below (QcRead r) ([.ref (ad 0)] : List Value).toArray s 0 0 (fun _ => False)) (F0 m 34 ls [.int k0, .int k1]) := by
    intro k0 k1 ls hl hf
    unfold f_X5_standOf_J34c at hf
    refine lv_ior hx hb dX5_standOf_34 ?_
    refine lv_istore_n (lv' := [(3, .int (k1 ||| k0)), (1, .ref (ad 5)), (2, .ref (ad 3))]) hx hb dX5_standOf_35 rfl hl (by decide) rfl (fun ls hl => ?_)
    refine lv_aload_n hx hb dX5_standOf_36 rfl (lv_at hl 1 rfl) ?_
    refine va_getN (D := D) (ci := 4) (v := .int v.2.2.1.2.1) (C := RX4) (T := TX4) (N := 9) hx hb hts inA_X4 hown hK hP 5 rfl rfl 1 (by decide) (va_Nw.use rfl (nF_X5_161 hN)) (fun _ h9 => h9) rfl dX5_standOf_37 ?_
    refine lv_bipush (v := (10 : Int32)) hx hb dX5_standOf_40 (by decide) ?_
    refine lv_ishl hx hb dX5_standOf_42 ?_
    refine lv_aload_n hx hb dX5_standOf_43 rfl (lv_at hl 2 rfl) ?_
    refine va_getN (D := D) (ci := 4) (v := .int v.2.1.2.1) (C := RX4) (T := TX4) (N := 9) hx hb hts inA_X4 hown hK hP 3 rfl rfl 1 (by decide) (va_Nw.use rfl (nF_X5_161 hN)) (fun _ h9 => h9) rfl dX5_standOf_44 ?_
    refine lv_bipush (v := (6 : Int32)) hx hb dX5_standOf_47 (by decide) ?_
    refine lv_ishl hx hb dX5_standOf_49 ?_
    refine lv_ior hx hb dX5_standOf_50 ?_
    refine lv_iload_n hx hb dX5_standOf_51 rfl (lv_at hl 0 rfl) ?_
    refine lv_iconst (v := (4 : Int32)) hx hb dX5_standOf_52 (by decide) ?_
    refine lv_ishl hx hb dX5_standOf_53 ?_
    refine lv_ior hx hb dX5_standOf_54 ?_
    refine lv_aload_n hx hb dX5_standOf_55 rfl (lv_at hl 1 rfl) ?_
    refine va_getN (D := D) (ci := 4) (v := .int v.2.2.1.2.2.2.1) (C := RX4) (T := TX4) (N := 9) hx hb hts inA_X4 hown hK hP 5 rfl rfl 3 (by decide) (va_Nw.use rfl (nF_X5_164 hN)) (fun _ h9 => h9) rfl dX5_standOf_56 ?_
    refine lv_iconst (v := (2 : Int32)) hx hb dX5_standOf_59 (by decide) ?_
    refine lv_ishl hx hb dX5_standOf_60 ?_
    refine lv_ior hx hb dX5_standOf_61 ?_
    refine lv_aload_n hx hb dX5_standOf_62 rfl (lv_at hl 2 rfl) ?_
    refine va_getN (D := D) (ci := 4) (v := .int v.2.1.2.2.2.1) (C := RX4) (T := TX4) (N := 9) hx hb hts inA_X4 hown hK hP 3 rfl rfl 3 (by decide) (va_Nw.use rfl (nF_X5_164 hN)) (fun _ h9 => h9) rfl dX5_standOf_63 ?_
    refine lv_ior hx hb dX5_standOf_66 ?_
    exact z_r hf hx hb hr hlk dX5_standOf_67
  have J34d : ∀ (k0 : Int32) (k1 : Int32) (ls : Array Slot), lv_has ls 4 [(1, .ref (ad 5)), (2, .ref (ad 5))] → f_X5_standOf_J34d v k0 k1 = some r → W p l e rm_X5_standOf s m ([.ref (ad 0)] : List Value).toArray below meth c s.heap [] 0 0 (MQ below (QcRead r) ([.ref (ad 0)] : List Value).toArray s 0 0 (fun _ => False)) (F0 m 34 ls [.int k0, .int k1]) := by
    intro k0 k1 ls hl hf
    unfold f_X5_standOf_J34d at hf
    refine lv_ior hx hb dX5_standOf_34 ?_
    refine lv_istore_n (lv' := [(3, .int (k1 ||| k0)), (1, .ref (ad 5)), (2, .ref (ad 5))]) hx hb dX5_standOf_35 rfl hl (by decide) rfl (fun ls hl => ?_)
    refine lv_aload_n hx hb dX5_standOf_36 rfl (lv_at hl 1 rfl) ?_
    refine va_getN (D := D) (ci := 4) (v := .int v.2.2.1.2.1) (C := RX4) (T := TX4) (N := 9) hx hb hts inA_X4 hown hK hP 5 rfl rfl 1 (by decide) (va_Nw.use rfl (nF_X5_161 hN)) (fun _ h9 => h9) rfl dX5_standOf_37 ?_
    refine lv_bipush (v := (10 : Int32)) hx hb dX5_standOf_40 (by decide) ?_
    refine lv_ishl hx hb dX5_standOf_42 ?_
    refine lv_aload_n hx hb dX5_standOf_43 rfl (lv_at hl 2 rfl) ?_
    refine va_getN (D := D) (ci := 4) (v := .int v.2.2.1.2.1) (C := RX4) (T := TX4) (N := 9) hx hb hts inA_X4 hown hK hP 5 rfl rfl 1 (by decide) (va_Nw.use rfl (nF_X5_161 hN)) (fun _ h9 => h9) rfl dX5_standOf_44 ?_
    refine lv_bipush (v := (6 : Int32)) hx hb dX5_standOf_47 (by decide) ?_
    refine lv_ishl hx hb dX5_standOf_49 ?_
    refine lv_ior hx hb dX5_standOf_50 ?_
    refine lv_iload_n hx hb dX5_standOf_51 rfl (lv_at hl 0 rfl) ?_
    refine lv_iconst (v := (4 : Int32)) hx hb dX5_standOf_52 (by decide) ?_
    refine lv_ishl hx hb dX5_standOf_53 ?_
    refine lv_ior hx hb dX5_standOf_54 ?_
    refine lv_aload_n hx hb dX5_standOf_55 rfl (lv_at hl 1 rfl) ?_
    refine va_getN (D := D) (ci := 4) (v := .int v.2.2.1.2.2.2.1) (C := RX4) (T := TX4) (N := 9) hx hb hts inA_X4 hown hK hP 5 rfl rfl 3 (by decide) (va_Nw.use rfl (nF_X5_164 hN)) (fun _ h9 => h9) rfl dX5_standOf_56 ?_
    refine lv_iconst (v := (2 : Int32)) hx hb dX5_standOf_59 (by decide) ?_
    refine lv_ishl hx hb dX5_standOf_60 ?_
    refine lv_ior hx hb dX5_standOf_61 ?_
    refine lv_aload_n hx hb dX5_standOf_62 rfl (lv_at hl 2 rfl) ?_
    refine va_getN (D := D) (ci := 4) (v := .int v.2.2.1.2.2.2.1) (C := RX4) (T := TX4) (N := 9) hx hb hts inA_X4 hown hK hP 5 rfl rfl 3 (by decide) (va_Nw.use rfl (nF_X5_164 hN)) (fun _ h9 => h9) rfl dX5_standOf_63 ?_
    refine lv_ior hx hb dX5_standOf_66 ?_
    exact z_r hf hx hb hr hlk dX5_standOf_67
  have J22 : ∀ (k0 : Int32) (ls : Array Slot), lv_has ls 4 [(1, .ref (ad 3)), (2, .ref (ad 3))] → f_X5_standOf_J22 v k0 = some r → W p l e rm_X5_standOf s m ([.ref (ad 0)] : List Value).toArray below meth c s.heap [] 0 0 (MQ below (QcRead r) ([.ref (ad 0)] : List Value).toArray s 0 0 (fun _ => False)) (F0 m 22 ls [.int k0]) := by
    intro k0 ls hl hf
    unfold f_X5_standOf_J22 at hf
    refine lv_aload_n hx hb dX5_standOf_22 rfl (lv_at hl 1 rfl) ?_
    refine va_getN (D := D) (ci := 4) (v := .int v.2.1.2.2.1) (C := RX4) (T := TX4) (N := 9) hx hb hts inA_X4 hown hK hP 3 rfl rfl 2 (by decide) (va_Nw.use rfl (nF_X5_155 hN)) (fun _ h9 => h9) rfl dX5_standOf_23 ?_
    refine lv_if_eq (tgt := 33) hx hb dX5_standOf_26 (by decide) (fun c0 => ?_) (fun c0 => ?_)
    · replace hf := gT hf c0
      refine lv_iconst (v := (0 : Int32)) hx hb dX5_standOf_33 (by decide) ?_
      exact J34 (0 : Int32) k0 ls (lv_sub hl [0, 1] rfl) hf
    · replace hf := gF hf c0
      refine lv_iconst (v := (1 : Int32)) hx hb dX5_standOf_29 (by decide) ?_
      refine lv_goto (tgt := 34) hx hb dX5_standOf_30 (by decide) ?_
      exact J34 (1 : Int32) k0 ls (lv_sub hl [0, 1] rfl) hf
  have J22b : ∀ (k0 : Int32) (ls : Array Slot), lv_has ls 4 [(1, .ref (ad 3)), (2, .ref (ad 5))] → f_X5_standOf_J22b v k0 = some r → W p l e rm_X5_standOf s m ([.ref (ad 0)] : List Value).toArray below meth c s.heap [] 0 0 (MQ below (QcRead r) ([.ref (ad 0)] : List Value).toArray s 0 0 (fun _ => False)) (F0 m 22 ls [.int k0]) := by
    intro k0 ls hl hf
    unfold f_X5_standOf_J22b at hf
    refine lv_aload_n hx hb dX5_standOf_22 rfl (lv_at hl 1 rfl) ?_
    refine va_getN (D := D) (ci := 4) (v := .int v.2.2.1.2.2.1) (C := RX4) (T := TX4) (N := 9) hx hb hts inA_X4 hown hK hP 5 rfl rfl 2 (by decide) (va_Nw.use rfl (nF_X5_155 hN)) (fun _ h9 => h9) rfl dX5_standOf_23 ?_
    refine lv_if_eq (tgt := 33) hx hb dX5_standOf_26 (by decide) (fun c1 => ?_) (fun c1 => ?_)
    · replace hf := gT hf c1
      refine lv_iconst (v := (0 : Int32)) hx hb dX5_standOf_33 (by decide) ?_
      exact J34b (0 : Int32) k0 ls (lv_sub hl [0, 1] rfl) hf
    · replace hf := gF hf c1
      refine lv_iconst (v := (1 : Int32)) hx hb dX5_standOf_29 (by decide) ?_
      refine lv_goto (tgt := 34) hx hb dX5_standOf_30 (by decide) ?_
      exact J34b (1 : Int32) k0 ls (lv_sub hl [0, 1] rfl) hf
  have J22c : ∀ (k0 : Int32) (ls : Array Slot), lv_has ls 4 [(1, .ref (ad 5)), (2, .ref (ad 3))] → f_X5_standOf_J22c v k0 = some r → W p l e rm_X5_standOf s m ([.ref (ad 0)] : List Value).toArray below meth c s.heap [] 0 0 (MQ below (QcRead r) ([.ref (ad 0)] : List Value).toArray s 0 0 (fun _ => False)) (F0 m 22 ls [.int k0]) := by
    intro k0 ls hl hf
    unfold f_X5_standOf_J22c at hf
    refine lv_aload_n hx hb dX5_standOf_22 rfl (lv_at hl 1 rfl) ?_
    refine va_getN (D := D) (ci := 4) (v := .int v.2.1.2.2.1) (C := RX4) (T := TX4) (N := 9) hx hb hts inA_X4 hown hK hP 3 rfl rfl 2 (by decide) (va_Nw.use rfl (nF_X5_155 hN)) (fun _ h9 => h9) rfl dX5_standOf_23 ?_
    refine lv_if_eq (tgt := 33) hx hb dX5_standOf_26 (by decide) (fun c2 => ?_) (fun c2 => ?_)
    · replace hf := gT hf c2
      refine lv_iconst (v := (0 : Int32)) hx hb dX5_standOf_33 (by decide) ?_
      exact J34c (0 : Int32) k0 ls (lv_sub hl [0, 1] rfl) hf
    · replace hf := gF hf c2
      refine lv_iconst (v := (1 : Int32)) hx hb dX5_standOf_29 (by decide) ?_
      refine lv_goto (tgt := 34) hx hb dX5_standOf_30 (by decide) ?_
      exact J34c (1 : Int32) k0 ls (lv_sub hl [0, 1] rfl) hf
  have J22d : ∀ (k0 : Int32) (ls : Array Slot), lv_has ls 4 [(1, .ref (ad 5)), (2, .ref (ad 5))] → f_X5_standOf_J22d v k0 = some r → W p l e rm_X5_standOf s m ([.ref (ad 0)] : List Value).toArray below meth c s.heap [] 0 0 (MQ below (QcRead r) ([.ref (ad 0)] : List Value).toArray s 0 0 (fun _ => False)) (F0 m 22 ls [.int k0]) := by
    intro k0 ls hl hf
    unfold f_X5_standOf_J22d at hf
    refine lv_aload_n hx hb dX5_standOf_22 rfl (lv_at hl 1 rfl) ?_
    refine va_getN (D := D) (ci := 4) (v := .int v.2.2.1.2.2.1) (C := RX4) (T := TX4) (N := 9) hx hb hts inA_X4 hown hK hP 5 rfl rfl 2 (by decide) (va_Nw.use rfl (nF_X5_155 hN)) (fun _ h9 => h9) rfl dX5_standOf_23 ?_
    refine lv_if_eq (tgt := 33) hx hb dX5_standOf_26 (by decide) (fun c3 => ?_) (fun c3 => ?_)
    · replace hf := gT hf c3
      refine lv_iconst (v := (0 : Int32)) hx hb dX5_standOf_33 (by decide) ?_
      exact J34d (0 : Int32) k0 ls (lv_sub hl [0, 1] rfl) hf
    · replace hf := gF hf c3
      refine lv_iconst (v := (1 : Int32)) hx hb dX5_standOf_29 (by decide) ?_
      refine lv_goto (tgt := 34) hx hb dX5_standOf_30 (by decide) ?_
      exact J34d (1 : Int32) k0 ls (lv_sub hl [0, 1] rfl) hf
  unfold f_X5_standOf at hf
  refine lv_aload_n hx hb dX5_standOf_0 rfl (lv_at hl 0 rfl) ?_
  obtain ⟨x0, hcx0, hf⟩ := gB hf
  refine va_csr (r_V (As := []) (rest := []) (n := 0) ⟨hx, hb, hml, hown, hts⟩ (c_X2_mover l D cI cR ad v _ x0 hcx0) kM_X5_148 kN_X2_mover kV_X2_mover kZ_X2 kK_X2_mover ⟨rfl, rfl⟩ ⟨(Nat.le_of_ble_eq_true rfl), (Nat.le_of_ble_eq_true rfl)⟩ pd_X2_mover rfl hK hN hP hD [0, 1, 2, 3, 4, 5, 6] rfl rfl 0 2 rfl rfl rfl hl.1 (Nat.le_of_ble_eq_true rfl) dX5_standOf_1 ⟨(Nat.le_of_ble_eq_true rfl), (Nat.le_of_ble_eq_true rfl)⟩) (fun j4 hj4 => ?_)
  subst hj4
  by_cases ej4_0 : j4 = 0
  · replace hf := gT hf ej4_0
    subst ej4_0
    refine W.eq (g2 := F0 m 4 ls [.ref (ad 3)]) rfl ?_
    refine lv_astore_n (lv' := [(1, .ref (ad 3)), (0, .ref (ad 0))]) hx hb dX5_standOf_4 rfl hl (by decide) rfl (fun ls hl => ?_)
    refine lv_aload_n hx hb dX5_standOf_5 rfl (lv_at hl 1 rfl) ?_
    obtain ⟨x1, hcx1, hf⟩ := gB hf
    refine va_csr (r_V (As := []) (rest := []) (n := 0) ⟨hx, hb, hml, hown, hts⟩ (c_X2_waiting l D cI cR ad v _ x1 hcx1) kM_X5_152 kN_X2_waiting kV_X2_waiting kZ_X2 kK_X2_waiting ⟨rfl, rfl⟩ ⟨(Nat.le_of_ble_eq_true rfl), (Nat.le_of_ble_eq_true rfl)⟩ pd_X2_waiting rfl hK hN hP hD [0, 1, 2, 3, 4, 5, 6] rfl rfl 0 2 rfl rfl rfl hl.1 (Nat.le_of_ble_eq_true rfl) dX5_standOf_6 ⟨(Nat.le_of_ble_eq_true rfl), (Nat.le_of_ble_eq_true rfl)⟩) (fun j5 hj5 => ?_)
    subst hj5
    by_cases ej5_0 : j5 = 0
    · replace hf := gT hf ej5_0
      subst ej5_0
      refine W.eq (g2 := F0 m 9 ls [.ref (ad 3)]) rfl ?_
      refine lv_astore_n (lv' := [(2, .ref (ad 3)), (1, .ref (ad 3)), (0, .ref (ad 0))]) hx hb dX5_standOf_9 rfl hl (by decide) rfl (fun ls hl => ?_)
      refine lv_aload_n hx hb dX5_standOf_10 rfl (lv_at hl 1 rfl) ?_
      refine va_getN (D := D) (ci := 4) (v := .int v.2.1.2.2.1) (C := RX4) (T := TX4) (N := 9) hx hb hts inA_X4 hown hK hP 3 rfl rfl 2 (by decide) (va_Nw.use rfl (nF_X5_155 hN)) (fun _ h9 => h9) rfl dX5_standOf_11 ?_
      refine lv_if_eq (tgt := 21) hx hb dX5_standOf_14 (by decide) (fun c6 => ?_) (fun c6 => ?_)
      · replace hf := gT hf c6
        refine lv_iconst (v := (0 : Int32)) hx hb dX5_standOf_21 (by decide) ?_
        exact J22 (0 : Int32) ls (lv_sub hl [1, 0] rfl) hf
      · replace hf := gF hf c6
        refine lv_iconst (v := (2 : Int32)) hx hb dX5_standOf_17 (by decide) ?_
        refine lv_goto (tgt := 22) hx hb dX5_standOf_18 (by decide) ?_
        exact J22 (2 : Int32) ls (lv_sub hl [1, 0] rfl) hf
    replace hf := gF hf ej5_0
    by_cases ej5_1 : j5 = 1
    · replace hf := gT hf ej5_1
      subst ej5_1
      refine W.eq (g2 := F0 m 9 ls [.ref (ad 5)]) rfl ?_
      refine lv_astore_n (lv' := [(2, .ref (ad 5)), (1, .ref (ad 3)), (0, .ref (ad 0))]) hx hb dX5_standOf_9 rfl hl (by decide) rfl (fun ls hl => ?_)
      refine lv_aload_n hx hb dX5_standOf_10 rfl (lv_at hl 1 rfl) ?_
      refine va_getN (D := D) (ci := 4) (v := .int v.2.1.2.2.1) (C := RX4) (T := TX4) (N := 9) hx hb hts inA_X4 hown hK hP 3 rfl rfl 2 (by decide) (va_Nw.use rfl (nF_X5_155 hN)) (fun _ h9 => h9) rfl dX5_standOf_11 ?_
      refine lv_if_eq (tgt := 21) hx hb dX5_standOf_14 (by decide) (fun c7 => ?_) (fun c7 => ?_)
      · replace hf := gT hf c7
        refine lv_iconst (v := (0 : Int32)) hx hb dX5_standOf_21 (by decide) ?_
        exact J22b (0 : Int32) ls (lv_sub hl [1, 0] rfl) hf
      · replace hf := gF hf c7
        refine lv_iconst (v := (2 : Int32)) hx hb dX5_standOf_17 (by decide) ?_
        refine lv_goto (tgt := 22) hx hb dX5_standOf_18 (by decide) ?_
        exact J22b (2 : Int32) ls (lv_sub hl [1, 0] rfl) hf
    replace hf := gF hf ej5_1
    cases hf
  replace hf := gF hf ej4_0
  by_cases ej4_1 : j4 = 1
  · replace hf := gT hf ej4_1
    subst ej4_1
    refine W.eq (g2 := F0 m 4 ls [.ref (ad 5)]) rfl ?_
    refine lv_astore_n (lv' := [(1, .ref (ad 5)), (0, .ref (ad 0))]) hx hb dX5_standOf_4 rfl hl (by decide) rfl (fun ls hl => ?_)
    refine lv_aload_n hx hb dX5_standOf_5 rfl (lv_at hl 1 rfl) ?_
    obtain ⟨x2, hcx2, hf⟩ := gB hf
    refine va_csr (r_V (As := []) (rest := []) (n := 0) ⟨hx, hb, hml, hown, hts⟩ (c_X2_waiting l D cI cR ad v _ x2 hcx2) kM_X5_152 kN_X2_waiting kV_X2_waiting kZ_X2 kK_X2_waiting ⟨rfl, rfl⟩ ⟨(Nat.le_of_ble_eq_true rfl), (Nat.le_of_ble_eq_true rfl)⟩ pd_X2_waiting rfl hK hN hP hD [0, 1, 2, 3, 4, 5, 6] rfl rfl 0 2 rfl rfl rfl hl.1 (Nat.le_of_ble_eq_true rfl) dX5_standOf_6 ⟨(Nat.le_of_ble_eq_true rfl), (Nat.le_of_ble_eq_true rfl)⟩) (fun j8 hj8 => ?_)
    subst hj8
    by_cases ej8_0 : j8 = 0
    · replace hf := gT hf ej8_0
      subst ej8_0
      refine W.eq (g2 := F0 m 9 ls [.ref (ad 3)]) rfl ?_
      refine lv_astore_n (lv' := [(2, .ref (ad 3)), (1, .ref (ad 5)), (0, .ref (ad 0))]) hx hb dX5_standOf_9 rfl hl (by decide) rfl (fun ls hl => ?_)
      refine lv_aload_n hx hb dX5_standOf_10 rfl (lv_at hl 1 rfl) ?_
      refine va_getN (D := D) (ci := 4) (v := .int v.2.2.1.2.2.1) (C := RX4) (T := TX4) (N := 9) hx hb hts inA_X4 hown hK hP 5 rfl rfl 2 (by decide) (va_Nw.use rfl (nF_X5_155 hN)) (fun _ h9 => h9) rfl dX5_standOf_11 ?_
      refine lv_if_eq (tgt := 21) hx hb dX5_standOf_14 (by decide) (fun c9 => ?_) (fun c9 => ?_)
      · replace hf := gT hf c9
        refine lv_iconst (v := (0 : Int32)) hx hb dX5_standOf_21 (by decide) ?_
        exact J22c (0 : Int32) ls (lv_sub hl [1, 0] rfl) hf
      · replace hf := gF hf c9
        refine lv_iconst (v := (2 : Int32)) hx hb dX5_standOf_17 (by decide) ?_
        refine lv_goto (tgt := 22) hx hb dX5_standOf_18 (by decide) ?_
        exact J22c (2 : Int32) ls (lv_sub hl [1, 0] rfl) hf
    replace hf := gF hf ej8_0
    by_cases ej8_1 : j8 = 1
    · replace hf := gT hf ej8_1
      subst ej8_1
      refine W.eq (g2 := F0 m 9 ls [.ref (ad 5)]) rfl ?_
      refine lv_astore_n (lv' := [(2, .ref (ad 5)), (1, .ref (ad 5)), (0, .ref (ad 0))]) hx hb dX5_standOf_9 rfl hl (by decide) rfl (fun ls hl => ?_)
      refine lv_aload_n hx hb dX5_standOf_10 rfl (lv_at hl 1 rfl) ?_
      refine va_getN (D := D) (ci := 4) (v := .int v.2.2.1.2.2.1) (C := RX4) (T := TX4) (N := 9) hx hb hts inA_X4 hown hK hP 5 rfl rfl 2 (by decide) (va_Nw.use rfl (nF_X5_155 hN)) (fun _ h9 => h9) rfl dX5_standOf_11 ?_
      refine lv_if_eq (tgt := 21) hx hb dX5_standOf_14 (by decide) (fun c10 => ?_) (fun c10 => ?_)
      · replace hf := gT hf c10
        refine lv_iconst (v := (0 : Int32)) hx hb dX5_standOf_21 (by decide) ?_
        exact J22d (0 : Int32) ls (lv_sub hl [1, 0] rfl) hf
      · replace hf := gF hf c10
        refine lv_iconst (v := (2 : Int32)) hx hb dX5_standOf_17 (by decide) ?_
        refine lv_goto (tgt := 22) hx hb dX5_standOf_18 (by decide) ?_
        exact J22d (2 : Int32) ls (lv_sub hl [1, 0] rfl) hf
    replace hf := gF hf ej8_1
    cases hf
  replace hf := gF hf ej4_1
  cases hf
def f_X5_after_J150 (v : tX5) (l1 : Int32) (l3 : Int32) (l4 : Int32) (l5 : Int32) (l6 : Int32) (l7 : Int32) : Option Int32 :=
  some ((((((l4 <<< ((10 : Int32) &&& 31)) ||| (l3 <<< ((6 : Int32) &&& 31))) ||| (((l1 >>> ((4 : Int32) &&& 31)) &&& (1 : Int32)) <<< ((5 : Int32) &&& 31))) ||| (l5 <<< ((4 : Int32) &&& 31))) ||| (l7 <<< ((2 : Int32) &&& 31))) ||| l6)
def f_X5_after_J148 (v : tX5) (l1 : Int32) (l3 : Int32) (l4 : Int32) (l5 : Int32) (l7 : Int32) (k0 : Int32) : Option Int32 :=
  f_X5_after_J150 v l1 l3 l4 l5 k0 l7
def f_X5_after_J135 (v : tX5) (l1 : Int32) (l3 : Int32) (l4 : Int32) (l7 : Int32) (l8 : Int32) (k0 : Int32) : Option Int32 :=
  (if l8 = (1 : Int32) then f_X5_after_J148 v l1 l3 l4 k0 l7 (1 : Int32) else f_X5_after_J148 v l1 l3 l4 k0 l7 (0 : Int32))
def f_X5_after (v : tX5) (p1 : Int32) (p2 : Int32) : Option Int32 :=
  (f_X5_otherLoses p1).bind fun x0 => (if p2 = 0 then (f_X5_ownLoses p1).bind fun x4 => f_X5_after_J150 v p1 ((p1 >>> ((10 : Int32) &&& 31)) &&& (15 : Int32)) ((p1 >>> ((6 : Int32) &&& 31)) &&& (15 : Int32)) ((p1 >>> ((5 : Int32) &&& 31)) &&& (1 : Int32)) (if (0 : Int32) < (x4 - (1 : Int32)) then (x4 - (1 : Int32)) else (0 : Int32)) x0 else (if p2 = (5 : Int32) then f_X5_after_J150 v p1 ((p1 >>> ((10 : Int32) &&& 31)) &&& (15 : Int32)) ((p1 >>> ((6 : Int32) &&& 31)) &&& (15 : Int32)) (0 : Int32) (0 : Int32) (if (x0 + v.2.2.2.2.2.2.2.2) < (3 : Int32) then (x0 + v.2.2.2.2.2.2.2.2) else (3 : Int32)) else (f_X6_at 1024 v.2.1 (((((p1 >>> ((10 : Int32) &&& 31)) &&& (15 : Int32)) <<< ((6 : Int32) &&& 31)) ||| (((p1 >>> ((6 : Int32) &&& 31)) &&& (15 : Int32)) <<< ((2 : Int32) &&& 31))) ||| (p2 - (1 : Int32)))).bind fun x1 => (f_X3_isEnd v.1 x1).bind fun x2 => (if x2 = 0 then (f_X6_at 15 v.1.1 x1).bind fun x3 => (if x3 = (3 : Int32) then f_X5_after_J135 v p1 x1 ((p1 >>> ((6 : Int32) &&& 31)) &&& (15 : Int32)) x0 x3 (1 : Int32) else f_X5_after_J135 v p1 x1 ((p1 >>> ((6 : Int32) &&& 31)) &&& (15 : Int32)) x0 x3 ((p1 >>> ((5 : Int32) &&& 31)) &&& (1 : Int32))) else some (-1 : Int32))))
abbrev rm_X5_after : Room := { frames := 1, cells := 0, slots := 0, locals := 21 }
set_option maxHeartbeats 4000000 in
set_option maxRecDepth 100000 in
theorem c_X5_after (l : Launch) (D : va_G) (cI cR : ClassId) (ad : Nat → Nat) (v : tX5) (p1 : Int32) (p2 : Int32) (sz : Nat) (r : Int32) (hf : f_X5_after v p1 p2 = some r) : Met l yX5_after (wM yX5_after cX5_after 9 (some (.int))) rm_X5_after (cPre D (tysA cI cR) ([.ref (ad 0), .int p1, .int p2] : List Value) (oX5 cI cR ad v) sz) (QcRead r) 0 0 (fun _ => False) := by
  refine en_M (own := RX5) (lv := [(0, .ref (ad 0)), (1, .int p1), (2, .int p2)]) (by decide +kernel) rfl (Nat.le_of_ble_eq_true rfl) rfl (fun p e s m below meth c hx hb hr hlk hml hown hnm hts hsz hP hK hD hN ls hl => ?_)
  generalize va_A (oX5 cI cR ad v) sz = A at hD
  have hP : va_P D vwCl [(ad 0, .inr (5, [.ref (ad 1), .ref (ad 3), .ref (ad 4), .ref (ad 5), .ref (ad 6), .ref (ad 7), .int v.2.2.2.2.2.2.1, .int v.2.2.2.2.2.2.2.1, .int v.2.2.2.2.2.2.2.2])), (ad 1, .inr (3, [.ref (ad 2), .int v.1.2])), (ad 2, .inl (cI, 15, .inl v.1.1)), (ad 3, .inl (cI, 1024, .inl v.2.1)), (ad 4, .inl (cI, 64, .inl v.2.2.1)), (ad 5, .inl (cI, 16384, .inl v.2.2.2.1)), (ad 6, .inl (cI, 16384, .inl v.2.2.2.2.1)), (ad 7, .inl (cI, 16384, .inl v.2.2.2.2.2.1))] s.heap := hP
  have hD : va_D A [(ad 0, .inr (5, [.ref (ad 1), .ref (ad 3), .ref (ad 4), .ref (ad 5), .ref (ad 6), .ref (ad 7), .int v.2.2.2.2.2.2.1, .int v.2.2.2.2.2.2.2.1, .int v.2.2.2.2.2.2.2.2])), (ad 1, .inr (3, [.ref (ad 2), .int v.1.2])), (ad 2, .inl (cI, 15, .inl v.1.1)), (ad 3, .inl (cI, 1024, .inl v.2.1)), (ad 4, .inl (cI, 64, .inl v.2.2.1)), (ad 5, .inl (cI, 16384, .inl v.2.2.2.1)), (ad 6, .inl (cI, 16384, .inl v.2.2.2.2.1)), (ad 7, .inl (cI, 16384, .inl v.2.2.2.2.2.1))] := hD
  have J150 : ∀ (l1 : Int32) (l3 : Int32) (l4 : Int32) (l5 : Int32) (l6 : Int32) (l7 : Int32) (ls : Array Slot), lv_has ls 9 [(1, .int l1), (3, .int l3), (4, .int l4), (5, .int l5), (6, .int l6), (7, .int l7)] → f_X5_after_J150 v l1 l3 l4 l5 l6 l7 = some r → W p l e rm_X5_after s m ([.ref (ad 0), .int p1, .int p2] : List Value).toArray below meth c s.heap [] 0 0 (MQ below (QcRead r) ([.ref (ad 0), .int p1, .int p2] : List Value).toArray s 0 0 (fun _ => False)) (F0 m 150 ls []) := by
    intro l1 l3 l4 l5 l6 l7 ls hl hf
    unfold f_X5_after_J150 at hf
    refine lv_iload hx hb dX5_after_150 (lv_at hl 2 rfl) ?_
    refine lv_bipush (v := (10 : Int32)) hx hb dX5_after_152 (by decide) ?_
    refine lv_ishl hx hb dX5_after_154 ?_
    refine lv_iload_n hx hb dX5_after_155 rfl (lv_at hl 1 rfl) ?_
    refine lv_bipush (v := (6 : Int32)) hx hb dX5_after_156 (by decide) ?_
    refine lv_ishl hx hb dX5_after_158 ?_
    refine lv_ior hx hb dX5_after_159 ?_
    refine lv_iload_n hx hb dX5_after_160 rfl (lv_at hl 0 rfl) ?_
    refine lv_iconst (v := (4 : Int32)) hx hb dX5_after_161 (by decide) ?_
    refine lv_ishr hx hb dX5_after_162 ?_
    refine lv_iconst (v := (1 : Int32)) hx hb dX5_after_163 (by decide) ?_
    refine lv_iand hx hb dX5_after_164 ?_
    refine lv_iconst (v := (5 : Int32)) hx hb dX5_after_165 (by decide) ?_
    refine lv_ishl hx hb dX5_after_166 ?_
    refine lv_ior hx hb dX5_after_167 ?_
    refine lv_iload hx hb dX5_after_168 (lv_at hl 3 rfl) ?_
    refine lv_iconst (v := (4 : Int32)) hx hb dX5_after_170 (by decide) ?_
    refine lv_ishl hx hb dX5_after_171 ?_
    refine lv_ior hx hb dX5_after_172 ?_
    refine lv_iload hx hb dX5_after_173 (lv_at hl 5 rfl) ?_
    refine lv_iconst (v := (2 : Int32)) hx hb dX5_after_175 (by decide) ?_
    refine lv_ishl hx hb dX5_after_176 ?_
    refine lv_ior hx hb dX5_after_177 ?_
    refine lv_iload hx hb dX5_after_178 (lv_at hl 4 rfl) ?_
    refine lv_ior hx hb dX5_after_180 ?_
    exact z_r hf hx hb hr hlk dX5_after_181
  have J148 : ∀ (l1 : Int32) (l3 : Int32) (l4 : Int32) (l5 : Int32) (l7 : Int32) (k0 : Int32) (ls : Array Slot), lv_has ls 9 [(1, .int l1), (3, .int l3), (4, .int l4), (5, .int l5), (7, .int l7)] → f_X5_after_J148 v l1 l3 l4 l5 l7 k0 = some r → W p l e rm_X5_after s m ([.ref (ad 0), .int p1, .int p2] : List Value).toArray below meth c s.heap [] 0 0 (MQ below (QcRead r) ([.ref (ad 0), .int p1, .int p2] : List Value).toArray s 0 0 (fun _ => False)) (F0 m 148 ls [.int k0]) := by
    intro l1 l3 l4 l5 l7 k0 ls hl hf
    unfold f_X5_after_J148 at hf
    refine lv_istore (lv' := [(6, .int k0), (1, .int l1), (3, .int l3), (4, .int l4), (5, .int l5), (7, .int l7)]) hx hb dX5_after_148 hl (by decide) rfl (fun ls hl => ?_)
    exact J150 l1 l3 l4 l5 k0 l7 ls (lv_sub hl [1, 2, 3, 4, 0, 5] rfl) hf
  have J135 : ∀ (l1 : Int32) (l3 : Int32) (l4 : Int32) (l7 : Int32) (l8 : Int32) (k0 : Int32) (ls : Array Slot), lv_has ls 9 [(1, .int l1), (3, .int l3), (4, .int l4), (7, .int l7), (8, .int l8)] → f_X5_after_J135 v l1 l3 l4 l7 l8 k0 = some r → W p l e rm_X5_after s m ([.ref (ad 0), .int p1, .int p2] : List Value).toArray below meth c s.heap [] 0 0 (MQ below (QcRead r) ([.ref (ad 0), .int p1, .int p2] : List Value).toArray s 0 0 (fun _ => False)) (F0 m 135 ls [.int k0]) := by
    intro l1 l3 l4 l7 l8 k0 ls hl hf
    unfold f_X5_after_J135 at hf
    refine lv_istore (lv' := [(5, .int k0), (1, .int l1), (3, .int l3), (4, .int l4), (7, .int l7), (8, .int l8)]) hx hb dX5_after_135 hl (by decide) rfl (fun ls hl => ?_)
    refine lv_iload hx hb dX5_after_137 (lv_at hl 5 rfl) ?_
    refine lv_iconst (v := (1 : Int32)) hx hb dX5_after_139 (by decide) ?_
    refine lv_icmp_ne (tgt := 147) hx hb dX5_after_140 (by decide) (fun c0 => ?_) (fun c0 => ?_)
    · replace hf := gF hf c0
      refine lv_iconst (v := (0 : Int32)) hx hb dX5_after_147 (by decide) ?_
      exact J148 l1 l3 l4 k0 l7 (0 : Int32) ls (lv_sub hl [1, 2, 3, 0, 4] rfl) hf
    · replace hf := gT hf c0
      refine lv_iconst (v := (1 : Int32)) hx hb dX5_after_143 (by decide) ?_
      refine lv_goto (tgt := 148) hx hb dX5_after_144 (by decide) ?_
      exact J148 l1 l3 l4 k0 l7 (1 : Int32) ls (lv_sub hl [1, 2, 3, 0, 4] rfl) hf
  unfold f_X5_after at hf
  refine lv_iload_n hx hb dX5_after_0 rfl (lv_at hl 1 rfl) ?_
  refine lv_bipush (v := (10 : Int32)) hx hb dX5_after_1 (by decide) ?_
  refine lv_ishr hx hb dX5_after_3 ?_
  refine lv_bipush (v := (15 : Int32)) hx hb dX5_after_4 (by decide) ?_
  refine lv_iand hx hb dX5_after_6 ?_
  refine lv_istore_n (lv' := [(3, .int ((p1 >>> ((10 : Int32) &&& 31)) &&& (15 : Int32))), (0, .ref (ad 0)), (1, .int p1), (2, .int p2)]) hx hb dX5_after_7 rfl hl (by decide) rfl (fun ls hl => ?_)
  refine lv_iload_n hx hb dX5_after_8 rfl (lv_at hl 2 rfl) ?_
  refine lv_bipush (v := (6 : Int32)) hx hb dX5_after_9 (by decide) ?_
  refine lv_ishr hx hb dX5_after_11 ?_
  refine lv_bipush (v := (15 : Int32)) hx hb dX5_after_12 (by decide) ?_
  refine lv_iand hx hb dX5_after_14 ?_
  refine lv_istore (lv' := [(4, .int ((p1 >>> ((6 : Int32) &&& 31)) &&& (15 : Int32))), (3, .int ((p1 >>> ((10 : Int32) &&& 31)) &&& (15 : Int32))), (0, .ref (ad 0)), (1, .int p1), (2, .int p2)]) hx hb dX5_after_15 hl (by decide) rfl (fun ls hl => ?_)
  refine lv_iload_n hx hb dX5_after_17 rfl (lv_at hl 3 rfl) ?_
  refine lv_iconst (v := (5 : Int32)) hx hb dX5_after_18 (by decide) ?_
  refine lv_ishr hx hb dX5_after_19 ?_
  refine lv_iconst (v := (1 : Int32)) hx hb dX5_after_20 (by decide) ?_
  refine lv_iand hx hb dX5_after_21 ?_
  refine lv_istore (lv' := [(5, .int ((p1 >>> ((5 : Int32) &&& 31)) &&& (1 : Int32))), (4, .int ((p1 >>> ((6 : Int32) &&& 31)) &&& (15 : Int32))), (3, .int ((p1 >>> ((10 : Int32) &&& 31)) &&& (15 : Int32))), (0, .ref (ad 0)), (1, .int p1), (2, .int p2)]) hx hb dX5_after_22 hl (by decide) rfl (fun ls hl => ?_)
  refine lv_iconst (v := (0 : Int32)) hx hb dX5_after_24 (by decide) ?_
  refine lv_istore (lv' := [(6, .int (0 : Int32)), (5, .int ((p1 >>> ((5 : Int32) &&& 31)) &&& (1 : Int32))), (4, .int ((p1 >>> ((6 : Int32) &&& 31)) &&& (15 : Int32))), (3, .int ((p1 >>> ((10 : Int32) &&& 31)) &&& (15 : Int32))), (0, .ref (ad 0)), (1, .int p1), (2, .int p2)]) hx hb dX5_after_25 hl (by decide) rfl (fun ls hl => ?_)
  refine lv_iload_n hx hb dX5_after_27 rfl (lv_at hl 5 rfl) ?_
  obtain ⟨x0, hcx0, hf⟩ := gB hf
  refine k_r (r_S (As := [.int p1]) (rest := []) (n := 1) ⟨hx, hb, hml, hown, hts⟩ (c_X5_otherLoses l D cI cR p1 _ x0 hcx0) kM_X5_56 kS_X5_otherLoses kZ_X5 kK_X5_otherLoses ⟨rfl, rfl⟩ ⟨(Nat.le_of_ble_eq_true rfl), (Nat.le_of_ble_eq_true rfl)⟩ pd_X5_otherLoses rfl hK hN hP hD [] rfl rfl rfl hl.1 (Nat.le_of_ble_eq_true rfl) dX5_after_28 ⟨(Nat.le_of_ble_eq_true rfl), (Nat.le_of_ble_eq_true rfl)⟩) ?_
  refine lv_istore (lv' := [(7, .int x0), (6, .int (0 : Int32)), (5, .int ((p1 >>> ((5 : Int32) &&& 31)) &&& (1 : Int32))), (4, .int ((p1 >>> ((6 : Int32) &&& 31)) &&& (15 : Int32))), (3, .int ((p1 >>> ((10 : Int32) &&& 31)) &&& (15 : Int32))), (0, .ref (ad 0)), (1, .int p1), (2, .int p2)]) hx hb dX5_after_31 hl (by decide) rfl (fun ls hl => ?_)
  refine lv_iload_n hx hb dX5_after_33 rfl (lv_at hl 7 rfl) ?_
  refine lv_if_ne (tgt := 52) hx hb dX5_after_34 (by decide) (fun c1 => ?_) (fun c1 => ?_)
  · replace hf := gF hf c1
    refine lv_iload_n hx hb dX5_after_52 rfl (lv_at hl 7 rfl) ?_
    refine lv_iconst (v := (5 : Int32)) hx hb dX5_after_53 (by decide) ?_
    refine lv_icmp_ne (tgt := 76) hx hb dX5_after_54 (by decide) (fun c2 => ?_) (fun c2 => ?_)
    · replace hf := gF hf c2
      refine lv_aload_n hx hb dX5_after_76 rfl (lv_at hl 5 rfl) ?_
      refine va_get (D := D) (ci := 5) (v := .ref (ad 3)) (C := RX5) (T := TX5) (N := 9) hx hb hts inA_X5 hown hK hP 0 rfl rfl 1 (by decide) (hts _ kF_X5_18) (fun _ h9 => h9) rfl dX5_after_77 ?_
      refine lv_iload_n hx hb dX5_after_80 rfl (lv_at hl 4 rfl) ?_
      refine lv_bipush (v := (6 : Int32)) hx hb dX5_after_81 (by decide) ?_
      refine lv_ishl hx hb dX5_after_83 ?_
      refine lv_iload hx hb dX5_after_84 (lv_at hl 3 rfl) ?_
      refine lv_iconst (v := (2 : Int32)) hx hb dX5_after_86 (by decide) ?_
      refine lv_ishl hx hb dX5_after_87 ?_
      refine lv_ior hx hb dX5_after_88 ?_
      refine lv_iload_n hx hb dX5_after_89 rfl (lv_at hl 7 rfl) ?_
      refine lv_iconst (v := (1 : Int32)) hx hb dX5_after_90 (by decide) ?_
      refine lv_isub hx hb dX5_after_91 ?_
      refine lv_ior hx hb dX5_after_92 ?_
      obtain ⟨x1, hcx1, hf⟩ := gB hf
      refine k_r (run_weak (w_SN (As := [.ref (ad 3), .int (((((p1 >>> ((10 : Int32) &&& 31)) &&& (15 : Int32)) <<< ((6 : Int32) &&& 31)) ||| (((p1 >>> ((6 : Int32) &&& 31)) &&& (15 : Int32)) <<< ((2 : Int32) &&& 31))) ||| (p2 - (1 : Int32)))]) (rest := []) (n := 2) ⟨hx, hb, hml, hown, hts⟩ (c_X6_at l D cI cR (ad 3) 1024 v.2.1 (((((p1 >>> ((10 : Int32) &&& 31)) &&& (15 : Int32)) <<< ((6 : Int32) &&& 31)) ||| (((p1 >>> ((6 : Int32) &&& 31)) &&& (15 : Int32)) <<< ((2 : Int32) &&& 31))) ||| (p2 - (1 : Int32))) _ x1 hcx1) (nM_X5_98 hN) kS_X6_at kZ_X6 kK_X6_at ⟨rfl, rfl⟩ ⟨(Nat.le_of_ble_eq_true rfl), (Nat.le_of_ble_eq_true rfl)⟩ pd_X6_at rfl hK hN hP hD [3] rfl rfl rfl hl.1 (Nat.le_of_ble_eq_true rfl) dX5_after_93 ⟨(Nat.le_of_ble_eq_true rfl), (Nat.le_of_ble_eq_true rfl)⟩)) ?_
      refine lv_istore_n (lv' := [(3, .int x1), (7, .int x0), (6, .int (0 : Int32)), (5, .int ((p1 >>> ((5 : Int32) &&& 31)) &&& (1 : Int32))), (4, .int ((p1 >>> ((6 : Int32) &&& 31)) &&& (15 : Int32))), (0, .ref (ad 0)), (1, .int p1), (2, .int p2)]) hx hb dX5_after_96 rfl hl (by decide) rfl (fun ls hl => ?_)
      refine lv_aload_n hx hb dX5_after_97 rfl (lv_at hl 5 rfl) ?_
      refine va_get (D := D) (ci := 5) (v := .ref (ad 1)) (C := RX5) (T := TX5) (N := 9) hx hb hts inA_X5 hown hK hP 0 rfl rfl 0 (by decide) (hts _ kF_X5_12) (fun _ h9 => h9) rfl dX5_after_98 ?_
      refine lv_iload_n hx hb dX5_after_101 rfl (lv_at hl 0 rfl) ?_
      obtain ⟨x2, hcx2, hf⟩ := gB hf
      refine k_r (r_V (As := [.int x1]) (rest := []) (n := 1) ⟨hx, hb, hml, hown, hts⟩ (c_X3_isEnd l D cI cR (fun i => ad (i + 1)) v.1 x1 _ x2 hcx2) kM_X5_141 kN_X3_isEnd kV_X3_isEnd kZ_X3 kK_X3_isEnd ⟨rfl, rfl⟩ ⟨(Nat.le_of_ble_eq_true rfl), (Nat.le_of_ble_eq_true rfl)⟩ pd_X3_isEnd rfl hK hN hP hD [1, 2] rfl rfl 0 3 rfl rfl rfl hl.1 (Nat.le_of_ble_eq_true rfl) dX5_after_102 ⟨(Nat.le_of_ble_eq_true rfl), (Nat.le_of_ble_eq_true rfl)⟩) ?_
      refine lv_if_eq (tgt := 110) hx hb dX5_after_105 (by decide) (fun c3 => ?_) (fun c3 => ?_)
      · replace hf := gT hf c3
        refine lv_aload_n hx hb dX5_after_110 rfl (lv_at hl 5 rfl) ?_
        refine va_get (D := D) (ci := 5) (v := .ref (ad 1)) (C := RX5) (T := TX5) (N := 9) hx hb hts inA_X5 hown hK hP 0 rfl rfl 0 (by decide) (hts _ kF_X5_12) (fun _ h9 => h9) rfl dX5_after_111 ?_
        refine va_getN (D := D) (ci := 3) (v := .ref (ad 2)) (C := RX3) (T := TX3) (N := 2) hx hb hts inA_X3 hown hK hP 1 rfl rfl 0 (by decide) (va_Nw.use rfl (nF_X5_145 hN)) (fun _ h9 => h9) rfl dX5_after_114 ?_
        refine lv_iload_n hx hb dX5_after_117 rfl (lv_at hl 0 rfl) ?_
        obtain ⟨x3, hcx3, hf⟩ := gB hf
        refine k_r (run_weak (w_SN (As := [.ref (ad 2), .int x1]) (rest := []) (n := 2) ⟨hx, hb, hml, hown, hts⟩ (c_X6_at l D cI cR (ad 2) 15 v.1.1 x1 _ x3 hcx3) (nM_X5_98 hN) kS_X6_at kZ_X6 kK_X6_at ⟨rfl, rfl⟩ ⟨(Nat.le_of_ble_eq_true rfl), (Nat.le_of_ble_eq_true rfl)⟩ pd_X6_at rfl hK hN hP hD [2] rfl rfl rfl hl.1 (Nat.le_of_ble_eq_true rfl) dX5_after_118 ⟨(Nat.le_of_ble_eq_true rfl), (Nat.le_of_ble_eq_true rfl)⟩)) ?_
        refine lv_istore (lv' := [(8, .int x3), (3, .int x1), (7, .int x0), (6, .int (0 : Int32)), (5, .int ((p1 >>> ((5 : Int32) &&& 31)) &&& (1 : Int32))), (4, .int ((p1 >>> ((6 : Int32) &&& 31)) &&& (15 : Int32))), (0, .ref (ad 0)), (1, .int p1), (2, .int p2)]) hx hb dX5_after_121 hl (by decide) rfl (fun ls hl => ?_)
        refine lv_iload hx hb dX5_after_123 (lv_at hl 0 rfl) ?_
        refine lv_iconst (v := (3 : Int32)) hx hb dX5_after_125 (by decide) ?_
        refine lv_icmp_ne (tgt := 133) hx hb dX5_after_126 (by decide) (fun c4 => ?_) (fun c4 => ?_)
        · replace hf := gF hf c4
          refine lv_iload hx hb dX5_after_133 (lv_at hl 4 rfl) ?_
          exact J135 p1 x1 ((p1 >>> ((6 : Int32) &&& 31)) &&& (15 : Int32)) x0 x3 ((p1 >>> ((5 : Int32) &&& 31)) &&& (1 : Int32)) ls (lv_sub hl [7, 1, 5, 2, 0] rfl) hf
        · replace hf := gT hf c4
          refine lv_iconst (v := (1 : Int32)) hx hb dX5_after_129 (by decide) ?_
          refine lv_goto (tgt := 135) hx hb dX5_after_130 (by decide) ?_
          exact J135 p1 x1 ((p1 >>> ((6 : Int32) &&& 31)) &&& (15 : Int32)) x0 x3 (1 : Int32) ls (lv_sub hl [7, 1, 5, 2, 0] rfl) hf
      · replace hf := gF hf c3
        refine lv_iconst (v := (-1 : Int32)) hx hb dX5_after_108 (by decide) ?_
        exact z_r hf hx hb hr hlk dX5_after_109
    · replace hf := gT hf c2
      refine lv_iconst (v := (0 : Int32)) hx hb dX5_after_57 (by decide) ?_
      refine lv_istore (lv' := [(5, .int (0 : Int32)), (7, .int x0), (6, .int (0 : Int32)), (4, .int ((p1 >>> ((6 : Int32) &&& 31)) &&& (15 : Int32))), (3, .int ((p1 >>> ((10 : Int32) &&& 31)) &&& (15 : Int32))), (0, .ref (ad 0)), (1, .int p1), (2, .int p2)]) hx hb dX5_after_58 hl (by decide) rfl (fun ls hl => ?_)
      refine lv_iconst (v := (3 : Int32)) hx hb dX5_after_60 (by decide) ?_
      refine lv_iload hx hb dX5_after_61 (lv_at hl 1 rfl) ?_
      refine lv_aload_n hx hb dX5_after_63 rfl (lv_at hl 5 rfl) ?_
      refine va_get (D := D) (ci := 5) (v := .int v.2.2.2.2.2.2.2.2) (C := RX5) (T := TX5) (N := 9) hx hb hts inA_X5 hown hK hP 0 rfl rfl 8 (by decide) (hts _ kF_X5_41) (fun _ h9 => h9) rfl dX5_after_64 ?_
      refine lv_iadd hx hb dX5_after_67 ?_
      refine va_mmin hx hb (hml.trans hl.1.symm) hown (hts _ kM_X5_138) (hts _ kS_J9_min_7cf53) (hts _ kZ_J9) (hts _ kK_J9_min_7cf53) (Nat.le_of_ble_eq_true rfl) (Nat.le_of_ble_eq_true rfl) (Nat.le_of_ble_eq_true rfl) (Nat.le_of_ble_eq_true rfl) dX5_after_68 ?_
      refine lv_istore (lv' := [(7, .int (if (x0 + v.2.2.2.2.2.2.2.2) < (3 : Int32) then (x0 + v.2.2.2.2.2.2.2.2) else (3 : Int32))), (5, .int (0 : Int32)), (6, .int (0 : Int32)), (4, .int ((p1 >>> ((6 : Int32) &&& 31)) &&& (15 : Int32))), (3, .int ((p1 >>> ((10 : Int32) &&& 31)) &&& (15 : Int32))), (0, .ref (ad 0)), (1, .int p1), (2, .int p2)]) hx hb dX5_after_71 hl (by decide) rfl (fun ls hl => ?_)
      refine lv_goto (tgt := 150) hx hb dX5_after_73 (by decide) ?_
      exact J150 p1 ((p1 >>> ((10 : Int32) &&& 31)) &&& (15 : Int32)) ((p1 >>> ((6 : Int32) &&& 31)) &&& (15 : Int32)) (0 : Int32) (0 : Int32) (if (x0 + v.2.2.2.2.2.2.2.2) < (3 : Int32) then (x0 + v.2.2.2.2.2.2.2.2) else (3 : Int32)) ls (lv_sub hl [6, 4, 3, 1, 2, 0] rfl) hf
  · replace hf := gT hf c1
    refine lv_iconst (v := (0 : Int32)) hx hb dX5_after_37 (by decide) ?_
    refine lv_iload_n hx hb dX5_after_38 rfl (lv_at hl 6 rfl) ?_
    obtain ⟨x4, hcx4, hf⟩ := gB hf
    refine k_r (r_S (As := [.int p1]) (rest := [.int (0 : Int32)]) (n := 1) ⟨hx, hb, hml, hown, hts⟩ (c_X5_ownLoses l D cI cR p1 _ x4 hcx4) kM_X5_53 kS_X5_ownLoses kZ_X5 kK_X5_ownLoses ⟨rfl, rfl⟩ ⟨(Nat.le_of_ble_eq_true rfl), (Nat.le_of_ble_eq_true rfl)⟩ pd_X5_ownLoses rfl hK hN hP hD [] rfl rfl rfl hl.1 (Nat.le_of_ble_eq_true rfl) dX5_after_39 ⟨(Nat.le_of_ble_eq_true rfl), (Nat.le_of_ble_eq_true rfl)⟩) ?_
    refine lv_iconst (v := (1 : Int32)) hx hb dX5_after_42 (by decide) ?_
    refine lv_isub hx hb dX5_after_43 ?_
    refine va_mmax hx hb (hml.trans hl.1.symm) hown (hts _ kM_X5_127) (hts _ kS_J9_max_7cf53) (hts _ kZ_J9) (hts _ kK_J9_max_7cf53) (Nat.le_of_ble_eq_true rfl) (Nat.le_of_ble_eq_true rfl) (Nat.le_of_ble_eq_true rfl) (Nat.le_of_ble_eq_true rfl) dX5_after_44 ?_
    refine lv_istore (lv' := [(6, .int (if (0 : Int32) < (x4 - (1 : Int32)) then (x4 - (1 : Int32)) else (0 : Int32))), (7, .int x0), (5, .int ((p1 >>> ((5 : Int32) &&& 31)) &&& (1 : Int32))), (4, .int ((p1 >>> ((6 : Int32) &&& 31)) &&& (15 : Int32))), (3, .int ((p1 >>> ((10 : Int32) &&& 31)) &&& (15 : Int32))), (0, .ref (ad 0)), (1, .int p1), (2, .int p2)]) hx hb dX5_after_47 hl (by decide) rfl (fun ls hl => ?_)
    refine lv_goto (tgt := 150) hx hb dX5_after_49 (by decide) ?_
    exact J150 p1 ((p1 >>> ((10 : Int32) &&& 31)) &&& (15 : Int32)) ((p1 >>> ((6 : Int32) &&& 31)) &&& (15 : Int32)) ((p1 >>> ((5 : Int32) &&& 31)) &&& (1 : Int32)) (if (0 : Int32) < (x4 - (1 : Int32)) then (x4 - (1 : Int32)) else (0 : Int32)) x0 ls (lv_sub hl [6, 4, 3, 2, 0, 1] rfl) hf
def f_X5_isPossible_J11 (v : tX5) (l1 : Int32) (l2 : Int32) : Option Int32 :=
  (if l2 = 0 then (f_X5_ownLoses l1).bind fun x0 => (if x0 ≤ 0 then some (0 : Int32) else some (1 : Int32)) else some (0 : Int32))
def f_X5_isPossible (v : tX5) (p1 : Int32) (p2 : Int32) : Option Int32 :=
  (if p2 = 0 then f_X5_isPossible_J11 v p1 p2 else (f_X5_ownLoses p1).bind fun x1 => (if x1 ≤ 0 then (if p2 = (5 : Int32) then (if ((p1 >>> ((5 : Int32) &&& 31)) &&& (1 : Int32)) = (1 : Int32) then some (1 : Int32) else some (0 : Int32)) else (if v.2.2.2.2.2.2.2.1 < p2 then some (0 : Int32) else some (1 : Int32))) else f_X5_isPossible_J11 v p1 p2))
abbrev rm_X5_isPossible : Room := { frames := 1, cells := 0, slots := 0, locals := 20 }
set_option maxHeartbeats 4000000 in
set_option maxRecDepth 100000 in
theorem c_X5_isPossible (l : Launch) (D : va_G) (cI cR : ClassId) (ad : Nat → Nat) (v : tX5) (p1 : Int32) (p2 : Int32) (sz : Nat) (r : Int32) (hf : f_X5_isPossible v p1 p2 = some r) : Met l yX5_isPossible (wM yX5_isPossible cX5_isPossible 3 (some (.boolean))) rm_X5_isPossible (cPre D (tysA cI cR) ([.ref (ad 0), .int p1, .int p2] : List Value) (oX5 cI cR ad v) sz) (QcRead r) 0 0 (fun _ => False) := by
  refine en_M (own := RX5) (lv := [(0, .ref (ad 0)), (1, .int p1), (2, .int p2)]) (by decide +kernel) rfl (Nat.le_of_ble_eq_true rfl) rfl (fun p e s m below meth c hx hb hr hlk hml hown hnm hts hsz hP hK hD hN ls hl => ?_)
  generalize va_A (oX5 cI cR ad v) sz = A at hD
  have hP : va_P D vwCl [(ad 0, .inr (5, [.ref (ad 1), .ref (ad 3), .ref (ad 4), .ref (ad 5), .ref (ad 6), .ref (ad 7), .int v.2.2.2.2.2.2.1, .int v.2.2.2.2.2.2.2.1, .int v.2.2.2.2.2.2.2.2])), (ad 1, .inr (3, [.ref (ad 2), .int v.1.2])), (ad 2, .inl (cI, 15, .inl v.1.1)), (ad 3, .inl (cI, 1024, .inl v.2.1)), (ad 4, .inl (cI, 64, .inl v.2.2.1)), (ad 5, .inl (cI, 16384, .inl v.2.2.2.1)), (ad 6, .inl (cI, 16384, .inl v.2.2.2.2.1)), (ad 7, .inl (cI, 16384, .inl v.2.2.2.2.2.1))] s.heap := hP
  have hD : va_D A [(ad 0, .inr (5, [.ref (ad 1), .ref (ad 3), .ref (ad 4), .ref (ad 5), .ref (ad 6), .ref (ad 7), .int v.2.2.2.2.2.2.1, .int v.2.2.2.2.2.2.2.1, .int v.2.2.2.2.2.2.2.2])), (ad 1, .inr (3, [.ref (ad 2), .int v.1.2])), (ad 2, .inl (cI, 15, .inl v.1.1)), (ad 3, .inl (cI, 1024, .inl v.2.1)), (ad 4, .inl (cI, 64, .inl v.2.2.1)), (ad 5, .inl (cI, 16384, .inl v.2.2.2.1)), (ad 6, .inl (cI, 16384, .inl v.2.2.2.2.1)), (ad 7, .inl (cI, 16384, .inl v.2.2.2.2.2.1))] := hD
  have J11 : ∀ (l1 : Int32) (l2 : Int32) (ls : Array Slot), lv_has ls 3 [(1, .int l1), (2, .int l2)] → f_X5_isPossible_J11 v l1 l2 = some r → W p l e rm_X5_isPossible s m ([.ref (ad 0), .int p1, .int p2] : List Value).toArray below meth c s.heap [] 0 0 (MQ below (QcRead r) ([.ref (ad 0), .int p1, .int p2] : List Value).toArray s 0 0 (fun _ => False)) (F0 m 11 ls []) := by
    intro l1 l2 ls hl hf
    unfold f_X5_isPossible_J11 at hf
    refine lv_iload_n hx hb dX5_isPossible_11 rfl (lv_at hl 1 rfl) ?_
    refine lv_if_ne (tgt := 26) hx hb dX5_isPossible_12 (by decide) (fun c0 => ?_) (fun c0 => ?_)
    · replace hf := gF hf c0
      refine lv_iconst (v := (0 : Int32)) hx hb dX5_isPossible_26 (by decide) ?_
      exact z_rz hf hx hb hr hlk rfl dX5_isPossible_27
    · replace hf := gT hf c0
      refine lv_iload_n hx hb dX5_isPossible_15 rfl (lv_at hl 0 rfl) ?_
      obtain ⟨x0, hcx0, hf⟩ := gB hf
      refine k_r (r_S (As := [.int l1]) (rest := []) (n := 1) ⟨hx, hb, hml, hown, hts⟩ (c_X5_ownLoses l D cI cR l1 _ x0 hcx0) kM_X5_53 kS_X5_ownLoses kZ_X5 kK_X5_ownLoses ⟨rfl, rfl⟩ ⟨(Nat.le_of_ble_eq_true rfl), (Nat.le_of_ble_eq_true rfl)⟩ pd_X5_ownLoses rfl hK hN hP hD [] rfl rfl rfl hl.1 (Nat.le_of_ble_eq_true rfl) dX5_isPossible_16 ⟨(Nat.le_of_ble_eq_true rfl), (Nat.le_of_ble_eq_true rfl)⟩) ?_
      refine lv_if_le (tgt := 26) hx hb dX5_isPossible_19 (by decide) (fun c1 => ?_) (fun c1 => ?_)
      · replace hf := gT hf c1
        refine lv_iconst (v := (0 : Int32)) hx hb dX5_isPossible_26 (by decide) ?_
        exact z_rz hf hx hb hr hlk rfl dX5_isPossible_27
      · replace hf := gF hf c1
        refine lv_iconst (v := (1 : Int32)) hx hb dX5_isPossible_22 (by decide) ?_
        refine lv_goto (tgt := 27) hx hb dX5_isPossible_23 (by decide) ?_
        exact z_rz hf hx hb hr hlk rfl dX5_isPossible_27
  unfold f_X5_isPossible at hf
  refine lv_iload_n hx hb dX5_isPossible_0 rfl (lv_at hl 2 rfl) ?_
  refine lv_if_eq (tgt := 11) hx hb dX5_isPossible_1 (by decide) (fun c2 => ?_) (fun c2 => ?_)
  · replace hf := gT hf c2
    exact J11 p1 p2 ls (lv_sub hl [1, 2] rfl) hf
  · replace hf := gF hf c2
    refine lv_iload_n hx hb dX5_isPossible_4 rfl (lv_at hl 1 rfl) ?_
    obtain ⟨x1, hcx1, hf⟩ := gB hf
    refine k_r (r_S (As := [.int p1]) (rest := []) (n := 1) ⟨hx, hb, hml, hown, hts⟩ (c_X5_ownLoses l D cI cR p1 _ x1 hcx1) kM_X5_53 kS_X5_ownLoses kZ_X5 kK_X5_ownLoses ⟨rfl, rfl⟩ ⟨(Nat.le_of_ble_eq_true rfl), (Nat.le_of_ble_eq_true rfl)⟩ pd_X5_ownLoses rfl hK hN hP hD [] rfl rfl rfl hl.1 (Nat.le_of_ble_eq_true rfl) dX5_isPossible_5 ⟨(Nat.le_of_ble_eq_true rfl), (Nat.le_of_ble_eq_true rfl)⟩) ?_
    refine lv_if_le (tgt := 28) hx hb dX5_isPossible_8 (by decide) (fun c3 => ?_) (fun c3 => ?_)
    · replace hf := gT hf c3
      refine lv_iload_n hx hb dX5_isPossible_28 rfl (lv_at hl 2 rfl) ?_
      refine lv_iconst (v := (5 : Int32)) hx hb dX5_isPossible_29 (by decide) ?_
      refine lv_icmp_ne (tgt := 50) hx hb dX5_isPossible_30 (by decide) (fun c4 => ?_) (fun c4 => ?_)
      · replace hf := gF hf c4
        refine lv_iload_n hx hb dX5_isPossible_50 rfl (lv_at hl 2 rfl) ?_
        refine lv_aload_n hx hb dX5_isPossible_51 rfl (lv_at hl 0 rfl) ?_
        refine va_get (D := D) (ci := 5) (v := .int v.2.2.2.2.2.2.2.1) (C := RX5) (T := TX5) (N := 9) hx hb hts inA_X5 hown hK hP 0 rfl rfl 7 (by decide) (hts _ kF_X5_38) (fun _ h9 => h9) rfl dX5_isPossible_52 ?_
        refine lv_icmp_gt (tgt := 62) hx hb dX5_isPossible_55 (by decide) (fun c5 => ?_) (fun c5 => ?_)
        · replace hf := gT hf c5
          refine lv_iconst (v := (0 : Int32)) hx hb dX5_isPossible_62 (by decide) ?_
          exact z_rz hf hx hb hr hlk rfl dX5_isPossible_63
        · replace hf := gF hf c5
          refine lv_iconst (v := (1 : Int32)) hx hb dX5_isPossible_58 (by decide) ?_
          refine lv_goto (tgt := 63) hx hb dX5_isPossible_59 (by decide) ?_
          exact z_rz hf hx hb hr hlk rfl dX5_isPossible_63
      · replace hf := gT hf c4
        refine lv_iload_n hx hb dX5_isPossible_33 rfl (lv_at hl 1 rfl) ?_
        refine lv_iconst (v := (5 : Int32)) hx hb dX5_isPossible_34 (by decide) ?_
        refine lv_ishr hx hb dX5_isPossible_35 ?_
        refine lv_iconst (v := (1 : Int32)) hx hb dX5_isPossible_36 (by decide) ?_
        refine lv_iand hx hb dX5_isPossible_37 ?_
        refine lv_iconst (v := (1 : Int32)) hx hb dX5_isPossible_38 (by decide) ?_
        refine lv_icmp_ne (tgt := 46) hx hb dX5_isPossible_39 (by decide) (fun c6 => ?_) (fun c6 => ?_)
        · replace hf := gF hf c6
          refine lv_iconst (v := (0 : Int32)) hx hb dX5_isPossible_46 (by decide) ?_
          refine lv_goto (tgt := 63) hx hb dX5_isPossible_47 (by decide) ?_
          exact z_rz hf hx hb hr hlk rfl dX5_isPossible_63
        · replace hf := gT hf c6
          refine lv_iconst (v := (1 : Int32)) hx hb dX5_isPossible_42 (by decide) ?_
          refine lv_goto (tgt := 63) hx hb dX5_isPossible_43 (by decide) ?_
          exact z_rz hf hx hb hr hlk rfl dX5_isPossible_63
    · replace hf := gF hf c3
      exact J11 p1 p2 ls (lv_sub hl [1, 2] rfl) hf
def f_X5_oneTurnBefore (p0 : Int32) : Option Int32 :=
  (if 0 ≤ p0 then some ((1 : Int32) - p0) else some ((-p0) - (1 : Int32)))
abbrev rm_X5_oneTurnBefore : Room := { frames := 0, cells := 0, slots := 0, locals := 0 }
set_option maxHeartbeats 4000000 in
set_option maxRecDepth 100000 in
theorem c_X5_oneTurnBefore (l : Launch) (D : va_G) (cI cR : ClassId) (p0 : Int32) (sz : Nat) (r : Int32) (hf : f_X5_oneTurnBefore p0 = some r) : Met l yX5_oneTurnBefore (wM yX5_oneTurnBefore cX5_oneTurnBefore 1 (some (.int))) rm_X5_oneTurnBefore (cPre D (tysA cI cR) ([.int p0] : List Value) (([] : va_W)) sz) (QcRead r) 0 0 (fun _ => False) := by
  refine en_M (own := RX5) (lv := [(0, .int p0)]) (by decide +kernel) rfl (Nat.le_of_ble_eq_true rfl) rfl (fun p e s m below meth c hx hb hr hlk hml hown hnm hts hsz hP hK hD hN ls hl => ?_)
  generalize va_A (([] : va_W)) sz = A at hD
  have hP : va_P D vwCl [] s.heap := hP
  have hD : va_D A [] := hD
  unfold f_X5_oneTurnBefore at hf
  refine lv_iload_n hx hb dX5_oneTurnBefore_0 rfl (lv_at hl 0 rfl) ?_
  refine lv_if_ge (tgt := 11) hx hb dX5_oneTurnBefore_1 (by decide) (fun c0 => ?_) (fun c0 => ?_)
  · replace hf := gT hf c0
    refine lv_iconst (v := (1 : Int32)) hx hb dX5_oneTurnBefore_11 (by decide) ?_
    refine lv_iload_n hx hb dX5_oneTurnBefore_12 rfl (lv_at hl 0 rfl) ?_
    refine lv_isub hx hb dX5_oneTurnBefore_13 ?_
    exact z_r hf hx hb hr hlk dX5_oneTurnBefore_14
  · replace hf := gF hf c0
    refine lv_iload_n hx hb dX5_oneTurnBefore_4 rfl (lv_at hl 0 rfl) ?_
    refine lv_ineg hx hb dX5_oneTurnBefore_5 ?_
    refine lv_iconst (v := (1 : Int32)) hx hb dX5_oneTurnBefore_6 (by decide) ?_
    refine lv_isub hx hb dX5_oneTurnBefore_7 ?_
    refine lv_goto (tgt := 14) hx hb dX5_oneTurnBefore_8 (by decide) ?_
    exact z_r hf hx hb hr hlk dX5_oneTurnBefore_14

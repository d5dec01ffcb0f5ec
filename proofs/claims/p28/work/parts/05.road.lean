def f_X6_at (n : Nat) (f : Nat → Int32) (p1 : Int32) : Option Int32 :=
  (if p1 < 0 then some (0 : Int32) else (if (Int32.ofNat n) ≤ p1 then some (0 : Int32) else (if ig p1 n = true then some (f p1.toNatClampNeg) else none)))
abbrev rm_X6_at : Room := { frames := 0, cells := 0, slots := 0, locals := 0 }
set_option maxHeartbeats 4000000 in
set_option maxRecDepth 100000 in
theorem c_X6_at (l : Launch) (D : va_G) (cI cR : ClassId) (a : Nat) (n : Nat) (f : Nat → Int32) (p1 : Int32) (sz : Nat) (r : Int32) (hf : f_X6_at n f p1 = some r) : Met l yX6_at (wM yX6_at cX6_at 2 (some (.int))) rm_X6_at (cPre D (tysA cI cR) ([.ref a, .int p1] : List Value) ([(a, .inl (cI, n, .inl f))]) sz) (QcRead r) 0 0 (fun _ => False) := by
  refine en_M (own := RX6) (lv := [(0, .ref a), (1, .int p1)]) (by decide +kernel) rfl (Nat.le_of_ble_eq_true rfl) rfl (fun p e s m below meth c hx hb hr hlk hml hown hnm hts hsz hP hK hD hN ls hl => ?_)
  generalize va_A ([(a, .inl (cI, n, .inl f))]) sz = A at hD
  have hP : va_P D vwCl [(a, .inl (cI, n, .inl f))] s.heap := hP
  have hD : va_D A [(a, .inl (cI, n, .inl f))] := hD
  unfold f_X6_at at hf
  refine lv_iload_n hx hb dX6_at_0 rfl (lv_at hl 1 rfl) ?_
  refine lv_if_lt (tgt := 16) hx hb dX6_at_1 (by decide) (fun c0 => ?_) (fun c0 => ?_)
  · replace hf := gT hf c0
    refine lv_iconst (v := (0 : Int32)) hx hb dX6_at_16 (by decide) ?_
    exact z_r hf hx hb hr hlk dX6_at_17
  · replace hf := gF hf c0
    refine lv_iload_n hx hb dX6_at_4 rfl (lv_at hl 1 rfl) ?_
    refine lv_aload_n hx hb dX6_at_5 rfl (lv_at hl 0 rfl) ?_
    refine va_alen hx hb hK hP 0 0 rfl rfl (v := (Int32.ofNat n)) rfl dX6_at_6 ?_
    refine lv_icmp_ge (tgt := 16) hx hb dX6_at_7 (by decide) (fun c1 => ?_) (fun c1 => ?_)
    · replace hf := gT hf c1
      refine lv_iconst (v := (0 : Int32)) hx hb dX6_at_16 (by decide) ?_
      exact z_r hf hx hb hr hlk dX6_at_17
    · replace hf := gF hf c1
      refine lv_aload_n hx hb dX6_at_10 rfl (lv_at hl 0 rfl) ?_
      refine lv_iload_n hx hb dX6_at_11 rfl (lv_at hl 1 rfl) ?_
      obtain ⟨g0, hf⟩ := gd hf
      refine va_iald hx hb hK hP 0 0 rfl rfl (ig_in g0) dX6_at_12 ?_
      refine lv_goto (tgt := 17) hx hb dX6_at_13 (by decide) ?_
      exact z_r hf hx hb hr hlk dX6_at_17
def f_X6_put (n : Nat) (f : Nat → Int32) (p1 : Int32) (p2 : Int32) : Option (Nat → Int32) :=
  (if p1 < 0 then some f else (if (Int32.ofNat n) ≤ p1 then some f else (if ig p1 n = true then some (upd f p1.toNatClampNeg p2) else none)))
abbrev rm_X6_put : Room := { frames := 0, cells := 0, slots := 0, locals := 0 }
set_option maxHeartbeats 4000000 in
set_option maxRecDepth 100000 in
theorem c_X6_put (l : Launch) (D : va_G) (cI cR : ClassId) (a : Nat) (n : Nat) (f : Nat → Int32) (p1 : Int32) (p2 : Int32) (sz : Nat) (r : (Nat → Int32)) (hf : f_X6_put n f p1 p2 = some r) : Met l yX6_put (wM yX6_put cX6_put 3 none) rm_X6_put (cPre D (tysA cI cR) ([.ref a, .int p1, .int p2] : List Value) ([(a, .inl (cI, n, .inl f))]) sz) (qV D ([(a, .inl (cI, n, .inl r))]) (va_A ([(a, .inl (cI, n, .inl f))]) sz)) 0 0 (va_A ([(a, .inl (cI, n, .inl f))]) sz) := by
  refine en_M (own := RX6) (lv := [(0, .ref a), (1, .int p1), (2, .int p2)]) (by decide +kernel) rfl (Nat.le_of_ble_eq_true rfl) rfl (fun p e s m below meth c hx hb hr hlk hml hown hnm hts hsz hP hK hD hN ls hl => ?_)
  subst hsz
  generalize hAe : va_A ([(a, .inl (cI, n, .inl f))]) s.heap.size = A at hD ⊢
  have hA : ∀ q : Nat, s.heap.size ≤ q → A q := fun q h => by rw [← hAe]; exact Or.inr h
  have hS : va_S A s.heap s.heap [] := va_S.rf
  have hP : va_P D vwCl [(a, .inl (cI, n, .inl f))] s.heap := hP
  have hD : va_D A [(a, .inl (cI, n, .inl f))] := hD
  unfold f_X6_put at hf
  refine lv_iload_n hx hb dX6_put_0 rfl (lv_at hl 1 rfl) ?_
  refine lv_if_lt (tgt := 14) hx hb dX6_put_1 (by decide) (fun c0 => ?_) (fun c0 => ?_)
  · replace hf := gT hf c0
    exact z_v hf (fun r => [(a, .inl (cI, n, .inl r))]) hx hb hr hlk hS hP hD dX6_put_14
  · replace hf := gF hf c0
    refine lv_iload_n hx hb dX6_put_4 rfl (lv_at hl 1 rfl) ?_
    refine lv_aload_n hx hb dX6_put_5 rfl (lv_at hl 0 rfl) ?_
    refine va_alen hx hb hK hP 0 0 rfl rfl (v := (Int32.ofNat n)) rfl dX6_put_6 ?_
    refine lv_icmp_ge (tgt := 14) hx hb dX6_put_7 (by decide) (fun c1 => ?_) (fun c1 => ?_)
    · replace hf := gT hf c1
      exact z_v hf (fun r => [(a, .inl (cI, n, .inl r))]) hx hb hr hlk hS hP hD dX6_put_14
    · replace hf := gF hf c1
      refine lv_aload_n hx hb dX6_put_10 rfl (lv_at hl 0 rfl) ?_
      refine lv_iload_n hx hb dX6_put_11 rfl (lv_at hl 1 rfl) ?_
      refine lv_iload_n hx hb dX6_put_12 rfl (lv_at hl 2 rfl) ?_
      obtain ⟨g0, hf⟩ := gd hf
      refine va_iast hx hb hK hP hD hS 0 0 rfl rfl (ig_in g0) dX6_put_13 (fun H locs hP hD hS => ?_)
      have hP : va_P D vwCl [(a, .inl (cI, n, .inl (upd f p1.toNatClampNeg p2)))] H := hP
      have hD : va_D A [(a, .inl (cI, n, .inl (upd f p1.toNatClampNeg p2)))] := hD
      exact z_v hf (fun r => [(a, .inl (cI, n, .inl r))]) hx hb hr hlk hS hP hD dX6_put_14
def f_X6_copyRow_L2 (n : Nat) (f : Nat → Int32) (n1 : Nat) : Nat → Int32 → (Nat → Int32) → Option (Nat → Int32)
  | 0, _, _ => none
  | nL2 + 1, l2, f1 =>
    (if (Int32.ofNat n) ≤ l2 then some f1 else (if (Int32.ofNat n1) ≤ l2 then some f1 else (if ig l2 n = true then (if ig l2 n1 = true then f_X6_copyRow_L2 n f n1 nL2 (l2 + (1 : Int32)) (upd f1 l2.toNatClampNeg (f l2.toNatClampNeg)) else none) else none)))
def f_X6_copyRow (n : Nat) (f : Nat → Int32) (n1 : Nat) (f1 : Nat → Int32) : Option (Nat → Int32) :=
  f_X6_copyRow_L2 n f n1 gas (0 : Int32) f1
abbrev rm_X6_copyRow : Room := { frames := 0, cells := 0, slots := 0, locals := 0 }
set_option maxHeartbeats 4000000 in
set_option maxRecDepth 100000 in
theorem c_X6_copyRow (l : Launch) (D : va_G) (cI cR : ClassId) (a : Nat) (n : Nat) (f : Nat → Int32) (a1 : Nat) (n1 : Nat) (f1 : Nat → Int32) (sz : Nat) (r : (Nat → Int32)) (hf : f_X6_copyRow n f n1 f1 = some r) : Met l yX6_copyRow (wM yX6_copyRow cX6_copyRow 3 none) rm_X6_copyRow (cPre D (tysA cI cR) ([.ref a, .ref a1] : List Value) ([(a, .inl (cI, n, .inl f))] ++ [(a1, .inl (cI, n1, .inl f1))]) sz) (qV D ([(a, .inl (cI, n, .inl f))] ++ [(a1, .inl (cI, n1, .inl r))]) (va_A ([(a, .inl (cI, n, .inl f))] ++ [(a1, .inl (cI, n1, .inl f1))]) sz)) 0 0 (va_A ([(a, .inl (cI, n, .inl f))] ++ [(a1, .inl (cI, n1, .inl f1))]) sz) := by
  refine en_M (own := RX6) (lv := [(0, .ref a), (1, .ref a1)]) (by decide +kernel) rfl (Nat.le_of_ble_eq_true rfl) rfl (fun p e s m below meth c hx hb hr hlk hml hown hnm hts hsz hP hK hD hN ls hl => ?_)
  subst hsz
  generalize hAe : va_A ([(a, .inl (cI, n, .inl f))] ++ [(a1, .inl (cI, n1, .inl f1))]) s.heap.size = A at hD ⊢
  have hA : ∀ q : Nat, s.heap.size ≤ q → A q := fun q h => by rw [← hAe]; exact Or.inr h
  have hS : va_S A s.heap s.heap [] := va_S.rf
  have hP : va_P D vwCl [(a, .inl (cI, n, .inl f)), (a1, .inl (cI, n1, .inl f1))] s.heap := hP
  have hD : va_D A [(a, .inl (cI, n, .inl f)), (a1, .inl (cI, n1, .inl f1))] := hD
  have L2 : ∀ (nL2 : Nat) (l2 : Int32) (f1 : (Nat → Int32)) (H : Heap) (locs : List Loc) (ls : Array Slot), va_P D vwCl [(a, .inl (cI, n, .inl f)), (a1, .inl (cI, n1, .inl f1))] H → va_D A [(a, .inl (cI, n, .inl f)), (a1, .inl (cI, n1, .inl f1))] → va_S A s.heap H locs → lv_has ls 3 [(0, .ref a), (1, .ref a1), (2, .int l2)] → f_X6_copyRow_L2 n f n1 nL2 l2 f1 = some r → W p l e rm_X6_copyRow s m ([.ref a, .ref a1] : List Value).toArray below meth c H locs 0 0 (MQ below (qV D ([(a, .inl (cI, n, .inl f))] ++ [(a1, .inl (cI, n1, .inl r))]) A) ([.ref a, .ref a1] : List Value).toArray s 0 0 A) (F0 m 2 ls []) := by
    intro nL2
    induction nL2 with
    | zero =>
      intro l2 f1 H locs ls hP hD hS hl hf
      cases hf
    | succ nL2 ih_L2 =>
      intro l2 f1 H locs ls hP hD hS hl hf
      rw [f_X6_copyRow_L2] at hf
      refine lv_iload_n hx hb dX6_copyRow_2 rfl (lv_at hl 2 rfl) ?_
      refine lv_aload_n hx hb dX6_copyRow_3 rfl (lv_at hl 0 rfl) ?_
      refine va_alen hx hb hK hP 0 0 rfl rfl (v := (Int32.ofNat n)) rfl dX6_copyRow_4 ?_
      refine lv_icmp_ge (tgt := 26) hx hb dX6_copyRow_5 (by decide) (fun c0 => ?_) (fun c0 => ?_)
      · replace hf := gT hf c0
        exact z_v hf (fun r => [(a, .inl (cI, n, .inl f))] ++ [(a1, .inl (cI, n1, .inl r))]) hx hb hr hlk hS hP hD dX6_copyRow_26
      · replace hf := gF hf c0
        refine lv_iload_n hx hb dX6_copyRow_8 rfl (lv_at hl 2 rfl) ?_
        refine lv_aload_n hx hb dX6_copyRow_9 rfl (lv_at hl 1 rfl) ?_
        refine va_alen hx hb hK hP 1 0 rfl rfl (v := (Int32.ofNat n1)) rfl dX6_copyRow_10 ?_
        refine lv_icmp_ge (tgt := 26) hx hb dX6_copyRow_11 (by decide) (fun c1 => ?_) (fun c1 => ?_)
        · replace hf := gT hf c1
          exact z_v hf (fun r => [(a, .inl (cI, n, .inl f))] ++ [(a1, .inl (cI, n1, .inl r))]) hx hb hr hlk hS hP hD dX6_copyRow_26
        · replace hf := gF hf c1
          refine lv_aload_n hx hb dX6_copyRow_14 rfl (lv_at hl 1 rfl) ?_
          refine lv_iload_n hx hb dX6_copyRow_15 rfl (lv_at hl 2 rfl) ?_
          refine lv_aload_n hx hb dX6_copyRow_16 rfl (lv_at hl 0 rfl) ?_
          refine lv_iload_n hx hb dX6_copyRow_17 rfl (lv_at hl 2 rfl) ?_
          obtain ⟨g0, hf⟩ := gd hf
          refine va_iald hx hb hK hP 0 0 rfl rfl (ig_in g0) dX6_copyRow_18 ?_
          obtain ⟨g0, hf⟩ := gd hf
          refine va_iast hx hb hK hP hD hS 1 0 rfl rfl (ig_in g0) dX6_copyRow_19 (fun H locs hP hD hS => ?_)
          have hP : va_P D vwCl [(a, .inl (cI, n, .inl f)), (a1, .inl (cI, n1, .inl (upd f1 l2.toNatClampNeg (f l2.toNatClampNeg))))] H := hP
          have hD : va_D A [(a, .inl (cI, n, .inl f)), (a1, .inl (cI, n1, .inl (upd f1 l2.toNatClampNeg (f l2.toNatClampNeg))))] := hD
          refine lv_iinc (v := (l2 + (1 : Int32))) (lv' := [(2, .int (l2 + (1 : Int32))), (0, .ref a), (1, .ref a1)]) hx hb dX6_copyRow_20 hl (k := 2) rfl rfl (by decide) rfl (fun ls hl => ?_)
          refine lv_goto (tgt := 2) hx hb dX6_copyRow_23 (by decide) ?_
          exact ih_L2 (l2 + (1 : Int32)) (upd f1 l2.toNatClampNeg (f l2.toNatClampNeg)) _ _ ls hP hD hS (lv_sub hl [1, 2, 0] rfl) hf
  unfold f_X6_copyRow at hf
  refine lv_iconst (v := (0 : Int32)) hx hb dX6_copyRow_0 (by decide) ?_
  refine lv_istore_n (lv' := [(2, .int (0 : Int32)), (0, .ref a), (1, .ref a1)]) hx hb dX6_copyRow_1 rfl hl (by decide) rfl (fun ls hl => ?_)
  exact L2 gas (0 : Int32) f1 _ _ ls hP hD hS (lv_sub hl [1, 2, 0] rfl) hf
def f_X6_fillRow_L2 (n : Nat) : Nat → Int32 → Int32 → (Nat → Int32) → Option (Nat → Int32)
  | 0, _, _, _ => none
  | nL2 + 1, l1, l2, f =>
    (if (Int32.ofNat n) ≤ l2 then some f else (if ig l2 n = true then f_X6_fillRow_L2 n nL2 l1 (l2 + (1 : Int32)) (upd f l2.toNatClampNeg l1) else none))
def f_X6_fillRow (n : Nat) (f : Nat → Int32) (p1 : Int32) : Option (Nat → Int32) :=
  f_X6_fillRow_L2 n gas p1 (0 : Int32) f
abbrev rm_X6_fillRow : Room := { frames := 0, cells := 0, slots := 0, locals := 0 }
set_option maxHeartbeats 4000000 in
set_option maxRecDepth 100000 in
theorem c_X6_fillRow (l : Launch) (D : va_G) (cI cR : ClassId) (a : Nat) (n : Nat) (f : Nat → Int32) (p1 : Int32) (sz : Nat) (r : (Nat → Int32)) (hf : f_X6_fillRow n f p1 = some r) : Met l yX6_fillRow (wM yX6_fillRow cX6_fillRow 3 none) rm_X6_fillRow (cPre D (tysA cI cR) ([.ref a, .int p1] : List Value) ([(a, .inl (cI, n, .inl f))]) sz) (qV D ([(a, .inl (cI, n, .inl r))]) (va_A ([(a, .inl (cI, n, .inl f))]) sz)) 0 0 (va_A ([(a, .inl (cI, n, .inl f))]) sz) := by
  refine en_M (own := RX6) (lv := [(0, .ref a), (1, .int p1)]) (by decide +kernel) rfl (Nat.le_of_ble_eq_true rfl) rfl (fun p e s m below meth c hx hb hr hlk hml hown hnm hts hsz hP hK hD hN ls hl => ?_)
  subst hsz
  generalize hAe : va_A ([(a, .inl (cI, n, .inl f))]) s.heap.size = A at hD ⊢
  have hA : ∀ q : Nat, s.heap.size ≤ q → A q := fun q h => by rw [← hAe]; exact Or.inr h
  have hS : va_S A s.heap s.heap [] := va_S.rf
  have hP : va_P D vwCl [(a, .inl (cI, n, .inl f))] s.heap := hP
  have hD : va_D A [(a, .inl (cI, n, .inl f))] := hD
  have L2 : ∀ (nL2 : Nat) (l1 : Int32) (l2 : Int32) (f : (Nat → Int32)) (H : Heap) (locs : List Loc) (ls : Array Slot), va_P D vwCl [(a, .inl (cI, n, .inl f))] H → va_D A [(a, .inl (cI, n, .inl f))] → va_S A s.heap H locs → lv_has ls 3 [(0, .ref a), (1, .int l1), (2, .int l2)] → f_X6_fillRow_L2 n nL2 l1 l2 f = some r → W p l e rm_X6_fillRow s m ([.ref a, .int p1] : List Value).toArray below meth c H locs 0 0 (MQ below (qV D ([(a, .inl (cI, n, .inl r))]) A) ([.ref a, .int p1] : List Value).toArray s 0 0 A) (F0 m 2 ls []) := by
    intro nL2
    induction nL2 with
    | zero =>
      intro l1 l2 f H locs ls hP hD hS hl hf
      cases hf
    | succ nL2 ih_L2 =>
      intro l1 l2 f H locs ls hP hD hS hl hf
      rw [f_X6_fillRow_L2] at hf
      refine lv_iload_n hx hb dX6_fillRow_2 rfl (lv_at hl 2 rfl) ?_
      refine lv_aload_n hx hb dX6_fillRow_3 rfl (lv_at hl 0 rfl) ?_
      refine va_alen hx hb hK hP 0 0 rfl rfl (v := (Int32.ofNat n)) rfl dX6_fillRow_4 ?_
      refine lv_icmp_ge (tgt := 18) hx hb dX6_fillRow_5 (by decide) (fun c0 => ?_) (fun c0 => ?_)
      · replace hf := gT hf c0
        exact z_v hf (fun r => [(a, .inl (cI, n, .inl r))]) hx hb hr hlk hS hP hD dX6_fillRow_18
      · replace hf := gF hf c0
        refine lv_aload_n hx hb dX6_fillRow_8 rfl (lv_at hl 0 rfl) ?_
        refine lv_iload_n hx hb dX6_fillRow_9 rfl (lv_at hl 2 rfl) ?_
        refine lv_iload_n hx hb dX6_fillRow_10 rfl (lv_at hl 1 rfl) ?_
        obtain ⟨g0, hf⟩ := gd hf
        refine va_iast hx hb hK hP hD hS 0 0 rfl rfl (ig_in g0) dX6_fillRow_11 (fun H locs hP hD hS => ?_)
        have hP : va_P D vwCl [(a, .inl (cI, n, .inl (upd f l2.toNatClampNeg l1)))] H := hP
        have hD : va_D A [(a, .inl (cI, n, .inl (upd f l2.toNatClampNeg l1)))] := hD
        refine lv_iinc (v := (l2 + (1 : Int32))) (lv' := [(2, .int (l2 + (1 : Int32))), (0, .ref a), (1, .int l1)]) hx hb dX6_fillRow_12 hl (k := 2) rfl rfl (by decide) rfl (fun ls hl => ?_)
        refine lv_goto (tgt := 2) hx hb dX6_fillRow_15 (by decide) ?_
        exact ih_L2 l1 (l2 + (1 : Int32)) (upd f l2.toNatClampNeg l1) _ _ ls hP hD hS (lv_sub hl [1, 2, 0] rfl) hf
  unfold f_X6_fillRow at hf
  refine lv_iconst (v := (0 : Int32)) hx hb dX6_fillRow_0 (by decide) ?_
  refine lv_istore_n (lv' := [(2, .int (0 : Int32)), (0, .ref a), (1, .int p1)]) hx hb dX6_fillRow_1 rfl hl (by decide) rfl (fun ls hl => ?_)
  exact L2 gas p1 (0 : Int32) f _ _ ls hP hD hS (lv_sub hl [1, 2, 0] rfl) hf
def f_X3_landing_J35 (v : tX3) (k0 : Int32) : Option Int32 :=
  (if k0 ≤ v.2 then some k0 else some (v.2 + (1 : Int32)))
def f_X3_landing_J17 (v : tX3) (l1 : Int32) (l3 : Int32) (k0 : Int32) : Option Int32 :=
  (if k0 = 0 then f_X3_landing_J35 v (l1 + l3) else f_X3_landing_J35 v ((l1 + l3) + (1 : Int32)))
def f_X3_landing_J16 (v : tX3) (l1 : Int32) (l3 : Int32) : Option Int32 :=
  f_X3_landing_J17 v l1 l3 (0 : Int32)
def f_X3_landing (v : tX3) (p1 : Int32) (p2 : Int32) (p3 : Int32) : Option Int32 :=
  (if p2 ≤ p1 then f_X3_landing_J16 v p1 p3 else (if (p1 + p3) < p2 then f_X3_landing_J16 v p1 p3 else f_X3_landing_J17 v p1 p3 (1 : Int32)))
abbrev rm_X3_landing : Room := { frames := 0, cells := 0, slots := 0, locals := 0 }
set_option maxHeartbeats 4000000 in
set_option maxRecDepth 100000 in
theorem c_X3_landing (l : Launch) (D : va_G) (cI cR : ClassId) (ad : Nat → Nat) (v : tX3) (p1 : Int32) (p2 : Int32) (p3 : Int32) (sz : Nat) (r : Int32) (hf : f_X3_landing v p1 p2 p3 = some r) : Met l yX3_landing (wM yX3_landing cX3_landing 6 (some (.int))) rm_X3_landing (cPre D (tysA cI cR) ([.ref (ad 0), .int p1, .int p2, .int p3] : List Value) (oX3 cI cR ad v) sz) (QcRead r) 0 0 (fun _ => False) := by
  refine en_M (own := RX3) (lv := [(0, .ref (ad 0)), (1, .int p1), (2, .int p2), (3, .int p3)]) (by decide +kernel) rfl (Nat.le_of_ble_eq_true rfl) rfl (fun p e s m below meth c hx hb hr hlk hml hown hnm hts hsz hP hK hD hN ls hl => ?_)
  generalize va_A (oX3 cI cR ad v) sz = A at hD
  have hP : va_P D vwCl [(ad 0, .inr (3, [.ref (ad 1), .int v.2])), (ad 1, .inl (cI, 15, .inl v.1))] s.heap := hP
  have hD : va_D A [(ad 0, .inr (3, [.ref (ad 1), .int v.2])), (ad 1, .inl (cI, 15, .inl v.1))] := hD
  have J35 : ∀ (k0 : Int32) (ls : Array Slot), lv_has ls 6 [(0, .ref (ad 0))] → f_X3_landing_J35 v k0 = some r → W p l e rm_X3_landing s m ([.ref (ad 0), .int p1, .int p2, .int p3] : List Value).toArray below meth c s.heap [] 0 0 (MQ below (QcRead r) ([.ref (ad 0), .int p1, .int p2, .int p3] : List Value).toArray s 0 0 (fun _ => False)) (F0 m 35 ls [.int k0]) := by
    intro k0 ls hl hf
    unfold f_X3_landing_J35 at hf
    refine lv_istore (lv' := [(5, .int k0), (0, .ref (ad 0))]) hx hb dX3_landing_35 hl (by decide) rfl (fun ls hl => ?_)
    refine lv_iload hx hb dX3_landing_37 (lv_at hl 0 rfl) ?_
    refine lv_aload_n hx hb dX3_landing_39 rfl (lv_at hl 1 rfl) ?_
    refine va_get (D := D) (ci := 3) (v := .int v.2) (C := RX3) (T := TX3) (N := 2) hx hb hts inA_X3 hown hK hP 0 rfl rfl 1 (by decide) (hts _ kF_X3_15) (fun _ h9 => h9) rfl dX3_landing_40 ?_
    refine lv_icmp_le (tgt := 55) hx hb dX3_landing_43 (by decide) (fun c0 => ?_) (fun c0 => ?_)
    · replace hf := gT hf c0
      refine lv_iload hx hb dX3_landing_55 (lv_at hl 0 rfl) ?_
      exact z_r hf hx hb hr hlk dX3_landing_57
    · replace hf := gF hf c0
      refine lv_aload_n hx hb dX3_landing_46 rfl (lv_at hl 1 rfl) ?_
      refine va_get (D := D) (ci := 3) (v := .int v.2) (C := RX3) (T := TX3) (N := 2) hx hb hts inA_X3 hown hK hP 0 rfl rfl 1 (by decide) (hts _ kF_X3_15) (fun _ h9 => h9) rfl dX3_landing_47 ?_
      refine lv_iconst (v := (1 : Int32)) hx hb dX3_landing_50 (by decide) ?_
      refine lv_iadd hx hb dX3_landing_51 ?_
      refine lv_goto (tgt := 57) hx hb dX3_landing_52 (by decide) ?_
      exact z_r hf hx hb hr hlk dX3_landing_57
  have J17 : ∀ (l1 : Int32) (l3 : Int32) (k0 : Int32) (ls : Array Slot), lv_has ls 6 [(0, .ref (ad 0)), (1, .int l1), (3, .int l3)] → f_X3_landing_J17 v l1 l3 k0 = some r → W p l e rm_X3_landing s m ([.ref (ad 0), .int p1, .int p2, .int p3] : List Value).toArray below meth c s.heap [] 0 0 (MQ below (QcRead r) ([.ref (ad 0), .int p1, .int p2, .int p3] : List Value).toArray s 0 0 (fun _ => False)) (F0 m 17 ls [.int k0]) := by
    intro l1 l3 k0 ls hl hf
    unfold f_X3_landing_J17 at hf
    refine lv_istore (lv' := [(4, .int k0), (0, .ref (ad 0)), (1, .int l1), (3, .int l3)]) hx hb dX3_landing_17 hl (by decide) rfl (fun ls hl => ?_)
    refine lv_iload hx hb dX3_landing_19 (lv_at hl 0 rfl) ?_
    refine lv_if_eq (tgt := 32) hx hb dX3_landing_21 (by decide) (fun c1 => ?_) (fun c1 => ?_)
    · replace hf := gT hf c1
      refine lv_iload_n hx hb dX3_landing_32 rfl (lv_at hl 2 rfl) ?_
      refine lv_iload_n hx hb dX3_landing_33 rfl (lv_at hl 3 rfl) ?_
      refine lv_iadd hx hb dX3_landing_34 ?_
      exact J35 (l1 + l3) ls (lv_sub hl [1] rfl) hf
    · replace hf := gF hf c1
      refine lv_iload_n hx hb dX3_landing_24 rfl (lv_at hl 2 rfl) ?_
      refine lv_iload_n hx hb dX3_landing_25 rfl (lv_at hl 3 rfl) ?_
      refine lv_iadd hx hb dX3_landing_26 ?_
      refine lv_iconst (v := (1 : Int32)) hx hb dX3_landing_27 (by decide) ?_
      refine lv_iadd hx hb dX3_landing_28 ?_
      refine lv_goto (tgt := 35) hx hb dX3_landing_29 (by decide) ?_
      exact J35 ((l1 + l3) + (1 : Int32)) ls (lv_sub hl [1] rfl) hf
  have J16 : ∀ (l1 : Int32) (l3 : Int32) (ls : Array Slot), lv_has ls 6 [(0, .ref (ad 0)), (1, .int l1), (3, .int l3)] → f_X3_landing_J16 v l1 l3 = some r → W p l e rm_X3_landing s m ([.ref (ad 0), .int p1, .int p2, .int p3] : List Value).toArray below meth c s.heap [] 0 0 (MQ below (QcRead r) ([.ref (ad 0), .int p1, .int p2, .int p3] : List Value).toArray s 0 0 (fun _ => False)) (F0 m 16 ls []) := by
    intro l1 l3 ls hl hf
    unfold f_X3_landing_J16 at hf
    refine lv_iconst (v := (0 : Int32)) hx hb dX3_landing_16 (by decide) ?_
    exact J17 l1 l3 (0 : Int32) ls (lv_sub hl [0, 1, 2] rfl) hf
  unfold f_X3_landing at hf
  refine lv_iload_n hx hb dX3_landing_0 rfl (lv_at hl 1 rfl) ?_
  refine lv_iload_n hx hb dX3_landing_1 rfl (lv_at hl 2 rfl) ?_
  refine lv_icmp_ge (tgt := 16) hx hb dX3_landing_2 (by decide) (fun c2 => ?_) (fun c2 => ?_)
  · replace hf := gT hf c2
    exact J16 p1 p3 ls (lv_sub hl [0, 1, 3] rfl) hf
  · replace hf := gF hf c2
    refine lv_iload_n hx hb dX3_landing_5 rfl (lv_at hl 2 rfl) ?_
    refine lv_iload_n hx hb dX3_landing_6 rfl (lv_at hl 1 rfl) ?_
    refine lv_iload_n hx hb dX3_landing_7 rfl (lv_at hl 3 rfl) ?_
    refine lv_iadd hx hb dX3_landing_8 ?_
    refine lv_icmp_gt (tgt := 16) hx hb dX3_landing_9 (by decide) (fun c3 => ?_) (fun c3 => ?_)
    · replace hf := gT hf c3
      exact J16 p1 p3 ls (lv_sub hl [0, 1, 3] rfl) hf
    · replace hf := gF hf c3
      refine lv_iconst (v := (1 : Int32)) hx hb dX3_landing_12 (by decide) ?_
      refine lv_goto (tgt := 17) hx hb dX3_landing_13 (by decide) ?_
      exact J17 p1 p3 (1 : Int32) ls (lv_sub hl [0, 1, 3] rfl) hf
def f_X3_kindOf (v : tX3) (p1 : Int32) : Option Int32 :=
  (if p1 < (1 : Int32) then some (0 : Int32) else (if v.2 < p1 then some (0 : Int32) else (if (15 : Int32) ≤ p1 then some (0 : Int32) else (if ig p1 15 = true then some (v.1 p1.toNatClampNeg) else none))))
abbrev rm_X3_kindOf : Room := { frames := 0, cells := 0, slots := 0, locals := 0 }
set_option maxHeartbeats 4000000 in
set_option maxRecDepth 100000 in
theorem c_X3_kindOf (l : Launch) (D : va_G) (cI cR : ClassId) (ad : Nat → Nat) (v : tX3) (p1 : Int32) (sz : Nat) (r : Int32) (hf : f_X3_kindOf v p1 = some r) : Met l yX3_kindOf (wM yX3_kindOf cX3_kindOf 2 (some (.int))) rm_X3_kindOf (cPre D (tysA cI cR) ([.ref (ad 0), .int p1] : List Value) (oX3 cI cR ad v) sz) (QcRead r) 0 0 (fun _ => False) := by
  refine en_M (own := RX3) (lv := [(0, .ref (ad 0)), (1, .int p1)]) (by decide +kernel) rfl (Nat.le_of_ble_eq_true rfl) rfl (fun p e s m below meth c hx hb hr hlk hml hown hnm hts hsz hP hK hD hN ls hl => ?_)
  generalize va_A (oX3 cI cR ad v) sz = A at hD
  have hP : va_P D vwCl [(ad 0, .inr (3, [.ref (ad 1), .int v.2])), (ad 1, .inl (cI, 15, .inl v.1))] s.heap := hP
  have hD : va_D A [(ad 0, .inr (3, [.ref (ad 1), .int v.2])), (ad 1, .inl (cI, 15, .inl v.1))] := hD
  unfold f_X3_kindOf at hf
  refine lv_iload_n hx hb dX3_kindOf_0 rfl (lv_at hl 1 rfl) ?_
  refine lv_iconst (v := (1 : Int32)) hx hb dX3_kindOf_1 (by decide) ?_
  refine lv_icmp_lt (tgt := 31) hx hb dX3_kindOf_2 (by decide) (fun c0 => ?_) (fun c0 => ?_)
  · replace hf := gT hf c0
    refine lv_iconst (v := (0 : Int32)) hx hb dX3_kindOf_31 (by decide) ?_
    exact z_r hf hx hb hr hlk dX3_kindOf_32
  · replace hf := gF hf c0
    refine lv_iload_n hx hb dX3_kindOf_5 rfl (lv_at hl 1 rfl) ?_
    refine lv_aload_n hx hb dX3_kindOf_6 rfl (lv_at hl 0 rfl) ?_
    refine va_get (D := D) (ci := 3) (v := .int v.2) (C := RX3) (T := TX3) (N := 2) hx hb hts inA_X3 hown hK hP 0 rfl rfl 1 (by decide) (hts _ kF_X3_15) (fun _ h9 => h9) rfl dX3_kindOf_7 ?_
    refine lv_icmp_gt (tgt := 31) hx hb dX3_kindOf_10 (by decide) (fun c1 => ?_) (fun c1 => ?_)
    · replace hf := gT hf c1
      refine lv_iconst (v := (0 : Int32)) hx hb dX3_kindOf_31 (by decide) ?_
      exact z_r hf hx hb hr hlk dX3_kindOf_32
    · replace hf := gF hf c1
      refine lv_iload_n hx hb dX3_kindOf_13 rfl (lv_at hl 1 rfl) ?_
      refine lv_aload_n hx hb dX3_kindOf_14 rfl (lv_at hl 0 rfl) ?_
      refine va_get (D := D) (ci := 3) (v := .ref (ad 1)) (C := RX3) (T := TX3) (N := 2) hx hb hts inA_X3 hown hK hP 0 rfl rfl 0 (by decide) (hts _ kF_X3_9) (fun _ h9 => h9) rfl dX3_kindOf_15 ?_
      refine va_alen hx hb hK hP 1 0 rfl rfl (v := (15 : Int32)) rfl dX3_kindOf_18 ?_
      refine lv_icmp_ge (tgt := 31) hx hb dX3_kindOf_19 (by decide) (fun c2 => ?_) (fun c2 => ?_)
      · replace hf := gT hf c2
        refine lv_iconst (v := (0 : Int32)) hx hb dX3_kindOf_31 (by decide) ?_
        exact z_r hf hx hb hr hlk dX3_kindOf_32
      · replace hf := gF hf c2
        refine lv_aload_n hx hb dX3_kindOf_22 rfl (lv_at hl 0 rfl) ?_
        refine va_get (D := D) (ci := 3) (v := .ref (ad 1)) (C := RX3) (T := TX3) (N := 2) hx hb hts inA_X3 hown hK hP 0 rfl rfl 0 (by decide) (hts _ kF_X3_9) (fun _ h9 => h9) rfl dX3_kindOf_23 ?_
        refine lv_iload_n hx hb dX3_kindOf_26 rfl (lv_at hl 1 rfl) ?_
        obtain ⟨g0, hf⟩ := gd hf
        refine va_iald hx hb hK hP 1 0 rfl rfl (ig_in g0) dX3_kindOf_27 ?_
        refine lv_goto (tgt := 32) hx hb dX3_kindOf_28 (by decide) ?_
        exact z_r hf hx hb hr hlk dX3_kindOf_32
def f_X3_next (v : tX3) (p1 : Int32) (p2 : Int32) : Option Int32 :=
  (if (p1 + (1 : Int32)) = p2 then some (p1 + (2 : Int32)) else some (p1 + (1 : Int32)))
abbrev rm_X3_next : Room := { frames := 0, cells := 0, slots := 0, locals := 0 }
set_option maxHeartbeats 4000000 in
set_option maxRecDepth 100000 in
theorem c_X3_next (l : Launch) (D : va_G) (cI cR : ClassId) (ad : Nat → Nat) (v : tX3) (p1 : Int32) (p2 : Int32) (sz : Nat) (r : Int32) (hf : f_X3_next v p1 p2 = some r) : Met l yX3_next (wM yX3_next cX3_next 3 (some (.int))) rm_X3_next (cPre D (tysA cI cR) ([.ref (ad 0), .int p1, .int p2] : List Value) (oX3 cI cR ad v) sz) (QcRead r) 0 0 (fun _ => False) := by
  refine en_M (own := RX3) (lv := [(0, .ref (ad 0)), (1, .int p1), (2, .int p2)]) (by decide +kernel) rfl (Nat.le_of_ble_eq_true rfl) rfl (fun p e s m below meth c hx hb hr hlk hml hown hnm hts hsz hP hK hD hN ls hl => ?_)
  generalize va_A (oX3 cI cR ad v) sz = A at hD
  have hP : va_P D vwCl [(ad 0, .inr (3, [.ref (ad 1), .int v.2])), (ad 1, .inl (cI, 15, .inl v.1))] s.heap := hP
  have hD : va_D A [(ad 0, .inr (3, [.ref (ad 1), .int v.2])), (ad 1, .inl (cI, 15, .inl v.1))] := hD
  unfold f_X3_next at hf
  refine lv_iload_n hx hb dX3_next_0 rfl (lv_at hl 1 rfl) ?_
  refine lv_iconst (v := (1 : Int32)) hx hb dX3_next_1 (by decide) ?_
  refine lv_iadd hx hb dX3_next_2 ?_
  refine lv_iload_n hx hb dX3_next_3 rfl (lv_at hl 2 rfl) ?_
  refine lv_icmp_ne (tgt := 13) hx hb dX3_next_4 (by decide) (fun c0 => ?_) (fun c0 => ?_)
  · replace hf := gF hf c0
    refine lv_iload_n hx hb dX3_next_13 rfl (lv_at hl 1 rfl) ?_
    refine lv_iconst (v := (1 : Int32)) hx hb dX3_next_14 (by decide) ?_
    refine lv_iadd hx hb dX3_next_15 ?_
    exact z_r hf hx hb hr hlk dX3_next_16
  · replace hf := gT hf c0
    refine lv_iload_n hx hb dX3_next_7 rfl (lv_at hl 1 rfl) ?_
    refine lv_iconst (v := (2 : Int32)) hx hb dX3_next_8 (by decide) ?_
    refine lv_iadd hx hb dX3_next_9 ?_
    refine lv_goto (tgt := 16) hx hb dX3_next_10 (by decide) ?_
    exact z_r hf hx hb hr hlk dX3_next_16
def f_X3_rest_L12 (v : tX3) : Nat → Int32 → Int32 → Int32 → Option Int32
  | 0, _, _, _ => none
  | nL12 + 1, l2, l4, l5 =>
    (if (14 : Int32) ≤ l5 then some l4 else (f_X3_kindOf v l4).bind fun x0 => (if x0 = (2 : Int32) then (f_X3_next v l4 l2).bind fun x1 => f_X3_rest_L12 v nL12 l2 x1 (l5 + (1 : Int32)) else some l4))
def f_X3_rest (v : tX3) (p1 : Int32) (p2 : Int32) (p3 : Int32) : Option Int32 :=
  (f_X3_landing v p1 p2 p3).bind fun x2 => f_X3_rest_L12 v gas p2 x2 (0 : Int32)
abbrev rm_X3_rest : Room := { frames := 1, cells := 0, slots := 0, locals := 25 }
set_option maxHeartbeats 4000000 in
set_option maxRecDepth 100000 in
theorem c_X3_rest (l : Launch) (D : va_G) (cI cR : ClassId) (ad : Nat → Nat) (v : tX3) (p1 : Int32) (p2 : Int32) (p3 : Int32) (sz : Nat) (r : Int32) (hf : f_X3_rest v p1 p2 p3 = some r) : Met l yX3_rest (wM yX3_rest cX3_rest 6 (some (.int))) rm_X3_rest (cPre D (tysA cI cR) ([.ref (ad 0), .int p1, .int p2, .int p3] : List Value) (oX3 cI cR ad v) sz) (QcRead r) 0 0 (fun _ => False) := by
  refine en_M (own := RX3) (lv := [(0, .ref (ad 0)), (1, .int p1), (2, .int p2), (3, .int p3)]) (by decide +kernel) rfl (Nat.le_of_ble_eq_true rfl) rfl (fun p e s m below meth c hx hb hr hlk hml hown hnm hts hsz hP hK hD hN ls hl => ?_)
  generalize va_A (oX3 cI cR ad v) sz = A at hD
  have hP : va_P D vwCl [(ad 0, .inr (3, [.ref (ad 1), .int v.2])), (ad 1, .inl (cI, 15, .inl v.1))] s.heap := hP
  have hD : va_D A [(ad 0, .inr (3, [.ref (ad 1), .int v.2])), (ad 1, .inl (cI, 15, .inl v.1))] := hD
  have L12 : ∀ (nL12 : Nat) (l2 : Int32) (l4 : Int32) (l5 : Int32) (ls : Array Slot), lv_has ls 6 [(0, .ref (ad 0)), (2, .int l2), (4, .int l4), (5, .int l5)] → f_X3_rest_L12 v nL12 l2 l4 l5 = some r → W p l e rm_X3_rest s m ([.ref (ad 0), .int p1, .int p2, .int p3] : List Value).toArray below meth c s.heap [] 0 0 (MQ below (QcRead r) ([.ref (ad 0), .int p1, .int p2, .int p3] : List Value).toArray s 0 0 (fun _ => False)) (F0 m 12 ls []) := by
    intro nL12
    induction nL12 with
    | zero =>
      intro l2 l4 l5 ls hl hf
      cases hf
    | succ nL12 ih_L12 =>
      intro l2 l4 l5 ls hl hf
      rw [f_X3_rest_L12] at hf
      refine lv_iload hx hb dX3_rest_12 (lv_at hl 3 rfl) ?_
      refine lv_bipush (v := (14 : Int32)) hx hb dX3_rest_14 (by decide) ?_
      refine lv_icmp_ge (tgt := 44) hx hb dX3_rest_16 (by decide) (fun c0 => ?_) (fun c0 => ?_)
      · replace hf := gT hf c0
        refine lv_iload hx hb dX3_rest_44 (lv_at hl 2 rfl) ?_
        exact z_r hf hx hb hr hlk dX3_rest_46
      · replace hf := gF hf c0
        refine lv_aload_n hx hb dX3_rest_19 rfl (lv_at hl 0 rfl) ?_
        refine lv_iload hx hb dX3_rest_20 (lv_at hl 2 rfl) ?_
        obtain ⟨x0, hcx0, hf⟩ := gB hf
        refine k_r (r_V (As := [.int l4]) (rest := []) (n := 1) ⟨hx, hb, hml, hown, hts⟩ (c_X3_kindOf l D cI cR ad v l4 _ x0 hcx0) kM_X3_23 kN_X3_kindOf kV_X3_kindOf kZ_X3 kK_X3_kindOf ⟨rfl, rfl⟩ ⟨(Nat.le_of_ble_eq_true rfl), (Nat.le_of_ble_eq_true rfl)⟩ pd_X3_kindOf rfl hK hN hP hD [0, 1] rfl rfl 0 3 rfl rfl rfl hl.1 (Nat.le_of_ble_eq_true rfl) dX3_rest_22 ⟨(Nat.le_of_ble_eq_true rfl), (Nat.le_of_ble_eq_true rfl)⟩) ?_
        refine lv_iconst (v := (2 : Int32)) hx hb dX3_rest_25 (by decide) ?_
        refine lv_icmp_ne (tgt := 44) hx hb dX3_rest_26 (by decide) (fun c1 => ?_) (fun c1 => ?_)
        · replace hf := gF hf c1
          refine lv_iload hx hb dX3_rest_44 (lv_at hl 2 rfl) ?_
          exact z_r hf hx hb hr hlk dX3_rest_46
        · replace hf := gT hf c1
          refine lv_aload_n hx hb dX3_rest_29 rfl (lv_at hl 0 rfl) ?_
          refine lv_iload hx hb dX3_rest_30 (lv_at hl 2 rfl) ?_
          refine lv_iload_n hx hb dX3_rest_32 rfl (lv_at hl 1 rfl) ?_
          obtain ⟨x1, hcx1, hf⟩ := gB hf
          refine k_r (r_V (As := [.int l4, .int l2]) (rest := []) (n := 2) ⟨hx, hb, hml, hown, hts⟩ (c_X3_next l D cI cR ad v l4 l2 _ x1 hcx1) kM_X3_31 kN_X3_next kV_X3_next kZ_X3 kK_X3_next ⟨rfl, rfl⟩ ⟨(Nat.le_of_ble_eq_true rfl), (Nat.le_of_ble_eq_true rfl)⟩ pd_X3_next rfl hK hN hP hD [0, 1] rfl rfl 0 3 rfl rfl rfl hl.1 (Nat.le_of_ble_eq_true rfl) dX3_rest_33 ⟨(Nat.le_of_ble_eq_true rfl), (Nat.le_of_ble_eq_true rfl)⟩) ?_
          refine lv_istore (lv' := [(4, .int x1), (0, .ref (ad 0)), (2, .int l2), (5, .int l5)]) hx hb dX3_rest_36 hl (by decide) rfl (fun ls hl => ?_)
          refine lv_iinc (v := (l5 + (1 : Int32))) (lv' := [(5, .int (l5 + (1 : Int32))), (4, .int x1), (0, .ref (ad 0)), (2, .int l2)]) hx hb dX3_rest_38 hl (k := 3) rfl rfl (by decide) rfl (fun ls hl => ?_)
          refine lv_goto (tgt := 12) hx hb dX3_rest_41 (by decide) ?_
          exact ih_L12 l2 x1 (l5 + (1 : Int32)) ls (lv_sub hl [2, 3, 1, 0] rfl) hf
  unfold f_X3_rest at hf
  refine lv_aload_n hx hb dX3_rest_0 rfl (lv_at hl 0 rfl) ?_
  refine lv_iload_n hx hb dX3_rest_1 rfl (lv_at hl 1 rfl) ?_
  refine lv_iload_n hx hb dX3_rest_2 rfl (lv_at hl 2 rfl) ?_
  refine lv_iload_n hx hb dX3_rest_3 rfl (lv_at hl 3 rfl) ?_
  obtain ⟨x2, hcx2, hf⟩ := gB hf
  refine k_r (r_V (As := [.int p1, .int p2, .int p3]) (rest := []) (n := 3) ⟨hx, hb, hml, hown, hts⟩ (c_X3_landing l D cI cR ad v p1 p2 p3 _ x2 hcx2) kM_X3_27 kN_X3_landing kV_X3_landing kZ_X3 kK_X3_landing ⟨rfl, rfl⟩ ⟨(Nat.le_of_ble_eq_true rfl), (Nat.le_of_ble_eq_true rfl)⟩ pd_X3_landing rfl hK hN hP hD [0, 1] rfl rfl 0 3 rfl rfl rfl hl.1 (Nat.le_of_ble_eq_true rfl) dX3_rest_4 ⟨(Nat.le_of_ble_eq_true rfl), (Nat.le_of_ble_eq_true rfl)⟩) ?_
  refine lv_istore (lv' := [(4, .int x2), (0, .ref (ad 0)), (1, .int p1), (2, .int p2), (3, .int p3)]) hx hb dX3_rest_7 hl (by decide) rfl (fun ls hl => ?_)
  refine lv_iconst (v := (0 : Int32)) hx hb dX3_rest_9 (by decide) ?_
  refine lv_istore (lv' := [(5, .int (0 : Int32)), (4, .int x2), (0, .ref (ad 0)), (1, .int p1), (2, .int p2), (3, .int p3)]) hx hb dX3_rest_10 hl (by decide) rfl (fun ls hl => ?_)
  exact L12 gas p2 x2 (0 : Int32) ls (lv_sub hl [2, 4, 1, 0] rfl) hf
def f_X3_howMany_J30 (v : tX3) (kL4 : Int32 → Int32 → Int32 → Option Int32) (l1 : Int32) (l2 : Int32) (l3 : Int32) : Option Int32 :=
  kL4 l1 l2 (l3 + (1 : Int32))
def f_X3_howMany_L4 (v : tX3) : Nat → Int32 → Int32 → Int32 → Option Int32
  | 0, _, _, _ => none
  | nL4 + 1, l1, l2, l3 =>
    (if (14 : Int32) < l3 then some l2 else (if v.2 < l3 then some l2 else (f_X3_kindOf v l3).bind fun x0 => (if x0 = l1 then f_X3_howMany_J30 v (f_X3_howMany_L4 v nL4) l1 (l2 + (1 : Int32)) l3 else f_X3_howMany_J30 v (f_X3_howMany_L4 v nL4) l1 l2 l3)))
def f_X3_howMany (v : tX3) (p1 : Int32) : Option Int32 :=
  f_X3_howMany_L4 v gas p1 (0 : Int32) (1 : Int32)
abbrev rm_X3_howMany : Room := { frames := 1, cells := 0, slots := 0, locals := 21 }
set_option maxHeartbeats 4000000 in
set_option maxRecDepth 100000 in
theorem c_X3_howMany (l : Launch) (D : va_G) (cI cR : ClassId) (ad : Nat → Nat) (v : tX3) (p1 : Int32) (sz : Nat) (r : Int32) (hf : f_X3_howMany v p1 = some r) : Met l yX3_howMany (wM yX3_howMany cX3_howMany 4 (some (.int))) rm_X3_howMany (cPre D (tysA cI cR) ([.ref (ad 0), .int p1] : List Value) (oX3 cI cR ad v) sz) (QcRead r) 0 0 (fun _ => False) := by
  refine en_M (own := RX3) (lv := [(0, .ref (ad 0)), (1, .int p1)]) (by decide +kernel) rfl (Nat.le_of_ble_eq_true rfl) rfl (fun p e s m below meth c hx hb hr hlk hml hown hnm hts hsz hP hK hD hN ls hl => ?_)
  generalize va_A (oX3 cI cR ad v) sz = A at hD
  have hP : va_P D vwCl [(ad 0, .inr (3, [.ref (ad 1), .int v.2])), (ad 1, .inl (cI, 15, .inl v.1))] s.heap := hP
  have hD : va_D A [(ad 0, .inr (3, [.ref (ad 1), .int v.2])), (ad 1, .inl (cI, 15, .inl v.1))] := hD
  have L4 : ∀ (nL4 : Nat) (l1 : Int32) (l2 : Int32) (l3 : Int32) (ls : Array Slot), lv_has ls 4 [(0, .ref (ad 0)), (1, .int l1), (2, .int l2), (3, .int l3)] → f_X3_howMany_L4 v nL4 l1 l2 l3 = some r → W p l e rm_X3_howMany s m ([.ref (ad 0), .int p1] : List Value).toArray below meth c s.heap [] 0 0 (MQ below (QcRead r) ([.ref (ad 0), .int p1] : List Value).toArray s 0 0 (fun _ => False)) (F0 m 4 ls []) := by
    intro nL4
    induction nL4 with
    | zero =>
      intro l1 l2 l3 ls hl hf
      cases hf
    | succ nL4 ih_L4 =>
      have J30 : ∀ (l1 : Int32) (l2 : Int32) (l3 : Int32) (ls : Array Slot), lv_has ls 4 [(0, .ref (ad 0)), (1, .int l1), (2, .int l2), (3, .int l3)] → f_X3_howMany_J30 v (f_X3_howMany_L4 v nL4) l1 l2 l3 = some r → W p l e rm_X3_howMany s m ([.ref (ad 0), .int p1] : List Value).toArray below meth c s.heap [] 0 0 (MQ below (QcRead r) ([.ref (ad 0), .int p1] : List Value).toArray s 0 0 (fun _ => False)) (F0 m 30 ls []) := by
        intro l1 l2 l3 ls hl hf
        unfold f_X3_howMany_J30 at hf
        refine lv_iinc (v := (l3 + (1 : Int32))) (lv' := [(3, .int (l3 + (1 : Int32))), (0, .ref (ad 0)), (1, .int l1), (2, .int l2)]) hx hb dX3_howMany_30 hl (k := 3) rfl rfl (by decide) rfl (fun ls hl => ?_)
        refine lv_goto (tgt := 4) hx hb dX3_howMany_33 (by decide) ?_
        exact ih_L4 l1 l2 (l3 + (1 : Int32)) ls (lv_sub hl [1, 2, 3, 0] rfl) hf
      intro l1 l2 l3 ls hl hf
      rw [f_X3_howMany_L4] at hf
      refine lv_iload_n hx hb dX3_howMany_4 rfl (lv_at hl 3 rfl) ?_
      refine lv_bipush (v := (14 : Int32)) hx hb dX3_howMany_5 (by decide) ?_
      refine lv_icmp_gt (tgt := 36) hx hb dX3_howMany_7 (by decide) (fun c0 => ?_) (fun c0 => ?_)
      · replace hf := gT hf c0
        refine lv_iload_n hx hb dX3_howMany_36 rfl (lv_at hl 2 rfl) ?_
        exact z_r hf hx hb hr hlk dX3_howMany_37
      · replace hf := gF hf c0
        refine lv_iload_n hx hb dX3_howMany_10 rfl (lv_at hl 3 rfl) ?_
        refine lv_aload_n hx hb dX3_howMany_11 rfl (lv_at hl 0 rfl) ?_
        refine va_get (D := D) (ci := 3) (v := .int v.2) (C := RX3) (T := TX3) (N := 2) hx hb hts inA_X3 hown hK hP 0 rfl rfl 1 (by decide) (hts _ kF_X3_15) (fun _ h9 => h9) rfl dX3_howMany_12 ?_
        refine lv_icmp_gt (tgt := 36) hx hb dX3_howMany_15 (by decide) (fun c1 => ?_) (fun c1 => ?_)
        · replace hf := gT hf c1
          refine lv_iload_n hx hb dX3_howMany_36 rfl (lv_at hl 2 rfl) ?_
          exact z_r hf hx hb hr hlk dX3_howMany_37
        · replace hf := gF hf c1
          refine lv_aload_n hx hb dX3_howMany_18 rfl (lv_at hl 0 rfl) ?_
          refine lv_iload_n hx hb dX3_howMany_19 rfl (lv_at hl 3 rfl) ?_
          obtain ⟨x0, hcx0, hf⟩ := gB hf
          refine k_r (r_V (As := [.int l3]) (rest := []) (n := 1) ⟨hx, hb, hml, hown, hts⟩ (c_X3_kindOf l D cI cR ad v l3 _ x0 hcx0) kM_X3_23 kN_X3_kindOf kV_X3_kindOf kZ_X3 kK_X3_kindOf ⟨rfl, rfl⟩ ⟨(Nat.le_of_ble_eq_true rfl), (Nat.le_of_ble_eq_true rfl)⟩ pd_X3_kindOf rfl hK hN hP hD [0, 1] rfl rfl 0 3 rfl rfl rfl hl.1 (Nat.le_of_ble_eq_true rfl) dX3_howMany_20 ⟨(Nat.le_of_ble_eq_true rfl), (Nat.le_of_ble_eq_true rfl)⟩) ?_
          refine lv_iload_n hx hb dX3_howMany_23 rfl (lv_at hl 1 rfl) ?_
          refine lv_icmp_ne (tgt := 30) hx hb dX3_howMany_24 (by decide) (fun c2 => ?_) (fun c2 => ?_)
          · replace hf := gF hf c2
            exact J30 l1 l2 l3 ls (lv_sub hl [0, 1, 2, 3] rfl) hf
          · replace hf := gT hf c2
            refine lv_iinc (v := (l2 + (1 : Int32))) (lv' := [(2, .int (l2 + (1 : Int32))), (0, .ref (ad 0)), (1, .int l1), (3, .int l3)]) hx hb dX3_howMany_27 hl (k := 2) rfl rfl (by decide) rfl (fun ls hl => ?_)
            exact J30 l1 (l2 + (1 : Int32)) l3 ls (lv_sub hl [1, 2, 0, 3] rfl) hf
  unfold f_X3_howMany at hf
  refine lv_iconst (v := (0 : Int32)) hx hb dX3_howMany_0 (by decide) ?_
  refine lv_istore_n (lv' := [(2, .int (0 : Int32)), (0, .ref (ad 0)), (1, .int p1)]) hx hb dX3_howMany_1 rfl hl (by decide) rfl (fun ls hl => ?_)
  refine lv_iconst (v := (1 : Int32)) hx hb dX3_howMany_2 (by decide) ?_
  refine lv_istore_n (lv' := [(3, .int (1 : Int32)), (2, .int (0 : Int32)), (0, .ref (ad 0)), (1, .int p1)]) hx hb dX3_howMany_3 rfl hl (by decide) rfl (fun ls hl => ?_)
  exact L4 gas p1 (0 : Int32) (1 : Int32) ls (lv_sub hl [2, 3, 1, 0] rfl) hf
def f_X3_isEnd (v : tX3) (p1 : Int32) : Option Int32 :=
  (if p1 ≤ v.2 then some (0 : Int32) else some (1 : Int32))
abbrev rm_X3_isEnd : Room := { frames := 0, cells := 0, slots := 0, locals := 0 }
set_option maxHeartbeats 4000000 in
set_option maxRecDepth 100000 in
theorem c_X3_isEnd (l : Launch) (D : va_G) (cI cR : ClassId) (ad : Nat → Nat) (v : tX3) (p1 : Int32) (sz : Nat) (r : Int32) (hf : f_X3_isEnd v p1 = some r) : Met l yX3_isEnd (wM yX3_isEnd cX3_isEnd 2 (some (.boolean))) rm_X3_isEnd (cPre D (tysA cI cR) ([.ref (ad 0), .int p1] : List Value) (oX3 cI cR ad v) sz) (QcRead r) 0 0 (fun _ => False) := by
  refine en_M (own := RX3) (lv := [(0, .ref (ad 0)), (1, .int p1)]) (by decide +kernel) rfl (Nat.le_of_ble_eq_true rfl) rfl (fun p e s m below meth c hx hb hr hlk hml hown hnm hts hsz hP hK hD hN ls hl => ?_)
  generalize va_A (oX3 cI cR ad v) sz = A at hD
  have hP : va_P D vwCl [(ad 0, .inr (3, [.ref (ad 1), .int v.2])), (ad 1, .inl (cI, 15, .inl v.1))] s.heap := hP
  have hD : va_D A [(ad 0, .inr (3, [.ref (ad 1), .int v.2])), (ad 1, .inl (cI, 15, .inl v.1))] := hD
  unfold f_X3_isEnd at hf
  refine lv_iload_n hx hb dX3_isEnd_0 rfl (lv_at hl 1 rfl) ?_
  refine lv_aload_n hx hb dX3_isEnd_1 rfl (lv_at hl 0 rfl) ?_
  refine va_get (D := D) (ci := 3) (v := .int v.2) (C := RX3) (T := TX3) (N := 2) hx hb hts inA_X3 hown hK hP 0 rfl rfl 1 (by decide) (hts _ kF_X3_15) (fun _ h9 => h9) rfl dX3_isEnd_2 ?_
  refine lv_icmp_le (tgt := 12) hx hb dX3_isEnd_5 (by decide) (fun c0 => ?_) (fun c0 => ?_)
  · replace hf := gT hf c0
    refine lv_iconst (v := (0 : Int32)) hx hb dX3_isEnd_12 (by decide) ?_
    exact z_rz hf hx hb hr hlk rfl dX3_isEnd_13
  · replace hf := gF hf c0
    refine lv_iconst (v := (1 : Int32)) hx hb dX3_isEnd_8 (by decide) ?_
    refine lv_goto (tgt := 13) hx hb dX3_isEnd_9 (by decide) ?_
    exact z_rz hf hx hb hr hlk rfl dX3_isEnd_13
def f_X3_isLike_J55 (v : tX3) (v1 : tX3) (kL19 : Int32 → Int32 → Option Int32) (l3 : Int32) (k0 : Int32) : Option Int32 :=
  kL19 k0 (l3 + (1 : Int32))
def f_X3_isLike_L19 (v : tX3) (v1 : tX3) : Nat → Int32 → Int32 → Option Int32
  | 0, _, _ => none
  | nL19 + 1, l2, l3 =>
    (if (14 : Int32) < l3 then (if bq l2 = true then some l2 else none) else (if v.2 < l3 then (if bq l2 = true then some l2 else none) else (if l2 = 0 then (if bq l2 = true then some l2 else none) else (f_X3_kindOf v l3).bind fun x0 => (f_X3_kindOf v1 l3).bind fun x1 => (if x0 = x1 then f_X3_isLike_J55 v v1 (f_X3_isLike_L19 v v1 nL19) l3 (1 : Int32) else f_X3_isLike_J55 v v1 (f_X3_isLike_L19 v v1 nL19) l3 (0 : Int32)))))
def f_X3_isLike_J16 (v : tX3) (v1 : tX3) (k0 : Int32) : Option Int32 :=
  f_X3_isLike_L19 v v1 gas k0 (1 : Int32)
def f_X3_isLike (v : tX3) (v1 : tX3) : Option Int32 :=
  (if v.2 = v1.2 then f_X3_isLike_J16 v v1 (1 : Int32) else f_X3_isLike_J16 v v1 (0 : Int32))
abbrev rm_X3_isLike : Room := { frames := 1, cells := 0, slots := 0, locals := 21 }
set_option maxHeartbeats 4000000 in
set_option maxRecDepth 100000 in
theorem c_X3_isLike (l : Launch) (D : va_G) (cI cR : ClassId) (ad : Nat → Nat) (v : tX3) (ad1 : Nat → Nat) (v1 : tX3) (sz : Nat) (r : Int32) (hf : f_X3_isLike v v1 = some r) : Met l yX3_isLike (wM yX3_isLike cX3_isLike 4 (some (.boolean))) rm_X3_isLike (cPre D (tysA cI cR) ([.ref (ad 0), .ref (ad1 0)] : List Value) (oX3 cI cR ad v ++ oX3 cI cR ad1 v1) sz) (QcRead r) 0 0 (fun _ => False) := by
  refine en_M (own := RX3) (lv := [(0, .ref (ad 0)), (1, .ref (ad1 0))]) (by decide +kernel) rfl (Nat.le_of_ble_eq_true rfl) rfl (fun p e s m below meth c hx hb hr hlk hml hown hnm hts hsz hP hK hD hN ls hl => ?_)
  generalize va_A (oX3 cI cR ad v ++ oX3 cI cR ad1 v1) sz = A at hD
  have hP : va_P D vwCl [(ad 0, .inr (3, [.ref (ad 1), .int v.2])), (ad 1, .inl (cI, 15, .inl v.1)), (ad1 0, .inr (3, [.ref (ad1 1), .int v1.2])), (ad1 1, .inl (cI, 15, .inl v1.1))] s.heap := hP
  have hD : va_D A [(ad 0, .inr (3, [.ref (ad 1), .int v.2])), (ad 1, .inl (cI, 15, .inl v.1)), (ad1 0, .inr (3, [.ref (ad1 1), .int v1.2])), (ad1 1, .inl (cI, 15, .inl v1.1))] := hD
  have L19 : ∀ (nL19 : Nat) (l2 : Int32) (l3 : Int32) (ls : Array Slot), lv_has ls 4 [(0, .ref (ad 0)), (1, .ref (ad1 0)), (2, .int l2), (3, .int l3)] → f_X3_isLike_L19 v v1 nL19 l2 l3 = some r → W p l e rm_X3_isLike s m ([.ref (ad 0), .ref (ad1 0)] : List Value).toArray below meth c s.heap [] 0 0 (MQ below (QcRead r) ([.ref (ad 0), .ref (ad1 0)] : List Value).toArray s 0 0 (fun _ => False)) (F0 m 19 ls []) := by
    intro nL19
    induction nL19 with
    | zero =>
      intro l2 l3 ls hl hf
      cases hf
    | succ nL19 ih_L19 =>
      have J55 : ∀ (l3 : Int32) (k0 : Int32) (ls : Array Slot), lv_has ls 4 [(0, .ref (ad 0)), (1, .ref (ad1 0)), (3, .int l3)] → f_X3_isLike_J55 v v1 (f_X3_isLike_L19 v v1 nL19) l3 k0 = some r → W p l e rm_X3_isLike s m ([.ref (ad 0), .ref (ad1 0)] : List Value).toArray below meth c s.heap [] 0 0 (MQ below (QcRead r) ([.ref (ad 0), .ref (ad1 0)] : List Value).toArray s 0 0 (fun _ => False)) (F0 m 55 ls [.int k0]) := by
        intro l3 k0 ls hl hf
        unfold f_X3_isLike_J55 at hf
        refine lv_istore_n (lv' := [(2, .int k0), (0, .ref (ad 0)), (1, .ref (ad1 0)), (3, .int l3)]) hx hb dX3_isLike_55 rfl hl (by decide) rfl (fun ls hl => ?_)
        refine lv_iinc (v := (l3 + (1 : Int32))) (lv' := [(3, .int (l3 + (1 : Int32))), (2, .int k0), (0, .ref (ad 0)), (1, .ref (ad1 0))]) hx hb dX3_isLike_56 hl (k := 3) rfl rfl (by decide) rfl (fun ls hl => ?_)
        refine lv_goto (tgt := 19) hx hb dX3_isLike_59 (by decide) ?_
        exact ih_L19 k0 (l3 + (1 : Int32)) ls (lv_sub hl [2, 3, 1, 0] rfl) hf
      intro l2 l3 ls hl hf
      rw [f_X3_isLike_L19] at hf
      refine lv_iload_n hx hb dX3_isLike_19 rfl (lv_at hl 3 rfl) ?_
      refine lv_bipush (v := (14 : Int32)) hx hb dX3_isLike_20 (by decide) ?_
      refine lv_icmp_gt (tgt := 62) hx hb dX3_isLike_22 (by decide) (fun c0 => ?_) (fun c0 => ?_)
      · replace hf := gT hf c0
        refine lv_iload_n hx hb dX3_isLike_62 rfl (lv_at hl 2 rfl) ?_
        obtain ⟨g0, hf⟩ := gd hf
        exact z_rz hf hx hb hr hlk g0 dX3_isLike_63
      · replace hf := gF hf c0
        refine lv_iload_n hx hb dX3_isLike_25 rfl (lv_at hl 3 rfl) ?_
        refine lv_aload_n hx hb dX3_isLike_26 rfl (lv_at hl 0 rfl) ?_
        refine va_get (D := D) (ci := 3) (v := .int v.2) (C := RX3) (T := TX3) (N := 2) hx hb hts inA_X3 hown hK hP 0 rfl rfl 1 (by decide) (hts _ kF_X3_15) (fun _ h9 => h9) rfl dX3_isLike_27 ?_
        refine lv_icmp_gt (tgt := 62) hx hb dX3_isLike_30 (by decide) (fun c1 => ?_) (fun c1 => ?_)
        · replace hf := gT hf c1
          refine lv_iload_n hx hb dX3_isLike_62 rfl (lv_at hl 2 rfl) ?_
          obtain ⟨g0, hf⟩ := gd hf
          exact z_rz hf hx hb hr hlk g0 dX3_isLike_63
        · replace hf := gF hf c1
          refine lv_iload_n hx hb dX3_isLike_33 rfl (lv_at hl 2 rfl) ?_
          refine lv_if_eq (tgt := 62) hx hb dX3_isLike_34 (by decide) (fun c2 => ?_) (fun c2 => ?_)
          · replace hf := gT hf c2
            refine lv_iload_n hx hb dX3_isLike_62 rfl (lv_at hl 2 rfl) ?_
            obtain ⟨g0, hf⟩ := gd hf
            exact z_rz hf hx hb hr hlk g0 dX3_isLike_63
          · replace hf := gF hf c2
            refine lv_aload_n hx hb dX3_isLike_37 rfl (lv_at hl 0 rfl) ?_
            refine lv_iload_n hx hb dX3_isLike_38 rfl (lv_at hl 3 rfl) ?_
            obtain ⟨x0, hcx0, hf⟩ := gB hf
            refine k_r (r_V (As := [.int l3]) (rest := []) (n := 1) ⟨hx, hb, hml, hown, hts⟩ (c_X3_kindOf l D cI cR ad v l3 _ x0 hcx0) kM_X3_23 kN_X3_kindOf kV_X3_kindOf kZ_X3 kK_X3_kindOf ⟨rfl, rfl⟩ ⟨(Nat.le_of_ble_eq_true rfl), (Nat.le_of_ble_eq_true rfl)⟩ pd_X3_kindOf rfl hK hN hP hD [0, 1] rfl rfl 0 3 rfl rfl rfl hl.1 (Nat.le_of_ble_eq_true rfl) dX3_isLike_39 ⟨(Nat.le_of_ble_eq_true rfl), (Nat.le_of_ble_eq_true rfl)⟩) ?_
            refine lv_aload_n hx hb dX3_isLike_42 rfl (lv_at hl 1 rfl) ?_
            refine lv_iload_n hx hb dX3_isLike_43 rfl (lv_at hl 3 rfl) ?_
            obtain ⟨x1, hcx1, hf⟩ := gB hf
            refine k_r (r_V (As := [.int l3]) (rest := [.int x0]) (n := 1) ⟨hx, hb, hml, hown, hts⟩ (c_X3_kindOf l D cI cR ad1 v1 l3 _ x1 hcx1) kM_X3_23 kN_X3_kindOf kV_X3_kindOf kZ_X3 kK_X3_kindOf ⟨rfl, rfl⟩ ⟨(Nat.le_of_ble_eq_true rfl), (Nat.le_of_ble_eq_true rfl)⟩ pd_X3_kindOf rfl hK hN hP hD [2, 3] rfl rfl 0 3 rfl rfl rfl hl.1 (Nat.le_of_ble_eq_true rfl) dX3_isLike_44 ⟨(Nat.le_of_ble_eq_true rfl), (Nat.le_of_ble_eq_true rfl)⟩) ?_
            refine lv_icmp_ne (tgt := 54) hx hb dX3_isLike_47 (by decide) (fun c3 => ?_) (fun c3 => ?_)
            · replace hf := gF hf c3
              refine lv_iconst (v := (0 : Int32)) hx hb dX3_isLike_54 (by decide) ?_
              exact J55 l3 (0 : Int32) ls (lv_sub hl [0, 1, 3] rfl) hf
            · replace hf := gT hf c3
              refine lv_iconst (v := (1 : Int32)) hx hb dX3_isLike_50 (by decide) ?_
              refine lv_goto (tgt := 55) hx hb dX3_isLike_51 (by decide) ?_
              exact J55 l3 (1 : Int32) ls (lv_sub hl [0, 1, 3] rfl) hf
  have J16 : ∀ (k0 : Int32) (ls : Array Slot), lv_has ls 4 [(0, .ref (ad 0)), (1, .ref (ad1 0))] → f_X3_isLike_J16 v v1 k0 = some r → W p l e rm_X3_isLike s m ([.ref (ad 0), .ref (ad1 0)] : List Value).toArray below meth c s.heap [] 0 0 (MQ below (QcRead r) ([.ref (ad 0), .ref (ad1 0)] : List Value).toArray s 0 0 (fun _ => False)) (F0 m 16 ls [.int k0]) := by
    intro k0 ls hl hf
    unfold f_X3_isLike_J16 at hf
    refine lv_istore_n (lv' := [(2, .int k0), (0, .ref (ad 0)), (1, .ref (ad1 0))]) hx hb dX3_isLike_16 rfl hl (by decide) rfl (fun ls hl => ?_)
    refine lv_iconst (v := (1 : Int32)) hx hb dX3_isLike_17 (by decide) ?_
    refine lv_istore_n (lv' := [(3, .int (1 : Int32)), (2, .int k0), (0, .ref (ad 0)), (1, .ref (ad1 0))]) hx hb dX3_isLike_18 rfl hl (by decide) rfl (fun ls hl => ?_)
    exact L19 gas k0 (1 : Int32) ls (lv_sub hl [2, 3, 1, 0] rfl) hf
  unfold f_X3_isLike at hf
  refine lv_aload_n hx hb dX3_isLike_0 rfl (lv_at hl 0 rfl) ?_
  refine va_get (D := D) (ci := 3) (v := .int v.2) (C := RX3) (T := TX3) (N := 2) hx hb hts inA_X3 hown hK hP 0 rfl rfl 1 (by decide) (hts _ kF_X3_15) (fun _ h9 => h9) rfl dX3_isLike_1 ?_
  refine lv_aload_n hx hb dX3_isLike_4 rfl (lv_at hl 1 rfl) ?_
  refine va_get (D := D) (ci := 3) (v := .int v1.2) (C := RX3) (T := TX3) (N := 2) hx hb hts inA_X3 hown hK hP 2 rfl rfl 1 (by decide) (hts _ kF_X3_15) (fun _ h9 => h9) rfl dX3_isLike_5 ?_
  refine lv_icmp_ne (tgt := 15) hx hb dX3_isLike_8 (by decide) (fun c4 => ?_) (fun c4 => ?_)
  · replace hf := gF hf c4
    refine lv_iconst (v := (0 : Int32)) hx hb dX3_isLike_15 (by decide) ?_
    exact J16 (0 : Int32) ls (lv_sub hl [0, 1] rfl) hf
  · replace hf := gT hf c4
    refine lv_iconst (v := (1 : Int32)) hx hb dX3_isLike_11 (by decide) ?_
    refine lv_goto (tgt := 16) hx hb dX3_isLike_12 (by decide) ?_
    exact J16 (1 : Int32) ls (lv_sub hl [0, 1] rfl) hf
def f_X3_takeOver (v : tX3) (v1 : tX3) : Option tX3 :=
  (f_X6_copyRow 15 v1.1 15 v.1).bind fun x0 => some (x0, v1.2)
abbrev rm_X3_takeOver : Room := { frames := 1, cells := 0, slots := 0, locals := 22 }
set_option maxHeartbeats 4000000 in
set_option maxRecDepth 100000 in
theorem c_X3_takeOver (l : Launch) (D : va_G) (cI cR : ClassId) (ad : Nat → Nat) (v : tX3) (ad1 : Nat → Nat) (v1 : tX3) (sz : Nat) (r : tX3) (hf : f_X3_takeOver v v1 = some r) : Met l yX3_takeOver (wM yX3_takeOver cX3_takeOver 2 none) rm_X3_takeOver (cPre D (tysA cI cR) ([.ref (ad 0), .ref (ad1 0)] : List Value) (oX3 cI cR ad v ++ oX3 cI cR ad1 v1) sz) (qV D (oX3 cI cR ad r ++ oX3 cI cR ad1 v1) (va_A (oX3 cI cR ad v ++ oX3 cI cR ad1 v1) sz)) 0 0 (va_A (oX3 cI cR ad v ++ oX3 cI cR ad1 v1) sz) := by
  refine en_M (own := RX3) (lv := [(0, .ref (ad 0)), (1, .ref (ad1 0))]) (by decide +kernel) rfl (Nat.le_of_ble_eq_true rfl) rfl (fun p e s m below meth c hx hb hr hlk hml hown hnm hts hsz hP hK hD hN ls hl => ?_)
  subst hsz
  generalize hAe : va_A (oX3 cI cR ad v ++ oX3 cI cR ad1 v1) s.heap.size = A at hD ⊢
  have hA : ∀ q : Nat, s.heap.size ≤ q → A q := fun q h => by rw [← hAe]; exact Or.inr h
  have hS : va_S A s.heap s.heap [] := va_S.rf
  have hP : va_P D vwCl [(ad 0, .inr (3, [.ref (ad 1), .int v.2])), (ad 1, .inl (cI, 15, .inl v.1)), (ad1 0, .inr (3, [.ref (ad1 1), .int v1.2])), (ad1 1, .inl (cI, 15, .inl v1.1))] s.heap := hP
  have hD : va_D A [(ad 0, .inr (3, [.ref (ad 1), .int v.2])), (ad 1, .inl (cI, 15, .inl v.1)), (ad1 0, .inr (3, [.ref (ad1 1), .int v1.2])), (ad1 1, .inl (cI, 15, .inl v1.1))] := hD
  unfold f_X3_takeOver at hf
  refine lv_aload_n hx hb dX3_takeOver_0 rfl (lv_at hl 1 rfl) ?_
  refine va_get (D := D) (ci := 3) (v := .ref (ad1 1)) (C := RX3) (T := TX3) (N := 2) hx hb hts inA_X3 hown hK hP 2 rfl rfl 0 (by decide) (hts _ kF_X3_9) (fun _ h9 => h9) rfl dX3_takeOver_1 ?_
  refine lv_aload_n hx hb dX3_takeOver_4 rfl (lv_at hl 0 rfl) ?_
  refine va_get (D := D) (ci := 3) (v := .ref (ad 1)) (C := RX3) (T := TX3) (N := 2) hx hb hts inA_X3 hown hK hP 0 rfl rfl 0 (by decide) (hts _ kF_X3_9) (fun _ h9 => h9) rfl dX3_takeOver_5 ?_
  obtain ⟨x0, hcx0, hf⟩ := gB hf
  refine j_v (wr := [(ad 0, .inr (3, [.ref (ad 1), .int v.2])), (ad1 0, .inr (3, [.ref (ad1 1), .int v1.2]))]) (w_SN (As := [.ref (ad1 1), .ref (ad 1)]) (rest := []) (n := 2) ⟨hx, hb, hml, hown, hts⟩ (c_X6_copyRow l D cI cR (ad1 1) 15 v1.1 (ad 1) 15 v.1 _ x0 hcx0) (nM_X3_19 hN) kS_X6_copyRow kZ_X6 kK_X6_copyRow ⟨rfl, rfl⟩ ⟨(Nat.le_of_ble_eq_true rfl), (Nat.le_of_ble_eq_true rfl)⟩ pd_X6_copyRow rfl hK hN hP hD [3, 1] rfl rfl rfl hl.1 (Nat.le_of_ble_eq_true rfl) dX3_takeOver_8 ⟨(Nat.le_of_ble_eq_true rfl), (Nat.le_of_ble_eq_true rfl)⟩) hP hD hS hA [3, 1] [0, 2] rfl rfl rfl (by decide) (fun H locs hP hD hS => ?_)
  have hP : va_P D vwCl [(ad 0, .inr (3, [.ref (ad 1), .int v.2])), (ad1 0, .inr (3, [.ref (ad1 1), .int v1.2])), (ad1 1, .inl (cI, 15, .inl v1.1)), (ad 1, .inl (cI, 15, .inl x0))] H := hP
  have hD : va_D A [(ad 0, .inr (3, [.ref (ad 1), .int v.2])), (ad1 0, .inr (3, [.ref (ad1 1), .int v1.2])), (ad1 1, .inl (cI, 15, .inl v1.1)), (ad 1, .inl (cI, 15, .inl x0))] := hD
  refine lv_aload_n hx hb dX3_takeOver_11 rfl (lv_at hl 0 rfl) ?_
  refine lv_aload_n hx hb dX3_takeOver_12 rfl (lv_at hl 1 rfl) ?_
  refine va_get (D := D) (ci := 3) (v := .int v1.2) (C := RX3) (T := TX3) (N := 2) hx hb hts inA_X3 hown hK hP 1 rfl rfl 1 (by decide) (hts _ kF_X3_15) (fun _ h9 => h9) rfl dX3_takeOver_13 ?_
  refine va_put (D := D) (ci := 3) (v := .int v1.2) (ty := .int) (C := RX3) (T := TX3) (N := 2) hx hb hts inA_X3 tyX3 tyX3_ok nmX3 hown hK hP hD hS 0 rfl rfl 1 (by decide) (hts _ kF_X3_15) (fun _ h9 => h9) rfl (tyX3_ok 1 (by decide)) rfl rfl (Nat.le_of_ble_eq_true rfl) dX3_takeOver_16 (fun H locs hP hD hS => ?_)
  have hP : va_P D vwCl [(ad 0, .inr (3, [.ref (ad 1), .int v1.2])), (ad1 0, .inr (3, [.ref (ad1 1), .int v1.2])), (ad1 1, .inl (cI, 15, .inl v1.1)), (ad 1, .inl (cI, 15, .inl x0))] H := hP
  have hD : va_D A [(ad 0, .inr (3, [.ref (ad 1), .int v1.2])), (ad1 0, .inr (3, [.ref (ad1 1), .int v1.2])), (ad1 1, .inl (cI, 15, .inl v1.1)), (ad 1, .inl (cI, 15, .inl x0))] := hD
  exact z_v hf (fun r => oX3 cI cR ad r ++ oX3 cI cR ad1 v1) hx hb hr hlk hS (hP.subm [0, 3, 1, 2] rfl) (hD.sub [0, 3, 1, 2] rfl rfl) dX3_takeOver_19

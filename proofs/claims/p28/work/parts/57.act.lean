/-! what one turn of the law does -/
theorem nI_quo {a b : Nat} (ha : a < 2 ^ 31) (hb : b < 2 ^ 31) : nI a / nI b = nI (a / b) := by
  apply Int32.toInt_inj.mp
  have h1 : a / b ≤ a := Nat.div_le_self a b
  rw [Int32.toInt_div, nI_toInt ha, nI_toInt hb, nI_toInt (Nat.lt_of_le_of_lt h1 ha)]
  have h2 : (a : Int).tdiv (b : Int) = ((a / b : Nat) : Int) := by
    rw [Int.tdiv_eq_ediv_of_nonneg (by omega)]
    exact (Int.natCast_ediv a b).symm
  rw [h2]
  clear h2
  generalize a / b = d at *
  exact Int.bmod_eq_of_le (by omega) (by omega)
/-- a number below n, out of an int -/
def lov (x n : Int32) : Int32 := (x &&& (2147483647 : Int32)) - (x &&& (2147483647 : Int32)) / n * n
theorem low_eq (x : Int32) {n : Int32} (h : (n != 0) = true) : f_L_low x n = some (lov x n) := if_pos h
theorem and_nI (x : Int32) : ∃ a, a < 2 ^ 31 ∧ x &&& (2147483647 : Int32) = nI a := by
  refine ⟨x.toBitVec.toNat &&& 2147483647, Nat.lt_of_le_of_lt Nat.and_le_right (by decide), ?_⟩
  apply Int32.toBitVec_inj.mp
  apply BitVec.eq_of_toNat_eq
  rw [nI_bv, Int32.toBitVec_and, BitVec.toNat_and, BitVec.toNat_ofNat]
  have h : x.toBitVec.toNat &&& 2147483647 ≤ 2147483647 := Nat.and_le_right
  rw [Nat.mod_eq_of_lt (by omega)]
  rfl
theorem lov_nI (x : Int32) {n : Nat} (h1 : 1 ≤ n) (h2 : n < 2 ^ 31) : ∃ t, t < n ∧ lov x (nI n) = nI t := by
  obtain ⟨a, a1, a2⟩ := and_nI x
  refine ⟨a % n, Nat.mod_lt _ (by omega), ?_⟩
  unfold lov
  have h3 : a / n * n ≤ a := Nat.div_mul_le_self a n
  rw [a2, nI_quo a1 h2, nI_mul, nI_sub h3]
  congr 1
  have := Nat.div_add_mod a n
  rw [Nat.mul_comm] at this
  omega
theorem does_congr {f g : tX6 → Option (Int32 × tX6)} {r : RcS} {sn : Option RcS} {P : RcS → Prop} (e : ∀ v, g v = f v) (h : Does f r sn P) : Does g r sn P := by
  obtain ⟨a, r', h1, h2⟩ := h
  refine ⟨a, r', h1, fun v k hv => ?_⟩
  obtain ⟨u, q1, q2⟩ := h2 v k hv
  exact ⟨u, (e v).trans q1, q2⟩
theorem does_bnd {f : tX6 → Option (Int32 × tX6)} {r : RcS} {sn : Option RcS} {P : RcS → Prop} (h : Does f r sn P) : Does (fun v => (f v).bind fun x => some (x.1, x.2)) r sn P := by
  obtain ⟨a, r', h1, h2⟩ := h
  refine ⟨a, r', h1, fun v k hv => ?_⟩
  obtain ⟨u, q1, q2⟩ := h2 v k hv
  exact ⟨u, bnd q1 rfl, q2⟩
/-! a road out of an int -/
def sgn (q : Int32) (i : Nat) : Int32 := if lov (q >>> (((4 : Int32) + nI i) &&& 31)) (5 : Int32) = 1 then 109 else if lov (q >>> (((4 : Int32) + nI i) &&& 31)) (5 : Int32) = 2 then 115 else if lov (q >>> (((4 : Int32) + nI i) &&& 31)) (5 : Int32) = 3 then 105 else 46
theorem sgn_cases (q : Int32) (i : Nat) : sgn q i = 46 ∨ sgn q i = 105 ∨ sgn q i = 109 ∨ sgn q i = 115 := by
  unfold sgn
  by_cases a : lov (q >>> (((4 : Int32) + nI i) &&& 31)) (5 : Int32) = 1
  · rw [if_pos a]; exact Or.inr (Or.inr (Or.inl rfl))
  · rw [if_neg a]
    by_cases b : lov (q >>> (((4 : Int32) + nI i) &&& 31)) (5 : Int32) = 2
    · rw [if_pos b]; exact Or.inr (Or.inr (Or.inr rfl))
    · rw [if_neg b]
      by_cases c : lov (q >>> (((4 : Int32) + nI i) &&& 31)) (5 : Int32) = 3
      · rw [if_pos c]; exact Or.inr (Or.inl rfl)
      · rw [if_neg c]; exact Or.inl rfl
theorem sgn_vk (q : Int32) (i : Nat) : vk (sgn q i) := sgn_cases q i
theorem sgn_33 (q : Int32) (i : Nat) : ¬ sgn q i < (33 : Int32) ∧ sgn q i ≤ (126 : Int32) := by
  rcases sgn_cases q i with e | e | e | e <;> rw [e] <;> decide
abbrev stP (v : tX6) (p : tX1) : tX6 := (v.1, v.2.1, v.2.2.1, v.2.2.2.1, p, v.2.2.2.2.2)
theorem IN.pad {v : tX6} {r : RcS} {k : Nat} {sn : Option RcS} (h : IN v r k sn) (p : tX1) : IN (stP v p) r k sn := by
  obtain ⟨h1, h2, h3, h4, h5⟩ := h
  refine ⟨h1, h2, h3, ?_, h5⟩
  cases sn with
  | none => exact h4
  | some q => exact h4
theorem append_eq (v : tX6) {L : Nat} (hL : L < 60) (h : (vP v).2 = nI L) {p : Int32} (h1 : ¬ p < (33 : Int32)) (h2 : p ≤ (126 : Int32)) : f_X6_append v p = some (nI (L + 1), stP v (upd (vP v).1 L p, nI (L + 1))) := by
  have l2 : v.2.2.2.2.1.2 = nI L := h
  have full : f_X1_isFull v.2.2.2.2.1 = some 0 := ift (by rw [l2]; exact nI_lt (a := L) (b := 60) (by omega) (by omega)) rfl
  have add : f_X1_add v.2.2.2.2.1 p = some (nI (L + 1), (upd v.2.2.2.2.1.1 L p, nI (L + 1))) := by
    unfold f_X1_add
    rw [l2, nI_1]
    exact bnd (put_in _ _ (by omega) (by omega)) rfl
  unfold f_X6_append
  exact iff' h1 (ift h2 (bnd full (ift rfl (bnd add rfl))))
theorem act_L113 (q : Int32) {L : Nat} (hL : L ≤ 12) : ∀ (f i : Nat) (v : tX6), i ≤ L → L < i + f → (vP v).2 = nI i → (∀ j, j < i → (vP v).1 j = sgn q j) → ∃ p : tX1, p.2 = nI L ∧ (∀ j, j < L → p.1 j = sgn q j) ∧ f_L_act_L113 f q (nI L) (nI i) v = (f_X6_road (stP v p)).bind fun x1 => some (x1.1, x1.2) := by
  intro f
  induction f with
  | zero => intro i v a b; omega
  | succ f ih =>
    intro i v a b h1 h2
    by_cases c : i = L
    · subst c
      refine ⟨vP v, h1, h2, ?_⟩
      rw [f_L_act_L113]
      exact ift (nI_le (Nat.le_refl _) (by omega)) rfl
    · obtain ⟨e1, e2⟩ := sgn_33 q i
      have ap := append_eq v (L := i) (by omega) h1 e1 e2
      obtain ⟨p, p1, p2, p3⟩ := ih (i + 1) (stP v (upd (vP v).1 i (sgn q i), nI (i + 1))) (by omega) (by omega) rfl (fun j hj => by
        show upd (vP v).1 i (sgn q i) j = _
        by_cases e : j = i
        · subst e; rw [upd_s]
        · rw [upd_n e]; exact h2 j (by omega))
      refine ⟨p, p1, p2, ?_⟩
      have J : f_L_act_J167 (f_L_act_L113 f) q (nI L) (nI i) (sgn q i) v = (f_X6_road (stP v p)).bind fun x1 => some (x1.1, x1.2) := by
        unfold f_L_act_J167
        refine bnd ap ?_
        rw [nI_1]
        exact p3
      rw [f_L_act_L113]
      refine iff' (nI_ge (by omega) (by omega)) (bnd (low_eq _ (by decide)) ?_)
      unfold sgn at J
      by_cases a1 : lov (q >>> (((4 : Int32) + nI i) &&& 31)) (5 : Int32) = 1
      · rw [if_pos a1] at J
        exact ift a1 J
      · rw [if_neg a1] at J
        refine iff' a1 ?_
        by_cases a2 : lov (q >>> (((4 : Int32) + nI i) &&& 31)) (5 : Int32) = 2
        · rw [if_pos a2] at J
          exact ift a2 J
        · rw [if_neg a2] at J
          refine iff' a2 ?_
          by_cases a3 : lov (q >>> (((4 : Int32) + nI i) &&& 31)) (5 : Int32) = 3
          · rw [if_pos a3] at J
            exact ift a3 J
          · rw [if_neg a3] at J
            exact iff' a3 J
def sRoad (q : Int32) (L : Nat) (r : RcS) : RcS := sBegin (L, (fun i => kdn (sgn q (i - 1))), r.2.2)
theorem okR_road {r : RcS} (ok : okR r) (q : Int32) {L : Nat} (h1 : 1 ≤ L) (h2 : L ≤ 12) : okR (sRoad q L r) := by
  obtain ⟨o1, o2, o3, o4, o5, o6, o7, o8⟩ := ok
  exact ⟨h1, by show L ≤ 14; omega, fun i _ _ => kdn_le _, o4, o5, o6, o7, Nat.zero_le _, fun j _ => ⟨Nat.zero_le _, Nat.le_refl 1, Nat.zero_le _⟩, Or.inl ⟨rfl, Nat.zero_le _, Nat.zero_le _, Or.inr rfl⟩⟩
theorem road_eq {v : tX6} {r : RcS} {k : Nat} {sn : Option RcS} (h : IN v r k sn) (q : Int32) {L : Nat} (L1 : 1 ≤ L) (L2 : L ≤ 12) (p1 : (vP v).2 = nI L) (p2 : ∀ j, j < L → (vP v).1 j = sgn q j) : ∃ u, f_X6_road v = some (nI L, u) ∧ INT u (sRoad q L r) (kq k) r sn := by
  have g : ∀ j, j < L → vk ((vP v).1 j) := fun j hj => by rw [p2 j hj]; exact sgn_vk q j
  have f1 := fault_ok (v := vP v) L1 (by omega) p1 g
  obtain ⟨h', e1, e3⟩ := record_eq h.2.2.1 h.2.1 h.1
  obtain ⟨y, y1, y2⟩ := layOut_eq (v := vP v) (v1 := v.1.1) L1 (by omega) p1 g
  have cr := h.2.1
  have y3 : Rd y L (fun i => kdn (sgn q (i - 1))) := by
    obtain ⟨z1, z2, z3, z4⟩ := y2
    refine ⟨z1, z2, z3, fun i a b => ?_⟩
    show y.1 i = nI (kdn (sgn q (i - 1))) ∧ kdn (sgn q (i - 1)) ≤ 3
    rw [← p2 (i - 1) (by omega)]
    exact z4 i a b
  obtain ⟨b, b1, b2, b3⟩ := CR_begin (v := (y, v.1.2)) (r := (L, (fun i => kdn (sgn q (i - 1))), r.2.2)) y3 cr.2.2.2.1 cr.2.2.2.2.1 cr.2.2.2.2.2.2.2.2.1 cr.2.2.2.2.2.2.2.2.2.1 cr.2.2.2.2.2.2.2.2.2.2
  have R := (h.pad ((vP v).1, (0 : Int32))).chg (r' := sRoad q L r) (okR_road h.1 q L1 L2) b2 e3
  refine ⟨_, ?_, R⟩
  unfold f_X6_road
  refine bnd f1 (ift rfl (bnd e1 (bnd y1 (bnd rfl (bnd b1 ?_)))))
  rw [b3]
theorem do_road {r : RcS} {sn : Option RcS} {P : RcS → Prop} (q : Int32) (hP : ∀ L, P (sRoad q L r)) : Does (fun v => (f_X6_clear v).bind fun x8 => (f_L_low q (12 : Int32)).bind fun x9 => f_L_act_L113 gas q ((1 : Int32) + x9) (0 : Int32) x8.2) r sn P := by
  obtain ⟨t, t1, t2⟩ := lov_nI q (n := 12) (by omega) (by omega)
  refine does_yes (nI (1 + t)) (sRoad q (1 + t) r) (nI_0le (by omega)) (hP _) (fun v k h => ?_)
  obtain ⟨p, p1, p2, p3⟩ := act_L113 q (L := 1 + t) (by omega) gas 0 (stP v ((vP v).1, (0 : Int32))) (by omega) (by show 1 + t < 0 + 1000000; omega) rfl (fun j hj => by omega)
  obtain ⟨u, u1, u2⟩ := road_eq (h.pad p) q (L := 1 + t) (by omega) (by omega) p1 p2
  refine ⟨u, ?_, u2⟩
  have cl : f_X6_clear v = some ((vP v).2, stP v ((vP v).1, (0 : Int32))) := bnd rfl rfl
  have e : (1 : Int32) + nI t = nI (1 + t) := nI_add 1 t
  refine bnd cl (bnd (low_eq q (by decide)) ?_)
  rw [show lov q (12 : Int32) = nI t from t2, e]
  exact p3.trans (bnd u1 rfl)
/-! the snapshot that the law may hold -/
def OXs (n : Nat) (sn : Option RcS) : Prop := match sn with
  | none => True
  | some q => OX n q
theorem OX_tu {n : Nat} {q : RcS} (h : OX n q) : ∃ a, a ≤ n ∧ rTu q = nI a := by
  obtain ⟨⟨T, C, -, a2, -, a4⟩, -⟩ := h
  exact ⟨T 0 + T 1, a4, a2⟩
theorem act_again {v : tX6} {p q : Int32} (c : p &&& (15 : Int32) = 0) (d : q &&& (1 : Int32) = 0) : f_L_act v p q = (f_X6_again v).bind fun x => some (x.1, x.2) := by
  unfold f_L_act; exact ift c (ift d rfl)
theorem do_act {v0 : tX6} {r : RcS} {k0 n : Nat} {sn : Option RcS} (h0 : IN v0 r k0 sn) (hx : OX n r) (hs : OXs n sn) (hn : n < 900) (p q : Int32) : Does (fun v => f_L_act v p q) r sn (OX (n + 1)) := by
  have ok := h0.1
  have hP : ∀ t, t ≤ 5 → sRef r t = 0 → OX (n + 1) (sMake r t) := fun t _ e => OX_make hx ok e
  by_cases c0 : p &&& (15 : Int32) = 0
  · by_cases d : q &&& (1 : Int32) = 0
    · exact does_congr (fun v => by unfold f_L_act; exact ift c0 (ift d rfl)) (does_bnd (do_again (OX_begin ⟨rfl, rfl⟩ hx) ok))
    · have R : Does f_X6_restore r sn (OX (n + 1)) := by
        cases sn with
        | none => exact do_restore0
        | some z =>
          have hz : OX n z := hs
          obtain ⟨a, a1, a2⟩ := OX_tu hz
          exact do_restore (Or.inr ⟨a, by omega, a2⟩) (OX_mono (by omega) hz)
      exact does_congr (fun v => by unfold f_L_act; exact ift c0 (iff' d rfl)) (does_bnd R)
  by_cases c1 : p &&& (15 : Int32) = 1
  · exact does_congr (fun v => by unfold f_L_act; exact iff' c0 (ift c1 (bnd (low_eq q (by decide)) (bnd (low_eq _ (by decide)) rfl)))) (does_bnd (do_set (fun pc sp => OX_mono (by omega) (OX_set pc sp hx)) ok (lov q (3 : Int32)) (lov (q >>> ((2 : Int32) &&& 31)) (6 : Int32))))
  by_cases c2 : p &&& (15 : Int32) = 2
  · exact does_congr (fun v => by unfold f_L_act; exact iff' c0 (iff' c1 (ift c2 rfl))) (do_road q (fun L => OX_begin (r := r) (r1 := (L, (fun i => kdn (sgn q (i - 1))), r.2.2)) ⟨rfl, rfl⟩ hx))
  by_cases c3 : p &&& (15 : Int32) = 3
  · exact does_congr (fun v => by unfold f_L_act; exact iff' c0 (iff' c1 (iff' c2 (ift c3 rfl)))) (does_bnd (do_token hP ok))
  by_cases c4 : p &&& (15 : Int32) = 4
  · exact does_congr (fun v => by unfold f_L_act; exact iff' c0 (iff' c1 (iff' c2 (iff' c3 (ift c4 rfl))))) (does_bnd (do_token hP ok))
  by_cases c5 : p &&& (15 : Int32) = 5
  · exact does_congr (fun v => by unfold f_L_act; exact iff' c0 (iff' c1 (iff' c2 (iff' c3 (iff' c4 (ift c5 rfl)))))) (does_bnd (do_lose hP ok))
  by_cases c6 : p &&& (15 : Int32) = 6
  · exact does_congr (fun v => by unfold f_L_act; exact iff' c0 (iff' c1 (iff' c2 (iff' c3 (iff' c4 (iff' c5 (ift c6 rfl))))))) (does_bnd (do_lose hP ok))
  by_cases c7 : p &&& (15 : Int32) = 7
  · exact does_congr (fun v => by unfold f_L_act; exact iff' c0 (iff' c1 (iff' c2 (iff' c3 (iff' c4 (iff' c5 (iff' c6 (ift c7 rfl)))))))) (does_bnd (do_lose hP ok))
  by_cases c8 : p &&& (15 : Int32) = 8
  · by_cases d : q &&& (3 : Int32) = 0
    · exact does_congr (fun v => by unfold f_L_act; exact iff' c0 (iff' c1 (iff' c2 (iff' c3 (iff' c4 (iff' c5 (iff' c6 (iff' c7 (ift c8 (ift d rfl)))))))))) (does_bnd (do_best h0 hP))
    · exact does_congr (fun v => by unfold f_L_act; exact iff' c0 (iff' c1 (iff' c2 (iff' c3 (iff' c4 (iff' c5 (iff' c6 (iff' c7 (ift c8 (iff' d rfl)))))))))) (does_bnd (do_greedy hP ok))
  by_cases c9 : p &&& (15 : Int32) = 9
  · by_cases d : q &&& (3 : Int32) = 0
    · exact does_congr (fun v => by unfold f_L_act; exact iff' c0 (iff' c1 (iff' c2 (iff' c3 (iff' c4 (iff' c5 (iff' c6 (iff' c7 (iff' c8 (ift c9 (ift d rfl))))))))))) (does_bnd (do_best h0 hP))
    · exact does_congr (fun v => by unfold f_L_act; exact iff' c0 (iff' c1 (iff' c2 (iff' c3 (iff' c4 (iff' c5 (iff' c6 (iff' c7 (iff' c8 (ift c9 (iff' d rfl))))))))))) (does_bnd (do_greedy hP ok))
  · exact does_congr (fun v => by unfold f_L_act; exact iff' c0 (iff' c1 (iff' c2 (iff' c3 (iff' c4 (iff' c5 (iff' c6 (iff' c7 (iff' c8 (iff' c9 (bnd (low_eq q (by decide)) rfl))))))))))) (does_bnd (do_drive hP ok (lov q (6 : Int32))))

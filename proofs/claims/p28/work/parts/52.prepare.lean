/-! the class's preparing: roads that are alike -/
section CG
variable {m : Nat} {K K' : Nat → Nat} {pc sp : Nat}
theorem ro_cg (h : kd m K = kd m K') (o : Nat) : ∀ n p, ro m K o n p = ro m K' o n p := by
  intro n
  induction n with
  | zero => intro p; rfl
  | succ n ih => intro p; rw [ro, ro, h, ih]
theorem rs_cg (h : kd m K = kd m K') (o p d : Nat) : rs m K o p d = rs m K' o p d := ro_cg h o 14 _
theorem nxt_cg (h : kd m K = kd m K') (n t : Nat) : nxt m K sp n t = nxt m K' sp n t := by
  unfold nxt nxD nxR
  rw [h, rs_cg h]
theorem bt_cg (h : kd m K = kd m K') (W : Nat → Int) (n t : Nat) : bt m K sp W n t = bt m K' sp W n t := by
  unfold bt
  rw [nxt_cg h]
theorem bm_cg (h : kd m K = kd m K') (W : Nat → Int) (n : Nat) : ∀ k, bm m K pc sp W n k = bm m K' pc sp W n k := by
  intro k
  induction k with
  | zero => rfl
  | succ k ih => rw [bm, bm, ih, bt_cg h]
theorem Vf_cg (h : kd m K = kd m K') : ∀ k n, Vf m K pc sp k n = Vf m K' pc sp k n := by
  intro k
  induction k with
  | zero => intro n; rfl
  | succ k ih =>
    intro n
    have e : Vf m K pc sp k = Vf m K' pc sp k := funext ih
    show bd m K pc sp (Vf m K pc sp k) n = bd m K' pc sp (Vf m K' pc sp k) n
    unfold bd
    rw [e, bt_cg h, bm_cg h]
theorem Wo_cg (h : kd m K = kd m K') (n : Nat) : Wo m K pc sp n = Wo m K' pc sp n := Vf_cg h 500 n
theorem kd_cg (h : ∀ i, 1 ≤ i → i ≤ m → kd m K i = kd m K' i) : kd m K = kd m K' := by
  funext i
  by_cases c : 1 ≤ i ∧ i ≤ m
  · exact h i c.1 c.2
  · unfold kd; rw [if_neg c, if_neg c]
theorem TW_cg {v : tX5} (h : TW v m K pc sp) (e : kd m K = kd m K') : TW v m K' pc sp := by
  obtain ⟨⟨r1, r2, r3, r4⟩, h2, h3⟩ := h
  refine ⟨⟨r1, r2, r3, fun i a b => ?_⟩, fun o p d a b c => ?_, h3⟩
  · have := r4 i a b
    have e1 : K i = K' i := by
      have := congrFun e i
      unfold kd at this
      rw [if_pos ⟨a, b⟩, if_pos ⟨a, b⟩] at this
      exact this
    rw [← e1]; exact this
  · rw [← rs_cg e]; exact h2 o p d a b c
theorem TI_cg {v : tX5} (h : TI v m K pc sp) (e : kd m K = kd m K') : TI v m K' pc sp := by
  refine ⟨TW_cg h.1 e, fun n hn => ?_⟩
  obtain ⟨a, b⟩ := h.2 n hn
  refine ⟨by rw [← Wo_cg e]; exact a, fun h0 hl t n' t1 t5 hp en => b h0 hl t n' t1 t5 hp (by rw [nxt_cg e]; exact en)⟩
theorem SI_cg {sw : Nat → Int32} (h : SI m K pc sp sw) (e : kd m K = kd m K') : SI m K' pc sp sw := fun n hn => by
  rw [← Wo_cg e]; exact h n hn
end CG
theorem like_L19 {v v1 : tX3} {m : Nat} {K K1 : Nat → Nat} (h : Rd v m K) (h1 : Rd v1 m K1) : ∀ (f i b : Nat), b ≤ 1 → 1 ≤ i → i ≤ 15 → 15 < i + f → (b = 1 → ∀ j, 1 ≤ j → j < i → kd m K j = kd m K1 j) → ∃ c, f_X3_isLike_L19 v v1 f (nI b) (nI i) = some (nI c) ∧ (c = 0 ∨ (c = 1 ∧ ∀ j, 1 ≤ j → j ≤ m → kd m K j = kd m K1 j)) := by
  have hm := h.2.2.1
  intro f
  induction f with
  | zero => intro i b a1 a2 a3 a4; omega
  | succ f ih =>
    intro i b hb a2 a3 a4 hq
    rw [f_X3_isLike_L19]
    have stop : m < i → b = 0 ∨ (b = 1 ∧ ∀ j, 1 ≤ j → j ≤ m → kd m K j = kd m K1 j) := by
      intro c
      rcases (show b = 0 ∨ b = 1 by omega) with e | e
      · exact Or.inl e
      · exact Or.inr ⟨e, fun j x y => hq e j x (by omega)⟩
    by_cases c1 : 14 < i
    · exact ⟨b, ift (show nI 14 < nI i from nI_lt c1 (by omega)) (ift (nI_bq hb) rfl), stop (by omega)⟩
    · have n1 : ¬ (14 : Int32) < nI i := show ¬ nI 14 < nI i from nI_nlt (by omega) (by omega)
      by_cases c2 : m < i
      · exact ⟨b, iff' n1 (ift (by rw [h.1]; exact nI_lt c2 (by omega)) (ift (nI_bq hb) rfl)), stop c2⟩
      · have n2 : ¬ v.2 < nI i := by rw [h.1]; exact nI_nlt (by omega) (by omega)
        by_cases c3 : b = 0
        · subst c3
          exact ⟨0, iff' n1 (iff' n2 (ift rfl (ift (nI_bq (by omega)) rfl))), Or.inl rfl⟩
        · have b1 : b = 1 := by omega
          by_cases c4 : kd m K i = kd m K1 i
          · obtain ⟨c, q1, q2⟩ := ih (i + 1) 1 (by omega) (by omega) (by omega) (by omega) (fun _ j x y => by
              by_cases e : j = i
              · subst e; exact c4
              · exact hq b1 j x (by omega))
            refine ⟨c, iff' n1 (iff' n2 (iff' (by rw [nI_z (by omega)]; exact c3) (bnd (kindOf_eq h (by omega)) (bnd (kindOf_eq h1 (by omega)) (ift (by rw [c4]) ?_))))), q2⟩
            unfold f_X3_isLike_J55
            rw [nI_1]
            exact q1
          · have l1 := kd_lt h.K i
            have l2 := kd_lt h1.K i
            obtain ⟨c, q1, q2⟩ := ih (i + 1) 0 (by omega) (by omega) (by omega) (by omega) (fun e => by omega)
            refine ⟨c, iff' n1 (iff' n2 (iff' (by rw [nI_z (by omega)]; exact c3) (bnd (kindOf_eq h (by omega)) (bnd (kindOf_eq h1 (by omega)) (iff' (fun e => c4 ((nI_eq (by omega) (by omega)).mp e)) ?_))))), q2⟩
            unfold f_X3_isLike_J55
            rw [nI_1]
            exact q1
theorem like_eq {v v1 : tX3} {m m1 : Nat} {K K1 : Nat → Nat} (h : Rd v m K) (h1 : Rd v1 m1 K1) : ∃ c, f_X3_isLike v v1 = some (nI c) ∧ (c = 0 ∨ (c = 1 ∧ m = m1 ∧ kd m K = kd m K1)) := by
  have hm := h.2.2.1
  have hm1 := h1.2.2.1
  unfold f_X3_isLike f_X3_isLike_J16
  by_cases c : m = m1
  · subst c
    obtain ⟨c, q1, q2⟩ := like_L19 h h1 gas 1 1 (by omega) (by omega) (by omega) (by show 15 < 1 + 1000000; omega) (fun _ j x y => by omega)
    refine ⟨c, ift (by rw [h.1, h1.1]) q1, ?_⟩
    rcases q2 with q | ⟨q, w⟩
    · exact Or.inl q
    · exact Or.inr ⟨q, rfl, kd_cg w⟩
  · refine ⟨0, iff' (by rw [h.1, h1.1]; exact fun e => c ((nI_eq (by omega) (by omega)).mp e)) ?_, Or.inl rfl⟩
    show f_X3_isLike_L19 v v1 (999999 + 1) (0 : Int32) (1 : Int32) = _
    rw [f_X3_isLike_L19]
    refine iff' (by decide) (iff' (by rw [h.1]; exact nI_nlt (a := m) (b := 1) h.2.1 (by omega)) (ift rfl (ift (by decide) rfl)))
/-! the class's preparing: the table of rests -/
abbrev stR5 (v : tX5) (re : Nat → Int32) : tX5 := (v.1, re, v.2.2)
def FR (m : Nat) (K : Nat → Nat) (k : Nat) (re : Nat → Int32) : Prop := ∀ o p d, o ≤ m → p ≤ m → d < 4 → o * 64 + p * 4 + d < k → re (o * 64 + p * 4 + d) = nI (rs m K p o (d + 1))
def FQ (m : Nat) (K : Nat → Nat) (v : tX5) (o : Option tX5) : Prop := ∃ re, o = some (stR5 v re) ∧ FR m K 1024 re
section FRL
variable {m : Nat} {K : Nat → Nat}
theorem fill_L40 {k2 : Int32 → tX5 → Option tX5} {k21 : Int32 → Int32 → tX5 → Option tX5} {v : tX5} (h : Rd v.1 m K) {o p : Nat} (ho : o ≤ m) (hp : p ≤ m) (hk : ∀ re, FR m K (o * 64 + (p + 1) * 4) re → FQ m K v (k21 (nI o) (nI (p + 1)) (stR5 v re))) : ∀ (f d : Nat) (re : Nat → Int32), 1 ≤ d → d ≤ 5 → 5 < d + f → FR m K (o * 64 + p * 4 + (d - 1)) re → FQ m K v (f_X5_fillRests_L40 k2 k21 f (nI o) (nI p) (nI d) (stR5 v re)) := by
  have hm := h.2.2.1
  intro f
  induction f with
  | zero => intro d re a b c; omega
  | succ f ih =>
    intro d re a b c hf
    rw [f_X5_fillRests_L40]
    by_cases c5 : d = 5
    · subst c5
      rw [if_pos (by decide), nI_1]
      refine hk re (fun o' p' d' x y z w => hf o' p' d' x y z (by omega))
    · have hq := rs_ok (K := K) hm hp ho a
      rw [if_neg (show ¬ (4 : Int32) < nI d from nI_nlt (a := 4) (by omega) (by omega))]
      have e1 : f_X3_rest (stR5 v re).1 (nI o) (nI p) (nI d) = some (nI (rs m K p o d)) := rest_eq h ho hp (by omega) a
      have e2 : nI d - (1 : Int32) = nI (d - 1) := nI_sub (b := 1) a
      rw [e1, Option.bind_some, e2, bit_rest (by omega) (by omega) (by omega)]
      have e3 : f_X6_put 1024 (stR5 v re).2.1 (nI (o * 64 + p * 4 + (d - 1))) (nI (rs m K p o d)) = some (upd re (o * 64 + p * 4 + (d - 1)) (nI (rs m K p o d))) := put_in re _ (by omega) (by omega)
      rw [e3, Option.bind_some, nI_1]
      refine ih (d + 1) _ (by omega) (by omega) (by omega) (fun o' p' d' x y z w => ?_)
      by_cases q : o' * 64 + p' * 4 + d' = o * 64 + p * 4 + (d - 1)
      · rw [q, upd_s]
        have e1 : o' = o := by omega
        have e2 : p' = p := by omega
        have e3 : d' + 1 = d := by omega
        rw [e1, e2, e3]
      · rw [upd_n q]
        exact hf o' p' d' x y z (by omega)
theorem fill_L21 {k2 : Int32 → tX5 → Option tX5} {v : tX5} (h : Rd v.1 m K) {o : Nat} (ho : o ≤ m) (hk : ∀ re, FR m K ((o + 1) * 64) re → FQ m K v (k2 (nI (o + 1)) (stR5 v re))) : ∀ (f p : Nat) (re : Nat → Int32), p ≤ m + 1 → m + 1 < p + f → FR m K (o * 64 + p * 4) re → FQ m K v (f_X5_fillRests_L21 k2 f (nI o) (nI p) (stR5 v re)) := by
  have hm := h.2.2.1
  have e0 : v.1.2 = nI m := h.1
  intro f
  induction f with
  | zero => intro p re a b; omega
  | succ f ih =>
    intro p re a b hf
    rw [f_X5_fillRests_L21]
    have fin : m < p → FQ m K v (f_X5_fillRests_J86 k2 (nI o) (stR5 v re)) := by
      intro q
      unfold f_X5_fillRests_J86
      rw [nI_1]
      exact hk re (fun o' p' d' x y z w => hf o' p' d' x y z (by omega))
    by_cases c1 : 14 < p
    · rw [if_pos (show (14 : Int32) < nI p from nI_lt (a := 14) c1 (by omega))]
      exact fin (by omega)
    · rw [if_neg (show ¬ (14 : Int32) < nI p from nI_nlt (a := 14) (by omega) (by omega))]
      by_cases c2 : m < p
      · rw [if_pos (show (stR5 v re).1.2 < nI p by show v.1.2 < _; rw [e0]; exact nI_lt c2 (by omega))]
        exact fin c2
      · rw [if_neg (show ¬ (stR5 v re).1.2 < nI p by show ¬ v.1.2 < _; rw [e0]; exact nI_nlt (by omega) (by omega))]
        exact fill_L40 h ho (by omega) (fun re' hf' => ih (p + 1) re' (by omega) (by omega) hf') gas 1 re (by omega) (by omega) (by show 5 < 1 + 1000000; omega) hf
theorem fill_L2 {v : tX5} (h : Rd v.1 m K) : ∀ (f o : Nat) (re : Nat → Int32), o ≤ m + 1 → m + 1 < o + f → FR m K (o * 64) re → FQ m K v (f_X5_fillRests_L2 f (nI o) (stR5 v re)) := by
  have hm := h.2.2.1
  have e0 : v.1.2 = nI m := h.1
  intro f
  induction f with
  | zero => intro o re a b; omega
  | succ f ih =>
    intro o re a b hf
    rw [f_X5_fillRests_L2]
    have fin : m < o → FQ m K v (some (stR5 v re)) := fun q => ⟨re, rfl, fun o' p' d' x y z w => hf o' p' d' x y z (by omega)⟩
    by_cases c1 : 14 < o
    · rw [if_pos (show (14 : Int32) < nI o from nI_lt (a := 14) c1 (by omega))]
      exact fin (by omega)
    · rw [if_neg (show ¬ (14 : Int32) < nI o from nI_nlt (a := 14) (by omega) (by omega))]
      by_cases c2 : m < o
      · rw [if_pos (show (stR5 v re).1.2 < nI o by show v.1.2 < _; rw [e0]; exact nI_lt c2 (by omega))]
        exact fin c2
      · rw [if_neg (show ¬ (stR5 v re).1.2 < nI o by show ¬ v.1.2 < _; rw [e0]; exact nI_nlt (by omega) (by omega))]
        exact fill_L21 h (by omega) (fun re' hf' => ih (o + 1) re' (by omega) (by omega) hf') gas 0 re (by omega) (by show m + 1 < 0 + 1000000; omega) hf
theorem fill_eq {v : tX5} (h : Rd v.1 m K) : FQ m K v (f_X5_fillRests v) := by
  have hm := h.2.2.1
  exact fill_L2 h gas 0 v.2.1 (by omega) (by show m + 1 < 0 + 1000000; omega) (fun o p d _ _ _ w => by omega)
end FRL
/-- what the class keeps about worths between its calls -/
def WI (v : tX5) : Prop := TT v ∧ (v.2.2.2.2.2.2.2.1 = 0 ∨ ∃ m K pc sp, TI v m K pc sp ∧ SI m K pc sp (tSW v))
/-- and after preparing -/
def PI (v : tX5) (r : RcS) : Prop := TT v ∧ TR v r ∧ SI (rM r) (rK r) (rPc r) (rSp r) (tSW v)
theorem PI.wi {v : tX5} {r : RcS} (h : PI v r) : WI v := ⟨h.1, Or.inr ⟨_, _, _, _, h.2.1, h.2.2⟩⟩
theorem prep_J37 {v : tX5} {v1 : tX2} {r : RcS} (hT : TT v) (hr : CR v1 r) (ok : okR r) : ∃ v', f_X5_prepare_J37 v1 v = some v' ∧ PI v' r := by
  obtain ⟨hR, -, -, hp, hs, -⟩ := hr
  obtain ⟨o1, o2, o3, o4, o5, o6, o7, -⟩ := ok
  have hR' : Rd (cpy 15 v1.1.1 v.1.1, v1.1.2) (rM r) (rK r) := by
    obtain ⟨r1, r2, r3, r4⟩ := hR
    exact ⟨r1, r2, r3, fun i a b => ⟨(cpy_in (by omega)).trans (r4 i a b).1, (r4 i a b).2⟩⟩
  obtain ⟨re, f1, f2⟩ := fill_eq (v := ((cpy 15 v1.1.1 v.1.1, v1.1.2), v.2.1, v.2.2.1, v.2.2.2.1, v.2.2.2.2.1, v.2.2.2.2.2.1, v.2.2.2.2.2.2.1, v1.2.2.2.1, v1.2.2.2.2.1)) hR'
  refine ⟨((cpy 15 v1.1.1 v.1.1, v1.1.2), re, v.2.2.1, fil 16384 0 v.2.2.2.1, fil 16384 0 v.2.2.2.2.1, v.2.2.2.2.2.1, v.2.2.2.2.2.2.1, v1.2.2.2.1, v1.2.2.2.2.1), ?_, hT, ⟨⟨hR', fun o p d a b c => f2 o p d a b c (by omega), hp, hs, ⟨o4, o5⟩, o6, o7⟩, fun n hn => ?_⟩, fun n hn => Or.inl (fil_in hn)⟩
  · unfold f_X5_prepare_J37 f_X3_takeOver
    rw [copyRow_eq _ _ (by omega), Option.bind_some]
    refine bnd rfl ?_
    refine bnd f1 ?_
    exact bnd (fillRow_eq _ _ (by omega)) (bnd (fillRow_eq _ _ (by omega)) rfl)
  · have e : fil 16384 0 v.2.2.2.1 n = 0 := fil_in hn.1
    exact ⟨Or.inl e, fun q => absurd e q⟩
theorem prepare_eq {v : tX5} {v1 : tX2} {r : RcS} (h : WI v) (hr : CR v1 r) (ok : okR r) : ∃ v', f_X5_prepare v v1 = some v' ∧ PI v' r := by
  obtain ⟨hT, hI⟩ := h
  have hJ := prep_J37 hT hr ok
  unfold f_X5_prepare
  obtain ⟨o1, o2, o3, o4, o5, o6, o7, -⟩ := ok
  have hp := hr.2.2.2.1
  have hs := hr.2.2.2.2.1
  by_cases c1 : v.2.2.2.2.2.2.2.1 = v1.2.2.2.1
  · rw [if_pos c1]
    by_cases c2 : v.2.2.2.2.2.2.2.2 = v1.2.2.2.2.1
    · rw [if_pos c2]
      rcases hI with q | ⟨m, K, pc, sp, hI, hS⟩
      · rw [q, hp] at c1
        have := (nI_z (n := rPc r) (by omega)).mp c1.symm
        omega
      · have a1 := hI.1.2.2.1
        have a2 := hI.1.2.2.2.1
        have b1 := hI.1.2.2.2.2
        have p1 : pc = rPc r := by rw [a1, hp] at c1; exact (nI_eq (by omega) (by omega)).mp c1
        have p2 : sp = rSp r := by rw [a2, hs] at c2; exact (nI_eq (by omega) (by omega)).mp c2
        subst p1 p2
        obtain ⟨c, l1, l2⟩ := like_eq hI.1.1 hr.1
        rw [l1, Option.bind_some]
        rcases l2 with l2 | ⟨l2, l3, l4⟩
        · subst l2
          rw [if_pos (show nI 0 = 0 from rfl)]
          exact hJ
        · subst l2
          rw [if_neg (show ¬ nI 1 = 0 by decide)]
          subst l3
          exact ⟨v, rfl, hT, TI_cg hI l4, SI_cg hS l4⟩
    · rw [if_neg c2]; exact hJ
  · rw [if_neg c1]; exact hJ
/-! the class's answers about worths keep what is kept -/
theorem PI_st {v : tX5} {r : RcS} {to : Nat → Int32} (h : PI v r) (ht : TR (stT v to) r) : PI (stT v to) r := ⟨h.1, ht, h.2.2⟩
theorem PI_sw {v : tX5} {r : RcS} {sw ga : Nat → Int32} {ri : Int32} (h : PI v r) (hs : SI (rM r) (rK r) (rPc r) (rSp r) sw) : PI (stG v sw ga ri) r := ⟨h.1, h.2.1, hs⟩

/-! the class's sweeps: one is right -/
def gm (m : Nat) (K : Nat → Nat) (pc sp : Nat) (W : Nat → Int) (n : Nat) : Nat → Int
  | 0 => -500
  | k + 1 => if posT pc n k then max (gm m K pc sp W n k) (bt m K sp W n k) else gm m K pc sp W n k
section SE1
variable {m : Nat} {K : Nat → Nat} {pc sp r : Nat}
theorem gm_b {v : tX5} (h : TW v m K pc sp) {n : Nat} (hv : vld m n) : ∀ k, -500 ≤ gm m K pc sp (Wo m K pc sp) n k ∧ gm m K pc sp (Wo m K pc sp) n k ≤ 999 := by
  intro k
  induction k with
  | zero => rw [gm]; omega
  | succ k ih =>
    rw [gm]
    by_cases c : posT pc n k
    · rw [if_pos c]
      have := bt_b h hv c
      omega
    · rw [if_neg c]; exact ih
theorem gm_6 {v : tX5} (h : TW v m K pc sp) {n : Nat} (hv : vld m n) : gm m K pc sp (Wo m K pc sp) n 6 = Wo m K pc sp n := by
  rw [Wo_eq h.m14 h.2.2.2.2.2 hv]
  unfold bd
  by_cases c : qL n ≠ 0
  · rw [if_pos c]
    have p0 : posT pc n 0 := by unfold posT; rw [if_pos rfl]; exact c
    have pk : ∀ k, ¬ posT pc n (k + 1) := by
      intro k q
      unfold posT at q
      rw [if_neg (by omega)] at q
      exact c q.1
    have e1 : gm m K pc sp (Wo m K pc sp) n 1 = bt m K sp (Wo m K pc sp) n 0 := by
      rw [gm, if_pos p0, gm]
      have g := Wo_b h hv
      rw [Wo_eq h.m14 h.2.2.2.2.2 hv] at g
      unfold bd at g
      rw [if_pos c] at g
      rcases g with ⟨a, b⟩ | ⟨a, b⟩ <;> omega
    rw [gm, if_neg (pk 4), gm, if_neg (pk 3), gm, if_neg (pk 2), gm, if_neg (pk 1), gm, if_neg (pk 0), e1]
  · rw [if_neg c]
    have c' : qL n = 0 := Classical.not_not.mp c
    have p0 : ¬ posT pc n 0 := by
      intro q
      unfold posT at q
      rw [if_pos rfl] at q
      exact q c'
    have : ∀ k, gm m K pc sp (Wo m K pc sp) n (k + 1) = bm m K pc sp (Wo m K pc sp) n k := by
      intro k
      induction k with
      | zero => rw [gm, if_neg p0, gm, bm]
      | succ k ih => rw [gm, bm, ih]
    exact this 5
theorem by_swept {v : tX5} (h : TW v m K pc sp) {n t : Nat} (hv : vld m n) (hp : posT pc n t) (ht : t ≤ 5) (hc : ∀ n', nxt m K sp n t = some n' → tSW v n' = nZ (Wo m K pc sp n')) : f_X5_worthBy_swept v (nI n) (nI t) = some (nZ (bt m K sp (Wo m K pc sp) n t)) := by
  unfold f_X5_worthBy_swept f_X5_worthBy_swept_J26 bt
  rw [after_eq h hv hp ht, Option.bind_some]
  rcases e : nxt m K sp n t with _ | n'
  · refine ift rfl ?_
    exact bnd (show f_X5_oneTurnBefore (-500) = some (nZ 499) by decide) rfl
  · have hv' := TI_child h hv hp e
    have hn' : n' < 16384 := hv'.1
    have g := gw_b (Wo_b h hv')
    refine iff' (nI_m1 hn') ?_
    refine bnd (at_in (tSW v) hn' (by omega)) ?_
    rw [hc n' e]
    exact bnd (before_eq g.1 g.2.1) rfl
theorem great_L6 {v : tX5} (h : TW v m K pc sp) {n : Nat} (hv : vld m n) (hc : ∀ t n', t < 6 → posT pc n t → nxt m K sp n t = some n' → tSW v n' = nZ (Wo m K pc sp n')) : ∀ (f k : Nat), k ≤ 6 → 6 < k + f → f_X5_greatestSwept_L6 v f (nI n) (nZ (gm m K pc sp (Wo m K pc sp) n k)) (nI k) = some (nZ (Wo m K pc sp n)) := by
  intro f
  induction f with
  | zero => intro k a b; omega
  | succ f ih =>
    intro k a b
    rw [f_X5_greatestSwept_L6]
    by_cases c6 : k = 6
    · subst c6
      rw [if_pos (by decide), gm_6 h hv]
    · rw [if_neg (show ¬ (5 : Int32) < nI k from nI_nlt (a := 5) (by omega) (by omega)), possible_eq h hv.1 (by omega), Option.bind_some]
      unfold f_X5_greatestSwept_J35
      rw [nI_1]
      by_cases cp : posT pc n k
      · rw [if_pos cp, if_neg (by decide), by_swept h hv cp (by omega) (fun n' e => hc k n' (by omega) cp e), Option.bind_some]
        have g1 := gm_b h hv k
        have g2 := bt_b h hv cp
        have e : (if nZ (gm m K pc sp (Wo m K pc sp) n k) < nZ (bt m K sp (Wo m K pc sp) n k) then nZ (bt m K sp (Wo m K pc sp) n k) else nZ (gm m K pc sp (Wo m K pc sp) n k)) = nZ (gm m K pc sp (Wo m K pc sp) n (k + 1)) := by
          rw [gm, if_pos cp]
          by_cases q : gm m K pc sp (Wo m K pc sp) n k < bt m K sp (Wo m K pc sp) n k
          · rw [if_pos (by rw [nZ_lt (by omega) (by omega) (by omega) (by omega)]; exact q), Int.max_eq_right (by omega)]
          · rw [if_neg (by rw [nZ_lt (by omega) (by omega) (by omega) (by omega)]; exact q), Int.max_eq_left (by omega)]
        rw [e]
        exact ih (k + 1) (by omega) (by omega)
      · rw [if_neg cp, if_pos (show nI 0 = 0 from rfl)]
        have e : gm m K pc sp (Wo m K pc sp) n k = gm m K pc sp (Wo m K pc sp) n (k + 1) := by rw [gm, if_neg cp]
        rw [e]
        exact ih (k + 1) (by omega) (by omega)
theorem sweep_L9 {v : tX5} (h : TW v m K pc sp) {ga : Nat → Int32} {ri : Nat} (hr : ri < 16384) {X : Nat → Nat} (hX : ∀ j, j < ri → ga j = nI (X j) ∧ vld m (X j)) (hM : ∀ i j, i < j → j < ri → kap (X i) < kap (X j)) : ∀ (f i l1 : Nat) (sw : Nat → Int32), i ≤ ri → i < f → l1 ≤ 1 → GI m K pc sp sw → (∀ j, j < ri → ∀ t n', t < 6 → posT pc (X j) t → nxt m K sp (X j) t = some n' → sw n' ≠ 0) → (∀ n, vld m n → sw n = nI 1000 → ∃ j, j < i ∧ X j = n) →
    ∃ l1' sw', f_X5_sweep_L9 f (nI l1) (nI i + (-1 : Int32)) (stG v sw ga (nI ri)) = some (nI l1', stG v sw' ga (nI ri)) ∧ l1' ≤ 1 ∧ SI m K pc sp sw' ∧ (∀ x, sw x ≠ 0 → sw' x ≠ 0) ∧ ((l1 = 0 ∧ ∀ j, j < i → sw (X j) = nZ (Wo m K pc sp (X j))) → l1' = 0) := by
  intro f
  induction f with
  | zero => intro i l1 sw a b; omega
  | succ f ih =>
    intro i l1 sw a b hl hg hc h1
    rw [f_X5_sweep_L9]
    by_cases c : i = 0
    · subst c
      refine ⟨l1, sw, ift (by decide) (ift (nI_bq hl) rfl), hl, fun n hn => ?_, fun x hx => hx, fun e => e.1⟩
      rcases hg n hn with q | ⟨q1, q2⟩
      · exact Or.inl q
      · rcases q2 with q2 | q2
        · exact Or.inr ⟨q1, q2⟩
        · obtain ⟨j, j1, -⟩ := h1 n q1 q2
          omega
    · have e : nI i + (-1 : Int32) = nI (i - 1) := nI_dn (by omega)
      obtain ⟨x1, x2⟩ := hX (i - 1) (by omega)
      have hc1 := hc (i - 1) (by omega)
      generalize hn : X (i - 1) = n at *
      have tn : n < 16384 := x2.1
      have nz := Wo_nz h x2
      have hch : ∀ t n', t < 6 → posT pc n t → nxt m K sp n t = some n' → tSW (stG v sw ga (nI ri)) n' = nZ (Wo m K pc sp n') := by
        intro t n' p q w
        have v' := TI_child h x2 q w
        have kk := kap_child h.m14 x2 q w
        rcases hg n' v'.1 with z | ⟨-, z | z⟩
        · exact absurd z (hc1 t n' p q w)
        · exact z
        · obtain ⟨j, j1, j2⟩ := h1 n' v' z
          exfalso
          by_cases ji : j = i - 1
          · subst ji; rw [hn] at j2; subst j2; omega
          · have := hM j (i - 1) (by omega) (by omega)
            rw [hn, j2] at this
            omega
      have eg : f_X5_greatestSwept (stG v sw ga (nI ri)) (nI n) = some (nZ (Wo m K pc sp n)) := by
        unfold f_X5_greatestSwept
        exact great_L6 (v := stG v sw ga (nI ri)) h x2 hch gas 0 (by omega) (by show 6 < 0 + 1000000; omega)
      have a1 : f_X6_at 16384 (stG v sw ga (nI ri)).2.2.2.2.2.1 (nI (i - 1)) = some (nI n) := by
        rw [← x1]; exact at_in ga (by omega) (by omega)
      have a2 : f_X6_at 16384 (stG v sw ga (nI ri)).2.2.2.2.1 (nI n) = some (sw n) := at_in sw tn (by omega)
      have hold : ∀ x, x ≠ n → upd sw n (nZ (Wo m K pc sp n)) x = sw x := fun x q => upd_n q
      have nxtS : ∀ l2, l2 ≤ 1 → ∃ l1' sw', f_X5_sweep_J51 (f_X5_sweep_L9 f) (nI (i - 1)) (nI n) (nZ (Wo m K pc sp n)) (nI l2) (stG v sw ga (nI ri)) = some (nI l1', stG v sw' ga (nI ri)) ∧ l1' ≤ 1 ∧ SI m K pc sp sw' ∧ (∀ x, sw x ≠ 0 → sw' x ≠ 0) ∧ ((l2 = 0 ∧ ∀ j, j < i → sw (X j) = nZ (Wo m K pc sp (X j))) → l1' = 0) := by
        intro l2 hl2
        obtain ⟨l1', sw', r1, r2, r3, r4, r5⟩ := ih (i - 1) l2 (upd sw n (nZ (Wo m K pc sp n))) (by omega) (by omega) hl2 (fun x hx => by
            by_cases q : x = n
            · subst q; exact Or.inr ⟨x2, Or.inl upd_s⟩
            · rw [hold x q]; exact hg x hx) (fun j hj t n' p q w => by
            by_cases q' : n' = n
            · subst q'; rw [upd_s]; exact nz
            · rw [hold n' q']; exact hc j hj t n' p q w) (fun x hx hx0 => by
            by_cases q : x = n
            · subst q; rw [upd_s] at hx0; exact absurd hx0 (Wo_1000 h x2)
            · rw [hold x q] at hx0
              obtain ⟨j, j1, j2⟩ := h1 x hx hx0
              refine ⟨j, ?_, j2⟩
              by_cases ji : j = i - 1
              · subst ji; rw [hn] at j2; exact absurd j2.symm q
              · omega)
        refine ⟨l1', sw', ?_, r2, r3, fun x hx => ?_, fun e => ?_⟩
        · unfold f_X5_sweep_J51
          refine bnd (put_in sw _ tn (by omega)) ?_
          exact r1
        · refine r4 x ?_
          by_cases q : x = n
          · subst q; rw [upd_s]; exact nz
          · rw [hold x q]; exact hx
        · refine r5 ⟨e.1, fun j hj => ?_⟩
          by_cases q : X j = n
          · rw [q, upd_s]
          · rw [hold _ q]; exact e.2 j (by omega)
      have body : ∀ R, (if nI l1 = 0 then (f_X6_at 16384 (stG v sw ga (nI ri)).2.2.2.2.1 (nI n)).bind fun x3 => (if nZ (Wo m K pc sp n) = x3 then f_X5_sweep_J51 (f_X5_sweep_L9 f) (nI (i - 1)) (nI n) (nZ (Wo m K pc sp n)) (0 : Int32) (stG v sw ga (nI ri)) else f_X5_sweep_J46 (f_X5_sweep_L9 f) (nI (i - 1)) (nI n) (nZ (Wo m K pc sp n)) (stG v sw ga (nI ri))) else f_X5_sweep_J46 (f_X5_sweep_L9 f) (nI (i - 1)) (nI n) (nZ (Wo m K pc sp n)) (stG v sw ga (nI ri))) = R → f_X5_sweep_L9 (f + 1) (nI l1) (nI i + (-1 : Int32)) (stG v sw ga (nI ri)) = R := by
        intro R q
        rw [f_X5_sweep_L9, e, if_neg (nI_pos (by omega)), a1, Option.bind_some, eg, Option.bind_some]
        exact q
      rw [f_X5_sweep_L9] at body
      have one : (1 : Int32) = nI 1 := rfl
      by_cases c1 : l1 = 0
      · subst c1
        by_cases c2 : nZ (Wo m K pc sp n) = sw n
        · obtain ⟨l1', sw', r1, r2, r3, r4, r5⟩ := nxtS 0 (by omega)
          exact ⟨l1', sw', body _ (ift rfl (bnd a2 (ift c2 r1))), r2, r3, r4, r5⟩
        · obtain ⟨l1', sw', r1, r2, r3, r4, r5⟩ := nxtS 1 (by omega)
          refine ⟨l1', sw', body _ (ift rfl (bnd a2 (iff' c2 ?_))), r2, r3, r4, fun e => ?_⟩
          · unfold f_X5_sweep_J46; exact r1
          · have := e.2 (i - 1) (by omega)
            rw [hn] at this
            exact absurd this.symm c2
      · obtain ⟨l1', sw', r1, r2, r3, r4, r5⟩ := nxtS 1 (by omega)
        refine ⟨l1', sw', body _ (iff' (by rw [nI_z (by omega)]; exact c1) ?_), r2, r3, r4, fun e => absurd e.1 c1⟩
        unfold f_X5_sweep_J46; exact r1
end SE1
/-- the class's worth told by sweeps -/
theorem bySweeps_eq {v : tX5} {v1 : tX2} {r : RcS} (h : TW v (rM r) (rK r) (rPc r) (rSp r)) (hT : TT v) (hS : SI (rM r) (rK r) (rPc r) (rSp r) (tSW v)) (hr : CR v1 r) (ok : okR r) (hw : rWi r = -4) : ∃ sw ga ri, f_X5_toldBySweeps v v1 = some (nZ (sWo r), stG v sw ga ri) ∧ SI (rM r) (rK r) (rPc r) (rSp r) sw := by
  have hv := (sSt_q ok hw).1
  have hn : sSt r < 16384 := hv.1
  generalize en : sSt r = n at *
  have toW : ∀ sw : Nat → Int32, SI (rM r) (rK r) (rPc r) (rSp r) sw → sw n ≠ 0 → sw n = nZ (sWo r) := by
    intro sw hs h0
    rcases hs n hn with q | q
    · exact absurd q h0
    · rw [q.2]; unfold sWo; rw [en]
  have a1 : f_X6_at 16384 v.2.2.2.2.1 (nI n) = some (tSW v n) := at_in (tSW v) hn (by omega)
  have es : f_X5_standOf v1 = some (nI n) := by rw [← en]; exact standOf_eq hr ok hw
  by_cases c : tSW v n = 0
  · obtain ⟨sw, ga, ri, g1, g2, g3, g4, g5, X, x1, x2, x3⟩ := gather_eq h hT hS hv
    have none' : ∀ x, vld (rM r) x → sw x = nI 1000 → ∃ j, j < ri ∧ X j = x := by
      intro x hx hx0
      rcases x3 x hx hx0 with q | q
      · have := kap_v h.m14 hx; omega
      · exact q
    have z1000 : (nI 1000 : Int32) ≠ 0 := by decide
    obtain ⟨f1, s1, r1, r2, r3, r4, r5⟩ := sweep_L9 (v := v) h g2 (fun j hj => ⟨(x1 j hj).1, (x1 j hj).2.1⟩) x2 gas ri 0 sw (Nat.le_refl _) (by show ri < 1000000; omega) (by omega) g3 (fun j hj => (x1 j hj).2.2.2.2) none'
    obtain ⟨f2, s2, q1, q2, q3, q4, q5⟩ := sweep_L9 (v := v) h g2 (fun j hj => ⟨(x1 j hj).1, (x1 j hj).2.1⟩) x2 gas ri 0 s1 (Nat.le_refl _) (by show ri < 1000000; omega) (by omega) (fun x hx => by
      rcases r3 x hx with q | ⟨a, b⟩
      · exact Or.inl q
      · exact Or.inr ⟨a, Or.inl b⟩) (fun j hj t n' p q w => r4 n' ((x1 j hj).2.2.2.2 t n' p q w)) (fun x hx hx0 => by
      exfalso
      rcases r3 x hx.1 with q | ⟨a, b⟩
      · rw [hx0] at q; exact z1000 q
      · rw [hx0] at b; exact Wo_1000 h hx b.symm)
    have f20 : f2 = 0 := q5 ⟨rfl, fun j hj => by
      obtain ⟨a, b, c, d, e⟩ := x1 j hj
      rcases r3 (X j) b.1 with q | ⟨-, q⟩
      · exact absurd q (r4 _ (by rw [d]; exact z1000))
      · exact q⟩
    subst f20
    have m1 : nI ri - (1 : Int32) = nI ri + (-1 : Int32) := by rw [Int32.sub_eq_add_neg]
    have sw1 : f_X5_sweep (stG v sw ga (nI ri)) = some (nI f1, stG v s1 ga (nI ri)) := by
      unfold f_X5_sweep
      show f_X5_sweep_L9 gas 0 (nI ri - (1 : Int32)) _ = _
      rw [m1]; exact r1
    have sw2 : f_X5_sweep (stG v s1 ga (nI ri)) = some (nI 0, stG v s2 ga (nI ri)) := by
      unfold f_X5_sweep
      show f_X5_sweep_L9 gas 0 (nI ri - (1 : Int32)) _ = _
      rw [m1]; exact q1
    have fin : ∀ (l4 : Int32) (f : Nat) (s : Nat → Int32), SI (rM r) (rK r) (rPc r) (rSp r) s → s n ≠ 0 → ¬ (1000 : Int32) ≤ l4 → f_X5_toldBySweeps_L34 v1 (f + 1) (nI n) (nI 0) l4 (stG v s ga (nI ri)) = some (nZ (sWo r), stG v s ga (nI ri)) := by
      intro l4 f s hs h0 hl
      rw [f_X5_toldBySweeps_L34, if_neg hl, if_pos (show nI 0 = 0 from rfl)]
      unfold f_X5_toldBySweeps_J57
      rw [show f_X6_at 16384 (stG v s ga (nI ri)).2.2.2.2.1 (nI n) = some (s n) from at_in s hn (by omega), Option.bind_some, toW s hs h0]
    have head : ∀ R, f_X5_toldBySweeps_L34 v1 gas (nI n) (1 : Int32) (0 : Int32) (stG v sw ga (nI ri)) = R → f_X5_toldBySweeps v v1 = R := by
      intro R q
      unfold f_X5_toldBySweeps
      rw [es, Option.bind_some, a1, Option.bind_some, if_pos c]
      unfold f_X5_toldBySweeps_J21
      rw [if_neg (by decide), g1, Option.bind_some]
      exact q
    have step : ∀ (f : Nat) (l3 l4 : Int32) (v' : tX5) (x : Int32 × tX5), ¬ (1000 : Int32) ≤ l4 → l3 ≠ 0 → f_X5_sweep v' = some x → f_X5_toldBySweeps_L34 v1 (f + 1) (nI n) l3 l4 v' = f_X5_toldBySweeps_L34 v1 f (nI n) x.1 (l4 + (1 : Int32)) x.2 := by
      intro f l3 l4 v' x n1 n2 e
      rw [f_X5_toldBySweeps_L34, if_neg n1, if_neg n2, e, Option.bind_some]
    by_cases c1 : f1 = 0
    · subst c1
      refine ⟨s1, ga, nI ri, head _ ?_, r3⟩
      show f_X5_toldBySweeps_L34 v1 (999998 + 1 + 1) _ _ _ _ = _
      rw [step _ _ _ _ _ (by decide) (by decide) sw1]
      exact fin _ _ s1 r3 (r4 n g5) (by decide)
    · refine ⟨s2, ga, nI ri, head _ ?_, q3⟩
      show f_X5_toldBySweeps_L34 v1 (999997 + 1 + 1 + 1) _ _ _ _ = _
      rw [step _ _ _ _ _ (by decide) (by decide) sw1]
      have n0 : nI f1 ≠ 0 := by rw [Ne, nI_z (by omega)]; exact c1
      rw [step _ _ _ _ _ (by decide) n0 sw2]
      exact fin _ _ s2 q3 (q4 n (r4 n g5)) (by decide)
  · refine ⟨tSW v, v.2.2.2.2.2.1, v.2.2.2.2.2.2.1, ?_, hS⟩
    unfold f_X5_toldBySweeps
    rw [es, Option.bind_some, a1, Option.bind_some, if_neg c]
    unfold f_X5_toldBySweeps_J21 f_X5_toldBySweeps_J31
    rw [if_pos rfl]
    show f_X5_toldBySweeps_L34 v1 (999999 + 1) _ _ _ _ = _
    rw [f_X5_toldBySweeps_L34, if_neg (by decide), if_pos rfl]
    unfold f_X5_toldBySweeps_J57
    rw [a1, Option.bind_some, toW _ hS c]

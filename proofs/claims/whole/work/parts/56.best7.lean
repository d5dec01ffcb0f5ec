/-! the reference's answers about worths -/
abbrev WR7 (v : tX7) (r : RcS) : Prop := WR v (rM r) (rK r) (rPc r) (rSp r)
def PQ7 (v : tX7) (r : RcS) (z : tX7) : Prop := ∃ wo, SM8 v wo 1 z ∧ ∀ n, vld (rM r) n → G7 (rM r) (rK r) (rPc r) (rSp r) wo n
/-- what looking leaves: the race as it was, and worths that are right -/
def KP (v : tX7) (r : RcS) (z : tX7) : Prop := (∃ wo a, SM8 v wo a z) ∧ WR7 z r
theorem PQ7.wr {v z : tX7} {r : RcS} (h : PQ7 v r z) : WR7 z r := by
  obtain ⟨wo, ⟨_, _, _, _, _, rfl⟩, h2⟩ := h
  exact Or.inr h2
theorem PQ7.kp {v z : tX7} {r : RcS} (h : PQ7 v r z) : KP v r z := by
  have := h.wr
  obtain ⟨wo, h1, h2⟩ := h
  exact ⟨⟨wo, 1, h1⟩, this⟩
theorem PQ7.s {v z : tX7} {r : RcS} (h : PQ7 v r z) : z.2.1 = v.2.1 := by
  obtain ⟨wo, ⟨_, _, _, _, _, rfl⟩, h2⟩ := h
  rfl
theorem PQ7.g {v z : tX7} {r : RcS} (h : PQ7 v r z) : ∀ n, vld (rM r) n → G7 (rM r) (rK r) (rPc r) (rSp r) (w_wo z) n := by
  obtain ⟨wo, ⟨_, _, _, _, _, rfl⟩, h2⟩ := h
  exact h2
theorem PQ7.sm {v z z' : tX7} {r : RcS} (h : PQ7 v r z) (h2 : sm7 z z') : PQ7 v r z' := by
  obtain ⟨wo, ⟨_, _, _, _, _, rfl⟩, h3⟩ := h
  obtain ⟨q1, q2, q3, q4, q5, rfl⟩ := h2
  exact ⟨wo, ⟨q1, q2, q3, q4, q5, rfl⟩, h3⟩
theorem PQ7.tr {v z z' : tX7} {r : RcS} (h : PQ7 v r z) (h2 : PQ7 z r z') : PQ7 v r z' := by
  obtain ⟨wo, ⟨_, _, _, _, _, rfl⟩, h3⟩ := h
  obtain ⟨wo', ⟨q1, q2, q3, q4, q5, rfl⟩, h4⟩ := h2
  exact ⟨wo', ⟨q1, q2, q3, q4, q5, rfl⟩, h4⟩
theorem KP.s {v z : tX7} {r : RcS} (h : KP v r z) : z.2.1 = v.2.1 := by
  obtain ⟨⟨wo, a, ⟨_, _, _, _, _, rfl⟩⟩, h2⟩ := h
  rfl
theorem KP.tr {v z z' : tX7} {r : RcS} (h : KP v r z) (h2 : KP z r z') : KP v r z' := by
  obtain ⟨⟨wo, a, ⟨_, _, _, _, _, rfl⟩⟩, h3⟩ := h
  obtain ⟨⟨wo', a', ⟨q1, q2, q3, q4, q5, rfl⟩⟩, h4⟩ := h2
  exact ⟨⟨wo', a', ⟨q1, q2, q3, q4, q5, rfl⟩⟩, h4⟩
theorem KP.refl {v : tX7} {r : RcS} (h : WR7 v r) : KP v r v := ⟨⟨w_wo v, w_ta v, ⟨_, _, _, _, _, rfl⟩⟩, h⟩
theorem E7_of {v : tX7} {r : RcS} (h : MR v.2.1 r) (ok : okR r) : E7 v (rM r) (rK r) (rPc r) (rSp r) := by
  have hR := MR_R h ok
  obtain ⟨o1, o2, o3, o4, o5, o6, o7, -⟩ := ok
  exact ⟨hR, h.1, h.2.1, ⟨o4, o5⟩, o6, o7⟩
theorem tellsR {v : tX7} {r : RcS} (h : MR v.2.1 r) (ok : okR r) (hw : WR7 v r) : ∃ z, f_X7_tells v = some z ∧ PQ7 v r z := by
  obtain ⟨wo, z, e1, e2, e3⟩ := tells7 (E7_of h ok) hw
  exact ⟨z, e1, wo, e2, e3⟩
theorem worthNow_eq {v : tX7} {r : RcS} (h : MR v.2.1 r) (ok : okR r) (hw : WR7 v r) (hn : rWi r = -4) : ∃ z, f_X7_worthNow v = some (nZ (sWo r), z) ∧ PQ7 v r z := by
  obtain ⟨z, z1, z2⟩ := tellsR h ok hw
  have hz := z2.s
  have ho := ok.2.2.2.2.2.2.2.1
  have h17 : z.2.1 17 = nI (rOt r) := by rw [hz]; exact MR_17 h
  have h1m : (1 : Int32) - z.2.1 17 = nI (1 - rOt r) := by rw [h17]; exact nI_1m ho
  have w0 := MR_W h ho
  have w1 := MR_W h (show 1 - rOt r ≤ 1 by omega)
  obtain ⟨hv, -⟩ := sSt_q ok hn
  refine ⟨z, ?_, z2⟩
  unfold f_X7_worthNow
  refine bnd (isOver7 h) ?_
  refine ift (by rw [if_pos hn]; rfl) ?_
  refine bnd z1 ?_
  refine bnd (of7 (k := 0) h17 rfl ho (by omega)) ?_
  refine bnd (of7 (k := 0) h1m rfl (by omega) (by omega)) ?_
  refine bnd (of7 (k := 1) h17 rfl ho (by omega)) ?_
  refine bnd (of7 (k := 1) h1m rfl (by omega) (by omega)) ?_
  refine bnd (of7 (k := 2) h17 rfl ho (by omega)) ?_
  refine bnd (of7 (k := 2) h1m rfl (by omega) (by omega)) ?_
  have e : f_X7_numberOf (z.2.1 (23 + 8 * rOt r + 0)) (z.2.1 (23 + 8 * (1 - rOt r) + 0)) (z.2.1 (23 + 8 * rOt r + 1)) (z.2.1 (23 + 8 * (1 - rOt r) + 1)) (z.2.1 (23 + 8 * rOt r + 2)) (z.2.1 (23 + 8 * (1 - rOt r) + 2)) = some (nI (sSt r)) := by
    rw [hz, show 23 + 8 * rOt r + 0 = 23 + 8 * rOt r by omega, show 23 + 8 * (1 - rOt r) + 0 = 23 + 8 * (1 - rOt r) by omega, show 23 + 8 * rOt r + 1 = 24 + 8 * rOt r by omega, show 23 + 8 * (1 - rOt r) + 1 = 24 + 8 * (1 - rOt r) by omega, show 23 + 8 * rOt r + 2 = 25 + 8 * rOt r by omega, show 23 + 8 * (1 - rOt r) + 2 = 25 + 8 * (1 - rOt r) by omega, w0.1, w1.1, w0.2.1, w1.2.1, w0.2.2.1, w1.2.2.1]
    exact number7
  refine bnd e ?_
  refine ift (ig_t (by have := hv.1; omega) (by omega)) ?_
  rw [nI_clamp (by have := hv.1; omega)]
  have g := z2.g (sSt r) hv
  unfold G7 at g
  show some (w_wo z (sSt r), z) = _
  rw [g]
theorem worthOver_eq {v : tX7} {r : RcS} (h : MR v.2.1 r) (hn : rWi r ≠ -4) : f_X7_worthNow v = some (-500, v) := by
  unfold f_X7_worthNow
  refine bnd (isOver7 h) ?_
  exact iff' (by rw [if_neg hn]; decide) rfl
theorem turnW_eq {v : tX7} {r : RcS} (h : MR v.2.1 r) (ok : okR r) (hw : WR7 v r) (hn : rWi r = -4) {t : Nat} (h1 : 1 ≤ t) (h5 : t ≤ 5) (hp : posT (rPc r) (sSt r) t) : ∃ z, f_X7_worthOfTurn v (nI t) = some (nZ (bt (rM r) (rK r) (rSp r) (Wo (rM r) (rK r) (rPc r) (rSp r)) (sSt r) t), z) ∧ PQ7 v r z := by
  obtain ⟨z, z1, z2⟩ := tellsR h ok hw
  have hz := z2.s
  have ho := ok.2.2.2.2.2.2.2.1
  have hmr : MR z.2.1 r := by rw [hz]; exact h
  have h17 : z.2.1 17 = nI (rOt r) := MR_17 hmr
  have h1m : (1 : Int32) - z.2.1 17 = nI (1 - rOt r) := by rw [h17]; exact nI_1m ho
  have w0 := MR_W hmr ho
  have w1 := MR_W hmr (show 1 - rOt r ≤ 1 by omega)
  obtain ⟨hv, q1, q2, q3, q4, q5, q6⟩ := sSt_q ok hn
  have E := E7_of hmr ok
  have g := z2.g
  have a0 : f_X7_of z (z.2.1 17) (0 : Int32) = some (nI (qO (sSt r))) := by
    refine (of7 (k := 0) h17 rfl ho (by omega)).trans ?_
    rw [q1]
    exact congrArg some w0.1
  have a1 : f_X7_of z ((1 : Int32) - z.2.1 17) (0 : Int32) = some (nI (qP (sSt r))) := by
    refine (of7 (k := 0) h1m rfl (by omega) (by omega)).trans ?_
    rw [q2]
    exact congrArg some w1.1
  have a2 : f_X7_of z (z.2.1 17) (1 : Int32) = some (nI (qT (sSt r))) := by
    refine (of7 (k := 1) h17 rfl ho (by omega)).trans ?_
    rw [q3, show 23 + 8 * rOt r + 1 = 24 + 8 * rOt r by omega]
    exact congrArg some w0.2.1
  have a3 : f_X7_of z ((1 : Int32) - z.2.1 17) (1 : Int32) = some (nI (qU (sSt r))) := by
    refine (of7 (k := 1) h1m rfl (by omega) (by omega)).trans ?_
    rw [q4, show 23 + 8 * (1 - rOt r) + 1 = 24 + 8 * (1 - rOt r) by omega]
    exact congrArg some w1.2.1
  have a4 : f_X7_of z ((1 : Int32) - z.2.1 17) (2 : Int32) = some (nI (qM (sSt r))) := by
    refine (of7 (k := 2) h1m rfl (by omega) (by omega)).trans ?_
    rw [q6, show 23 + 8 * (1 - rOt r) + 2 = 25 + 8 * (1 - rOt r) by omega]
    exact congrArg some w1.2.2.1
  have hc : ∀ n', nxt (rM r) (rK r) (rSp r) (sSt r) t = some n' → w_wo z n' = nZ (Wo (rM r) (rK r) (rPc r) (rSp r) n') := fun n' e => g n' (E.child hv hp e)
  unfold f_X7_worthOfTurn
  by_cases c : t = 5
  · subst c
    refine ⟨z, ?_, z2⟩
    refine bnd z1 (bnd a0 (bnd a1 (ift rfl ?_)))
    exact bnd a3 (bnd a4 (bnd (behindT7 E hv hp hc) rfl))
  · obtain ⟨y, y1, y2⟩ := behindD7 E hv h1 (by omega) hp hc
    refine ⟨y, ?_, z2.sm y2⟩
    refine bnd z1 (bnd a0 (bnd a1 (iff' (fun e => c ((nI_eq (b := 5) (by omega) (by omega)).mp e)) ?_)))
    exact bnd a2 (bnd a3 (bnd a4 (bnd y1 rfl)))
theorem bm_ge {m : Nat} {K : Nat → Nat} {pc sp n : Nat} {W : Nat → Int} {t : Nat} (h1 : 1 ≤ t) (hp : posT pc n t) : ∀ k, t ≤ k → bt m K sp W n t ≤ bm m K pc sp W n k := by
  intro k
  induction k with
  | zero => intro h; omega
  | succ k ih =>
    intro h
    rw [bm]
    by_cases e : t = k + 1
    · subst e
      rw [if_pos hp]
      omega
    · have := ih (by omega)
      by_cases c : posT pc n (k + 1)
      · rw [if_pos c]; omega
      · rw [if_neg c]; exact this
theorem best7_L30 {r : RcS} (ok : okR r) (hn : rWi r = -4) (hl : gLs (rW r (rOt r)) = 0) : ∀ (f k T : Nat) (v : tX7), MR v.2.1 r → WR7 v r → 2 ≤ k → k ≤ 6 → 6 < k + f → (1 ≤ T ∧ T < k ∧ posT (rPc r) (sSt r) T ∧ bt (rM r) (rK r) (rSp r) (Wo (rM r) (rK r) (rPc r) (rSp r)) (sSt r) T = bm (rM r) (rK r) (rPc r) (rSp r) (Wo (rM r) (rK r) (rPc r) (rSp r)) (sSt r) (k - 1) ∧ ∀ t, 1 ≤ t → t < T → posT (rPc r) (sSt r) t → bt (rM r) (rK r) (rSp r) (Wo (rM r) (rK r) (rPc r) (rSp r)) (sSt r) t < bm (rM r) (rK r) (rPc r) (rSp r) (Wo (rM r) (rK r) (rPc r) (rSp r)) (sSt r) (k - 1)) →
    ∃ T' z, f_X7_bestNow_L30 f (nI (rOt r)) (nI T) (nZ (bm (rM r) (rK r) (rPc r) (rSp r) (Wo (rM r) (rK r) (rPc r) (rSp r)) (sSt r) (k - 1))) (nI k) v = some (nI T', z) ∧ isB (rM r) (rK r) (rPc r) (rSp r) (sSt r) T' ∧ KP v r z := by
  obtain ⟨hv, q1, q2, q3, q4, q5, q6⟩ := sSt_q ok hn
  have hql : qL (sSt r) = 0 := by rw [q5]; exact hl
  have ho := ok.2.2.2.2.2.2.2.1
  have hpc : 1 ≤ rPc r ∧ rPc r ≤ 4 := ⟨ok.2.2.2.1, ok.2.2.2.2.1⟩
  intro f
  induction f with
  | zero => intro k T v h hw a b c; omega
  | succ f ih =>
    intro k T v h hw a b c hT
    have E := E7_of h ok
    rw [f_X7_bestNow_L30]
    by_cases c6 : k = 6
    · subst c6
      obtain ⟨t1, t2, t3, t4, t5⟩ := hT
      have hb : Wo (rM r) (rK r) (rPc r) (rSp r) (sSt r) = bm (rM r) (rK r) (rPc r) (rSp r) (Wo (rM r) (rK r) (rPc r) (rSp r)) (sSt r) 5 := by
        have := Wo_eq (K := rK r) (pc := rPc r) E.m14 E.2.2.2.2 hv
        unfold bd at this
        rw [if_neg (fun e => e hql)] at this
        exact this
      refine ⟨T, v, ift (by decide) rfl, ⟨fun e => absurd hql e, fun _ => ⟨t1, by omega, t3, ?_, fun t x y z => ?_⟩⟩, KP.refl hw⟩
      · rw [t4]; exact hb.symm
      · have := t5 t x y z
        have hb' : bm (rM r) (rK r) (rPc r) (rSp r) (Wo (rM r) (rK r) (rPc r) (rSp r)) (sSt r) (6 - 1) = Wo (rM r) (rK r) (rPc r) (rSp r) (sSt r) := hb.symm
        rw [hb'] at this
        omega
    · have n5 : ¬ (5 : Int32) < nI k := show ¬ nI 5 < nI k from nI_nlt (by omega) (by omega)
      have ek : k - 1 + 1 = k := by omega
      have gb := bm_b7 E hv (k - 1)
      have next : ∀ (b : Prop) [Decidable b], (b ↔ posT (rPc r) (sSt r) k) → ∃ T' z, f_X7_bestNow_J76 (f_X7_bestNow_L30 f) (nI (rOt r)) (nI T) (nZ (bm (rM r) (rK r) (rPc r) (rSp r) (Wo (rM r) (rK r) (rPc r) (rSp r)) (sSt r) (k - 1))) (nI k) (if b then 1 else 0) v = some (nI T', z) ∧ isB (rM r) (rK r) (rPc r) (rSp r) (sSt r) T' ∧ KP v r z := by
        intro b _ hb
        obtain ⟨t1, t2, t3, t4, t5⟩ := hT
        by_cases cp : b
        · have pk := hb.mp cp
          rw [if_pos cp]
          obtain ⟨z, z1, z2⟩ := turnW_eq h ok hw hn (show 1 ≤ k by omega) (show k ≤ 5 by omega) pk
          have gt := bt_b7 E hv pk
          have es : bm (rM r) (rK r) (rPc r) (rSp r) (Wo (rM r) (rK r) (rPc r) (rSp r)) (sSt r) k = max (bm (rM r) (rK r) (rPc r) (rSp r) (Wo (rM r) (rK r) (rPc r) (rSp r)) (sSt r) (k - 1)) (bt (rM r) (rK r) (rSp r) (Wo (rM r) (rK r) (rPc r) (rSp r)) (sSt r) k) := by
            have := show bm (rM r) (rK r) (rPc r) (rSp r) (Wo (rM r) (rK r) (rPc r) (rSp r)) (sSt r) (k - 1 + 1) = if posT (rPc r) (sSt r) (k - 1 + 1) then max (bm (rM r) (rK r) (rPc r) (rSp r) (Wo (rM r) (rK r) (rPc r) (rSp r)) (sSt r) (k - 1)) (bt (rM r) (rK r) (rSp r) (Wo (rM r) (rK r) (rPc r) (rSp r)) (sSt r) (k - 1 + 1)) else bm (rM r) (rK r) (rPc r) (rSp r) (Wo (rM r) (rK r) (rPc r) (rSp r)) (sSt r) (k - 1) from rfl
            rw [ek, if_pos pk] at this
            exact this
          have hmr : MR z.2.1 r := by rw [z2.s]; exact h
          unfold f_X7_bestNow_J76
          rw [if_neg (by decide), z1, Option.bind_some]
          unfold f_X7_bestNow_J95
          rw [if_neg (by decide)]
          by_cases q : bt (rM r) (rK r) (rSp r) (Wo (rM r) (rK r) (rPc r) (rSp r)) (sSt r) k ≤ bm (rM r) (rK r) (rPc r) (rSp r) (Wo (rM r) (rK r) (rPc r) (rSp r)) (sSt r) (k - 1)
          · rw [Int.max_eq_left q] at es
            have le : nZ (bt (rM r) (rK r) (rSp r) (Wo (rM r) (rK r) (rPc r) (rSp r)) (sSt r) k) ≤ nZ (bm (rM r) (rK r) (rPc r) (rSp r) (Wo (rM r) (rK r) (rPc r) (rSp r)) (sSt r) (k - 1)) := (mxZ (by omega) (by omega) (by omega) (by omega)).mpr q
            dsimp only
            rw [if_pos le]
            unfold f_X7_bestNow_J113 f_X7_bestNow_J114
            rw [if_neg (by decide), if_pos le]
            unfold f_X7_bestNow_J131 f_X7_bestNow_J132
            rw [nI_1, ← es]
            obtain ⟨T', y, y1, y2, y3⟩ := ih (k + 1) T z hmr z2.wr (by omega) (by omega) (by omega) ⟨t1, by omega, t3, by rw [show k + 1 - 1 = k by omega, es]; exact t4, fun t x1 x2 x3 => by rw [show k + 1 - 1 = k by omega, es]; exact t5 t x1 x2 x3⟩
            rw [show k + 1 - 1 = k by omega] at y1
            exact ⟨T', y, y1, y2, z2.kp.tr y3⟩
          · rw [Int.max_eq_right (by omega)] at es
            have le : ¬ nZ (bt (rM r) (rK r) (rSp r) (Wo (rM r) (rK r) (rPc r) (rSp r)) (sSt r) k) ≤ nZ (bm (rM r) (rK r) (rPc r) (rSp r) (Wo (rM r) (rK r) (rPc r) (rSp r)) (sSt r) (k - 1)) := fun e => q ((mxZ (by omega) (by omega) (by omega) (by omega)).mp e)
            dsimp only
            rw [if_neg le]
            unfold f_X7_bestNow_J114
            rw [if_neg (by decide), if_neg le]
            unfold f_X7_bestNow_J132
            rw [nI_1, ← es]
            obtain ⟨T', y, y1, y2, y3⟩ := ih (k + 1) k z hmr z2.wr (by omega) (by omega) (by omega) ⟨by omega, by omega, pk, by rw [show k + 1 - 1 = k by omega, es], fun t x1 x2 x3 => by
              rw [show k + 1 - 1 = k by omega, es]
              have := bm_ge (m := rM r) (K := rK r) (sp := rSp r) (W := Wo (rM r) (rK r) (rPc r) (rSp r)) x1 x3 (k - 1) (by omega)
              omega⟩
            rw [show k + 1 - 1 = k by omega] at y1
            exact ⟨T', y, y1, y2, z2.kp.tr y3⟩
        · have pk : ¬ posT (rPc r) (sSt r) k := fun e => cp (hb.mpr e)
          rw [if_neg cp]
          have es : bm (rM r) (rK r) (rPc r) (rSp r) (Wo (rM r) (rK r) (rPc r) (rSp r)) (sSt r) k = bm (rM r) (rK r) (rPc r) (rSp r) (Wo (rM r) (rK r) (rPc r) (rSp r)) (sSt r) (k - 1) := by
            have := show bm (rM r) (rK r) (rPc r) (rSp r) (Wo (rM r) (rK r) (rPc r) (rSp r)) (sSt r) (k - 1 + 1) = if posT (rPc r) (sSt r) (k - 1 + 1) then max (bm (rM r) (rK r) (rPc r) (rSp r) (Wo (rM r) (rK r) (rPc r) (rSp r)) (sSt r) (k - 1)) (bt (rM r) (rK r) (rSp r) (Wo (rM r) (rK r) (rPc r) (rSp r)) (sSt r) (k - 1 + 1)) else bm (rM r) (rK r) (rPc r) (rSp r) (Wo (rM r) (rK r) (rPc r) (rSp r)) (sSt r) (k - 1) from rfl
            rw [ek, if_neg pk] at this
            exact this
          unfold f_X7_bestNow_J76
          rw [if_pos rfl]
          unfold f_X7_bestNow_J95
          rw [if_pos rfl]
          unfold f_X7_bestNow_J113 f_X7_bestNow_J114
          rw [if_pos rfl]
          unfold f_X7_bestNow_J131 f_X7_bestNow_J132
          rw [nI_1, ← es]
          obtain ⟨T', y, y1, y2, y3⟩ := ih (k + 1) T v h hw (by omega) (by omega) (by omega) ⟨t1, by omega, t3, by rw [show k + 1 - 1 = k by omega, es]; exact t4, fun t x1 x2 x3 => by rw [show k + 1 - 1 = k by omega, es]; exact t5 t x1 x2 x3⟩
          rw [show k + 1 - 1 = k by omega] at y1
          exact ⟨T', y, y1, y2, y3⟩
      rw [if_neg n5]
      by_cases c5 : k = 5
      · rw [if_pos (show nI k = (5 : Int32) by rw [c5]; rfl)]
        have w0 := MR_W h ho
        have gk := ok.2.2.2.2.2.2.2.2.1 (rOt r) ho
        have a2 : f_X7_of v (nI (rOt r)) (1 : Int32) = some (nI (rW r (rOt r)).2.1) := by
          refine (of7 (k := 1) rfl rfl ho (by omega)).trans ?_
          rw [show 23 + 8 * rOt r + 1 = 24 + 8 * rOt r by omega]
          exact congrArg some w0.2.1
        rw [a2, Option.bind_some]
        have hx := next (gTk (rW r (rOt r)) = 1) (by
          unfold posT
          rw [if_neg (by omega), if_pos c5, q3]
          exact ⟨fun e => ⟨hql, e⟩, fun e => e.2⟩)
        by_cases cT : gTk (rW r (rOt r)) = 1
        · rw [if_pos cT] at hx
          rw [if_pos (show nI (rW r (rOt r)).2.1 = (1 : Int32) by rw [show (rW r (rOt r)).2.1 = 1 from cT]; rfl)]
          exact hx
        · rw [if_neg cT] at hx
          rw [if_neg (show ¬ nI (rW r (rOt r)).2.1 = (1 : Int32) from fun e => cT ((nI_eq (b := 1) (by omega) (by omega)).mp e))]
          exact hx
      · rw [if_neg (show ¬ nI k = (5 : Int32) from fun e => c5 ((nI_eq (b := 5) (by omega) (by omega)).mp e)), h.1]
        have hx := next (k ≤ rPc r) (by
          unfold posT
          rw [if_neg (by omega), if_neg c5]
          exact ⟨fun e => ⟨hql, e⟩, fun e => e.2⟩)
        by_cases cT : k ≤ rPc r
        · rw [if_pos cT] at hx
          rw [if_neg (nI_nlt (by omega) (by omega))]
          exact hx
        · rw [if_neg cT] at hx
          rw [if_pos (nI_lt (by omega) (by omega))]
          exact hx
theorem bestNow_eq {v : tX7} {r : RcS} (h : MR v.2.1 r) (ok : okR r) (hw : WR7 v r) (hn : rWi r = -4) : ∃ T z, f_X7_bestNow v = some (nI T, z) ∧ isB (rM r) (rK r) (rPc r) (rSp r) (sSt r) T ∧ KP v r z := by
  obtain ⟨hv, q1, q2, q3, q4, q5, q6⟩ := sSt_q ok hn
  have ho := ok.2.2.2.2.2.2.2.1
  have gk := ok.2.2.2.2.2.2.2.2.1 (rOt r) ho
  have w0 := MR_W h ho
  have h17 := MR_17 h
  unfold f_X7_bestNow
  have a2 : f_X7_of v (v.2.1 17) (2 : Int32) = some (nI (rW r (rOt r)).2.2.1) := by
    refine (of7 (k := 2) h17 rfl ho (by omega)).trans ?_
    rw [show 23 + 8 * rOt r + 2 = 25 + 8 * rOt r by omega]
    exact congrArg some w0.2.2.1
  rw [a2, Option.bind_some]
  by_cases c : gLs (rW r (rOt r)) = 0
  · have hql : qL (sSt r) = 0 := by rw [q5]; exact c
    have p1 : posT (rPc r) (sSt r) 1 := by
      unfold posT
      rw [if_neg (by omega), if_neg (by omega)]
      exact ⟨hql, ok.2.2.2.1⟩
    have E := E7_of h ok
    obtain ⟨z, z1, z2⟩ := turnW_eq h ok hw hn (show 1 ≤ 1 by omega) (by omega) p1
    have gt := bt_b7 E hv p1
    have e1 : bm (rM r) (rK r) (rPc r) (rSp r) (Wo (rM r) (rK r) (rPc r) (rSp r)) (sSt r) 1 = bt (rM r) (rK r) (rSp r) (Wo (rM r) (rK r) (rPc r) (rSp r)) (sSt r) 1 := by
      rw [bm, if_pos p1, bm, Int.max_eq_right (by show (-500 : Int) ≤ bt (rM r) (rK r) (rSp r) (Wo (rM r) (rK r) (rPc r) (rSp r)) (sSt r) 1; omega)]
    obtain ⟨T, y, y1, y2, y3⟩ := best7_L30 ok hn c gas 2 1 z (by rw [z2.s]; exact h) z2.wr (by omega) (by omega) (by show 6 < 2 + 1000000; omega) ⟨by omega, by omega, p1, by rw [show 2 - 1 = 1 by omega, e1], fun t a b => by omega⟩
    rw [show 2 - 1 = 1 by omega, e1] at y1
    refine ⟨T, y, ?_, y2, z2.kp.tr y3⟩
    rw [if_pos (show nI (gLs (rW r (rOt r))) ≤ 0 by rw [nI_le0 (by omega)]; exact c), h17]
    exact bnd z1 y1
  · refine ⟨0, v, iff' (show ¬ nI (gLs (rW r (rOt r))) ≤ 0 by rw [nI_le0 (by omega)]; exact c) rfl, ⟨fun _ => rfl, fun e => absurd (by rw [← q5]; exact e) c⟩, KP.refl hw⟩

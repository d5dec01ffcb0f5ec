/-! the law's turns -/
theorem undo_eq {v : tX6} {r r0 : RcS} {k : Nat} {sn : Option RcS} (h : INT v r k r0 sn) : ∃ u, f_X6_undo v = some (nI k, u) ∧ IN u r0 k sn := by
  obtain ⟨h1, h2, h3, h4, h5⟩ := h
  obtain ⟨v', t1, t2, t3, t4⟩ := takeBack_eq (v1 := v.1) h3
  refine ⟨(v', v.2.1, v.2.2.1, ((vH v).1, (vH v).2.1, nI k), v.2.2.2.2), ?_, t3, t4, t2, ?_, h5⟩
  · unfold f_X6_undo
    exact bnd t1 (iff' (show ¬ (1 : Int32) = 0 by decide) rfl)
  · cases sn with
    | none => exact h4
    | some q => exact h4
theorem save_eq {v : tX6} {r : RcS} {k : Nat} {sn : Option RcS} (h : IN v r k sn) : ∃ (a : Int32) (u : tX6), f_X6_save v = some (a, u) ∧ IN u r k (some r) := by
  obtain ⟨h1, h2, h3, h4, h5⟩ := h
  obtain ⟨x, x1, x2⟩ := CR_take (v := v.2.2.1) h2 h1
  exact ⟨_, (v.1, v.2.1, x, v.2.2.2.1, v.2.2.2.2.1, v.2.2.2.2.2.1, (1 : Int32), v.2.2.2.2.2.2.2), bnd x1 rfl, h1, h2, h3, ⟨rfl, h1, x2⟩, h5⟩
section LW
variable {L : Nat} {xs : Nat → Int32}
/-- one turn of the law: from J94 on -/
theorem law_J94 {v : tX6} {r : RcS} {k n : Nat} {sn : Option RcS} (h : IN v r k sn) (hk : k ≤ 4) (hx : OX n r) (hs : OXs n sn) (hn : n < 800) (kL : Int32 → tX6 → Option Int32) (l2 p q : Int32) (hL : ∀ (u : tX6) (r' : RcS) (k' : Nat), IN u r' k' sn → k' ≤ 4 → OX (n + 1) r' → kL (l2 + (1 : Int32)) u = some 1) : f_L_law_J94 L xs kL l2 p q v = some 1 := by
  obtain ⟨x, hxt⟩ := told_eq h.1
  obtain ⟨a, r', d1, d2⟩ := do_act h hx hs (by omega) p q
  have fin : ∀ (u : tX6) (r1 : RcS) (k1 : Nat), IN u r1 k1 sn → k1 ≤ 4 → OX (n + 1) r1 → f_L_law_J242 L xs kL l2 u = some 1 := by
    intro u r1 k1 g1 g2 g3
    have hh := holds_eq g1.2.1 g1.1 g3 (by omega)
    unfold f_L_law_J242 f_L_law_J265
    refine bnd hh (iff' (by decide) ?_)
    by_cases c : l2 - l2 / (5 : Int32) * (5 : Int32) = (3 : Int32)
    · obtain ⟨u2, s1, s2⟩ := sure_eq g1
      exact ift c (bnd s1 (iff' (show ¬ (1 : Int32) = 0 by decide) (hL u2 r1 k1 s2 g2 g3)))
    · exact iff' c (hL u r1 k1 g1 g2 g3)
  obtain ⟨u, e1, e2, e3⟩ := d2 v k h
  unfold f_L_law_J94
  refine bnd (hxt v h.2.1) (bnd (count13 h.2.2.1) (bnd e1 ?_))
  by_cases c : (0 : Int32) ≤ a
  · have g := e3 c
    have hr' := d1 c
    obtain ⟨y, hyt⟩ := told_eq g.1
    have q3 : kq k ≤ 3 := Nat.min_le_right k 3
    refine bnd (hyt u g.2.1) (ift c (bnd (count13 g.2.2.1.hk) ?_))
    have J175 : f_L_law_J175 L xs kL l2 p q x a y u = some 1 := by
      unfold f_L_law_J175
      refine iff' (nlt_le.mpr c) ?_
      by_cases d : (p >>> ((10 : Int32) &&& 31)) &&& (1 : Int32) = 0
      · obtain ⟨w, u1, u2⟩ := undo_eq g
        obtain ⟨z, f1, f2, f3⟩ := d2 w (kq k) u2
        have g2 := f3 c
        refine ift d (bnd (count13 g.2.2.1.hk) (bnd u1 (ift ?_ (bnd (hxt w u2.2.1) (ift (cmp_self x) (bnd f1 (ift rfl (bnd (hyt z g2.2.1) (ift (cmp_self y) (fin z r' _ g2.n ?_ hr'))))))))))
        · exact (nI_sub (a := kq k + 1) (b := 1) (by omega)).symm
        · have : kq (kq k) ≤ 3 := Nat.min_le_right _ 3
          omega
      · exact iff' d (fin u r' _ g.n (by omega) hr')
    have J170 : ∀ z : Int32, nI (kq k + 1) = z → f_L_law_J170 L xs kL l2 p q x a y z (nI (kq k + 1)) u = some 1 := by
      intro z hz
      unfold f_L_law_J170
      exact ift hz J175
    by_cases e : 4 ≤ k
    · refine ift (nI_le (a := 4) e (by omega)) (J170 _ ?_)
      have : kq k = 3 := Nat.min_eq_right (by omega)
      rw [this]
      rfl
    · refine iff' (nI_ge (b := 4) (by omega) (by omega)) (J170 _ ?_)
      have : kq k = k := Nat.min_eq_left (by omega)
      rw [this, nI_1]
  · have ca : a < 0 := nle_lt.mp c
    have g := e2 ca
    refine bnd (hxt u g.2.1) (iff' c (ift (cmp_self x) (bnd (count13 g.2.2.1) (ift rfl ?_))))
    unfold f_L_law_J175
    exact ift ca (fin u r k g hk (OX_mono (by omega) hx))
end LW

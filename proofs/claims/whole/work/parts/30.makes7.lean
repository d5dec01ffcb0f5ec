/-! the reference makes a turn -/
theorem ok_pl {r : RcS} (ok : okR r) (hw : rWi r = -4) : gPl (rW r (rOt r)) ≤ rM r ∧ gPl (rW r (1 - rOt r)) ≤ rM r ∧ (gPl (rW r (rOt r)) ≠ gPl (rW r (1 - rOt r)) ∨ gPl (rW r (rOt r)) = 0) := by
  obtain ⟨h1, h2, h3, h4, h5, h6, h7, h8, h9, h10⟩ := ok
  have h10 : gPl (rW r 0) ≤ rM r ∧ gPl (rW r 1) ≤ rM r ∧ (gPl (rW r 0) ≠ gPl (rW r 1) ∨ gPl (rW r 0) = 0) := by
    rcases h10 with ⟨-, q⟩ | q | q
    · exact q
    · rw [hw] at q; exact absurd q (by decide)
    · rw [hw] at q; exact absurd q (by decide)
  rcases (show rOt r = 0 ∨ rOt r = 1 by omega) with e | e
  · rw [e]; exact h10
  · rw [e]; exact ⟨h10.2.1, h10.1, by show gPl (rW r 1) ≠ gPl (rW r 0) ∨ gPl (rW r 1) = 0; omega⟩
theorem ref_over {r : RcS} {t : Nat} (hp : sRef r t = 0) : rWi r = -4 := by
  unfold sRef at hp
  by_cases c : rWi r ≠ -4
  · rw [if_pos c] at hp; omega
  · exact Classical.not_not.mp c
theorem ref_drive {r : RcS} {t : Nat} (hp : sRef r t = 0) (h0 : t ≠ 0) (h5 : t ≠ 5) : t ≤ rPc r ∧ gLs (rW r (rOt r)) = 0 := by
  have hw := ref_over hp
  unfold sRef at hp
  rw [if_neg (fun e => e hw)] at hp
  by_cases c : gLs (rW r (rOt r)) ≠ 0
  · rw [if_pos c, if_neg h0] at hp; omega
  · rw [if_neg c, if_neg h0, if_neg h5] at hp
    by_cases c2 : t ≤ rPc r
    · exact ⟨c2, Classical.not_not.mp c⟩
    · rw [if_neg c2] at hp; omega
theorem makesDrive7 {v : tX7} {r : RcS} {t : Nat} (h : MR v.2.1 r) (ok : okR r) (hp : sRef r t = 0) (h0 : t ≠ 0) (h5 : t ≠ 5) : ∃ z, f_X7_makesDrive v (nI t) = some z ∧ (z.1 = nI (sTo r t) ∧ MR z.2.2.1 (sDrive r t) ∧ same7 v z.2) := by
  have h17 := MR_17 h
  have ho := ok.2.2.2.2.2.2.2.1
  have ho' : 1 - rOt r ≤ 1 := by omega
  have h17' : (1 : Int32) - v.2.1 17 = nI (1 - rOt r) := by rw [h17]; exact nI_1m ho
  have hw := MR_W h ho
  have hw' := MR_W h ho'
  obtain ⟨hpm, hom, hne⟩ := ok_pl ok (ref_over hp)
  have htp := (ref_drive hp h0 h5).1
  have hpc := ok.2.2.2.2.1
  have hR := MR_R h ok
  have hm := ok.2.1
  have hJ : goodJ (v.2.1 17) := by
    rw [h17]
    rcases (show rOt r = 0 ∨ rOt r = 1 by omega) with e | e <;> rw [e]
    · exact Or.inr (Or.inl rfl)
    · exact Or.inr (Or.inr rfl)
  have hq := rs_ok (K := rK r) hm hom hpm (show 1 ≤ t by omega)
  unfold f_X7_makesDrive
  refine bndE (of7 (k := 0) h17 rfl ho (by omega)) ?_
  refine bndE (of7 (k := 0) h17' rfl ho' (by omega)) ?_
  refine bndE (drives7' (p := gPl (rW r (rOt r))) (o := gPl (rW r (1 - rOt r))) (d := t) hR hJ hw.1 hw'.1 rfl hpm hom (by omega) (by omega) hne) ?_
  have hS : ∀ x, x < 39 → drS (rM r) (rK r) (v.2.1 17) (gPl (rW r (1 - rOt r))) (gPl (rW r (rOt r))) t v.2.1 x = v.2.1 x := drS_lo (by omega) hpm hom
  generalize hA : drS (rM r) (rK r) (v.2.1 17) (gPl (rW r (1 - rOt r))) (gPl (rW r (rOt r))) t v.2.1 = A at hS ⊢
  refine bndE (lay7 (k := 0) h17 rfl ho (by omega)) ?_
  refine bndE (of7 (k := 5) h17 rfl ho (by omega)) ?_
  refine bndE (lay7 (k := 5) h17 rfl ho (by omega)) ?_
  refine bndE (of7 (k := 7) h17 rfl ho (by omega)) ?_
  refine bndE (lay7 (k := 7) h17 rfl ho (by omega)) ?_
  refine bndE (of7 (k := 2) h17 rfl ho (by omega)) ?_
  refine bndE (lay7 (k := 2) h17 rfl ho (by omega)) ?_
  have hq1 : rs (rM r) (rK r) (gPl (rW r (1 - rOt r))) (gPl (rW r (rOt r))) t ≤ rM r + 1 := hq.1.1
  dsimp only [set7, st7]
  rw [show 23 + 8 * rOt r + 0 = 23 + 8 * rOt r from rfl, show 23 + 8 * rOt r + 5 = 28 + 8 * rOt r by omega, show 23 + 8 * rOt r + 7 = 30 + 8 * rOt r by omega, show 23 + 8 * rOt r + 2 = 25 + 8 * rOt r by omega]
  have n1 : ∀ f : Nat → Int32, ∀ x, upd f (23 + 8 * rOt r) x (28 + 8 * rOt r) = f (28 + 8 * rOt r) := fun f x => upd_n (by omega)
  have n2 : ∀ f : Nat → Int32, ∀ x, upd f (23 + 8 * rOt r) x (30 + 8 * rOt r) = f (30 + 8 * rOt r) := fun f x => upd_n (by omega)
  have n3 : ∀ f : Nat → Int32, ∀ x, upd f (28 + 8 * rOt r) x (30 + 8 * rOt r) = f (30 + 8 * rOt r) := fun f x => upd_n (by omega)
  have n4 : ∀ f : Nat → Int32, ∀ x, upd f (23 + 8 * rOt r) x (25 + 8 * rOt r) = f (25 + 8 * rOt r) := fun f x => upd_n (by omega)
  have n5 : ∀ f : Nat → Int32, ∀ x, upd f (28 + 8 * rOt r) x (25 + 8 * rOt r) = f (25 + 8 * rOt r) := fun f x => upd_n (by omega)
  have n6 : ∀ f : Nat → Int32, ∀ x, upd f (30 + 8 * rOt r) x (25 + 8 * rOt r) = f (25 + 8 * rOt r) := fun f x => upd_n (by omega)
  simp only [n1, n2, n3, n4, n5, n6]
  have key : ∀ x : Int32, x = nI (if kd (rM r) (rK r) (sTo r t) = 3 then 1 else gTk (rW r (rOt r))) → ∃ z, f_X7_makesDrive_J111 (v.2.1 17) x (1 : Int32) (v.2.1 17) (st7 v (puS A (rOt r) (sTo r t) (fl (gPl (rW r (rOt r)) < gPl (rW r (1 - rOt r)) ∧ gPl (rW r (1 - rOt r)) < sTo r t)) (nI (drC (rM r) (rK r) (gPl (rW r (1 - rOt r))) (gPl (rW r (rOt r))) t)) (fl (kd (rM r) (rK r) (sTo r t) = 1))) (nI (sTo r t)) (fl (kd (rM r) (rK r) (sTo r t) = 1)) (fl (kd (rM r) (rK r) (sTo r t) = 3)) (fl (gPl (rW r (rOt r)) < gPl (rW r (1 - rOt r)) ∧ gPl (rW r (1 - rOt r)) < sTo r t)) (nI (drC (rM r) (rK r) (gPl (rW r (1 - rOt r))) (gPl (rW r (rOt r))) t))) = some z ∧ (z.1 = nI (sTo r t) ∧ MR z.2.2.1 (sDrive r t) ∧ same7 v z.2) := by
    intro x hx
    have P : ∀ i, i < 39 → i ≠ 23 + 8 * rOt r → i ≠ 28 + 8 * rOt r → i ≠ 30 + 8 * rOt r → i ≠ 25 + 8 * rOt r → ∀ a b c, puS A (rOt r) (sTo r t) a b c i = v.2.1 i := by
      intro i a1 a2 a3 a4 a5 a b c
      unfold puS
      rw [upd_n a5, upd_n a4, upd_n a3, upd_n a2]
      exact hS i a1
    refine ⟨_, J111_eq (q := sTo r t) (m := rM r) h17 ho ((P 17 (by omega) (by omega) (by omega) (by omega) (by omega) _ _ _).trans h17) ((P 2 (by omega) (by omega) (by omega) (by omega) (by omega) _ _ _).trans hR.1) hm rfl hq1, ?_, ?_, rfl⟩
    · show puS A (rOt r) (sTo r t) _ _ _ (23 + 8 * rOt r) = _
      unfold puS
      rw [upd_n (by omega), upd_n (by omega), upd_n (by omega), upd_s]
    · have := MR_drive (x := x) h ok hpm hom (show 1 ≤ t by omega) hx
      rw [← h17, hA] at this
      exact this
  by_cases c3 : kd (rM r) (rK r) (sTo r t) = 3
  · refine ifE_f (by show ¬ fl (kd (rM r) (rK r) (sTo r t) = 3) = 0; rw [fl_t c3]; decide) ?_
    exact key 1 (by rw [if_pos c3]; rfl)
  · refine ifE_t (by show fl (kd (rM r) (rK r) (sTo r t) = 3) = 0; rw [fl_f c3]) ?_
    refine bndE (of7 (k := 1) h17 rfl ho (by omega)) ?_
    refine key _ ?_
    rw [if_neg c3]
    show puS A (rOt r) (sTo r t) _ _ _ (23 + 8 * rOt r + 1) = _
    unfold puS
    rw [upd_n (by omega), upd_n (by omega), upd_n (by omega), upd_n (by omega), hS _ (by omega), show 23 + 8 * rOt r + 1 = 24 + 8 * rOt r by omega]
    exact hw.2.1
theorem makes7 {v : tX7} {r : RcS} {t : Nat} (h : MR v.2.1 r) (ok : okR r) (hp : sRef r t = 0) (ht : t < 1000) : ∃ z, f_X7_makes v (nI t) = some z ∧ (z.1 = nI t ∧ MR z.2.2.1 (sMake r t) ∧ same7 v z.2) := by
  unfold f_X7_makes sMake
  by_cases c0 : t = 0
  · refine ifE_t (by rw [c0]; rfl) ?_
    subst c0
    obtain ⟨z, e1, e2, e3, e4⟩ := makesLost7 h ok hp
    refine bndE e1 ⟨_, rfl, rfl, ?_, e4⟩
    rw [if_pos rfl]; exact e3
  · refine ifE_f (by rw [nI_z (by omega)]; exact c0) ?_
    rw [if_neg c0]
    by_cases c5 : t = 5
    · refine ifE_t (by rw [c5]; rfl) ?_
      obtain ⟨z, e1, e2, e3, e4⟩ := makesToken7 h ok
      refine bndE e1 ⟨_, rfl, rfl, ?_, e4⟩
      rw [if_pos c5]; exact e3
    · refine ifE_f (fun e => c5 ((nI_eq (b := 5) (by omega) (by omega)).mp e)) ?_
      obtain ⟨z, e1, e2, e3, e4⟩ := makesDrive7 h ok hp c0 c5
      refine bndE e1 ⟨_, rfl, rfl, ?_, e4⟩
      rw [if_neg c5]; exact e3

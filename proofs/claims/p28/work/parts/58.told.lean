/-! looks, by the race alone -/
def cnt (r : RcS) (i : Nat) : Int32 := match i with
  | 0 => nI (rM r)
  | 1 => if rWi r = -4 then nI (rOt r) else -4
  | 2 => rWi r
  | 3 => rTu r
  | 4 => nI (hmK (rK r) 1 (rM r))
  | 5 => nI (hmK (rK r) 2 (rM r))
  | 6 => nI (hmK (rK r) 3 (rM r))
  | 7 => rBe r
  | 8 => rWo r 0
  | 9 => rWo r 1
  | 10 => nI (rPc r)
  | _ => nI (rSp r)
def wgn (w : WgS) (i : Nat) : Int32 := match i with
  | 0 => nI (gPl w)
  | 1 => nI (gTk w)
  | 2 => nI (gLs w)
  | 3 => gTn w
  | 4 => gLo w
  | 5 => w.2.2.2.2.2.1
  | 6 => w.2.2.2.2.2.2.1
  | _ => gRl w
def mil (r : RcS) (t i : Nat) : Int32 := match i with
  | 0 => nI (rK r t)
  | 1 => if gPl (rW r 0) = t then 0 else if gPl (rW r 1) = t then 1 else -4
  | 2 => gVs (rW r 0) t
  | _ => gVs (rW r 1) t
theorem count_eq {v : tX6} {r : RcS} (h : CR v.1 r) : ∀ i, i ≤ 11 → f_X6_count v (nI i) = some (cnt r i) := by
  obtain ⟨hR, c0, c1, c3, c4, c5, c6, c7, c8, c9, c10⟩ := id h
  have hl : ∀ c, c ≤ 3 → f_X3_howMany v.1.1 (nI c) = some (nI (hmK (rK r) c (rM r))) := fun c hc => howMany_eq hR hc
  have e6 := isOver_eq h
  intro i hi
  unfold f_X6_count
  rcases (show i = 0 ∨ i = 1 ∨ i = 2 ∨ i = 3 ∨ i = 4 ∨ i = 5 ∨ i = 6 ∨ i = 7 ∨ i = 8 ∨ i = 9 ∨ i = 10 ∨ i = 11 by omega) with rfl | rfl | rfl | rfl | rfl | rfl | rfl | rfl | rfl | rfl | rfl | rfl
  · exact ift rfl (congrArg some hR.1)
  · refine iff' (by decide) (ift rfl (bnd e6 ?_))
    by_cases c : rWi r = -4
    · rw [if_pos c]
      refine ift rfl (congrArg some ?_)
      show _ = if rWi r = -4 then nI (rOt r) else -4
      rw [if_pos c]; exact c5
    · rw [if_neg c]
      refine iff' (by decide) (congrArg some ?_)
      show _ = if rWi r = -4 then nI (rOt r) else -4
      rw [if_neg c]
  · exact iff' (by decide) (iff' (by decide) (ift rfl (congrArg some c6)))
  · exact iff' (by decide) (iff' (by decide) (iff' (by decide) (ift rfl (congrArg some c7))))
  · exact iff' (by decide) (iff' (by decide) (iff' (by decide) (iff' (by decide) (ift rfl (bnd (hl 1 (by omega)) rfl)))))
  · exact iff' (by decide) (iff' (by decide) (iff' (by decide) (iff' (by decide) (iff' (by decide) (ift rfl (bnd (hl 2 (by omega)) rfl))))))
  · exact iff' (by decide) (iff' (by decide) (iff' (by decide) (iff' (by decide) (iff' (by decide) (iff' (by decide) (ift rfl (bnd (hl 3 (by omega)) rfl)))))))
  · exact iff' (by decide) (iff' (by decide) (iff' (by decide) (iff' (by decide) (iff' (by decide) (iff' (by decide) (iff' (by decide) (ift rfl (congrArg some c8))))))))
  · exact iff' (by decide) (iff' (by decide) (iff' (by decide) (iff' (by decide) (iff' (by decide) (iff' (by decide) (iff' (by decide) (iff' (by decide) (ift rfl (congrArg some c9)))))))))
  · exact iff' (by decide) (iff' (by decide) (iff' (by decide) (iff' (by decide) (iff' (by decide) (iff' (by decide) (iff' (by decide) (iff' (by decide) (iff' (by decide) (ift rfl (congrArg some c10))))))))))
  · exact iff' (by decide) (iff' (by decide) (iff' (by decide) (iff' (by decide) (iff' (by decide) (iff' (by decide) (iff' (by decide) (iff' (by decide) (iff' (by decide) (iff' (by decide) (ift rfl (congrArg some c3)))))))))))
  · exact iff' (by decide) (iff' (by decide) (iff' (by decide) (iff' (by decide) (iff' (by decide) (iff' (by decide) (iff' (by decide) (iff' (by decide) (iff' (by decide) (iff' (by decide) (iff' (by decide) (ift rfl (congrArg some c4))))))))))))
theorem count13 {v : tX6} {k : Nat} (h : HK (vH v) k) : f_X6_count v (13 : Int32) = some (nI k) := by
  obtain ⟨H, f, h1, h2, h3, h4, h5⟩ := h
  unfold f_X6_count
  exact iff' (by decide) (iff' (by decide) (iff' (by decide) (iff' (by decide) (iff' (by decide) (iff' (by decide) (iff' (by decide) (iff' (by decide) (iff' (by decide) (iff' (by decide) (iff' (by decide) (iff' (by decide) (iff' (by decide) (ift rfl (congrArg some h4))))))))))))))
theorem prop_eq {m : Nat} {x : tX4} {w : WgS} (h : CW m x w) (ht : gTk w ≤ 1) : ∀ i, i ≤ 7 → f_X4_property x (nI i) = some (wgn w i) := by
  obtain ⟨u0, u1, u2, u3, u4, u5, u6, u7, u8⟩ := h
  intro i hi
  unfold f_X4_property
  rcases (show i = 0 ∨ i = 1 ∨ i = 2 ∨ i = 3 ∨ i = 4 ∨ i = 5 ∨ i = 6 ∨ i = 7 by omega) with rfl | rfl | rfl | rfl | rfl | rfl | rfl | rfl
  · exact ift rfl (congrArg some u0)
  · refine iff' (by decide) (ift rfl ?_)
    show _ = some (nI w.2.1)
    rw [u1]
    rcases (show gTk w = 0 ∨ gTk w = 1 by omega) with e | e
    · rw [show w.2.1 = 0 from e]; rfl
    · rw [show w.2.1 = 1 from e]; rfl
  · exact iff' (by decide) (iff' (by decide) (ift rfl (congrArg some u2)))
  · exact iff' (by decide) (iff' (by decide) (iff' (by decide) (ift rfl (congrArg some u3))))
  · exact iff' (by decide) (iff' (by decide) (iff' (by decide) (iff' (by decide) (ift rfl (congrArg some u4)))))
  · exact iff' (by decide) (iff' (by decide) (iff' (by decide) (iff' (by decide) (iff' (by decide) (ift rfl (congrArg some u5))))))
  · exact iff' (by decide) (iff' (by decide) (iff' (by decide) (iff' (by decide) (iff' (by decide) (iff' (by decide) (ift rfl (congrArg some u6)))))))
  · exact iff' (by decide) (iff' (by decide) (iff' (by decide) (iff' (by decide) (iff' (by decide) (iff' (by decide) (iff' (by decide) (ift rfl (congrArg some u7))))))))
theorem wagon_eq {v : tX6} {r : RcS} (h : CR v.1 r) (ok : okR r) {j i : Nat} (hj : j ≤ 1) (hi : i ≤ 7) : f_X6_wagon v (nI j) (nI i) = some (wgn (rW r j) i) := by
  have ht := (ok.2.2.2.2.2.2.2.2.1 j hj).2.1
  unfold f_X6_wagon f_X6_wagon_J11
  rcases (show j = 0 ∨ j = 1 by omega) with rfl | rfl
  · exact ift rfl (ift rfl (bnd (prop_eq h.2.1 ht i hi) rfl))
  · exact iff' (by decide) (ift rfl (iff' (by decide) (bnd (prop_eq h.2.2.1 ht i hi) rfl)))
theorem mile_eq {v : tX6} {r : RcS} (h : CR v.1 r) (ok : okR r) {t i : Nat} (t1 : 1 ≤ t) (t2 : t ≤ rM r) (hi : i ≤ 3) : f_X6_mile v (nI t) (nI i) = some (mil r t i) := by
  have hm := ok.2.1
  have e1 : v.1.1.2 = nI (rM r) := h.1.1
  have q0 := (ok.2.2.2.2.2.2.2.2.1 0 (by omega)).1
  have q1 := (ok.2.2.2.2.2.2.2.2.1 1 (by omega)).1
  have c1 : ¬ nI t < (1 : Int32) := nI_nlt (b := 1) (by omega) (by omega)
  have c2 : nI t ≤ v.1.1.2 := by rw [e1]; exact nI_le t2 (by omega)
  unfold f_X6_mile
  rcases (show i = 0 ∨ i = 1 ∨ i = 2 ∨ i = 3 by omega) with rfl | rfl | rfl | rfl
  · have a1 : f_X3_kindOf v.1.1 (nI t) = some (nI (rK r t)) := by
      rw [kindOf_eq h.1 (by omega)]
      unfold kd
      rw [if_pos ⟨t1, t2⟩]
    exact iff' c1 (ift c2 (ift rfl (bnd a1 rfl)))
  · refine iff' c1 (ift c2 (iff' (by decide) (ift rfl (bnd ?_ rfl))))
    unfold f_X2_wagonOn
    show _ = some (if gPl (rW r 0) = t then 0 else if gPl (rW r 1) = t then 1 else -4)
    rw [h.2.1.1, h.2.2.1.1]
    by_cases d1 : gPl (rW r 0) = t
    · rw [if_pos d1]
      exact ift (by rw [show (rW r 0).1 = t from d1]) rfl
    · rw [if_neg d1]
      refine iff' (fun e => d1 ((nI_eq (by omega) (by omega)).mp e)) ?_
      by_cases d2 : gPl (rW r 1) = t
      · rw [if_pos d2]
        exact ift (by rw [show (rW r 1).1 = t from d2]) rfl
      · rw [if_neg d2]
        exact iff' (fun e => d2 ((nI_eq (by omega) (by omega)).mp e)) rfl
  · have a1 : f_X6_at 15 v.1.2.1.1 (nI t) = some (gVs (rW r 0) t) := by
      rw [at_in _ (by omega) (by omega), h.2.1.2.2.2.2.2.2.2.2 t t1 t2]
    exact iff' c1 (ift c2 (iff' (by decide) (iff' (by decide) (ift rfl (bnd a1 rfl)))))
  · have a1 : f_X6_at 15 v.1.2.2.1.1 (nI t) = some (gVs (rW r 1) t) := by
      rw [at_in _ (by omega) (by omega), h.2.2.1.2.2.2.2.2.2.2.2 t t1 t2]
    exact iff' c1 (ift c2 (iff' (by decide) (iff' (by decide) (iff' (by decide) (ift rfl (bnd a1 rfl))))))
/-! the digest: one number for each race -/
section TD
variable {r : RcS}
theorem told_67 (ok : okR r) : ∀ (f i : Nat) (l : Int64), 1 ≤ i → i ≤ rM r + 1 → rM r + 1 < i + f → ∃ x, ∀ v : tX6, CR v.1 r → f_L_told_L67 v f l (nI i) = some x := by
  have hm := ok.2.1
  intro f
  induction f with
  | zero => intro i l a b c; omega
  | succ f ih =>
    intro i l a b c
    by_cases e : i = rM r + 1
    · refine ⟨l, fun v h => ?_⟩
      rw [f_L_told_L67]
      exact bnd (count_eq h 0 (by omega)) (ift (nI_lt (by omega) (by omega)) rfl)
    · obtain ⟨x, hx⟩ := ih (i + 1) (((31 : Int64) * (((31 : Int64) * (((31 : Int64) * l) + (Int32.toInt64 (mil r i 0)))) + (Int32.toInt64 (mil r i 2)))) + (Int32.toInt64 (mil r i 3))) (by omega) (by omega) (by omega)
      refine ⟨x, fun v h => ?_⟩
      rw [f_L_told_L67]
      refine bnd (count_eq h 0 (by omega)) (iff' (nI_nlt (by omega) (by omega)) (bnd (mile_eq h ok (i := 0) a (by omega) (by omega)) (bnd (mile_eq h ok (i := 2) a (by omega) (by omega)) (bnd (mile_eq h ok (i := 3) a (by omega) (by omega)) ?_))))
      rw [nI_1]
      exact hx v h
theorem split16 : ∀ i, i < 16 → nI i / (8 : Int32) = nI (i / 8) ∧ nI i - nI i / (8 : Int32) * (8 : Int32) = nI (i % 8) := by decide +kernel
theorem told_33 (ok : okR r) : ∀ (f i : Nat) (l : Int64), i ≤ 16 → 16 < i + f → ∃ x, ∀ v : tX6, CR v.1 r → f_L_told_L33 v f l (nI i) = some x := by
  have hm := ok.2.1
  intro f
  induction f with
  | zero => intro i l a b; omega
  | succ f ih =>
    intro i l a b
    by_cases e : i = 16
    · subst e
      obtain ⟨x, hx⟩ := told_67 ok gas 1 l (by omega) (by omega) (by show rM r + 1 < 1 + 1000000; omega)
      refine ⟨x, fun v h => ?_⟩
      rw [f_L_told_L33]
      exact ift (by decide) (hx v h)
    · obtain ⟨s1, s2⟩ := split16 i (by omega)
      obtain ⟨x, hx⟩ := ih (i + 1) (((31 : Int64) * l) + (Int32.toInt64 (wgn (rW r (i / 8)) (i % 8)))) (by omega) (by omega)
      refine ⟨x, fun v h => ?_⟩
      rw [f_L_told_L33]
      refine iff' (nI_ge (b := 16) (by omega) (by omega)) ?_
      rw [s2, s1]
      refine bnd (wagon_eq h ok (by omega) (by omega)) ?_
      rw [nI_1]
      exact hx v h
theorem told_6 (ok : okR r) : ∀ (f i : Nat) (l : Int64), i ≤ 12 → 12 < i + f → ∃ x, ∀ v : tX6, CR v.1 r → f_L_told_L6 v f l (nI i) = some x := by
  intro f
  induction f with
  | zero => intro i l a b; omega
  | succ f ih =>
    intro i l a b
    by_cases e : i = 12
    · subst e
      obtain ⟨x, hx⟩ := told_33 ok gas 0 l (by omega) (by show 16 < 0 + 1000000; omega)
      refine ⟨x, fun v h => ?_⟩
      rw [f_L_told_L6]
      exact ift (by decide) (hx v h)
    · obtain ⟨x, hx⟩ := ih (i + 1) (((31 : Int64) * l) + (Int32.toInt64 (cnt r i))) (by omega) (by omega)
      refine ⟨x, fun v h => ?_⟩
      rw [f_L_told_L6]
      refine iff' (nI_ge (b := 12) (by omega) (by omega)) (bnd (count_eq h i (by omega)) ?_)
      rw [nI_1]
      exact hx v h
theorem told_eq (ok : okR r) : ∃ x, ∀ v : tX6, CR v.1 r → f_L_told v = some x := told_6 ok gas 0 3 (by omega) (by show 12 < 0 + 1000000; omega)
end TD
theorem cmp_self (x : Int64) : lg_cmp x x = 0 := by
  unfold lg_cmp
  have h : ¬ x < x := by rw [Int64.lt_iff_toInt_lt]; omega
  simp [h]

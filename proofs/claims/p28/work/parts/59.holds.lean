/-! what the law looks up behind each turn -/
theorem stS_add (K : Nat → Nat) (f g : Nat → Int32) : ∀ m, stS K (fun i => f i + g i) m = stS K f m + stS K g m := by
  intro m
  induction m with
  | zero => rfl
  | succ m ih =>
    show stS K (fun i => f i + g i) m + (if K (m + 1) = 2 then f (m + 1) + g (m + 1) else 0) = stS K f m + (if K (m + 1) = 2 then f (m + 1) else 0) + (stS K g m + (if K (m + 1) = 2 then g (m + 1) else 0))
    rw [ih]
    by_cases c : K (m + 1) = 2
    · rw [if_pos c, if_pos c, if_pos c, Int32.add_assoc, Int32.add_assoc, ← Int32.add_assoc (stS K g m), Int32.add_comm (stS K g m) (f (m + 1)), Int32.add_assoc]
    · rw [if_neg c, if_neg c, if_neg c, Int32.add_zero, Int32.add_zero, Int32.add_zero]
def kps (K : Nat → Nat) : Nat → Nat
  | 0 => 0
  | i + 1 => kps K i + (if K (i + 1) = 0 then 0 else 1)
theorem kps_eq {K : Nat → Nat} : ∀ m, (∀ i, 1 ≤ i → i ≤ m → K i ≤ 3) → kps K m = hmK K 1 m + hmK K 2 m + hmK K 3 m ∧ kps K m ≤ m := by
  intro m
  induction m with
  | zero => intro _; exact ⟨rfl, Nat.le_refl 0⟩
  | succ m ih =>
    intro h
    obtain ⟨i1, i2⟩ := ih (fun i a b => h i a (by omega))
    have h1 : kps K (m + 1) = kps K m + (if K (m + 1) = 0 then 0 else 1) := rfl
    have h2 : ∀ c, hmK K c (m + 1) = hmK K c m + (if K (m + 1) = c then 1 else 0) := fun c => rfl
    rw [h1, h2 1, h2 2, h2 3]
    have hk := h (m + 1) (by omega) (Nat.le_refl _)
    rcases (show K (m + 1) = 0 ∨ K (m + 1) = 1 ∨ K (m + 1) = 2 ∨ K (m + 1) = 3 by omega) with e | e | e | e <;> rw [e] <;> simp <;> omega
section HO
variable {v : tX6} {r : RcS}
abbrev bV (r : RcS) : Nat → Int32 := fun i => gVs (rW r 0) i + gVs (rW r 1) i
theorem holds_J86 (h : CR v.1 r) (ok : okR r) (n0 : kd (rM r) (rK r) (gPl (rW r 0)) ≠ 2) (n1 : kd (rM r) (rK r) (gPl (rW r 1)) ≠ 2) (kL : Int32 → Int32 → Int32 → Int32 → Int32 → Int32 → Option Int32) (l1 l4 k0 k1 : Int32) {i : Nat} (i1 : 1 ≤ i) (i2 : i ≤ rM r) : f_L_holds_J86 v kL l1 (nI (gPl (rW r 0))) (nI (gPl (rW r 1))) l4 (nI i) (nI (rK r i)) k0 k1 = kL l1 (nI (gPl (rW r 0))) (nI (gPl (rW r 1))) l4 (k1 + k0) (nI (i + 1)) := by
  have hm := ok.2.1
  have q0 := (ok.2.2.2.2.2.2.2.2.1 0 (by omega)).1
  have q1 := (ok.2.2.2.2.2.2.2.2.1 1 (by omega)).1
  have hk := ok.2.2.1 i i1 i2
  have ek : kd (rM r) (rK r) i = rK r i := if_pos ⟨i1, i2⟩
  have hmi := mile_eq h ok (i := 1) i1 i2 (by omega)
  have J : ∀ x : Int32, mil r i 1 = x → f_L_holds_J118 v kL l1 (nI (gPl (rW r 0))) (nI (gPl (rW r 1))) l4 (k1 + k0) (nI i) (nI (rK r i)) x (mil r i 1) = kL l1 (nI (gPl (rW r 0))) (nI (gPl (rW r 1))) l4 (k1 + k0) (nI (i + 1)) := by
    intro x hx
    have J1 : f_L_holds_J139 v kL l1 (nI (gPl (rW r 0))) (nI (gPl (rW r 1))) l4 (k1 + k0) (nI i) = kL l1 (nI (gPl (rW r 0))) (nI (gPl (rW r 1))) l4 (k1 + k0) (nI (i + 1)) := by
      unfold f_L_holds_J139
      rw [nI_1]
    unfold f_L_holds_J118
    refine ift hx ?_
    by_cases c : rK r i = 2
    · refine ift (by rw [c]; rfl) (bnd hmi ?_)
      have a0 : ¬ gPl (rW r 0) = i := fun e => n0 (by rw [e, ek, c])
      have a1 : ¬ gPl (rW r 1) = i := fun e => n1 (by rw [e, ek, c])
      have em : mil r i 1 = -4 := by
        show (if gPl (rW r 0) = i then (0 : Int32) else if gPl (rW r 1) = i then 1 else -4) = -4
        rw [if_neg a0, if_neg a1]
      exact ift (by rw [em]; decide) J1
    · exact iff' (fun e => c ((nI_eq (b := 2) (by omega) (by omega)).mp e)) J1
  unfold f_L_holds_J86
  refine bnd hmi ?_
  by_cases d0 : gPl (rW r 0) = i
  · refine ift (by rw [d0]) (J 0 ?_)
    show (if gPl (rW r 0) = i then (0 : Int32) else if gPl (rW r 1) = i then 1 else -4) = 0
    rw [if_pos d0]
  · refine iff' (fun e => d0 ((nI_eq (by omega) (by omega)).mp e)) ?_
    by_cases d1 : gPl (rW r 1) = i
    · refine ift (by rw [d1]) (J 1 ?_)
      show (if gPl (rW r 0) = i then (0 : Int32) else if gPl (rW r 1) = i then 1 else -4) = 1
      rw [if_neg d0, if_pos d1]
    · refine iff' (fun e => d1 ((nI_eq (by omega) (by omega)).mp e)) (J (-4) ?_)
      show (if gPl (rW r 0) = i then (0 : Int32) else if gPl (rW r 1) = i then 1 else -4) = -4
      rw [if_neg d0, if_neg d1]
theorem holds_L29 (h : CR v.1 r) (ok : okR r) (n0 : kd (rM r) (rK r) (gPl (rW r 0)) ≠ 2) (n1 : kd (rM r) (rK r) (gPl (rW r 1)) ≠ 2) (ap : gPl (rW r 0) ≠ gPl (rW r 1) ∨ gPl (rW r 0) = 0) : ∀ (f i : Nat), i ≤ rM r → rM r < i + f → f_L_holds_L29 v f (nI (rM r)) (nI (gPl (rW r 0))) (nI (gPl (rW r 1))) (stS (rK r) (bV r) i) (nI (kps (rK r) i)) (nI (i + 1)) = f_L_holds_J159 v (nI (rM r)) (nI (gPl (rW r 0))) (nI (gPl (rW r 1))) (stS (rK r) (bV r) (rM r)) (nI (kps (rK r) (rM r))) 1 := by
  have hm := ok.2.1
  have q0 := (ok.2.2.2.2.2.2.2.2.1 0 (by omega)).1
  have q1 := (ok.2.2.2.2.2.2.2.2.1 1 (by omega)).1
  intro f
  induction f with
  | zero => intro i a b; omega
  | succ f ih =>
    intro i a b
    rw [f_L_holds_L29]
    by_cases e : i = rM r
    · subst e
      refine ift (nI_lt (by omega) (by omega)) ?_
      by_cases c : gPl (rW r 0) = gPl (rW r 1)
      · have z : gPl (rW r 0) = 0 := by
          rcases ap with q | q
          · exact absurd c q
          · exact q
        refine ift (by rw [c]) (ift (by rw [z]; rfl) ?_)
        rfl
      · exact iff' (fun e => c ((nI_eq (by omega) (by omega)).mp e)) rfl
    · have hk := ok.2.2.1 (i + 1) (by omega) (by omega)
      refine iff' (nI_nlt (by omega) (by omega)) (bnd (mile_eq h ok (i := 0) (t := i + 1) (by omega) (by omega) (by omega)) ?_)
      have J : ∀ k0 : Int32, k0 = (if rK r (i + 1) = 2 then bV r (i + 1) else 0) → f_L_holds_J71 v (f_L_holds_L29 v f) (nI (rM r)) (nI (gPl (rW r 0))) (nI (gPl (rW r 1))) (nI (kps (rK r) i)) (nI (i + 1)) (nI (rK r (i + 1))) k0 (stS (rK r) (bV r) i) = f_L_holds_J159 v (nI (rM r)) (nI (gPl (rW r 0))) (nI (gPl (rW r 1))) (stS (rK r) (bV r) (rM r)) (nI (kps (rK r) (rM r))) 1 := by
        intro k0 hk0
        have hi := ih (i + 1) (by omega) (by omega)
        have e1 : stS (rK r) (bV r) (i + 1) = stS (rK r) (bV r) i + k0 := by rw [hk0]; rfl
        have e2 : kps (rK r) (i + 1) = kps (rK r) i + (if rK r (i + 1) = 0 then 0 else 1) := rfl
        rw [e1, e2] at hi
        unfold f_L_holds_J71
        by_cases c : rK r (i + 1) = 0
        · rw [if_pos c] at hi
          refine ift (by rw [nI_le0 (by omega)]; exact c) ?_
          rw [holds_J86 h ok n0 n1 _ _ _ _ _ (by omega) (by omega), Int32.add_zero]
          exact hi
        · rw [if_neg c] at hi
          refine iff' (by rw [nI_le0 (by omega)]; exact c) ?_
          rw [holds_J86 h ok n0 n1 _ _ _ _ _ (by omega) (by omega), nI_1]
          exact hi
      show (if nI (rK r (i + 1)) = (2 : Int32) then _ else _) = _
      by_cases c : rK r (i + 1) = 2
      · refine ift (by rw [c]; rfl) (bnd (mile_eq h ok (i := 2) (t := i + 1) (by omega) (by omega) (by omega)) (bnd (mile_eq h ok (i := 3) (t := i + 1) (by omega) (by omega) (by omega)) ?_))
        exact J _ (by rw [if_pos c]; rfl)
      · exact iff' (fun e => c ((nI_eq (b := 2) (by omega) (by omega)).mp e)) (J _ (by rw [if_neg c]))
end HO

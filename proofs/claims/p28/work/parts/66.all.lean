/-! the whole law -/
section WL
variable {L : Nat} {xs : Nat → Int32}
theorem cell_some (hL : L ≤ 260) {j : Nat} (hj : j < 1000) : ∃ x, f_L_cell L xs (nI j) = some x := by
  unfold f_L_cell
  by_cases c : L ≤ j
  · exact ⟨_, if_pos (show nI L ≤ nI j from nI_le c (by omega))⟩
  · exact ⟨_, (if_neg (show ¬ nI L ≤ nI j from nI_ge (by omega) (by omega))).trans (if_pos (ig_t (by omega) (by omega)))⟩
theorem OXs_up {n : Nat} {sn : Option RcS} (h : OXs n sn) : OXs (n + 1) sn := by
  cases sn with
  | none => trivial
  | some q => exact OX_mono (n := n) (by omega) h
theorem law_L49 (hL : L ≤ 260) : ∀ (f i : Nat) (v : tX6) (r : RcS) (k : Nat) (sn : Option RcS), i ≤ 40 → 40 < i + f → IN v r k sn → k ≤ 4 → OX i r → OXs i sn → f_L_law_L49 L xs f (nI i) v = some 1 := by
  intro f
  induction f with
  | zero => intro i v r k sn a b; omega
  | succ f ih =>
    intro i v r k sn a b h hk hx hs
    rw [f_L_law_L49]
    by_cases c : i = 40
    · subst c
      exact ift (by decide) rfl
    · have e2 : (2 : Int32) * nI i = nI (2 * i) := nI_mul 2 i
      have e3 : (2 : Int32) * nI i + (1 : Int32) = nI (2 * i + 1) := by rw [e2, nI_1]
      obtain ⟨y, hy⟩ := cell_some (xs := xs) hL (j := 2 * i) (by omega)
      obtain ⟨z, hz⟩ := cell_some (xs := xs) hL (j := 2 * i + 1) (by omega)
      have J71 : ∀ p : Int32, f_L_law_J71 L xs (f_L_law_L49 L xs f) (nI i) p v = some 1 := by
        intro p
        unfold f_L_law_J71
        rw [e3]
        refine bnd hz ?_
        by_cases d : i = 6
        · obtain ⟨s, u, s1, s2⟩ := save_eq h
          refine ift (by rw [d]; rfl) (bnd s1 ?_)
          exact law_J94 s2 hk hx (show OXs i (some r) from hx) (by omega) _ _ _ _ (fun u' r' k' g1 g2 g3 => by
            rw [nI_1]
            exact ih (i + 1) u' r' k' (some r) (by omega) (by omega) g1 g2 g3 (OXs_up (show OXs i (some r) from hx)))
        · refine iff' (fun e => d ((nI_eq (b := 6) (by omega) (by omega)).mp e)) ?_
          exact law_J94 h hk hx hs (by omega) _ _ _ _ (fun u' r' k' g1 g2 g3 => by
            rw [nI_1]
            exact ih (i + 1) u' r' k' sn (by omega) (by omega) g1 g2 g3 (OXs_up hs))
      refine iff' (nI_ge (b := 40) (by omega) (by omega)) ?_
      by_cases d : i = 1
      · exact ift (by rw [d]; rfl) (J71 2)
      · refine iff' (fun e => d ((nI_eq (b := 1) (by omega) (by omega)).mp e)) ?_
        rw [e2]
        exact bnd hy (J71 y)
end WL
def r00 : RcS := (10, fun _ => 0, 3, 1, fun _ => wg0, 0, -4, 0, 0, fun _ => 0)
theorem OX_00 : OX 0 (sBegin r00) := by
  refine ⟨⟨fun _ => 0, fun _ => 0, fun j _ => ⟨rfl, rfl, Nat.le_refl 0, stS_0 _ _, ?_⟩, rfl, rfl, Nat.zero_le _⟩, Or.inl rfl, 1, 0, 0, rfl, rfl, rfl, by decide, by omega⟩
  show kd _ _ 0 ≠ 2
  unfold kd
  rw [if_neg (by omega)]
  omega
theorem start_eq : ∃ v0, f_X6_init = some v0 ∧ IN v0 (sBegin r00) 0 none ∧ vF v0 = 0 ∧ vB v0 = 0 := by
  have R0 : Rd ((fun _ => 0), (10 : Int32)) (rM r00) (rK r00) := ⟨rfl, by decide, by decide, fun i _ _ => ⟨rfl, by show 0 ≤ 3; omega⟩⟩
  obtain ⟨x, b1, b2, -⟩ := CR_begin (v := (((fun _ => 0), (10 : Int32)), ((fun _ => 0), (0 : Int32), (0 : Int32), (0 : Int32), (0 : Int32), (0 : Int32), (0 : Int32), (0 : Int32), (0 : Int32)), ((fun _ => 0), (0 : Int32), (0 : Int32), (0 : Int32), (0 : Int32), (0 : Int32), (0 : Int32), (0 : Int32), (0 : Int32)), (3 : Int32), (1 : Int32), (0 : Int32), (0 : Int32), (0 : Int32), (0 : Int32), (0 : Int32), (0 : Int32))) (r := r00) R0 rfl rfl rfl rfl rfl
  have i2 : f_X2_init = some x := by
    unfold f_X2_init f_X3_init f_X4_init
    exact bnd rfl (bnd rfl (bnd rfl (bnd b1 rfl)))
  have i0 : f_X0_init = some ((x, x, x, x), (0 : Int32), (0 : Int32)) := by
    unfold f_X0_init
    exact bnd i2 (bnd i2 (bnd i2 (bnd i2 rfl)))
  obtain ⟨y, ta, j1, j2, j3⟩ := init5
  have i6 : f_X6_init = some (x, x, x, ((x, x, x, x), (0 : Int32), (0 : Int32)), ((fun _ => 0), (0 : Int32)), (y, (fun _ => 0), ta, (fun _ => 0), (fun _ => 0), (fun _ => 0), 0, 0, 0), (0 : Int32), (0 : Int32), (0 : Int32)) := by
    unfold f_X6_init
    exact bnd i2 (bnd i2 (bnd i2 (bnd i0 (bnd (show f_X1_init = some ((fun _ => 0), (0 : Int32)) from rfl) (bnd j2 rfl)))))
  have ok : okR (sBegin r00) := ⟨by decide, by decide, fun _ _ _ => by show 0 ≤ 3; omega, by decide, by decide, by decide, by decide, Nat.zero_le _, fun j _ => ⟨Nat.zero_le _, Nat.le_refl 1, Nat.zero_le _⟩, Or.inl ⟨rfl, Nat.zero_le _, Nat.zero_le _, Or.inr rfl⟩⟩
  exact ⟨_, i6, ⟨ok, b2, ⟨fun _ => r00, 0, by omega, by omega, rfl, rfl, fun j hj => by omega⟩, rfl, ⟨j3, Or.inl rfl⟩⟩, rfl, rfl⟩
theorem law_ok (L : Nat) (xs : Nat → Int32) (hL : L ≤ 260) : ∃ v0, f_X6_init = some v0 ∧ f_L_law L xs v0 = some (1 : Int32) := by
  obtain ⟨v0, h0, h1, h2, h3⟩ := start_eq
  refine ⟨v0, h0, ?_⟩
  have un : f_X6_undo v0 = some (-2, v0) := by
    unfold f_X6_undo
    exact bnd (takeBack_no h1.2.2.1) (ift rfl rfl)
  have re : f_X6_restore v0 = some (-2, v0) := by
    unfold f_X6_restore
    exact ift h2 rfl
  have wh : f_X6_why v0 (0 : Int32) = some (-4) := by
    unfold f_X6_why f_X6_why_J11
    exact ift rfl (ift h3 rfl)
  have sp : f_X6_speed v0 = some FP.dconst0 := by
    unfold f_X6_speed
    exact ift (by rw [h1.2.1.2.2.2.2.2.2.2.1]; rfl) rfl
  unfold f_L_law
  refine bnd un (ift rfl (bnd re (ift rfl (bnd wh (ift rfl (bnd sp (ift (by decide +kernel) ?_)))))))
  exact law_L49 hL gas 0 v0 (sBegin r00) 0 none (by omega) (by show 40 < 0 + 1000000; omega) h1 (by omega) OX_00 trivial

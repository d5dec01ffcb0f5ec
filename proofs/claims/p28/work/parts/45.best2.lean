/-! the class's best turn -/
section BE2
variable {m : Nat} {K : Nat → Nat} {pc sp : Nat}
theorem Wo_bm {v : tX5} (h : TW v m K pc sp) {n : Nat} (hv : vld m n) (hl : qL n = 0) : Wo m K pc sp n = bm m K pc sp (Wo m K pc sp) n 5 := by
  rw [Wo_eq h.m14 h.2.2.2.2.2 hv]
  unfold bd
  rw [if_neg (fun e => e hl)]
theorem bt_b {v : tX5} (h : TW v m K pc sp) {n t : Nat} (hv : vld m n) (hp : posT pc n t) : -999 ≤ bt m K sp (Wo m K pc sp) n t ∧ bt m K sp (Wo m K pc sp) n t ≤ 999 := by
  unfold bt
  rcases e : nxt m K sp n t with _ | n'
  · show (-999 : Int) ≤ 499 ∧ (499 : Int) ≤ 999
    omega
  · have g := Wo_b h (TI_child h hv hp e)
    show -999 ≤ trn (Wo m K pc sp n') ∧ trn (Wo m K pc sp n') ≤ 999
    unfold trn
    rcases g with ⟨a, b⟩ | ⟨a, b⟩
    · rw [if_pos (by omega)]; omega
    · rw [if_neg (by omega)]; omega
theorem best_L24 {v1 : tX2} {v : tX5} {n : Nat} (h : TI v m K pc sp) (hv : vld m n) (hl : qL n = 0) (ht : tTO v n ≠ 0) : ∀ (f k : Nat), 1 ≤ k → k ≤ 5 → 5 < k + f → (∀ t, 1 ≤ t → t < k → posT pc n t → bt m K sp (Wo m K pc sp) n t ≠ Wo m K pc sp n) → ∃ T, f_X5_bestOf_L24 v1 f (nI n) (nZ (Wo m K pc sp n)) (nI k) v = some (nI T, v) ∧ isB m K pc sp n T := by
  have hn : n < 16384 := hv.1
  have g := gw_b (Wo_b h.1 hv)
  intro f
  induction f with
  | zero => intro k a b c; omega
  | succ f ih =>
    intro k a b c hk
    rw [f_X5_bestOf_L24]
    by_cases c5 : k = 5
    · subst c5
      refine ⟨5, ift (by decide) rfl, fun e => absurd hl e, fun _ => ?_⟩
      have e := Wo_bm h.1 hv hl
      rcases bm_at (m := m) (K := K) (pc := pc) (sp := sp) (n := n) (W := Wo m K pc sp) 5 with q | ⟨t, t1, t2, t3, t4⟩
      · rw [← e] at q
        have := Wo_b h.1 hv
        rcases this with ⟨x, y⟩ | ⟨x, y⟩ <;> omega
      · rw [← e] at t4
        by_cases t5 : t = 5
        · subst t5; exact ⟨by omega, by omega, t3, t4, hk⟩
        · exact absurd t4 (hk t t1 (by omega) t3)
    · refine (?_ : ∃ T, (if (5 : Int32) ≤ nI k then _ else _) = _ ∧ _)
      rw [if_neg (show ¬ (5 : Int32) ≤ nI k from nI_ge (b := 5) (by omega) (by omega)), possible_eq h.1 hn (by omega), Option.bind_some]
      by_cases cp : posT pc n k
      · rw [if_pos cp, if_neg (show ¬ nI 1 = 0 by decide), by_told h hv cp (by omega) (fun n' e => (h.2 n hv).2 ht hl k n' a (by omega) cp e), Option.bind_some]
        have gb := bt_b h.1 hv cp
        by_cases q : bt m K sp (Wo m K pc sp) n k = Wo m K pc sp n
        · rw [if_pos (by rw [q])]
          exact ⟨k, rfl, fun e => absurd hl e, fun _ => ⟨a, b, cp, q, hk⟩⟩
        · rw [if_neg (by rw [nZ_eq (by omega) (by omega) (by omega) (by omega)]; exact q)]
          unfold f_X5_bestOf_J58
          rw [nI_1]
          exact ih (k + 1) (by omega) (by omega) (by omega) (fun t x y z => by
            by_cases e : t = k
            · subst e; exact q
            · exact hk t x (by omega) z)
      · rw [if_neg cp, if_pos (show nI 0 = 0 from rfl)]
        unfold f_X5_bestOf_J58
        rw [nI_1]
        exact ih (k + 1) (by omega) (by omega) (by omega) (fun t x y z => by
          by_cases e : t = k
          · subst e; exact absurd z cp
          · exact hk t x (by omega) z)
end BE2

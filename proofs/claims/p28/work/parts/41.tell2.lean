/-! lost turns stripped, and the telling -/
def stp (n : Nat) : Nat → Nat
  | 0 => n
  | j + 1 => nxL (stp n j)
section TE2
variable {m : Nat} {K : Nat → Nat} {pc sp : Nat}
theorem nxL_q {n : Nat} (hl : qL n ≠ 0) : qO (nxL n) = qP n ∧ qP (nxL n) = qO n ∧ qT (nxL n) = qU n ∧ qU (nxL n) = qT n ∧ qL (nxL n) = qM n ∧ qM (nxL n) = qL n - 1 := by
  obtain ⟨b1, b2, b3, b4, b5, b6⟩ := q_lt n
  unfold nxL
  exact ⟨mkS_O b2 b1 b4 b3 b6 (by omega), mkS_P b1 b4 b3 b6 (by omega), mkS_T b4 b3 b6 (by omega), mkS_U b3 b6 (by omega), mkS_L b6 (by omega), mkS_M (by omega)⟩
theorem nxL_v {n : Nat} (hm : m ≤ 14) (hs : 1 ≤ sp ∧ sp ≤ 3) (hv : vld m n) (hl : qL n ≠ 0) : vld m (nxL n) ∧ dl m (nxL n) = dl m n := by
  have h := nxt_vld (K := fun _ => 0) (pc := 1) (t := 0) hm hs hv (show posT 1 n 0 by unfold posT; rw [if_pos rfl]; exact hl) (show nxt m (fun _ => 0) sp n 0 = some (nxL n) from if_pos rfl)
  obtain ⟨e1, e2, e3, e4, e5, e6⟩ := nxL_q hl
  refine ⟨h.1, ?_⟩
  unfold dl
  rw [e1, e2, e3, e4]
  omega
theorem Wo_L {v : tX5} (h : TW v m K pc sp) {n : Nat} (hv : vld m n) (hl : qL n ≠ 0) : Wo m K pc sp n = trn (Wo m K pc sp (nxL n)) := by
  rw [Wo_eq h.m14 h.2.2.2.2.2 hv]
  unfold bd
  rw [if_pos hl]
  rfl
theorem stp_v {n : Nat} (hm : m ≤ 14) (hs : 1 ≤ sp ∧ sp ≤ 3) (hv : vld m n) : ∀ j, (∀ i, i < j → qL (stp n i) ≠ 0) → vld m (stp n j) ∧ dl m (stp n j) = dl m n ∧ qL (stp n j) + qM (stp n j) + j = qL n + qM n := by
  intro j
  induction j with
  | zero => intro h; exact ⟨hv, rfl, rfl⟩
  | succ j ih =>
    intro h
    obtain ⟨a, b, c⟩ := ih (fun i hi => h i (by omega))
    have hl := h j (by omega)
    obtain ⟨e1, e2⟩ := nxL_v hm hs a hl
    obtain ⟨-, -, -, -, e5, e6⟩ := nxL_q hl
    refine ⟨e1, by show dl m (nxL (stp n j)) = _; omega, ?_⟩
    show qL (nxL (stp n j)) + qM (nxL (stp n j)) + (j + 1) = _
    rw [e5, e6]
    omega
/-- going back over the lost turns, and writing the worth down -/
theorem back_L98 {rec : tX5 → Int32 → Int32 → Option (Int32 × tX5)} {n j : Nat} {v : tX5} (h : TI v m K pc sp) (hv : vld m n) (hj : j ≤ 6) (hs : ∀ i, i < j → qL (stp n i) ≠ 0) (hc : qL n = 0 → ∀ t n', 1 ≤ t → t ≤ 5 → posT pc n t → nxt m K sp n t = some n' → tTO v n' ≠ 0) : ∀ (f i : Nat), i ≤ j → j < i + f → TS m K pc sp v n (f_X5_tellInto_B_L98 rec f (nI n) (nI j) (nZ (Wo m K pc sp (stp n (j - i)))) (nI i) v) := by
  have hnn : n < 16384 := hv.1
  intro f
  induction f with
  | zero => intro i a b; omega
  | succ f ih =>
    intro i a b
    rw [f_X5_tellInto_B_L98]
    by_cases c : i = j
    · subst c
      rw [if_pos (nI_le (Nat.le_refl _) (by omega)), Nat.sub_self]
      have nz := Wo_nz h.1 hv
      refine ⟨upd (tTO v) n (nZ (Wo m K pc sp n)), ?_, ⟨h.1, ?_⟩, by rw [upd_s]; exact nz, ?_⟩
      · show (f_X6_put 16384 (tTO v) (nI n) (nZ (Wo m K pc sp n))).bind _ = _
        rw [put_in (tTO v) _ hnn (by omega)]
        rfl
      · intro x hx
        have hU : ∀ y, tTO v y ≠ 0 → upd (tTO v) n (nZ (Wo m K pc sp n)) y ≠ 0 := fun y hy => by
          by_cases e : y = n
          · subst e; rw [upd_s]; exact nz
          · rw [upd_n e]; exact hy
        refine ⟨?_, ?_⟩
        · show upd (tTO v) n (nZ (Wo m K pc sp n)) x = 0 ∨ upd (tTO v) n (nZ (Wo m K pc sp n)) x = _
          by_cases e : x = n
          · subst e; rw [upd_s]; exact Or.inr rfl
          · rw [upd_n e]; exact (h.2 x hx).1
        · intro h0 hl t n' t1 t5 hp en
          refine hU n' ?_
          by_cases e : x = n
          · subst e; exact hc hl t n' t1 t5 hp en
          · exact (h.2 x hx).2 (by
              have : upd (tTO v) n (nZ (Wo m K pc sp n)) x ≠ 0 := h0
              rw [upd_n e] at this; exact this) hl t n' t1 t5 hp en
      · intro x hx h0
        by_cases e : x = n
        · subst e; rw [upd_s]; exact nz
        · rw [upd_n e]; exact h0
    · rw [if_neg (nI_ge (by omega) (by omega))]
      have hl := hs (j - (i + 1)) (by omega)
      obtain ⟨a1, -, -⟩ := stp_v h.1.m14 h.1.2.2.2.2.2 hv (j - (i + 1)) (fun i' hi => hs i' (by omega))
      have e1 : stp n (j - i) = nxL (stp n (j - (i + 1))) := by
        rw [show j - i = (j - (i + 1)) + 1 by omega]; rfl
      have e2 := Wo_L h.1 a1 hl
      obtain ⟨a3, -, -⟩ := stp_v h.1.m14 h.1.2.2.2.2.2 hv (j - i) (fun i' hi => hs i' (by omega))
      have g := Wo_b h.1 a3
      rw [before_eq (by rcases g with ⟨a, b⟩ | ⟨a, b⟩ <;> omega) (by rcases g with ⟨a, b⟩ | ⟨a, b⟩ <;> omega), Option.bind_some, e1, ← e2, nI_1]
      exact ih (i + 1) (by omega) (by omega)
end TE2

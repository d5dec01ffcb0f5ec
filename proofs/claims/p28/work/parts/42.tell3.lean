/-! the class tells a stand's worth -/
section TE3
variable {m : Nat} {K : Nat → Nat} {pc sp : Nat}
theorem TI_put {v : tX5} (h : TI v m K pc sp) {n : Nat} (hv : vld m n) (hc : qL n = 0 → ∀ t n', 1 ≤ t → t ≤ 5 → posT pc n t → nxt m K sp n t = some n' → tTO v n' ≠ 0) : TI (stT v (upd (tTO v) n (nZ (Wo m K pc sp n)))) m K pc sp ∧ ∀ y, tTO v y ≠ 0 → upd (tTO v) n (nZ (Wo m K pc sp n)) y ≠ 0 := by
  have nz := Wo_nz h.1 hv
  have hU : ∀ y, tTO v y ≠ 0 → upd (tTO v) n (nZ (Wo m K pc sp n)) y ≠ 0 := fun y hy => by
    by_cases e : y = n
    · subst e; rw [upd_s]; exact nz
    · rw [upd_n e]; exact hy
  refine ⟨⟨h.1, fun x hx => ⟨?_, ?_⟩⟩, hU⟩
  · show upd (tTO v) n (nZ (Wo m K pc sp n)) x = 0 ∨ upd (tTO v) n (nZ (Wo m K pc sp n)) x = _
    by_cases e : x = n
    · subst e; rw [upd_s]; exact Or.inr rfl
    · rw [upd_n e]; exact (h.2 x hx).1
  · intro h0 hl t n' t1 t5 hp en
    refine hU n' ?_
    by_cases e : x = n
    · subst e; exact hc hl t n' t1 t5 hp en
    · exact (h.2 x hx).2 (by
        have : upd (tTO v) n (nZ (Wo m K pc sp n)) x ≠ 0 := h0
        rw [upd_n e] at this; exact this) hl t n' t1 t5 hp en
theorem tell_J85 {rec : tX5 → Int32 → Int32 → Option (Int32 × tX5)} {n j : Nat} {v : tX5} (h : TI v m K pc sp) (hv : vld m n) (hj : j ≤ 6) (hs : ∀ i, i < j → qL (stp n i) ≠ 0) (hc : qL n = 0 → ∀ t n', 1 ≤ t → t ≤ 5 → posT pc n t → nxt m K sp n t = some n' → tTO v n' ≠ 0) (ht : tTO v (stp n j) ≠ 0) : TS m K pc sp v n (f_X5_tellInto_B_J85 rec (nI n) (nI (stp n j)) (nI j) v) := by
  obtain ⟨a1, -, -⟩ := stp_v h.1.m14 h.1.2.2.2.2.2 hv j hs
  have hn : stp n j < 16384 := a1.1
  have e := h.at a1 ht
  unfold f_X5_tellInto_B_J85
  rw [at_in (tTO v) hn (by omega), Option.bind_some, e]
  exact back_L98 h hv hj hs hc gas 0 (by omega) (by show j < 0 + 1000000; omega)
theorem tell_J58 {rec : tX5 → Int32 → Int32 → Option (Int32 × tX5)} {n p2 j : Nat} (hrec : ∀ (v : tX5) (n' : Nat), TI v m K pc sp → vld m n' → dl m n' < dl m n → TS m K pc sp v n' (rec v (nI n') (nI (p2 + 1)))) {v : tX5} (h : TI v m K pc sp) (hv : vld m n) (h0 : tTO v n = 0) (hj : j ≤ 6) (hs : ∀ i, i < j → qL (stp n i) ≠ 0) (hq : qL (stp n j) = 0) : TS m K pc sp v n (f_X5_tellInto_B_J58 rec (nI n) (nI p2) (nI (stp n j)) (nI j) v) := by
  obtain ⟨a1, a2, -⟩ := stp_v h.1.m14 h.1.2.2.2.2.2 hv j hs
  have hn : stp n j < 16384 := a1.1
  unfold f_X5_tellInto_B_J58
  rw [at_in (tTO v) hn (by omega), Option.bind_some]
  by_cases c : tTO v (stp n j) = 0
  · rw [if_pos c]
    obtain ⟨to, t1, t2, t3, t4⟩ := great_L7 (n := stp n j) (p2 := p2 + 1) (fun v' n' x y z => hrec v' n' x y (by omega)) gas 0 v h a1 hq (by omega) (by show 5 < 0 + 1000000; omega) (fun t n' a b => by omega)
    have eg : f_X5_greatestInto rec v (nI (stp n j)) (nI p2 + (1 : Int32)) = some (nZ (bm m K pc sp (Wo m K pc sp) (stp n j) 5), stT v to) := by
      unfold f_X5_greatestInto
      rw [nI_1]
      exact t1
    have ew : bm m K pc sp (Wo m K pc sp) (stp n j) 5 = Wo m K pc sp (stp n j) := by
      rw [Wo_eq h.1.m14 h.1.2.2.2.2.2 a1]
      unfold bd
      rw [if_neg (fun e => e hq)]
    obtain ⟨p1, p3⟩ := TI_put t2 a1 (fun _ => t4)
    rw [eg, Option.bind_some]
    have ep : f_X6_put 16384 (stT v to).2.2.2.1 (nI (stp n j)) (nZ (bm m K pc sp (Wo m K pc sp) (stp n j) 5)) = some (upd to (stp n j) (nZ (Wo m K pc sp (stp n j)))) := by
      rw [ew]
      exact put_in to _ hn (by omega)
    refine (?_ : TS m K pc sp v n ((f_X6_put 16384 (stT v to).2.2.2.1 (nI (stp n j)) (nZ (bm m K pc sp (Wo m K pc sp) (stp n j) 5))).bind _))
    rw [ep, Option.bind_some]
    obtain ⟨to2, s1, s2, s3, s4⟩ := tell_J85 (rec := rec) (v := stT v (upd to (stp n j) (nZ (Wo m K pc sp (stp n j))))) p1 hv hj hs (fun hl t n' x y z w => by
      by_cases j0 : j = 0
      · subst j0; exact p3 n' (t4 t n' x y z w)
      · exact absurd hl (hs 0 (by omega))) (by
      show upd to (stp n j) (nZ (Wo m K pc sp (stp n j))) (stp n j) ≠ 0
      rw [upd_s]; exact Wo_nz h.1 a1)
    exact ⟨to2, s1, s2, s3, fun x hx hx0 => s4 x hx (p3 x (t3 x hx hx0))⟩
  · rw [if_neg c]
    refine tell_J85 h hv hj hs (fun hl => ?_) c
    by_cases j0 : j = 0
    · subst j0; exact absurd h0 c
    · exact absurd hl (hs 0 (by omega))
theorem tell_L31 {rec : tX5 → Int32 → Int32 → Option (Int32 × tX5)} {n p2 : Nat} (hrec : ∀ (v : tX5) (n' : Nat), TI v m K pc sp → vld m n' → dl m n' < dl m n → TS m K pc sp v n' (rec v (nI n') (nI (p2 + 1)))) {v : tX5} (h : TI v m K pc sp) (hv : vld m n) (h0 : tTO v n = 0) : ∀ (g j : Nat), j ≤ 6 → 6 < j + g → (∀ i, i < j → qL (stp n i) ≠ 0) → TS m K pc sp v n (f_X5_tellInto_B_L31 rec g (nI n) (nI p2) (nI (stp n j)) (nI j) v) := by
  intro g
  induction g with
  | zero => intro j a b; omega
  | succ g ih =>
    intro j hj hg hs
    obtain ⟨a1, a2, a3⟩ := stp_v h.1.m14 h.1.2.2.2.2.2 hv j hs
    have hn : stp n j < 16384 := a1.1
    obtain ⟨b1, b2, b3, b4, b5, b6⟩ := q_lt n
    obtain ⟨d1, d2, d3, d4, d5, d6⟩ := q_lt (stp n j)
    rw [f_X5_tellInto_B_L31]
    by_cases c6 : 6 ≤ j
    · rw [if_pos (show (6 : Int32) ≤ nI j from nI_le (a := 6) c6 (by omega))]
      exact tell_J58 hrec h hv h0 hj hs (by omega)
    · rw [if_neg (show ¬ (6 : Int32) ≤ nI j from nI_ge (b := 6) (by omega) (by omega)), ownL_eq hn, Option.bind_some]
      by_cases cl : qL (stp n j) = 0
      · rw [if_pos (by rw [nI_le0 (by omega)]; exact cl)]
        exact tell_J58 hrec h hv h0 hj hs cl
      · rw [if_neg (by rw [nI_le0 (by omega)]; exact cl)]
        have ea := after_eq (t := 0) h.1 a1 (show posT pc (stp n j) 0 by unfold posT; rw [if_pos rfl]; exact cl) (by omega)
        have ea : f_X5_after v (nI (stp n j)) (0 : Int32) = some (nI (stp n (j + 1))) := ea
        rw [ea, Option.bind_some, nI_1]
        exact ih (j + 1) (by omega) (by omega) (fun i hi => by
          by_cases e : i = j
          · subst e; exact cl
          · exact hs i (by omega))
theorem tell_eq : ∀ (f : Nat) (v : tX5) (n p2 : Nat), TI v m K pc sp → vld m n → dl m n < f → p2 + dl m n ≤ 64 → TS m K pc sp v n (f_X5_tellInto f v (nI n) (nI p2)) := by
  intro f
  induction f with
  | zero => intro v n p2 h hv a b; omega
  | succ f ih =>
    intro v n p2 h hv a b
    have hn : n < 16384 := hv.1
    rw [f_X5_tellInto]
    unfold f_X5_tellInto_B f_X5_tellInto_B_J17
    rw [at_in (tTO v) hn (by omega), Option.bind_some]
    by_cases c : tTO v n = 0
    · rw [if_pos c, if_pos (show nI p2 ≤ (64 : Int32) from nI_le (b := 64) (by omega) (by omega))]
      exact tell_L31 (fun v' n' x y z => ih v' n' (p2 + 1) x y (by omega) (by omega)) h hv c gas 0 (by omega) (by show 6 < 0 + 1000000; omega) (fun i hi => by omega)
    · rw [if_neg c, Option.bind_some]
      exact ⟨tTO v, by rw [h.at hv c], h, c, fun x _ hx => hx⟩
end TE3

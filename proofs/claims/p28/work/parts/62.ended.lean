/-! what a whole race would end in -/
/-- what holds while the race is imagined: r the race now, q the imagined one -/
def RelE (u : tX6) (r q : RcS) (k : Nat) (sn : Option RcS) : Prop := IN u r k sn ∧ (okR q ∧ CR u.2.1 q ∧ PI (vW u) q)
abbrev stU (u : tX6) (im : tX2) (x : tX5) : tX6 := (u.1, im, u.2.2.1, u.2.2.2.1, u.2.2.2.2.1, x, u.2.2.2.2.2.2)
/-- the turn by a manner: 0 a best one, 1 by greed -/
def byM (ka : Int32) (q : RcS) (t : Nat) : Prop := (ka = 0 → isBr q t) ∧ (ka = 1 → t = sGreedy q)
theorem ended_step {u : tX6} {r q : RcS} {n : Nat} {sn : Option RcS} (h : RelE u r q n sn) (hw : rWi q = -4) {ka : Int32} (hka : ka = 0 ∨ ka = 1) (K6 : Int32 → Int32 → Int32 → Int32 → tX6 → Option (Int32 × tX6)) (l1 l2 l3 l4 : Int32) : ∃ (t : Nat) (u' : tX6), t ≤ 5 ∧ sRef q t = 0 ∧ byM ka q t ∧ f_X6_ended_J84 K6 l1 l2 l3 l4 ka u = K6 l1 l2 l3 (l4 + (1 : Int32)) u' ∧ RelE u' r (sMake q t) n sn := by
  obtain ⟨hI, h8, h9, h11⟩ := h
  unfold f_X6_ended_J84 f_X6_ended_J115
  rcases hka with rfl | rfl
  · obtain ⟨to, T, b1, b2, b3⟩ := bestOf_eq h11.2.1 h9 h8 hw
    obtain ⟨c3, c5⟩ := isB_ref h8 hw b3
    obtain ⟨im, m1, m2⟩ := make_eq h9 h8 c3
    have P := PI_st h11 b2
    exact ⟨T, stU u im (stT (vW u) to), c5, c3, ⟨fun _ => b3, fun e => absurd e (by decide)⟩, iff' (by decide) (bnd b1 (bnd m1 rfl)), hI.look P.wi, okR_make h8 c3, m2, PI_keep (make_keep q T) P⟩
  · obtain ⟨c3, c5⟩ := sGreedy_ref h8 hw
    have g6 := greediest_eq h9 h8 hw
    obtain ⟨im, m1, m2⟩ := make_eq h9 h8 c3
    exact ⟨sGreedy q, stU u im (vW u), by omega, c3, ⟨fun e => absurd e (by decide), fun _ => rfl⟩, ift rfl (bnd g6 (bnd m1 rfl)), hI.look h11.wi, okR_make h8 c3, m2, PI_keep (make_keep q _) h11⟩
theorem ended_L {l1 l2 : Int32} (h1 : l1 = 0 ∨ l1 = 1) (h2 : l2 = 0 ∨ l2 = 1) (l3 : Int32) {r : RcS} {n : Nat} {sn : Option RcS} (Inv : Nat → RcS → Prop) (hstep : ∀ k q t, Inv k q → okR q → t ≤ 5 → sRef q t = 0 → byM (if rOt q = 0 then l1 else l2) q t → Inv (k + 1) (sMake q t)) : ∀ (f k : Nat) (u : tX6) (q : RcS), k ≤ 465 → 466 < k + f → RelE u r q n sn → (rWi q = -4 → mu (rM q) (sSt q) + k ≤ 464) → rTu q = rTu r + nI k → Inv k q → ∃ (k' : Nat) (q' : RcS) (u1 : tX6), f_X6_ended_L51 f l1 l2 l3 (nI k) u = f_X6_ended_J124 l3 u1 ∧ RelE u1 r q' n sn ∧ rWi q' ≠ -4 ∧ rTu q' = rTu r + nI k' ∧ Inv k' q' := by
  intro f
  induction f with
  | zero => intro k u q a b; omega
  | succ f ih =>
    intro k u q a b h hmu hk hI
    obtain ⟨-, h8, h9, h11⟩ := id h
    have n1 : ¬ (1000 : Int32) ≤ nI k := nI_ge (b := 1000) (by omega) (by omega)
    have e6 := isOver_eq h9
    rw [f_X6_ended_L51]
    by_cases c : rWi q = -4
    · rw [if_pos c] at e6
      have hm := hmu c
      have ho := h8.2.2.2.2.2.2.2.1
      have go : ∀ ka : Int32, (ka = 0 ∨ ka = 1) → ka = (if rOt q = 0 then l1 else l2) → ∃ (k' : Nat) (q' : RcS) (u1 : tX6), f_X6_ended_J84 (f_X6_ended_L51 f) l1 l2 l3 (nI k) ka u = f_X6_ended_J124 l3 u1 ∧ RelE u1 r q' n sn ∧ rWi q' ≠ -4 ∧ rTu q' = rTu r + nI k' ∧ Inv k' q' := by
        intro ka hka hkb
        obtain ⟨t, u', t5, c3, hby, s1, s3⟩ := ended_step h c hka (f_X6_ended_L51 f) l1 l2 l3 (nI k)
        rw [hkb] at hby
        obtain ⟨k', q', u1, x1, x2, x3, x4, x5⟩ := ih (k + 1) u' (sMake q t) (by omega) (by omega) s3 (fun hw' => by
          have := mu_make h8 t5 c3 hw'
          rw [(make_keep q t).1]
          omega) (by rw [show rTu (sMake q t) = rTu q + 1 from make_turns q t, hk, ← nI_1 k, Int32.add_assoc]) (hstep k q t hI h8 t5 c3 hby)
        refine ⟨k', q', u1, ?_, x2, x3, x4, x5⟩
        rw [s1, nI_1]; exact x1
      have o6 : u.2.1.2.2.2.2.2.1 = nI (rOt q) := h9.2.2.2.2.2.1
      rcases (show rOt q = 0 ∨ rOt q = 1 by omega) with e | e
      · obtain ⟨k', q', u1, x1, x2⟩ := go l1 h1 (by rw [if_pos e])
        exact ⟨k', q', u1, iff' n1 (bnd e6 (ift rfl (ift (by rw [o6, e]; rfl) x1))), x2⟩
      · obtain ⟨k', q', u1, x1, x2⟩ := go l2 h2 (by rw [if_neg (by omega)])
        exact ⟨k', q', u1, iff' n1 (bnd e6 (ift rfl (iff' (by rw [o6, e]; decide) x1))), x2⟩
    · rw [if_neg c] at e6
      exact ⟨k, q, u, iff' n1 (bnd e6 (iff' (by decide) rfl)), h, c, hk, hI⟩
/-- a call of ended: it comes to an end that keeps what each turn keeps -/
theorem ended_eq {v : tX6} {r : RcS} {n : Nat} {sn : Option RcS} (h : IN v r n sn) {l1 l2 l3 : Int32} (h1 : l1 = 0 ∨ l1 = 1) (h2 : l2 = 0 ∨ l2 = 1) (h3 : l3 = 0 ∨ l3 = 1) (Inv : Nat → RcS → Prop) (hstep : ∀ k q t, Inv k q → okR q → t ≤ 5 → sRef q t = 0 → byM (if rOt q = 0 then l1 else l2) q t → Inv (k + 1) (sMake q t)) (h0 : Inv 0 r) : ∃ (k' : Nat) (q' : RcS) (u1 : tX6), f_X6_ended v l1 l2 l3 = some ((if l3 = 0 then rWi q' else nI k'), u1) ∧ IN u1 r n sn ∧ rWi q' ≠ -4 ∧ Inv k' q' := by
  obtain ⟨im, m1, m2⟩ := CR_take (v := v.2.1) h.2.1 h.1
  obtain ⟨x, x1, x2⟩ := prepare_eq h.2.2.2.2 h.2.1 h.1
  have R : RelE (stU v im x) r r n sn := ⟨h.look x2.wi, h.1, m2, x2⟩
  obtain ⟨k', q', u1, y1, ⟨y2, y8, y9, -⟩, y3, y4, y5⟩ := ended_L h1 h2 l3 Inv hstep gas 0 _ r (by omega) (by show 466 < 0 + 1000000; omega) R (fun _ => by have := mu_le (n := sSt r) h.1.2.1; omega) (by show _ = _ + (0 : Int32); rw [Int32.add_zero]) h0
  refine ⟨k', q', u1, ?_, y2, y3, y5⟩
  have J : f_X6_ended_J124 l3 u1 = some ((if l3 = 0 then rWi q' else nI k'), u1) := by
    have cw := y9.2.2.2.2.2.2.1
    have ct := y9.2.2.2.2.2.2.2.1
    have rt := y2.2.1.2.2.2.2.2.2.2.1
    unfold f_X6_ended_J124
    rcases h3 with rfl | rfl
    · exact ift rfl (by rw [cw]; rfl)
    · refine iff' (by decide) (ift rfl ?_)
      rw [ct, rt, show q'.2.2.2.2.2.2.2.1 = r.2.2.2.2.2.2.2.1 + nI k' from y4, Int32.add_comm, Int32.add_sub_cancel, if_neg (by decide)]
  have L20 : f_X6_ended_J20 l1 l2 l3 v = some ((if l3 = 0 then rWi q' else nI k'), u1) := by
    unfold f_X6_ended_J20
    have p1 : f_X6_preparedWorths (v.1, im, v.2.2.1, v.2.2.2.1, v.2.2.2.2.1, v.2.2.2.2.2.1, v.2.2.2.2.2.2.1, v.2.2.2.2.2.2.2.1, v.2.2.2.2.2.2.2.2) = some (stU v im x) := by
      unfold f_X6_preparedWorths
      exact bnd x1 rfl
    refine iff' (by rcases h3 with rfl | rfl <;> decide) (ift (by rcases h3 with rfl | rfl <;> decide) (bnd m1 (bnd p1 ?_)))
    exact y1.trans J
  have L9 : f_X6_ended_J9 l1 l2 l3 v = some ((if l3 = 0 then rWi q' else nI k'), u1) := by
    unfold f_X6_ended_J9
    rcases h2 with rfl | rfl
    · exact ift rfl L20
    · exact iff' (by decide) (ift rfl L20)
  unfold f_X6_ended
  rcases h1 with rfl | rfl
  · exact ift rfl L9
  · exact iff' (by decide) (ift rfl L9)

/-! what a whole race would end in -/
theorem sLost_W {r : RcS} (ho : rOt r ≤ 1) : rOt (sLost r) = 1 - rOt r ∧ rWi (sLost r) = rWi r ∧ rW (sLost r) (1 - rOt r) = rW r (1 - rOt r) ∧ gPl (rW (sLost r) (rOt r)) = gPl (rW r (rOt r)) ∧ gTk (rW (sLost r) (rOt r)) = gTk (rW r (rOt r)) ∧ gLs (rW (sLost r) (rOt r)) = gLs (rW r (rOt r)) - 1 := by
  have hne : 1 - rOt r ≠ rOt r := by omega
  unfold sLost
  rcases e : rW r (rOt r) with ⟨a1, a2, a3, a4, a5, a6, a7, a8, a9⟩
  refine ⟨rfl, rfl, upw_n hne, ?_, ?_, ?_⟩ <;> simp only [rW, upw_s]
theorem sToken_W {r : RcS} (ho : rOt r ≤ 1) : rOt (sToken r) = 1 - rOt r ∧ rWi (sToken r) = rWi r ∧ gPl (rW (sToken r) (1 - rOt r)) = gPl (rW r (1 - rOt r)) ∧ gTk (rW (sToken r) (1 - rOt r)) = gTk (rW r (1 - rOt r)) ∧ gLs (rW (sToken r) (1 - rOt r)) = min 3 (gLs (rW r (1 - rOt r)) + rSp r) ∧ gPl (rW (sToken r) (rOt r)) = gPl (rW r (rOt r)) ∧ gTk (rW (sToken r) (rOt r)) = 0 ∧ gLs (rW (sToken r) (rOt r)) = gLs (rW r (rOt r)) := by
  have hne : rOt r ≠ 1 - rOt r := by omega
  unfold sToken
  rcases e : rW r (rOt r) with ⟨a1, a2, a3, a4, a5, a6, a7, a8, a9⟩
  rcases e2 : rW r (1 - rOt r) with ⟨b1, b2, b3, b4, b5, b6, b7, b8, b9⟩
  refine ⟨rfl, rfl, ?_, ?_, ?_, ?_, ?_, ?_⟩ <;> simp only [rW, upw_s, upw_n hne]
theorem sDrive_W {r : RcS} (ho : rOt r ≤ 1) (t : Nat) : rOt (sDrive r t) = 1 - rOt r ∧ rWi (sDrive r t) = (if sTo r t ≤ rM r then rWi r else nI (rOt r)) ∧ rW (sDrive r t) (1 - rOt r) = rW r (1 - rOt r) ∧ gPl (rW (sDrive r t) (rOt r)) = sTo r t ∧ gTk (rW (sDrive r t) (rOt r)) = (if kd (rM r) (rK r) (sTo r t) = 3 then 1 else gTk (rW r (rOt r))) ∧ gLs (rW (sDrive r t) (rOt r)) = (if kd (rM r) (rK r) (sTo r t) = 1 then gLs (rW r (rOt r)) + 1 else gLs (rW r (rOt r))) := by
  have hne : 1 - rOt r ≠ rOt r := by omega
  unfold sDrive
  rcases e : rW r (rOt r) with ⟨a1, a2, a3, a4, a5, a6, a7, a8, a9⟩
  refine ⟨rfl, rfl, upw_n hne, ?_, ?_, ?_⟩ <;> simp only [rW, upw_s]
theorem make_nxt {r : RcS} (ok : okR r) {t : Nat} (hp : sRef r t = 0) (hw : rWi (sMake r t) = -4) : nxt (rM r) (rK r) (rSp r) (sSt r) t = some (sSt (sMake r t)) := by
  have ho := ok.2.2.2.2.2.2.2.1
  obtain ⟨hv, q1, q2, q3, q4, q5, q6⟩ := sSt_q ok (ref_over hp)
  have oo : 1 - (1 - rOt r) = rOt r := by omega
  unfold sMake at hw ⊢
  unfold nxt
  by_cases c0 : t = 0
  · rw [if_pos c0] at hw ⊢
    rw [if_pos c0]
    obtain ⟨a1, a2, a3, a4, a5, a6⟩ := sLost_W (r := r) ho
    unfold sSt nxL
    rw [a1, oo, a3, a4, a5, a6]
    unfold sSt at q1 q2 q3 q4 q5 q6
    rw [q1, q2, q3, q4, q5, q6]
  · rw [if_neg c0] at hw ⊢
    rw [if_neg c0]
    by_cases c5 : t = 5
    · rw [if_pos c5] at hw ⊢
      rw [if_pos c5]
      obtain ⟨a1, a2, a3, a4, a5, a6, a7, a8⟩ := sToken_W (r := r) ho
      have l0 : gLs (rW r (rOt r)) = 0 := by
        unfold sRef at hp
        rw [if_neg (fun e => e (ref_over (r := r) (t := t) (by unfold sRef; exact hp)))] at hp
        by_cases c : gLs (rW r (rOt r)) ≠ 0
        · rw [if_pos c, if_neg c0] at hp; omega
        · exact Classical.not_not.mp c
      unfold nxT
      rw [q1, q2, q4, q6]
      unfold sSt
      rw [a1, oo, a3, a4, a5, a6, a7, a8, l0]
    · rw [if_neg c5] at hw ⊢
      rw [if_neg c5]
      obtain ⟨d1, d2⟩ := ref_drive hp c0 c5
      obtain ⟨a1, a2, a3, a4, a5, a6⟩ := sDrive_W (r := r) ho t
      have hle : sTo r t ≤ rM r := by
        by_cases c : sTo r t ≤ rM r
        · exact c
        · rw [a2, if_neg c] at hw
          rcases (show rOt r = 0 ∨ rOt r = 1 by omega) with e | e <;> rw [e] at hw <;> exact absurd hw (by decide)
      have en : nxR (rM r) (rK r) (sSt r) t = sTo r t := by
        unfold nxR sTo
        rw [q1, q2]
      rw [en, if_pos hle]
      unfold nxD
      rw [q2, q3, q4, q6]
      unfold sSt
      rw [a1, oo, a3, a4, a5, a6, d2]
theorem mu_make {r : RcS} (ok : okR r) {t : Nat} (h5 : t ≤ 5) (hp : sRef r t = 0) (hw : rWi (sMake r t) = -4) : mu (rM r) (sSt (sMake r t)) < mu (rM r) (sSt r) :=
  (nxt_vld ok.2.1 ⟨ok.2.2.2.2.2.1, ok.2.2.2.2.2.2.1⟩ (sSt_q ok (ref_over hp)).1 (ref_pos ok hp h5) (make_nxt ok hp hw)).2
theorem make_turns (r : RcS) (t : Nat) : (sMake r t).2.2.2.2.2.2.2.1 = r.2.2.2.2.2.2.2.1 + 1 := by
  unfold sMake
  by_cases c0 : t = 0
  · rw [if_pos c0]; rfl
  · rw [if_neg c0]
    by_cases c5 : t = 5
    · rw [if_pos c5]; rfl
    · rw [if_neg c5]; rfl
theorem PI_keep {x : tX5} {r r' : RcS} (e : rM r' = rM r ∧ rK r' = rK r ∧ rPc r' = rPc r ∧ rSp r' = rSp r) (h : PI x r) : PI x r' := by
  obtain ⟨e1, e2, e3, e4⟩ := e
  obtain ⟨h1, h2, h3⟩ := h
  refine ⟨h1, ?_, ?_⟩
  · show TI x (rM r') (rK r') (rPc r') (rSp r')
    rw [e1, e2, e3, e4]; exact h2
  · show SI (rM r') (rK r') (rPc r') (rSp r') (tSW x)
    rw [e1, e2, e3, e4]; exact h3
theorem WR_keep {y : tX7} {r r' : RcS} (e : rM r' = rM r ∧ rK r' = rK r ∧ rPc r' = rPc r ∧ rSp r' = rSp r) (h : WR7 y r) : WR7 y r' := by
  obtain ⟨e1, e2, e3, e4⟩ := e
  show WR y (rM r') (rK r') (rPc r') (rSp r')
  rw [e1, e2, e3, e4]; exact h
/-- what holds while the race is imagined: r the race now, q the imagined one -/
def RelE (u : tX6) (y : tX7) (r q : RcS) : Prop := okR r ∧ CR u.1 r ∧ MR (w_as y) r ∧ HR (vH u) (w_sts y) (w_sm y) ∧ SN u y ∧ PR (vP u) y ∧ YR u y ∧ (okR q ∧ CR u.2.1 q ∧ MR y.2.1 q ∧ PI (vW u) q ∧ WR7 y q) ∧ (rM q = rM r ∧ rK q = rK r ∧ rPc q = rPc r ∧ rSp q = rSp r)
abbrev stU (u : tX6) (im : tX2) (x : tX5) : tX6 := (u.1, im, u.2.2.1, u.2.2.2.1, u.2.2.2.2.1, x, u.2.2.2.2.2.2)
theorem RelE.kp {u : tX6} {y z : tX7} {r q : RcS} (h : RelE u y r q) (hk : KP y q z) {x : tX5} (hx : PI x q) : RelE (stU u u.2.1 x) z r q := by
  obtain ⟨h1, h2, h3, h4, h5, h6, h7, ⟨h8, h9, h10, h11, h12⟩, h13⟩ := h
  obtain ⟨⟨wo, a, ⟨q1, q2, q3, q4, q5, rfl⟩⟩, k2⟩ := hk
  exact ⟨h1, h2, h3, h4, h5, h6, h7, ⟨h8, h9, h10, hx, k2⟩, h13⟩
theorem RelE.sm {u : tX6} {y z : tX7} {r q : RcS} (h : RelE u y r q) (hk : sm7 y z) : RelE u z r q := by
  obtain ⟨q1, q2, q3, q4, q5, rfl⟩ := hk
  exact h
theorem RelE.turn {u : tX6} {y z : tX7} {r q : RcS} {t : Nat} {im : tX2} (h : RelE u y r q) (hp : sRef q t = 0) (hc : CR im (sMake q t)) (hm : MR z.2.1 (sMake q t)) (hz : same7 y z) : RelE (stU u im (vW u)) z r (sMake q t) := by
  obtain ⟨h1, h2, h3, h4, h5, h6, h7, ⟨h8, h9, h10, h11, h12⟩, ⟨g1, g2, g3, g4⟩⟩ := h
  obtain ⟨s, q1, q2, q3, q4, q5, rfl⟩ := same7_ex hz
  have e := make_keep q t
  exact ⟨h1, h2, h3, h4, h5, h6, h7, ⟨okR_make h8 hp, hc, hm, PI_keep e h11, WR_keep (y := y) e h12⟩, e.1.trans g1, e.2.1.trans g2, e.2.2.1.trans g3, e.2.2.2.trans g4⟩
/-- one turn of the imagined race, in one of the two manners -/
theorem ended_step {u : tX6} {y : tX7} {r q : RcS} (h : RelE u y r q) (hw : rWi q = -4) {ka : Int32} (hka : ka = 0 ∨ ka = 1) (K6 : Int32 → Int32 → Int32 → Int32 → tX6 → Option (Int32 × tX6)) (K7 : Int32 → Int32 → Int32 → Int32 → tX7 → Option (Int32 × tX7)) (l1 l2 l3 l4 : Int32) : ∃ (t : Nat) (u' : tX6) (y' : tX7), t ≤ 5 ∧ sRef q t = 0 ∧ f_X6_ended_J84 K6 l1 l2 l3 l4 ka u = K6 l1 l2 l3 (l4 + (1 : Int32)) u' ∧ f_X7_ended_J64 K7 l1 l2 l3 l4 ka y = K7 l1 l2 l3 (l4 + (1 : Int32)) y' ∧ RelE u' y' r (sMake q t) := by
  obtain ⟨h8, h9, h10, h11, h12⟩ := h.2.2.2.2.2.2.2.1
  unfold f_X6_ended_J84 f_X6_ended_J115 f_X7_ended_J64 f_X7_ended_J78
  rcases hka with rfl | rfl
  · obtain ⟨to, T, b1, b2, b3⟩ := bestOf_eq h11.2.1 h9 h8 hw
    obtain ⟨T', z, d1, d2, d3⟩ := bestNow_eq h10 h8 h12 hw
    have eT : T' = T := isB_uniq d2 b3
    subst eT
    obtain ⟨c3, c5⟩ := isB_ref h8 hw b3
    have R := h.kp d3 (PI_st h11 b2)
    obtain ⟨im, m1, m2⟩ := make_eq h9 h8 c3
    obtain ⟨x, x1, x2, x3, x4⟩ := makes7 R.2.2.2.2.2.2.2.1.2.2.1 h8 c3 (by omega)
    have R2 := R.turn c3 m2 x3 x4
    exact ⟨T', _, x.2, c5, c3, iff' (by decide) (bnd b1 (bnd m1 rfl)), ift rfl (bnd d1 (bnd x1 rfl)), R2⟩
  · obtain ⟨c3, c5⟩ := sGreedy_ref h8 hw
    have g6 := greediest_eq h9 h8 hw
    obtain ⟨z, d1, d2, d3⟩ := greedy7 h10 h8 hw
    have R := h.sm d3
    obtain ⟨im, m1, m2⟩ := make_eq h9 h8 c3
    obtain ⟨x, x1, x2, x3, x4⟩ := makes7 R.2.2.2.2.2.2.2.1.2.2.1 h8 c3 (by omega)
    rw [← d2] at x1
    have R2 := R.turn c3 m2 x3 x4
    exact ⟨sGreedy q, _, x.2, by omega, c3, ift rfl (bnd g6 (bnd m1 rfl)), iff' (by decide) (bnd d1 (bnd x1 rfl)), R2⟩
theorem ended_end {u : tX6} {y : tX7} {r q : RcS} (h : RelE u y r q) (hw : rWi q ≠ -4) {k : Nat} (hk : q.2.2.2.2.2.2.2.1 = r.2.2.2.2.2.2.2.1 + nI k) (l3 : Int32) : ∃ (a : Int32) (w1 : tX7), f_X6_ended_J124 l3 u = some (a, u) ∧ (if l3 = 0 then f_X7_ended_J125 (y.2.1 22) y else (if l3 = (1 : Int32) then f_X7_ended_J125 (nI k) y else (f_X7_of y ((1 : Int32) - (y.2.1 22)) (0 : Int32)).bind fun x5 => f_X7_ended_J125 x5 y)) = some (a, w1) ∧ Rel u w1 := by
  obtain ⟨h1, h2, h3, h4, h5, h6, h7, ⟨h8, h9, h10, h11, h12⟩, h13⟩ := h
  have tb := takeBack7 y
  have R : RelR u (stX y (ovo 0 72 (w_as y) y.2.1)) r := ⟨h1, h2, ovo_MR h1.2.1 h3, h4, h5, h6, h7, h11.wi, WR_keep (y := y) ⟨h13.1.symm, h13.2.1.symm, h13.2.2.1.symm, h13.2.2.2.symm⟩ h12⟩
  have e22 : y.2.1 22 = rWi q := h10.2.2.2.2.2.2.2.2.2.1
  have cw := h9.2.2.2.2.2.2.1
  have ct := h9.2.2.2.2.2.2.2.1
  have rt := h2.2.2.2.2.2.2.2.1
  unfold f_X6_ended_J124 f_X7_ended_J125
  by_cases c0 : l3 = 0
  · exact ⟨rWi q, _, ift c0 (by rw [cw]), ift c0 (bnd tb (by rw [e22])), r, R⟩
  · by_cases c1 : l3 = 1
    · refine ⟨nI k, _, iff' c0 (ift c1 ?_), iff' c0 (ift c1 (bnd tb rfl)), r, R⟩
      rw [ct, rt, hk, Int32.add_comm, Int32.add_sub_cancel]
    · have w0 := MR_W h10 (show 0 ≤ 1 by omega)
      have w1 := MR_W h10 (show 1 ≤ 1 by omega)
      have win : rWi q = 0 ∨ rWi q = 1 := by
        rcases h8.2.2.2.2.2.2.2.2.2 with ⟨a, -⟩ | a | a
        · exact absurd a hw
        · exact Or.inl a
        · exact Or.inr a
      rcases win with e | e
      · have a1 : f_X7_of y ((1 : Int32) - (y.2.1 22)) (0 : Int32) = some u.2.1.2.2.1.2.1 := by
          refine (of7 (j := 1) (k := 0) (by rw [e22, e]; decide) rfl (by omega) (by omega)).trans ?_
          rw [h9.2.2.1.1]
          exact congrArg some w1.1
        exact ⟨u.2.1.2.2.1.2.1, _, iff' c0 (iff' c1 (ift (by rw [cw, e]) rfl)), iff' c0 (iff' c1 (bnd a1 (bnd tb rfl))), r, R⟩
      · have a1 : f_X7_of y ((1 : Int32) - (y.2.1 22)) (0 : Int32) = some u.2.1.2.1.2.1 := by
          refine (of7 (j := 0) (k := 0) (by rw [e22, e]; decide) rfl (by omega) (by omega)).trans ?_
          rw [h9.2.1.1]
          exact congrArg some w0.1
        exact ⟨u.2.1.2.1.2.1, _, iff' c0 (iff' c1 (iff' (by rw [cw, e]; decide) rfl)), iff' c0 (iff' c1 (bnd a1 (bnd tb rfl))), r, R⟩
theorem ended_L {l1 l2 : Int32} (h1 : l1 = 0 ∨ l1 = 1) (h2 : l2 = 0 ∨ l2 = 1) (l3 : Int32) : ∀ (f k : Nat) (u : tX6) (y : tX7) (r q : RcS), k ≤ 465 → 466 < k + f → RelE u y r q → (rWi q = -4 → mu (rM q) (sSt q) + k ≤ 464) → q.2.2.2.2.2.2.2.1 = r.2.2.2.2.2.2.2.1 + nI k → ∃ (a : Int32) (u1 : tX6) (w1 : tX7), f_X6_ended_L51 f l1 l2 l3 (nI k) u = some (a, u1) ∧ f_X7_ended_L41 f l1 l2 l3 (nI k) y = some (a, w1) ∧ Rel u1 w1 := by
  intro f
  induction f with
  | zero => intro k u y r q a b; omega
  | succ f ih =>
    intro k u y r q a b h hmu hk
    obtain ⟨h8, h9, h10, h11, h12⟩ := h.2.2.2.2.2.2.2.1
    have n1 : ¬ (1000 : Int32) ≤ nI k := nI_ge (b := 1000) (by omega) (by omega)
    have e6 := isOver_eq h9
    have e7 := isOver7 h10
    rw [f_X6_ended_L51, f_X7_ended_L41]
    by_cases c : rWi q = -4
    · rw [if_pos c] at e6 e7
      have hm := hmu c
      have ho := h8.2.2.2.2.2.2.2.1
      have go : ∀ ka : Int32, (ka = 0 ∨ ka = 1) → ∃ (a : Int32) (u1 : tX6) (w1 : tX7), f_X6_ended_J84 (f_X6_ended_L51 f) l1 l2 l3 (nI k) ka u = some (a, u1) ∧ f_X7_ended_J64 (f_X7_ended_L41 f) l1 l2 l3 (nI k) ka y = some (a, w1) ∧ Rel u1 w1 := by
        intro ka hka
        obtain ⟨t, u', y', t5, c3, s1, s2, s3⟩ := ended_step h c hka (f_X6_ended_L51 f) (f_X7_ended_L41 f) l1 l2 l3 (nI k)
        obtain ⟨a', u1, w1, x1, x2, x3⟩ := ih (k + 1) u' y' r (sMake q t) (by omega) (by omega) s3 (fun hw' => by
          have := mu_make h8 t5 c3 hw'
          rw [(make_keep q t).1]
          omega) (by rw [make_turns, hk, ← nI_1 k, Int32.add_assoc])
        refine ⟨a', u1, w1, ?_, ?_, x3⟩
        · rw [s1, nI_1]; exact x1
        · rw [s2, nI_1]; exact x2
      have o6 : u.2.1.2.2.2.2.2.1 = nI (rOt q) := h9.2.2.2.2.2.1
      have o7 := MR_17 h10
      rcases (show rOt q = 0 ∨ rOt q = 1 by omega) with e | e
      · obtain ⟨a', u1, w1, x1, x2, x3⟩ := go l1 h1
        exact ⟨a', u1, w1, iff' n1 (bnd e6 (ift rfl (ift (by rw [o6, e]; rfl) x1))), bnd e7 (ift rfl (ift (by rw [o7, e]; rfl) x2)), x3⟩
      · obtain ⟨a', u1, w1, x1, x2, x3⟩ := go l2 h2
        exact ⟨a', u1, w1, iff' n1 (bnd e6 (ift rfl (iff' (by rw [o6, e]; decide) x1))), bnd e7 (ift rfl (iff' (by rw [o7, e]; decide) x2)), x3⟩
    · rw [if_neg c] at e6 e7
      obtain ⟨a', w1, x1, x2, x3⟩ := ended_end h c hk l3
      exact ⟨a', u, w1, iff' n1 (bnd e6 (iff' (by decide) x1)), bnd e7 (iff' (by decide) x2), x3⟩
theorem sim_ended_ok : sim_ended Rel := by
  intro v w p1 p2 p3 hR
  obtain ⟨r, h⟩ := hR
  have z := h.z
  unfold f_X6_ended f_X7_ended f_X6_ended_J9 f_X6_ended_J20
  have in1 : ∀ p : Int32, (p = 0 ∨ p = 1) → f_X7_in p (0 : Int32) (1 : Int32) = some 1 := by
    intro p hp
    rcases hp with rfl | rfl <;> decide
  have main : (p1 = 0 ∨ p1 = 1) → (p2 = 0 ∨ p2 = 1) → ∃ (a : Int32) (v1 : tX6) (w1 : tX7), (if p3 < 0 then some ((-1 : Int32), v) else (if p3 ≤ (2 : Int32) then (f_X2_takeOver v.2.1 v.1).bind fun x4 => (f_X6_preparedWorths (v.1, x4, v.2.2.1, v.2.2.2.1, v.2.2.2.2.1, v.2.2.2.2.2.1, v.2.2.2.2.2.2.1, v.2.2.2.2.2.2.2.1, v.2.2.2.2.2.2.2.2)).bind fun x5 => f_X6_ended_L51 gas p1 p2 p3 (0 : Int32) x5 else some ((-1 : Int32), v))) = some (a, v1) ∧ ((f_X7_in p3 (0 : Int32) (2 : Int32)).bind fun x8 => (if x8 = 0 then some ((-1 : Int32), ((0 : Int32), w.2)) else (f_X7_putAside ((0 : Int32), w.2)).bind fun x9 => f_X7_ended_L41 gas p1 p2 p3 (0 : Int32) x9)) = some (a, w1) ∧ Rel v1 w1 := by
    intro k1 k2
    by_cases d1 : p3 < 0
    · exact ⟨-1, v, _, ift d1 rfl, bnd (in7_1 d1) (ift rfl rfl), r, z⟩
    · by_cases d2 : p3 ≤ (2 : Int32)
      · obtain ⟨im, m1, m2⟩ := CR_take (v := v.2.1) h.2.1 h.1
        obtain ⟨x, x1, x2⟩ := prepare_eq h.2.2.2.2.2.2.2.1 h.2.1 h.1
        have pa := putAside7 ((0 : Int32), w.2)
        have R : RelE (stU v im x) (stP ((0 : Int32), w.2) (ovo 0 72 w.2.1 (w_as w))) r r := by
          obtain ⟨h1, h2, h3, h4, h5, h6, h7, h8, h9⟩ := z
          exact ⟨h1, h2, ovo_MR h1.2.1 h3, h4, h5, h6, h7, ⟨h1, m2, h3, x2, h9⟩, rfl, rfl, rfl, rfl⟩
        obtain ⟨a, u1, w1, y1, y2, y3⟩ := ended_L k1 k2 p3 gas 0 _ _ r r (by omega) (by show 466 < 0 + 1000000; omega) R (fun _ => by have := mu_le (n := sSt r) h.1.2.1; omega) (by show _ = _ + (0 : Int32); rw [Int32.add_zero])
        refine ⟨a, u1, w1, iff' d1 (ift d2 (bnd m1 (bnd ?_ y1))), bnd (in7_3 d1 (fun e => nle_lt.mpr e d2)) (iff' (by decide) (bnd pa y2)), y3⟩
        unfold f_X6_preparedWorths
        exact bnd x1 rfl
      · exact ⟨-1, v, _, iff' d1 (iff' d2 rfl), bnd (in7_2 d1 (nle_lt.mp d2)) (ift rfl rfl), r, z⟩
  have mid : (p1 = 0 ∨ p1 = 1) → ∃ (a : Int32) (v1 : tX6) (w1 : tX7), (if p2 = 0 then (if p3 < 0 then some ((-1 : Int32), v) else (if p3 ≤ (2 : Int32) then (f_X2_takeOver v.2.1 v.1).bind fun x4 => (f_X6_preparedWorths (v.1, x4, v.2.2.1, v.2.2.2.1, v.2.2.2.2.1, v.2.2.2.2.2.1, v.2.2.2.2.2.2.1, v.2.2.2.2.2.2.2.1, v.2.2.2.2.2.2.2.2)).bind fun x5 => f_X6_ended_L51 gas p1 p2 p3 (0 : Int32) x5 else some ((-1 : Int32), v))) else (if p2 = (1 : Int32) then (if p3 < 0 then some ((-1 : Int32), v) else (if p3 ≤ (2 : Int32) then (f_X2_takeOver v.2.1 v.1).bind fun x4 => (f_X6_preparedWorths (v.1, x4, v.2.2.1, v.2.2.2.1, v.2.2.2.2.1, v.2.2.2.2.2.1, v.2.2.2.2.2.2.1, v.2.2.2.2.2.2.2.1, v.2.2.2.2.2.2.2.2)).bind fun x5 => f_X6_ended_L51 gas p1 p2 p3 (0 : Int32) x5 else some ((-1 : Int32), v))) else some ((-1 : Int32), v))) = some (a, v1) ∧ ((f_X7_in p2 (0 : Int32) (1 : Int32)).bind fun x7 => (if x7 = 0 then some ((-1 : Int32), ((0 : Int32), w.2)) else (f_X7_in p3 (0 : Int32) (2 : Int32)).bind fun x8 => (if x8 = 0 then some ((-1 : Int32), ((0 : Int32), w.2)) else (f_X7_putAside ((0 : Int32), w.2)).bind fun x9 => f_X7_ended_L41 gas p1 p2 p3 (0 : Int32) x9))) = some (a, w1) ∧ Rel v1 w1 := by
    intro k1
    by_cases c0 : p2 = 0
    · obtain ⟨a, v1, w1, a1, a2, a3⟩ := main k1 (Or.inl c0)
      exact ⟨a, v1, w1, ift c0 a1, bnd (in1 p2 (Or.inl c0)) (iff' (by decide) a2), a3⟩
    · by_cases c1 : p2 = 1
      · obtain ⟨a, v1, w1, a1, a2, a3⟩ := main k1 (Or.inr c1)
        exact ⟨a, v1, w1, iff' c0 (ift c1 a1), bnd (in1 p2 (Or.inr c1)) (iff' (by decide) a2), a3⟩
      · exact ⟨-1, v, _, iff' c0 (iff' c1 rfl), bnd (in01 c0 c1) (ift rfl rfl), r, z⟩
  by_cases c0 : p1 = 0
  · obtain ⟨a, v1, w1, a1, a2, a3⟩ := mid (Or.inl c0)
    exact ⟨a, v1, w1, ift c0 a1, bnd (in1 p1 (Or.inl c0)) (iff' (by decide) a2), a3⟩
  · by_cases c1 : p1 = 1
    · obtain ⟨a, v1, w1, a1, a2, a3⟩ := mid (Or.inr c1)
      exact ⟨a, v1, w1, iff' c0 (ift c1 a1), bnd (in1 p1 (Or.inr c1)) (iff' (by decide) a2), a3⟩
    · exact ⟨-1, v, _, iff' c0 (iff' c1 rfl), bnd (in01 c0 c1) (ift rfl rfl), r, z⟩

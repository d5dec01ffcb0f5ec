/-! what holds between the class and the reference -/
abbrev vH (v : tX6) : tX0 := v.2.2.2.1
abbrev vP (v : tX6) : tX1 := v.2.2.2.2.1
abbrev vW (v : tX6) : tX5 := v.2.2.2.2.2.1
abbrev vF (v : tX6) : Int32 := v.2.2.2.2.2.2.1
abbrev vA (v : tX6) : Int32 := v.2.2.2.2.2.2.2.1
abbrev vB (v : tX6) : Int32 := v.2.2.2.2.2.2.2.2
abbrev w_wp (v : tX7) : Int32 := v.2.2.2.2.2.2.2.2.2.1
abbrev w_wn (v : tX7) : Int32 := v.2.2.2.2.2.2.2.2.2.2.1
def SN (v : tX6) (w : tX7) : Prop := (vF v = 0 ∧ w_hs w = 0) ∨ (vF v = 1 ∧ w_hs w = 1 ∧ ∃ r, okR r ∧ CR v.2.2.1 r ∧ MR (w_sn w) r)
def YR (v : tX6) (w : tX7) : Prop := (vB v = 0 ∧ w_wp w = -4 ∧ w_wn w = -4) ∨ (vB v ≠ 0 ∧ w_wp w = vA v ∧ w_wn w = vB v)
def RelR (v : tX6) (w : tX7) (r : RcS) : Prop := okR r ∧ CR v.1 r ∧ MR w.2.1 r ∧ HR (vH v) (w_sts w) (w_sm w) ∧ SN v w ∧ PR (vP v) w ∧ YR v w ∧ WI (vW v) ∧ WR7 w r
def Rel (v : tX6) (w : tX7) : Prop := ∃ r, RelR v w r
theorem RelR.z {v : tX6} {w : tX7} {r : RcS} (h : RelR v w r) : RelR v ((0 : Int32), w.2) r := h
theorem same7_ex {v z : tX7} (h : same7 v z) : ∃ s tp tl ti le rl, z = st7 v s tp tl ti le rl := ⟨z.2.1, _, _, _, _, _, h⟩
/-- looking keeps all -/
theorem RelR.look {v : tX6} {w z : tX7} {r : RcS} (h : RelR v w r) (hk : KP w r z) {im : tX2} {x : tX5} (hx : WI x) : RelR (v.1, im, v.2.2.1, v.2.2.2.1, v.2.2.2.2.1, x, v.2.2.2.2.2.2) z r := by
  obtain ⟨h1, h2, h3, h4, h5, h6, h7, h8, h9⟩ := h
  obtain ⟨⟨wo, a, ⟨q1, q2, q3, q4, q5, rfl⟩⟩, k2⟩ := hk
  exact ⟨h1, h2, h3, h4, h5, h6, h7, hx, k2⟩
theorem RelR.kp {v : tX6} {w z : tX7} {r : RcS} (h : RelR v w r) (hk : KP w r z) : RelR v z r := h.look hk h.2.2.2.2.2.2.2.1
theorem RelR.sm {v : tX6} {w z : tX7} {r : RcS} (h : RelR v w r) (hk : sm7 w z) : RelR v z r := by
  obtain ⟨q1, q2, q3, q4, q5, rfl⟩ := hk
  exact h
/-- a change: the race anew, the state before it recorded -/
theorem RelR.chg {v : tX6} {w z : tX7} {r r' : RcS} {sts : Nat → Int32} {sm : Int32} {x : tX2} {h' : tX0} (h : RelR v w r) (ok : okR r') (hc : CR x r') (hm : MR z.2.1 r') (hh : HR h' sts sm) (hz : same7 (stH w sts sm) z) (e : rM r' = rM r ∧ rK r' = rK r ∧ rPc r' = rPc r ∧ rSp r' = rSp r) : RelR (x, v.2.1, v.2.2.1, h', v.2.2.2.2) z r' := by
  obtain ⟨h1, h2, h3, h4, h5, h6, h7, h8, h9⟩ := h
  obtain ⟨s, q1, q2, q3, q4, q5, rfl⟩ := same7_ex hz
  obtain ⟨e1, e2, e3, e4⟩ := e
  refine ⟨ok, hc, hm, hh, h5, h6, h7, h8, ?_⟩
  show WR _ (rM r') (rK r') (rPc r') (rSp r')
  rw [e1, e2, e3, e4]
  exact h9
theorem make_keep (r : RcS) (t : Nat) : rM (sMake r t) = rM r ∧ rK (sMake r t) = rK r ∧ rPc (sMake r t) = rPc r ∧ rSp (sMake r t) = rSp r := by
  unfold sMake
  by_cases c0 : t = 0
  · rw [if_pos c0]; exact ⟨rfl, rfl, rfl, rfl⟩
  · rw [if_neg c0]
    by_cases c5 : t = 5
    · rw [if_pos c5]; exact ⟨rfl, rfl, rfl, rfl⟩
    · rw [if_neg c5]; exact ⟨rfl, rfl, rfl, rfl⟩
/-- a turn that is possible, on both sides up to the reference's making -/
theorem turn_both {v : tX6} {w : tX7} {r : RcS} (h : RelR v w r) {t : Nat} (hp : sRef r t = 0) : ∃ (x : tX2) (h' : tX0) (sts : Nat → Int32) (sm : Int32), f_X6_makeAsChange v (nI t) = some (x, v.2.1, v.2.2.1, h', v.2.2.2.2) ∧ CR x (sMake r t) ∧ f_X7_records w = some (stH w sts sm) ∧ HR h' sts sm := by
  obtain ⟨h', sts, sm, e1, e2, e3⟩ := record_eq h.2.2.2.1 h.2.1 h.1 h.2.2.1
  obtain ⟨x, e4, e5⟩ := make_eq h.2.1 h.1 hp
  refine ⟨x, h', sts, sm, ?_, e5, e2, e3⟩
  unfold f_X6_makeAsChange
  exact bnd e1 (bnd e4 rfl)
theorem pos_ref {r : RcS} (ok : okR r) (hw : rWi r = -4) {t : Nat} (h5 : t ≤ 5) (hp : posT (rPc r) (sSt r) t) : sRef r t = 0 := by
  obtain ⟨hv, q1, q2, q3, q4, q5, q6⟩ := sSt_q ok hw
  unfold posT at hp
  rw [q5, q3] at hp
  unfold sRef
  rw [if_neg (fun e => e hw)]
  by_cases c0 : t = 0
  · rw [if_pos c0] at hp
    rw [if_pos hp, if_pos c0]
  · rw [if_neg c0] at hp
    rw [if_neg (fun e => e hp.1), if_neg c0]
    by_cases c5 : t = 5
    · have hp2 := hp.2
      rw [if_pos c5] at hp2
      rw [if_pos c5, if_neg (by omega)]
    · have hp2 := hp.2
      rw [if_neg c5] at hp2
      rw [if_neg c5, if_pos hp2]
theorem isB_ref {r : RcS} (ok : okR r) (hw : rWi r = -4) {T : Nat} (hb : isB (rM r) (rK r) (rPc r) (rSp r) (sSt r) T) : sRef r T = 0 ∧ T ≤ 5 := by
  by_cases c : qL (sSt r) = 0
  · obtain ⟨a1, a2, a3, -⟩ := hb.2 c
    exact ⟨pos_ref ok hw a2 a3, a2⟩
  · have := hb.1 c
    subst this
    exact ⟨pos_ref ok hw (by omega) (by unfold posT; rw [if_pos rfl]; exact c), by omega⟩
theorem rng {x : Int32} {a b : Nat} (ha : a < 1000) (hb : b < 1000) (h1 : ¬ x < nI a) (h2 : x ≤ nI b) : ∃ t, x = nI t ∧ a ≤ t ∧ t ≤ b := by
  rw [Int32.lt_iff_toInt_lt, nI_toInt (by omega)] at h1
  rw [Int32.le_iff_toInt_le, nI_toInt (by omega)] at h2
  refine ⟨x.toInt.toNat, ?_, by omega, by omega⟩
  apply Int32.toInt_inj.mp
  rw [nI_toInt (by omega)]
  omega
theorem nlt_le {a b : Int32} : ¬ a < b ↔ b ≤ a := by
  rw [Int32.lt_iff_toInt_lt, Int32.le_iff_toInt_le]
  omega
theorem nle_lt {a b : Int32} : ¬ a ≤ b ↔ b < a := by
  rw [Int32.lt_iff_toInt_lt, Int32.le_iff_toInt_le]
  omega
theorem in7_1 {x a b : Int32} (h : x < a) : f_X7_in x a b = some 0 := ift h rfl
theorem in7_2 {x a b : Int32} (h1 : ¬ x < a) (h : b < x) : f_X7_in x a b = some 0 := iff' h1 (ift h rfl)
theorem in7_3 {x a b : Int32} (h1 : ¬ x < a) (h : ¬ b < x) : f_X7_in x a b = some 1 := iff' h1 (iff' h rfl)
/-! turns: drive, token, lose, best, greedy -/
theorem sDrive_pl {r : RcS} {t : Nat} : gPl (rW (sDrive r t) (rOt r)) = sTo r t := by
  unfold sDrive
  rcases e : rW r (rOt r) with ⟨a1, a2, a3, a4, a5, a6, a7, a8, a9⟩
  simp only [rW, upw_s]
theorem sLost_ls {r : RcS} : gLs (rW (sLost r) (rOt r)) = gLs (rW r (rOt r)) - 1 := by
  unfold sLost
  rcases e : rW r (rOt r) with ⟨a1, a2, a3, a4, a5, a6, a7, a8, a9⟩
  simp only [rW, upw_s]
theorem sToken_ls {r : RcS} : gLs (rW (sToken r) (1 - rOt r)) = min 3 (gLs (rW r (1 - rOt r)) + rSp r) := by
  unfold sToken
  rcases e : rW r (rOt r) with ⟨a1, a2, a3, a4, a5, a6, a7, a8, a9⟩
  rcases e2 : rW r (1 - rOt r) with ⟨b1, b2, b3, b4, b5, b6, b7, b8, b9⟩
  simp only [rW, upw_s]
theorem sim_drive_ok : sim_drive Rel := by
  intro v w p hR
  obtain ⟨r, h⟩ := hR
  have z := h.z
  have ho := h.1.2.2.2.2.2.2.2.1
  have out : ∀ x1 x2, x1 = (-1 : Int32) → x2 = (-1 : Int32) → ∃ (r : Int32) (v1 : tX6) (w1 : tX7), some (x1, v) = some (r, v1) ∧ some (x2, ((0 : Int32), w.2)) = some (r, w1) ∧ Rel v1 w1 := fun x1 x2 e1 e2 => ⟨-1, v, _, by rw [e1], by rw [e2], r, z⟩
  unfold f_X6_drive f_X7_drive
  by_cases c1 : p < (1 : Int32)
  · rw [if_pos c1, in7_1 c1, Option.bind_some, if_pos rfl]
    exact out _ _ rfl rfl
  · rw [if_neg c1]
    by_cases c2 : p ≤ (4 : Int32)
    · rw [if_pos c2, in7_3 c1 (fun e => nle_lt.mpr e c2), Option.bind_some, if_neg (by decide)]
      obtain ⟨t, rfl, t1, t2⟩ := rng (a := 1) (b := 4) (by omega) (by omega) c1 c2
      rw [refusal_eq h.2.1 h.1 (by omega), Option.bind_some]
      have e7 : f_X7_refuses ((0 : Int32), w.2) (nI t) = some (nI (sRef r t)) := refuses7 z.2.2.1 h.1 (by omega)
      rw [show f_X7_refuses ((0 : Int32), w.2.1, w.2.2.1, w.2.2.2.1, w.2.2.2.2.1, w.2.2.2.2.2.1, w.2.2.2.2.2.2.1, w.2.2.2.2.2.2.2.1, w.2.2.2.2.2.2.2.2.1, w.2.2.2.2.2.2.2.2.2.1, w.2.2.2.2.2.2.2.2.2.2.1, w.2.2.2.2.2.2.2.2.2.2.2.1, w.2.2.2.2.2.2.2.2.2.2.2.2.1, w.2.2.2.2.2.2.2.2.2.2.2.2.2.1, w.2.2.2.2.2.2.2.2.2.2.2.2.2.2.1, w.2.2.2.2.2.2.2.2.2.2.2.2.2.2.2.1, w.2.2.2.2.2.2.2.2.2.2.2.2.2.2.2.2.1, w.2.2.2.2.2.2.2.2.2.2.2.2.2.2.2.2.2) (nI t) = some (nI (sRef r t)) from e7, Option.bind_some]
      by_cases c3 : sRef r t = 0
      · rw [c3, if_pos (show nI 0 = 0 from rfl), if_pos (show nI 0 = 0 from rfl)]
        obtain ⟨m1, -⟩ := mover_eq h.2.1 ho
        obtain ⟨x, h', sts, sm, a1, a2, a3, a4⟩ := turn_both z c3
        obtain ⟨y, y1, y2, y3, y4⟩ := makesDrive7 (v := stH ((0 : Int32), w.2) sts sm) h.2.2.1 h.1 c3 (by omega) (by omega)
        have hm : sMake r t = sDrive r t := by unfold sMake; rw [if_neg (by omega), if_neg (by omega)]
        have okm := okR_make h.1 c3
        have R := z.chg okm a2 (by rw [hm]; exact y3) a4 y4 (make_keep r t)
        refine ⟨nI (sTo r t), _, y.2, ?_, bnd a3 (bnd y1 (by rw [y2])), _, R⟩
        rw [m1, Option.bind_some]
        rw [hm] at a2
        obtain ⟨-, w0, w1, -⟩ := a2
        rcases (show rOt r = 0 ∨ rOt r = 1 by omega) with e | e
        · have pl := sDrive_pl (r := r) (t := t)
          rw [e] at pl
          refine ift e (bnd a1 ?_)
          show some (x.2.1.2.1, _) = _
          rw [w0.1, show (rW (sDrive r t) 0).1 = sTo r t from pl]
        · have pl := sDrive_pl (r := r) (t := t)
          rw [e] at pl
          refine iff' (by omega) (ift e (bnd a1 ?_))
          show some (x.2.2.1.2.1, _) = _
          rw [w1.1, show (rW (sDrive r t) 1).1 = sTo r t from pl]
      · have n0 : ¬ nI (sRef r t) = 0 := by
          rw [nI_z (by
            unfold sRef
            split
            · omega
            · split
              · split <;> omega
              · split
                · omega
                · split
                  · split <;> omega
                  · split <;> omega)]
          exact c3
        rw [if_neg n0, if_neg n0]
        exact ⟨-2, v, _, rfl, rfl, r, z⟩
    · rw [if_neg c2, in7_2 c1 (nle_lt.mp c2), Option.bind_some, if_pos rfl]
      exact out _ _ rfl rfl

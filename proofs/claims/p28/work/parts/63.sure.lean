/-! who is sure to win wins -/
theorem nZ_lt' {a b : Int} (a1 : -5000 ≤ a) (a2 : a ≤ 5000) (b1 : -5000 ≤ b) (b2 : b ≤ 5000) : (nZ a < nZ b) ↔ (a < b) := by
  rw [Int32.lt_iff_toInt_lt, nZ_ti a1 a2, nZ_ti b1 b2]
theorem nZ_le' {a b : Int} (a1 : -5000 ≤ a) (a2 : a ≤ 5000) (b1 : -5000 ≤ b) (b2 : b ≤ 5000) : (nZ a ≤ nZ b) ↔ (a ≤ b) := by
  rw [Int32.le_iff_toInt_le, nZ_ti a1 a2, nZ_ti b1 b2]
theorem nZ_eq' {a b : Int} (a1 : -5000 ≤ a) (a2 : a ≤ 5000) (b1 : -5000 ≤ b) (b2 : b ≤ 5000) : (nZ a = nZ b) ↔ (a = b) := by
  rw [← Int32.toInt_inj, nZ_ti a1 a2, nZ_ti b1 b2]
/-- both make best turns: s was on turn, the worth was w -/
def Inv1 (s : Nat) (w : Int) (k : Nat) (q : RcS) : Prop :=
  (rWi q = -4 → (rOt q = s ∧ sWo q = (if 0 < w then w + k else w - k)) ∨ (rOt q ≠ s ∧ sWo q = (if 0 < w then -(w + k) else -(w - k)))) ∧
  (¬ rWi q = -4 → if 0 < w then w + k = 500 ∧ rWi q = nI s else w - k = -500 ∧ rWi q ≠ nI s)
theorem trn_pos {x y : Int} (gy : (35 ≤ y ∧ y ≤ 499) ∨ (-499 ≤ y ∧ y ≤ -35)) (e : x = trn y) : (0 < x ∧ y = -(x + 1)) ∨ (x < 0 ∧ y = -(x - 1)) := by
  unfold trn at e
  by_cases c : 0 ≤ y
  · rw [if_pos c] at e; omega
  · rw [if_neg c] at e; omega
theorem inv1_step {s : Nat} {w : Int} (hs : s ≤ 1) {k : Nat} {q : RcS} {t : Nat} (hI : Inv1 s w k q) (ok : okR q) (hp : sRef q t = 0) (hb : isBr q t) : Inv1 s w (k + 1) (sMake q t) := by
  have hw := ref_over hp
  have ho := ok.2.2.2.2.2.2.2.1
  have eb := best_bt ok hw hb
  have gx := sWo_gw ok hw
  have hI1 := hI.1 hw
  obtain ⟨-, -, -, -, -, w10, -⟩ := make_W ho t
  refine ⟨fun c => ?_, fun c => ?_⟩
  · have gy := sWo_gw (okR_make ok hp) c
    have e := bt_on ok hp c
    rw [eb] at e
    have tp := trn_pos gy e
    rw [w10]
    generalize sWo (sMake q t) = y at *
    generalize sWo q = x at *
    generalize rOt q = o at *
    by_cases cw : 0 < w
    · rw [if_pos cw, if_pos cw] at hI1
      rw [if_pos cw, if_pos cw]
      omega
    · rw [if_neg cw, if_neg cw] at hI1
      rw [if_neg cw, if_neg cw]
      omega
  · obtain ⟨e1, e2⟩ := bt_off ok hp c
    rw [eb] at e1
    rw [e2]
    have ne : rOt q ≠ s → ¬ nI (rOt q) = nI s := fun d e => d ((nI_eq (by omega) (by omega)).mp e)
    generalize sWo q = x at *
    by_cases cw : 0 < w
    · rw [if_pos cw, if_pos cw] at hI1
      rw [if_pos cw]
      rcases hI1 with ⟨a, b⟩ | ⟨a, b⟩
      · exact ⟨by omega, by rw [a]⟩
      · omega
    · rw [if_neg cw, if_neg cw] at hI1
      rw [if_neg cw]
      rcases hI1 with ⟨a, b⟩ | ⟨a, b⟩
      · omega
      · exact ⟨by omega, ne a⟩
/-- s is sure to win, and makes best turns -/
def Inv2 (s : Nat) (q : RcS) : Prop := (rWi q = -4 → (rOt q = s ∧ 0 < sWo q) ∨ (rOt q ≠ s ∧ sWo q < 0)) ∧ (¬ rWi q = -4 → rWi q = nI s)
theorem inv2_step {s : Nat} (hs : s ≤ 1) {q : RcS} {t : Nat} (hI : Inv2 s q) (ok : okR q) (h5 : t ≤ 5) (hp : sRef q t = 0) (hb : rOt q = s → isBr q t) : Inv2 s (sMake q t) := by
  have hw := ref_over hp
  have ho := ok.2.2.2.2.2.2.2.1
  have ea := any_bt ok h5 hp
  have eb : rOt q = s → sBt q t = sWo q := fun d => best_bt ok hw (hb d)
  have hI1 := hI.1 hw
  obtain ⟨-, -, -, -, -, w10, -⟩ := make_W ho t
  refine ⟨fun c => ?_, fun c => ?_⟩
  · have gy := sWo_gw (okR_make ok hp) c
    have e := bt_on ok hp c
    have tp := trn_pos gy e
    rw [w10]
    generalize sWo (sMake q t) = y at *
    generalize sWo q = x at *
    generalize sBt q t = z at *
    generalize rOt q = o at *
    rcases hI1 with ⟨a, b⟩ | ⟨a, b⟩
    · have := eb a
      omega
    · omega
  · obtain ⟨e1, e2⟩ := bt_off ok hp c
    rw [e2]
    rcases hI1 with ⟨a, b⟩ | ⟨a, b⟩
    · rw [a]
    · exfalso
      generalize sWo q = x at *
      generalize sBt q t = z at *
      omega
section SU
variable {v : tX6} {r : RcS} {n : Nat} {sn : Option RcS}
theorem ended_best (h : IN v r n sn) (hw : rWi r = -4) {l3 : Int32} (h3 : l3 = 0 ∨ l3 = 1) : ∃ (k' : Nat) (wi : Int32) (u1 : tX6), f_X6_ended v 0 0 l3 = some ((if l3 = 0 then wi else nI k'), u1) ∧ IN u1 r n sn ∧ (if 0 < sWo r then sWo r + k' = 500 ∧ wi = nI (rOt r) else sWo r - k' = -500 ∧ wi ≠ nI (rOt r)) := by
  have ho := h.1.2.2.2.2.2.2.2.1
  obtain ⟨k', q', u1, e1, e2, e3, e4⟩ := ended_eq h (Or.inl rfl) (Or.inl rfl) h3 (Inv1 (rOt r) (sWo r)) (fun k q t a b _ d e => inv1_step ho a b d (e.1 (by split <;> rfl))) ⟨fun _ => Or.inl ⟨rfl, by split <;> omega⟩, fun c => absurd hw c⟩
  exact ⟨k', rWi q', u1, e1, e2, e4.2 e3⟩
theorem ended_sure (h : IN v r n sn) (hw : rWi r = -4) (hs : 0 < sWo r) {l1 l2 : Int32} (h1 : l1 = 0 ∨ l1 = 1) (h2 : l2 = 0 ∨ l2 = 1) (hm : (if rOt r = 0 then l1 else l2) = 0) : ∃ u1 : tX6, f_X6_ended v l1 l2 0 = some (nI (rOt r), u1) ∧ IN u1 r n sn := by
  have ho := h.1.2.2.2.2.2.2.2.1
  obtain ⟨k', q', u1, e1, e2, e3, e4⟩ := ended_eq h h1 h2 (Or.inl rfl) (fun _ q => Inv2 (rOt r) q) (fun k q t a b c d e => inv2_step ho a b c d (fun f => e.1 (by rw [f]; exact hm))) ⟨fun _ => Or.inl ⟨rfl, hs⟩, fun c => absurd hw c⟩
  rw [if_pos rfl, e4.2 e3] at e1
  exact ⟨u1, e1, e2⟩
theorem worth_eq (h : IN v r n sn) {p : Int32} (hp : p = 0 ∨ p = 1) : ∃ u1 : tX6, f_X6_worth v p = some ((if rWi r = -4 then (1000 : Int32) + nZ (sWo r) else 500), u1) ∧ IN u1 r n sn := by
  have e6 := isOver_eq h.2.1
  have J : ∃ u1 : tX6, f_X6_worth_J11 p v = some ((if rWi r = -4 then (1000 : Int32) + nZ (sWo r) else 500), u1) ∧ IN u1 r n sn := by
    unfold f_X6_worth_J11
    by_cases c : rWi r = -4
    · rw [if_pos c] at e6 ⊢
      obtain ⟨x, p1, p2⟩ := prep_eq h
      by_cases c0 : p = 0
      · obtain ⟨to, t1, t2⟩ := toldInto_eq p2.2.1 h.2.1 h.1 c
        exact ⟨_, bnd e6 (ift rfl (bnd p1 (ift c0 (bnd t1 rfl)))), h.look (im := v.2.1) (PI_st p2 t2).wi⟩
      · obtain ⟨sw, ga, ri, t1, t2⟩ := bySweeps_eq p2.2.1.1 p2.1 p2.2.2 h.2.1 h.1 c
        exact ⟨_, bnd e6 (ift rfl (bnd p1 (iff' c0 (bnd t1 rfl)))), h.look (im := v.2.1) (PI_sw p2 t2).wi⟩
    · rw [if_neg c] at e6 ⊢
      exact ⟨v, bnd e6 (iff' (by decide) rfl), h⟩
  obtain ⟨u1, j1, j2⟩ := J
  refine ⟨u1, ?_, j2⟩
  unfold f_X6_worth
  rcases hp with rfl | rfl
  · exact ift rfl j1
  · exact iff' (by decide) (ift rfl j1)
theorem bestTurn_eq (h : IN v r n sn) (c : rWi r = -4) : ∃ (T : Nat) (u1 : tX6), f_X6_bestTurn v = some (nI T, u1) ∧ isBr r T ∧ IN u1 r n sn := by
  have e6 := isOver_eq h.2.1
  rw [if_pos c] at e6
  obtain ⟨x, p1, p2⟩ := prep_eq h
  obtain ⟨to, T, b1, b2, b3⟩ := bestOf_eq p2.2.1 h.2.1 h.1 c
  refine ⟨T, _, ?_, b3, h.look (im := v.2.1) (PI_st p2 b2).wi⟩
  unfold f_X6_bestTurn
  exact bnd e6 (ift rfl (bnd p1 (bnd b1 rfl)))
theorem worthOf_eq (h : IN v r n sn) {t : Nat} (t1 : 1 ≤ t) (t5 : t ≤ 5) (hp : sRef r t = 0) : ∃ u1 : tX6, f_X6_worthOf v (nI t) = some ((1000 : Int32) + nZ (sBt r t), u1) ∧ IN u1 r n sn := by
  have e6 := refusal_eq h.2.1 h.1 (t := t) (by omega)
  obtain ⟨x, p1, p2⟩ := prep_eq h
  obtain ⟨to, b1, b2⟩ := ofTurn_eq p2.2.1 h.2.1 h.1 hp t5
  refine ⟨_, ?_, h.look (im := v.2.1) (PI_st p2 b2).wi⟩
  unfold f_X6_worthOf
  exact iff' (nI_nlt (b := 1) t1 (by omega)) (ift (nI_le (b := 5) t5 (by omega)) (bnd e6 (ift (by rw [hp]; rfl) (bnd p1 (bnd b1 rfl)))))
end SU

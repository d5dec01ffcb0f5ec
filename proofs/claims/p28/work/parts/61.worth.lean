/-! turns and stands of the race; what its worth says of its end -/
theorem sLost_W {r : RcS} (ho : rOt r ≤ 1) : rOt (sLost r) = 1 - rOt r ∧ rWi (sLost r) = rWi r ∧ rW (sLost r) (1 - rOt r) = rW r (1 - rOt r) ∧ gPl (rW (sLost r) (rOt r)) = gPl (rW r (rOt r)) ∧ gTk (rW (sLost r) (rOt r)) = gTk (rW r (rOt r)) ∧ gLs (rW (sLost r) (rOt r)) = gLs (rW r (rOt r)) - 1 := by
  have hne : 1 - rOt r ≠ rOt r := by omega
  unfold sLost
  rcases e : rW r (rOt r) with ⟨a1, a2, a3, a4, a5, a6, a7, a8, a9⟩
  refine ⟨rfl, rfl, upw_n hne, ?_, ?_, ?_⟩ <;> simp only [rW, upw_s]
theorem sToken_W {r : RcS} (ho : rOt r ≤ 1) : rOt (sToken r) = 1 - rOt r ∧ rWi (sToken r) = rWi r ∧ gPl (rW (sToken r) (1 - rOt r)) = gPl (rW r (1 - rOt r)) ∧ gTk (rW (sToken r) (1 - rOt r)) = gTk (rW r (1 - rOt r)) ∧ gLs (rW (sToken r) (1 - rOt r)) = min 3 (gLs (rW r (1 - rOt r)) + rSp r) ∧ gPl (rW (sToken r) (rOt r)) = gPl (rW r (rOt r)) ∧ gTk (rW (sToken r) (rOt r)) = 0 ∧ gLs (rW (sToken r) (rOt r)) = gLs (rW r (rOt r)) := by
  have hne : rOt r ≠ 1 - rOt r := by omega
  unfold sToken
  rcases e : rW r (rOt r) with ⟨a1, a2, a3, a4, a5, a6, a7, a8, a9⟩
  rcases e2 : rW r (1 - rOt r) with ⟨b1, b2, b3, b4, b5, b6, b7, b8, b9⟩
  refine ⟨rfl, rfl, ?_, ?_, ?_, ?_, ?_, ?_⟩ <;> simp only [rW, upw_s, upw_n hne]
theorem sDrive_W {r : RcS} (ho : rOt r ≤ 1) (t : Nat) : rOt (sDrive r t) = 1 - rOt r ∧ rWi (sDrive r t) = (if sTo r t ≤ rM r then rWi r else nI (rOt r)) ∧ rW (sDrive r t) (1 - rOt r) = rW r (1 - rOt r) ∧ gPl (rW (sDrive r t) (rOt r)) = sTo r t ∧ gTk (rW (sDrive r t) (rOt r)) = (if kd (rM r) (rK r) (sTo r t) = 3 then 1 else gTk (rW r (rOt r))) ∧ gLs (rW (sDrive r t) (rOt r)) = (if kd (rM r) (rK r) (sTo r t) = 1 then gLs (rW r (rOt r)) + 1 else gLs (rW r (rOt r))) := by
  have hne : 1 - rOt r ≠ rOt r := by omega
  unfold sDrive
  rcases e : rW r (rOt r) with ⟨a1, a2, a3, a4, a5, a6, a7, a8, a9⟩
  refine ⟨rfl, rfl, upw_n hne, ?_, ?_, ?_⟩ <;> simp only [rW, upw_s]
theorem make_nxt {r : RcS} (ok : okR r) {t : Nat} (hp : sRef r t = 0) (hw : rWi (sMake r t) = -4) : nxt (rM r) (rK r) (rSp r) (sSt r) t = some (sSt (sMake r t)) := by
  have ho := ok.2.2.2.2.2.2.2.1
  obtain ⟨hv, q1, q2, q3, q4, q5, q6⟩ := sSt_q ok (ref_over hp)
  have oo : 1 - (1 - rOt r) = rOt r := by omega
  unfold sMake at hw ⊢
  unfold nxt
  by_cases c0 : t = 0
  · rw [if_pos c0] at hw ⊢
    rw [if_pos c0]
    obtain ⟨a1, a2, a3, a4, a5, a6⟩ := sLost_W (r := r) ho
    unfold sSt nxL
    rw [a1, oo, a3, a4, a5, a6]
    unfold sSt at q1 q2 q3 q4 q5 q6
    rw [q1, q2, q3, q4, q5, q6]
  · rw [if_neg c0] at hw ⊢
    rw [if_neg c0]
    by_cases c5 : t = 5
    · rw [if_pos c5] at hw ⊢
      rw [if_pos c5]
      obtain ⟨a1, a2, a3, a4, a5, a6, a7, a8⟩ := sToken_W (r := r) ho
      have l0 : gLs (rW r (rOt r)) = 0 := by
        unfold sRef at hp
        rw [if_neg (fun e => e (ref_over (r := r) (t := t) (by unfold sRef; exact hp)))] at hp
        by_cases c : gLs (rW r (rOt r)) ≠ 0
        · rw [if_pos c, if_neg c0] at hp; omega
        · exact Classical.not_not.mp c
      unfold nxT
      rw [q1, q2, q4, q6]
      unfold sSt
      rw [a1, oo, a3, a4, a5, a6, a7, a8, l0]
    · rw [if_neg c5] at hw ⊢
      rw [if_neg c5]
      obtain ⟨d1, d2⟩ := ref_drive hp c0 c5
      obtain ⟨a1, a2, a3, a4, a5, a6⟩ := sDrive_W (r := r) ho t
      have hle : sTo r t ≤ rM r := by
        by_cases c : sTo r t ≤ rM r
        · exact c
        · rw [a2, if_neg c] at hw
          rcases (show rOt r = 0 ∨ rOt r = 1 by omega) with e | e <;> rw [e] at hw <;> exact absurd hw (by decide)
      have en : nxR (rM r) (rK r) (sSt r) t = sTo r t := by
        unfold nxR sTo
        rw [q1, q2]
      rw [en, if_pos hle]
      unfold nxD
      rw [q2, q3, q4, q6]
      unfold sSt
      rw [a1, oo, a3, a4, a5, a6, d2]
theorem mu_make {r : RcS} (ok : okR r) {t : Nat} (h5 : t ≤ 5) (hp : sRef r t = 0) (hw : rWi (sMake r t) = -4) : mu (rM r) (sSt (sMake r t)) < mu (rM r) (sSt r) :=
  (nxt_vld ok.2.1 ⟨ok.2.2.2.2.2.1, ok.2.2.2.2.2.2.1⟩ (sSt_q ok (ref_over hp)).1 (ref_pos ok hp h5) (make_nxt ok hp hw)).2
theorem make_turns (r : RcS) (t : Nat) : (sMake r t).2.2.2.2.2.2.2.1 = r.2.2.2.2.2.2.2.1 + 1 := by
  unfold sMake
  by_cases c0 : t = 0
  · rw [if_pos c0]; rfl
  · rw [if_neg c0]
    by_cases c5 : t = 5
    · rw [if_pos c5]; rfl
    · rw [if_neg c5]; rfl
theorem PI_keep {x : tX5} {r r' : RcS} (e : rM r' = rM r ∧ rK r' = rK r ∧ rPc r' = rPc r ∧ rSp r' = rSp r) (h : PI x r) : PI x r' := by
  obtain ⟨e1, e2, e3, e4⟩ := e
  obtain ⟨h1, h2, h3⟩ := h
  refine ⟨h1, ?_, ?_⟩
  · show TI x (rM r') (rK r') (rPc r') (rSp r')
    rw [e1, e2, e3, e4]; exact h2
  · show SI (rM r') (rK r') (rPc r') (rSp r') (tSW x)
    rw [e1, e2, e3, e4]; exact h3
theorem nZ_ti {w : Int} (h1 : -5000 ≤ w) (h2 : w ≤ 5000) : (nZ w).toInt = w := by
  unfold nZ
  exact Int32.toInt_ofInt_of_le (by omega) (by omega)
theorem bm_ge {m : Nat} {K : Nat → Nat} {pc sp n : Nat} {W : Nat → Int} : ∀ k t, 1 ≤ t → t ≤ k → posT pc n t → bt m K sp W n t ≤ bm m K pc sp W n k := by
  intro k
  induction k with
  | zero => intro t a b; omega
  | succ k ih =>
    intro t a b hp
    rw [bm]
    by_cases e : t = k + 1
    · subst e
      rw [if_pos hp]
      exact Int.le_max_right _ _
    · have := ih t a (by omega) hp
      by_cases c : posT pc n (k + 1)
      · rw [if_pos c]
        exact Int.le_trans this (Int.le_max_left _ _)
      · rw [if_neg c]; exact this
abbrev sBt (r : RcS) (t : Nat) : Int := bt (rM r) (rK r) (rSp r) (Wo (rM r) (rK r) (rPc r) (rSp r)) (sSt r) t
abbrev isBr (r : RcS) (t : Nat) : Prop := isB (rM r) (rK r) (rPc r) (rSp r) (sSt r) t
theorem sWo_gw {r : RcS} (ok : okR r) (hw : rWi r = -4) : (35 ≤ sWo r ∧ sWo r ≤ 499) ∨ (-499 ≤ sWo r ∧ sWo r ≤ -35) := by
  have g : gw 464 (sWo r) := Wo_gw (K := rK r) ok.2.1 ⟨ok.2.2.2.2.2.1, ok.2.2.2.2.2.2.1⟩ ok.2.2.2.1 (sSt_q ok hw).1
  revert g
  generalize sWo r = d
  intro g
  unfold gw at g
  omega
theorem sWo_eq {r : RcS} (ok : okR r) (hw : rWi r = -4) : sWo r = bd (rM r) (rK r) (rPc r) (rSp r) (Wo (rM r) (rK r) (rPc r) (rSp r)) (sSt r) :=
  Wo_eq ok.2.1 ⟨ok.2.2.2.2.2.1, ok.2.2.2.2.2.2.1⟩ (sSt_q ok hw).1
/-- the best turn has the worth of the race; no turn has a greater one -/
theorem best_bt {r : RcS} (ok : okR r) (hw : rWi r = -4) {T : Nat} (hb : isBr r T) : sBt r T = sWo r := by
  by_cases c : qL (sSt r) = 0
  · exact (hb.2 c).2.2.2.1
  · have e := hb.1 c
    subst e
    rw [sWo_eq ok hw]
    unfold bd
    rw [if_pos c]
theorem any_bt {r : RcS} (ok : okR r) {t : Nat} (h5 : t ≤ 5) (hp : sRef r t = 0) : sBt r t ≤ sWo r := by
  have hw := ref_over hp
  have pt := ref_pos ok hp h5
  rw [sWo_eq ok hw]
  unfold bd
  by_cases c : qL (sSt r) = 0
  · rw [if_neg (fun e => e c)]
    have t0 : t ≠ 0 := by
      intro e
      subst e
      unfold posT at pt
      rw [if_pos rfl] at pt
      exact pt c
    exact bm_ge 5 t (by omega) h5 pt
  · rw [if_pos c]
    have t0 : t = 0 := by
      by_cases e : t = 0
      · exact e
      · unfold posT at pt
        rw [if_neg e] at pt
        exact absurd pt.1 c
    subst t0
    exact Int.le_refl _
theorem bt_on {r : RcS} (ok : okR r) {t : Nat} (hp : sRef r t = 0) (hw : rWi (sMake r t) = -4) : sBt r t = trn (sWo (sMake r t)) := by
  obtain ⟨k1, k2, k3, k4⟩ := make_keep r t
  have e := make_nxt ok hp hw
  unfold sBt bt
  rw [e]
  show trn (Wo (rM r) (rK r) (rPc r) (rSp r) (sSt (sMake r t))) = trn (Wo (rM (sMake r t)) (rK (sMake r t)) (rPc (sMake r t)) (rSp (sMake r t)) (sSt (sMake r t)))
  rw [k1, k2, k3, k4]
theorem bt_off {r : RcS} (ok : okR r) {t : Nat} (hp : sRef r t = 0) (hw : ¬ rWi (sMake r t) = -4) : sBt r t = 499 ∧ rWi (sMake r t) = nI (rOt r) := by
  have hr := ref_over hp
  have ho := ok.2.2.2.2.2.2.2.1
  obtain ⟨-, -, w3, w4, -⟩ := make_W ho t
  by_cases c0 : t = 0 ∨ t = 5
  · exact absurd ((w3 c0).2.2.2.1.trans hr) hw
  · have n0 : t ≠ 0 := fun q => c0 (Or.inl q)
    have n5 : t ≠ 5 := fun q => c0 (Or.inr q)
    obtain ⟨-, -, -, u4, -⟩ := w4 n0 n5
    by_cases c : sTo r t ≤ rM r
    · rw [if_pos c] at u4
      exact absurd (u4.trans hr) hw
    · rw [if_neg c] at u4
      refine ⟨?_, u4⟩
      obtain ⟨hv, q1, q2, q3, q4, q5, q6⟩ := sSt_q ok hr
      have en : nxR (rM r) (rK r) (sSt r) t = sTo r t := by
        unfold nxR sTo
        rw [q1, q2]
      have e : nxt (rM r) (rK r) (rSp r) (sSt r) t = none := by
        unfold nxt
        rw [if_neg n0, if_neg n5, en, if_neg c]
      unfold sBt bt
      rw [e]

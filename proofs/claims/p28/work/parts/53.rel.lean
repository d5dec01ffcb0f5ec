/-! what holds of the object between two calls: the race r, k states recorded, the snapshot sn -/
abbrev gTn (w : WgS) : Int32 := w.2.2.2.1
abbrev gLo (w : WgS) : Int32 := w.2.2.2.2.1
abbrev gRl (w : WgS) : Int32 := w.2.2.2.2.2.2.2.1
abbrev gVs (w : WgS) : Nat → Int32 := w.2.2.2.2.2.2.2.2
abbrev rTu (r : RcS) : Int32 := r.2.2.2.2.2.2.2.1
abbrev rBe (r : RcS) : Int32 := r.2.2.2.2.2.2.2.2.1
abbrev rWo (r : RcS) : Nat → Int32 := r.2.2.2.2.2.2.2.2.2
abbrev vH (v : tX6) : tX0 := v.2.2.2.1
abbrev vP (v : tX6) : tX1 := v.2.2.2.2.1
abbrev vW (v : tX6) : tX5 := v.2.2.2.2.2.1
abbrev vF (v : tX6) : Int32 := v.2.2.2.2.2.2.1
abbrev vA (v : tX6) : Int32 := v.2.2.2.2.2.2.2.1
abbrev vB (v : tX6) : Int32 := v.2.2.2.2.2.2.2.2
def SN (v : tX6) (sn : Option RcS) : Prop := match sn with
  | none => vF v = 0
  | some q => vF v = 1 ∧ okR q ∧ CR v.2.2.1 q
def IN (v : tX6) (r : RcS) (k : Nat) (sn : Option RcS) : Prop := okR r ∧ CR v.1 r ∧ HK (vH v) k ∧ SN v sn ∧ WI (vW v)
/-- the same with r0 recorded last, behind k others -/
def INT (v : tX6) (r : RcS) (k : Nat) (r0 : RcS) (sn : Option RcS) : Prop := okR r ∧ CR v.1 r ∧ HT (vH v) k r0 ∧ SN v sn ∧ WI (vW v)
theorem INT.n {v : tX6} {r r0 : RcS} {k : Nat} {sn : Option RcS} (h : INT v r k r0 sn) : IN v r (k + 1) sn := ⟨h.1, h.2.1, h.2.2.1.hk, h.2.2.2.1, h.2.2.2.2⟩
theorem IN.look {v : tX6} {r : RcS} {k : Nat} {sn : Option RcS} (h : IN v r k sn) {im : tX2} {x : tX5} (hx : WI x) : IN (v.1, im, v.2.2.1, v.2.2.2.1, v.2.2.2.2.1, x, v.2.2.2.2.2.2) r k sn := by
  obtain ⟨h1, h2, h3, h4, h5⟩ := h
  refine ⟨h1, h2, h3, ?_, hx⟩
  cases sn with
  | none => exact h4
  | some q => exact h4
theorem IN.chg {v : tX6} {r r' : RcS} {k : Nat} {sn : Option RcS} {x : tX2} {h' : tX0} (h : IN v r k sn) (ok : okR r') (hc : CR x r') (hh : HT h' (kq k) r) : INT (x, v.2.1, v.2.2.1, h', v.2.2.2.2) r' (kq k) r sn := by
  obtain ⟨h1, h2, h3, h4, h5⟩ := h
  refine ⟨ok, hc, hh, ?_, h5⟩
  cases sn with
  | none => exact h4
  | some q => exact h4
theorem make_keep (r : RcS) (t : Nat) : rM (sMake r t) = rM r ∧ rK (sMake r t) = rK r ∧ rPc (sMake r t) = rPc r ∧ rSp (sMake r t) = rSp r := by
  unfold sMake
  by_cases c0 : t = 0
  · rw [if_pos c0]; exact ⟨rfl, rfl, rfl, rfl⟩
  · rw [if_neg c0]
    by_cases c5 : t = 5
    · rw [if_pos c5]; exact ⟨rfl, rfl, rfl, rfl⟩
    · rw [if_neg c5]; exact ⟨rfl, rfl, rfl, rfl⟩
/-- a turn that is possible -/
theorem turn_eq {v : tX6} {r : RcS} {k : Nat} {sn : Option RcS} (h : IN v r k sn) {t : Nat} (hp : sRef r t = 0) : ∃ (x : tX2) (h' : tX0), f_X6_makeAsChange v (nI t) = some (x, v.2.1, v.2.2.1, h', v.2.2.2.2) ∧ CR x (sMake r t) ∧ HT h' (kq k) r := by
  obtain ⟨h', e1, e3⟩ := record_eq h.2.2.1 h.2.1 h.1
  obtain ⟨x, e4, e5⟩ := make_eq h.2.1 h.1 hp
  refine ⟨x, h', ?_, e5, e3⟩
  unfold f_X6_makeAsChange
  exact bnd e1 (bnd e4 rfl)
theorem pos_ref {r : RcS} (ok : okR r) (hw : rWi r = -4) {t : Nat} (h5 : t ≤ 5) (hp : posT (rPc r) (sSt r) t) : sRef r t = 0 := by
  obtain ⟨hv, q1, q2, q3, q4, q5, q6⟩ := sSt_q ok hw
  unfold posT at hp
  rw [q5, q3] at hp
  unfold sRef
  rw [if_neg (fun e => e hw)]
  by_cases c0 : t = 0
  · rw [if_pos c0] at hp
    rw [if_pos hp, if_pos c0]
  · rw [if_neg c0] at hp
    rw [if_neg (fun e => e hp.1), if_neg c0]
    by_cases c5 : t = 5
    · have hp2 := hp.2
      rw [if_pos c5] at hp2
      rw [if_pos c5, if_neg (by omega)]
    · have hp2 := hp.2
      rw [if_neg c5] at hp2
      rw [if_neg c5, if_pos hp2]
theorem isB_ref {r : RcS} (ok : okR r) (hw : rWi r = -4) {T : Nat} (hb : isB (rM r) (rK r) (rPc r) (rSp r) (sSt r) T) : sRef r T = 0 ∧ T ≤ 5 := by
  by_cases c : qL (sSt r) = 0
  · obtain ⟨a1, a2, a3, -⟩ := hb.2 c
    exact ⟨pos_ref ok hw a2 a3, a2⟩
  · have := hb.1 c
    subst this
    exact ⟨pos_ref ok hw (by omega) (by unfold posT; rw [if_pos rfl]; exact c), by omega⟩
theorem rng {x : Int32} {a b : Nat} (ha : a < 1000) (hb : b < 1000) (h1 : ¬ x < nI a) (h2 : x ≤ nI b) : ∃ t, x = nI t ∧ a ≤ t ∧ t ≤ b := by
  rw [Int32.lt_iff_toInt_lt, nI_toInt (by omega)] at h1
  rw [Int32.le_iff_toInt_le, nI_toInt (by omega)] at h2
  refine ⟨x.toInt.toNat, ?_, by omega, by omega⟩
  apply Int32.toInt_inj.mp
  rw [nI_toInt (by omega)]
  omega
theorem nlt_le {a b : Int32} : ¬ a < b ↔ b ≤ a := by
  rw [Int32.lt_iff_toInt_lt, Int32.le_iff_toInt_le]
  omega
theorem nle_lt {a b : Int32} : ¬ a ≤ b ↔ b < a := by
  rw [Int32.lt_iff_toInt_lt, Int32.le_iff_toInt_le]
  omega
theorem sRef_lt (r : RcS) (t : Nat) : sRef r t < 6 := by
  unfold sRef
  split
  · omega
  · split
    · split <;> omega
    · split
      · omega
      · split
        · split <;> omega
        · split <;> omega
theorem sRef_z (r : RcS) (t : Nat) : (nI (sRef r t) = 0) = (sRef r t = 0) := nI_z (by have := sRef_lt r t; omega)
theorem over_ne {r : RcS} (h : rWi r ≠ -4) (t : Nat) : sRef r t ≠ 0 := fun e => h (ref_over e)
theorem prep_eq {v : tX6} {r : RcS} {k : Nat} {sn : Option RcS} (h : IN v r k sn) : ∃ x, f_X6_preparedWorths v = some (v.1, v.2.1, v.2.2.1, v.2.2.2.1, v.2.2.2.2.1, x, v.2.2.2.2.2.2) ∧ PI x r := by
  obtain ⟨x, e1, e2⟩ := prepare_eq h.2.2.2.2 h.2.1 h.1
  refine ⟨x, ?_, e2⟩
  unfold f_X6_preparedWorths
  exact bnd e1 rfl
theorem sDrive_pl {r : RcS} {t : Nat} : gPl (rW (sDrive r t) (rOt r)) = sTo r t := by
  unfold sDrive
  rcases e : rW r (rOt r) with ⟨a1, a2, a3, a4, a5, a6, a7, a8, a9⟩
  simp only [rW, upw_s]
theorem sLost_ls {r : RcS} : gLs (rW (sLost r) (rOt r)) = gLs (rW r (rOt r)) - 1 := by
  unfold sLost
  rcases e : rW r (rOt r) with ⟨a1, a2, a3, a4, a5, a6, a7, a8, a9⟩
  simp only [rW, upw_s]
theorem sToken_ls {r : RcS} : gLs (rW (sToken r) (1 - rOt r)) = min 3 (gLs (rW r (1 - rOt r)) + rSp r) := by
  unfold sToken
  rcases e : rW r (rOt r) with ⟨a1, a2, a3, a4, a5, a6, a7, a8, a9⟩
  rcases e2 : rW r (1 - rOt r) with ⟨b1, b2, b3, b4, b5, b6, b7, b8, b9⟩
  simp only [rW, upw_s]
/-- what a call that may change does: its answer and the race behind it are the race's and the snapshot's alone -/
def Does (f : tX6 → Option (Int32 × tX6)) (r : RcS) (sn : Option RcS) (P : RcS → Prop) : Prop := ∃ (a : Int32) (r' : RcS), (0 ≤ a → P r') ∧ ∀ v k, IN v r k sn → ∃ u, f v = some (a, u) ∧ (a < 0 → IN u r k sn) ∧ (0 ≤ a → INT u r' (kq k) r sn)
theorem does_no {f : tX6 → Option (Int32 × tX6)} {r : RcS} {sn : Option RcS} {P : RcS → Prop} (a : Int32) (ha : a < 0) (h : ∀ v k, IN v r k sn → f v = some (a, v)) : Does f r sn P :=
  ⟨a, r, fun q => absurd ha (nlt_le.mpr q), fun v k hv => ⟨v, h v k hv, fun _ => hv, fun q => absurd ha (nlt_le.mpr q)⟩⟩
theorem does_yes {f : tX6 → Option (Int32 × tX6)} {r : RcS} {sn : Option RcS} {P : RcS → Prop} (a : Int32) (r' : RcS) (ha : 0 ≤ a) (hp : P r') (h : ∀ v k, IN v r k sn → ∃ u, f v = some (a, u) ∧ INT u r' (kq k) r sn) : Does f r sn P :=
  ⟨a, r', fun _ => hp, fun v k hv => by
    obtain ⟨u, h1, h2⟩ := h v k hv
    exact ⟨u, h1, fun q => absurd q (nlt_le.mpr ha), fun _ => h2⟩⟩
theorem nI_0le {n : Nat} (h : n < 2 ^ 31) : (0 : Int32) ≤ nI n := by rw [k0]; exact nI_le (Nat.zero_le n) h

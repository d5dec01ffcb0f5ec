/-! the race, as both sides tell it: a wagon (place, token, lost turns; turns, lost ones, leaps, tokens, rolls; visits) and a race (miles, kinds, pace, stop, wagons, on turn, winner, turns, races, won) -/
abbrev WgS : Type := Nat × Nat × Nat × Int32 × Int32 × Int32 × Int32 × Int32 × (Nat → Int32)
abbrev RcS : Type := Nat × (Nat → Nat) × Nat × Nat × (Nat → WgS) × Nat × Int32 × Int32 × Int32 × (Nat → Int32)
abbrev gPl (w : WgS) : Nat := w.1
abbrev gTk (w : WgS) : Nat := w.2.1
abbrev gLs (w : WgS) : Nat := w.2.2.1
abbrev rM (r : RcS) : Nat := r.1
abbrev rK (r : RcS) : Nat → Nat := r.2.1
abbrev rPc (r : RcS) : Nat := r.2.2.1
abbrev rSp (r : RcS) : Nat := r.2.2.2.1
abbrev rW (r : RcS) : Nat → WgS := r.2.2.2.2.1
abbrev rOt (r : RcS) : Nat := r.2.2.2.2.2.1
abbrev rWi (r : RcS) : Int32 := r.2.2.2.2.2.2.1
/-- a wagon of the class -/
def CW (m : Nat) (x : tX4) (w : WgS) : Prop := x.2.1 = nI w.1 ∧ x.2.2.1 = nI w.2.1 ∧ x.2.2.2.1 = nI w.2.2.1 ∧ x.2.2.2.2.1 = w.2.2.2.1 ∧ x.2.2.2.2.2.1 = w.2.2.2.2.1 ∧ x.2.2.2.2.2.2.1 = w.2.2.2.2.2.1 ∧ x.2.2.2.2.2.2.2.1 = w.2.2.2.2.2.2.1 ∧ x.2.2.2.2.2.2.2.2 = w.2.2.2.2.2.2.2.1 ∧ eqm m x.1 w.2.2.2.2.2.2.2.2
/-- a race of the class -/
def CR (v : tX2) (r : RcS) : Prop := Rd v.1 (rM r) (rK r) ∧ CW (rM r) v.2.1 (rW r 0) ∧ CW (rM r) v.2.2.1 (rW r 1) ∧ v.2.2.2.1 = nI (rPc r) ∧ v.2.2.2.2.1 = nI (rSp r) ∧ v.2.2.2.2.2.1 = nI (rOt r) ∧ v.2.2.2.2.2.2.1 = rWi r ∧ v.2.2.2.2.2.2.2.1 = r.2.2.2.2.2.2.2.1 ∧ v.2.2.2.2.2.2.2.2.1 = r.2.2.2.2.2.2.2.2.1 ∧ v.2.2.2.2.2.2.2.2.2.1 = r.2.2.2.2.2.2.2.2.2 0 ∧ v.2.2.2.2.2.2.2.2.2.2 = r.2.2.2.2.2.2.2.2.2 1
/-- a wagon of the reference: its eight numbers, and the visits of every mile -/
def MW (s : Nat → Int32) (m j : Nat) (w : WgS) : Prop := s (23 + 8 * j) = nI w.1 ∧ s (24 + 8 * j) = nI w.2.1 ∧ s (25 + 8 * j) = nI w.2.2.1 ∧ s (26 + 8 * j) = w.2.2.2.1 ∧ s (27 + 8 * j) = w.2.2.2.2.1 ∧ s (28 + 8 * j) = w.2.2.2.2.2.1 ∧ s (29 + 8 * j) = w.2.2.2.2.2.2.1 ∧ s (30 + 8 * j) = w.2.2.2.2.2.2.2.1 ∧ ∀ i, 1 ≤ i → i ≤ m → s (37 + 2 * i + j) = w.2.2.2.2.2.2.2.2 i
/-- a race of the reference -/
def MR (s : Nat → Int32) (r : RcS) : Prop := s 0 = nI (rPc r) ∧ s 1 = nI (rSp r) ∧ s 2 = nI (rM r) ∧ (∀ i, 1 ≤ i → i ≤ rM r → s (2 + i) = nI (rK r i)) ∧ s 17 = nI (rOt r) ∧ s 18 = r.2.2.2.2.2.2.2.1 ∧ s 19 = r.2.2.2.2.2.2.2.2.1 ∧ s 20 = r.2.2.2.2.2.2.2.2.2 0 ∧ s 21 = r.2.2.2.2.2.2.2.2.2 1 ∧ s 22 = rWi r ∧ MW s (rM r) 0 (rW r 0) ∧ MW s (rM r) 1 (rW r 1)
/-- what is so of every race -/
def okR (r : RcS) : Prop := 1 ≤ rM r ∧ rM r ≤ 14 ∧ (∀ i, 1 ≤ i → i ≤ rM r → rK r i ≤ 3) ∧ 1 ≤ rPc r ∧ rPc r ≤ 4 ∧ 1 ≤ rSp r ∧ rSp r ≤ 3 ∧ rOt r ≤ 1 ∧ (∀ j, j ≤ 1 → gPl (rW r j) ≤ rM r + 1 ∧ gTk (rW r j) ≤ 1 ∧ gLs (rW r j) ≤ 3) ∧ ((rWi r = -4 ∧ gPl (rW r 0) ≤ rM r ∧ gPl (rW r 1) ≤ rM r ∧ (gPl (rW r 0) ≠ gPl (rW r 1) ∨ gPl (rW r 0) = 0)) ∨ rWi r = 0 ∨ rWi r = 1)
def upw (f : Nat → WgS) (j : Nat) (w : WgS) : Nat → WgS := fun k => if k = j then w else f k
theorem upw_s {f : Nat → WgS} {j : Nat} {w : WgS} : upw f j w j = w := if_pos rfl
theorem upw_n {f : Nat → WgS} {j k : Nat} {w : WgS} (h : k ≠ j) : upw f j w k = f k := if_neg h
/-- the turns -/
def sLost (r : RcS) : RcS := match rW r (rOt r) with
  | (pl, tk, ls, tn, lo, le, us, rl, vs) => (r.1, r.2.1, r.2.2.1, r.2.2.2.1, upw (rW r) (rOt r) (pl, tk, ls - 1, tn + 1, lo + 1, le, us, rl, vs), 1 - rOt r, rWi r, r.2.2.2.2.2.2.2.1 + 1, r.2.2.2.2.2.2.2.2.1, r.2.2.2.2.2.2.2.2.2)
def sToken (r : RcS) : RcS := match rW r (rOt r), rW r (1 - rOt r) with
  | (pl, tk, ls, tn, lo, le, us, rl, vs), (pl2, tk2, ls2, tn2, lo2, le2, us2, rl2, vs2) => (r.1, r.2.1, r.2.2.1, r.2.2.2.1, upw (upw (rW r) (rOt r) (pl, 0, ls, tn + 1, lo, le, us + 1, rl, vs)) (1 - rOt r) (pl2, tk2, min 3 (ls2 + rSp r), tn2, lo2, le2, us2, rl2, vs2), 1 - rOt r, rWi r, r.2.2.2.2.2.2.2.1 + 1, r.2.2.2.2.2.2.2.2.1, r.2.2.2.2.2.2.2.2.2)
def sTo (r : RcS) (d : Nat) : Nat := rs (rM r) (rK r) (gPl (rW r (1 - rOt r))) (gPl (rW r (rOt r))) d
def sDrive (r : RcS) (d : Nat) : RcS := match rW r (rOt r) with
  | (pl, tk, ls, tn, lo, le, us, rl, vs) => (r.1, r.2.1, r.2.2.1, r.2.2.2.1,
      upw (rW r) (rOt r) (sTo r d, (if kd (rM r) (rK r) (sTo r d) = 3 then 1 else tk), (if kd (rM r) (rK r) (sTo r d) = 1 then ls + 1 else ls), tn + 1, lo, (if pl < gPl (rW r (1 - rOt r)) ∧ gPl (rW r (1 - rOt r)) < sTo r d then le + 1 else le), us, rl + nI (drC (rM r) (rK r) (gPl (rW r (1 - rOt r))) pl d), drV (rM r) (rK r) (gPl (rW r (1 - rOt r))) pl d vs),
      1 - rOt r, (if sTo r d ≤ rM r then rWi r else nI (rOt r)), r.2.2.2.2.2.2.2.1 + 1, r.2.2.2.2.2.2.2.2.1, (if sTo r d ≤ rM r then r.2.2.2.2.2.2.2.2.2 else upd r.2.2.2.2.2.2.2.2.2 (rOt r) (r.2.2.2.2.2.2.2.2.2 (rOt r) + 1)))
def sMake (r : RcS) (t : Nat) : RcS := if t = 0 then sLost r else if t = 5 then sToken r else sDrive r t
/-- why a turn is not possible -/
def sRef (r : RcS) (t : Nat) : Nat := if rWi r ≠ -4 then 1 else if gLs (rW r (rOt r)) ≠ 0 then (if t = 0 then 0 else 2) else if t = 0 then 3 else if t = 5 then (if gTk (rW r (rOt r)) = 0 then 5 else 0) else if t ≤ rPc r then 0 else 4
theorem eqm_tr {m : Nat} {f g h : Nat → Int32} (a : eqm m f g) (b : eqm m g h) : eqm m f h := fun i h1 h2 => (a i h1 h2).trans (b i h1 h2)
theorem bump_eqm {m q : Nat} {f g : Nat → Int32} (h : eqm m f g) : eqm m (bump m f q) (bump m g q) := by
  intro i h1 h2
  unfold bump
  by_cases c : 1 ≤ q ∧ q ≤ m
  · rw [if_pos c, if_pos c]
    by_cases e : i = q
    · subst e; rw [upd_s, upd_s, h i h1 h2]
    · rw [upd_n e, upd_n e, h i h1 h2]
  · rw [if_neg c, if_neg c, h i h1 h2]
theorem roV_eqm {m o : Nat} {K : Nat → Nat} : ∀ (n p : Nat) (f g : Nat → Int32), eqm m f g → eqm m (roV m K o n p f) (roV m K o n p g) := by
  intro n
  induction n with
  | zero => intro p f g h; exact h
  | succ n ih =>
    intro p f g h
    rw [roV, roV]
    by_cases c : kd m K p = 2
    · rw [if_pos c, if_pos c]; exact ih _ _ _ (bump_eqm h)
    · rw [if_neg c, if_neg c]; exact h
theorem drV_eqm {m o p d : Nat} {K : Nat → Nat} {f g : Nat → Int32} (h : eqm m f g) : eqm m (drV m K o p d f) (drV m K o p d g) := roV_eqm _ _ _ _ (bump_eqm h)
/-- what a turn that is possible keeps -/
theorem okR_make {r : RcS} (h : okR r) {t : Nat} (hp : sRef r t = 0) : okR (sMake r t) := by
  obtain ⟨m, K, pc, sp, W, ot, wi, tu, be, won⟩ := r
  obtain ⟨h1, h2, h3, h4, h5, h6, h7, h8, h9, h10⟩ := h
  dsimp only [rM, rK, rPc, rSp, rW, rOt, rWi, gPl, gTk, gLs] at *
  unfold sRef at hp
  dsimp only [rM, rK, rPc, rSp, rW, rOt, rWi, gPl, gTk, gLs] at hp
  by_cases c1 : wi ≠ -4
  · rw [if_pos c1] at hp; omega
  rw [if_neg c1] at hp
  have c1' : wi = -4 := Classical.not_not.mp c1
  subst c1'
  have h10 : (W 0).1 ≤ m ∧ (W 1).1 ≤ m ∧ ((W 0).1 ≠ (W 1).1 ∨ (W 0).1 = 0) := by
    rcases h10 with ⟨-, q⟩ | q | q
    · exact q
    · exact absurd q (by decide)
    · exact absurd q (by decide)
  have g0 := h9 0 (by omega)
  have g1 := h9 1 (by omega)
  rcases e0 : W 0 with ⟨p0, t0, l0, a1, a2, a3, a4, a5, a6⟩
  rcases e1 : W 1 with ⟨p1, t1, l1, b1, b2, b3, b4, b5, b6⟩
  rw [e0] at g0 h10; rw [e1] at g1 h10
  dsimp only at g0 g1 h10
  have two : ∀ {P : Nat → Prop}, P 0 → P 1 → ∀ j, j ≤ 1 → P j := fun a b j hj => by
    rcases (show j = 0 ∨ j = 1 by omega) with rfl | rfl
    · exact a
    · exact b
  unfold sMake
  rcases (show ot = 0 ∨ ot = 1 by omega) with rfl | rfl
  · simp only [e0] at hp
    by_cases d0 : t = 0
    · rw [if_pos d0]
      simp only [sLost, e0, rW, rOt]
      refine ⟨h1, h2, h3, h4, h5, h6, h7, by dsimp only [rOt]; omega, two ?_ ?_, Or.inl ⟨rfl, ?_, ?_, ?_⟩⟩ <;> simp only [upw, e1, gPl, gTk, gLs, rW, rM] <;> simp <;> omega
    · rw [if_neg d0] at hp ⊢
      by_cases c2 : l0 ≠ 0
      · rw [if_pos c2] at hp; omega
      rw [if_neg c2, if_neg d0] at hp
      by_cases d5 : t = 5
      · rw [if_pos d5]
        simp only [sToken, e0, e1, rW, rOt, rSp, Nat.sub_zero]
        refine ⟨h1, h2, h3, h4, h5, h6, h7, by dsimp only [rOt]; omega, two ?_ ?_, Or.inl ⟨rfl, ?_, ?_, ?_⟩⟩ <;> simp only [upw, e1, gPl, gTk, gLs, rW, rM] <;> simp <;> omega
      · rw [if_neg d5] at hp ⊢
        have ht : t ≤ pc := by
          by_cases c : t ≤ pc
          · exact c
          · rw [if_neg c] at hp; omega
        have hq := rs_ok (K := K) h2 h10.2.1 h10.1 (show 1 ≤ t by omega)
        simp only [sDrive, e0, e1, rW, rOt, rM, rK, rWi, gPl, sTo, Nat.sub_zero]
        generalize rs m K p1 p0 t = q at hq
        obtain ⟨⟨q1, q2⟩, q3, q4⟩ := hq
        refine ⟨h1, h2, h3, h4, h5, h6, h7, by dsimp only [rOt]; omega, two ?_ ?_, ?_⟩
        · simp only [upw, gPl, gTk, gLs, rW, rM, if_true]
          refine ⟨q1, ?_, ?_⟩
          · by_cases c : kd m K q = 3
            · rw [if_pos c]; omega
            · rw [if_neg c]; omega
          · by_cases c : kd m K q = 1
            · rw [if_pos c]; omega
            · rw [if_neg c]; omega
        · simp only [upw, e1, gPl, gTk, gLs, rW, rM]; simp; omega
        · by_cases c : q ≤ m
          · refine Or.inl ⟨if_pos c, ?_, ?_, ?_⟩ <;> simp only [upw, e1, gPl, rW, rM] <;> simp <;> omega
          · exact Or.inr (Or.inl (if_neg c))
  · simp only [e1] at hp
    by_cases d0 : t = 0
    · rw [if_pos d0]
      simp only [sLost, e1, rW, rOt]
      refine ⟨h1, h2, h3, h4, h5, h6, h7, by dsimp only [rOt]; omega, two ?_ ?_, Or.inl ⟨rfl, ?_, ?_, ?_⟩⟩ <;> simp only [upw, e0, gPl, gTk, gLs, rW, rM] <;> simp <;> omega
    · rw [if_neg d0] at hp ⊢
      by_cases c2 : l1 ≠ 0
      · rw [if_pos c2] at hp; omega
      rw [if_neg c2, if_neg d0] at hp
      by_cases d5 : t = 5
      · rw [if_pos d5]
        simp only [sToken, e0, e1, rW, rOt, rSp, Nat.sub_self]
        refine ⟨h1, h2, h3, h4, h5, h6, h7, by dsimp only [rOt]; omega, two ?_ ?_, Or.inl ⟨rfl, ?_, ?_, ?_⟩⟩ <;> simp only [upw, e0, gPl, gTk, gLs, rW, rM] <;> simp <;> omega
      · rw [if_neg d5] at hp ⊢
        have ht : t ≤ pc := by
          by_cases c : t ≤ pc
          · exact c
          · rw [if_neg c] at hp; omega
        have hq := rs_ok (K := K) h2 h10.1 h10.2.1 (show 1 ≤ t by omega)
        simp only [sDrive, e0, e1, rW, rOt, rM, rK, rWi, gPl, sTo, Nat.sub_self]
        generalize rs m K p0 p1 t = q at hq
        obtain ⟨⟨q1, q2⟩, q3, q4⟩ := hq
        refine ⟨h1, h2, h3, h4, h5, h6, h7, by dsimp only [rOt]; omega, two ?_ ?_, ?_⟩
        · simp only [upw, e0, gPl, gTk, gLs, rW, rM]; simp; omega
        · simp only [upw, gPl, gTk, gLs, rW, rM, if_true]
          refine ⟨q1, ?_, ?_⟩
          · by_cases c : kd m K q = 3
            · rw [if_pos c]; omega
            · rw [if_neg c]; omega
          · by_cases c : kd m K q = 1
            · rw [if_pos c]; omega
            · rw [if_neg c]; omega
        · by_cases c : q ≤ m
          · refine Or.inl ⟨if_pos c, ?_, ?_, ?_⟩ <;> simp only [upw, e0, gPl, rW, rM] <;> simp <;> omega
          · exact Or.inr (Or.inr (if_neg c))

/-! the worth of a stand: what both sides tell -/
/-- the worth one turn before -/
def trn (w : Int) : Int := if 0 ≤ w then 1 - w else -w - 1
/-- a stand that can be: places of a road of m miles -/
def vld (m n : Nat) : Prop := n < 16384 ∧ qO n ≤ m ∧ qP n ≤ m ∧ (qO n ≠ qP n ∨ qO n = 0)
abbrev posT (pc n t : Nat) : Prop := if t = 0 then qL n ≠ 0 else qL n = 0 ∧ (if t = 5 then qT n = 1 else t ≤ pc)
/-- where a drive of d ends -/
def nxR (m : Nat) (K : Nat → Nat) (n d : Nat) : Nat := rs m K (qP n) (qO n) d
def nxD (m : Nat) (K : Nat → Nat) (n q : Nat) : Nat := mkS (qP n) q (qU n) (if kd m K q = 3 then 1 else qT n) (qM n) (if kd m K q = 1 then 1 else 0)
def nxL (n : Nat) : Nat := mkS (qP n) (qO n) (qU n) (qT n) (qM n) (qL n - 1)
def nxT (sp n : Nat) : Nat := mkS (qP n) (qO n) (qU n) 0 (min 3 (qM n + sp)) 0
def nxt (m : Nat) (K : Nat → Nat) (sp n t : Nat) : Option Nat := if t = 0 then some (nxL n) else if t = 5 then some (nxT sp n) else if nxR m K n t ≤ m then some (nxD m K n (nxR m K n t)) else none
/-- what falls with every turn -/
def mu (m n : Nat) : Nat := 16 * (2 * m - qO n - qP n) + 5 * (qT n + qU n) + (qL n + qM n)
def bt (m : Nat) (K : Nat → Nat) (sp : Nat) (W : Nat → Int) (n t : Nat) : Int := match nxt m K sp n t with
  | none => 499
  | some n' => trn (W n')
def bm (m : Nat) (K : Nat → Nat) (pc sp : Nat) (W : Nat → Int) (n : Nat) : Nat → Int
  | 0 => -500
  | k + 1 => if posT pc n (k + 1) then max (bm m K pc sp W n k) (bt m K sp W n (k + 1)) else bm m K pc sp W n k
def bd (m : Nat) (K : Nat → Nat) (pc sp : Nat) (W : Nat → Int) (n : Nat) : Int := if qL n ≠ 0 then bt m K sp W n 0 else bm m K pc sp W n 5
def Vf (m : Nat) (K : Nat → Nat) (pc sp : Nat) : Nat → Nat → Int
  | 0, _ => 0
  | k + 1, n => bd m K pc sp (Vf m K pc sp k) n
theorem mu_le {m n : Nat} (hm : m ≤ 14) : mu m n ≤ 464 := by
  have := q_lt n
  unfold mu
  omega
theorem nxt_vld {m n t n' : Nat} {K : Nat → Nat} {pc sp : Nat} (hm : m ≤ 14) (hs : 1 ≤ sp ∧ sp ≤ 3) (hv : vld m n) (hp : posT pc n t) (h : nxt m K sp n t = some n') : vld m n' ∧ mu m n' < mu m n := by
  obtain ⟨h1, h2, h3, h4⟩ := hv
  obtain ⟨b1, b2, b3, b4, b5, b6⟩ := q_lt n
  unfold nxt at h
  unfold posT at hp
  by_cases c0 : t = 0
  · rw [if_pos c0] at h hp
    have e := (Option.some.inj h).symm
    subst e
    have e1 := mkS_O (o := qP n) (p := qO n) (t := qU n) (u := qT n) (l := qM n) (m := qL n - 1) b2 b1 b4 b3 b6 (by omega)
    have e2 := mkS_P (o := qP n) (p := qO n) (t := qU n) (u := qT n) (l := qM n) (m := qL n - 1) b1 b4 b3 b6 (by omega)
    have e3 := mkS_T (o := qP n) (p := qO n) (t := qU n) (u := qT n) (l := qM n) (m := qL n - 1) b4 b3 b6 (by omega)
    have e4 := mkS_U (o := qP n) (p := qO n) (t := qU n) (u := qT n) (l := qM n) (m := qL n - 1) b3 b6 (by omega)
    have e5 := mkS_L (o := qP n) (p := qO n) (t := qU n) (u := qT n) (l := qM n) (m := qL n - 1) b6 (by omega)
    have e6 := mkS_M (o := qP n) (p := qO n) (t := qU n) (u := qT n) (l := qM n) (m := qL n - 1) (by omega)
    have e7 := mkS_lt (o := qP n) (p := qO n) (t := qU n) (u := qT n) (l := qM n) (m := qL n - 1) b2 b1 b4 b3 b6 (by omega)
    unfold vld mu nxL
    rw [e1, e2, e3, e4, e5, e6]
    exact ⟨⟨e7, h3, h2, by omega⟩, by omega⟩
  · rw [if_neg c0] at h hp
    by_cases c5 : t = 5
    · rw [if_pos c5] at h
      rw [if_pos c5] at hp
      have e := (Option.some.inj h).symm
      subst e
      have hl : min 3 (qM n + sp) < 4 := by omega
      have e1 := mkS_O (o := qP n) (p := qO n) (t := qU n) (u := 0) (l := min 3 (qM n + sp)) (m := 0) b2 b1 b4 (by omega) hl (by omega)
      have e2 := mkS_P (o := qP n) (p := qO n) (t := qU n) (u := 0) (l := min 3 (qM n + sp)) (m := 0) b1 b4 (by omega) hl (by omega)
      have e3 := mkS_T (o := qP n) (p := qO n) (t := qU n) (u := 0) (l := min 3 (qM n + sp)) (m := 0) b4 (by omega) hl (by omega)
      have e4 := mkS_U (o := qP n) (p := qO n) (t := qU n) (u := 0) (l := min 3 (qM n + sp)) (m := 0) (by omega) hl (by omega)
      have e5 := mkS_L (o := qP n) (p := qO n) (t := qU n) (u := 0) (l := min 3 (qM n + sp)) (m := 0) hl (by omega)
      have e6 := mkS_M (o := qP n) (p := qO n) (t := qU n) (u := 0) (l := min 3 (qM n + sp)) (m := 0) (by omega)
      have e7 := mkS_lt (o := qP n) (p := qO n) (t := qU n) (u := 0) (l := min 3 (qM n + sp)) (m := 0) b2 b1 b4 (by omega) hl (by omega)
      unfold vld mu nxT
      rw [e1, e2, e3, e4, e5, e6]
      exact ⟨⟨e7, h3, h2, by omega⟩, by omega⟩
    · rw [if_neg c5] at h
      have hq := rs_ok (K := K) hm h3 h2 (show 1 ≤ t by omega)
      unfold nxR at h
      by_cases c : rs m K (qP n) (qO n) t ≤ m
      · rw [if_pos c] at h
        have e := (Option.some.inj h).symm
        subst e
        generalize hqq : rs m K (qP n) (qO n) t = q at *
        have hq1 : q ≠ qP n := hq.1.2
        have hq2 : qO n < q := hq.2.1
        have hu : (if kd m K q = 3 then 1 else qT n) < 2 := by
          by_cases k3 : kd m K q = 3
          · rw [if_pos k3]; omega
          · rw [if_neg k3]; omega
        have hl : (if kd m K q = 1 then 1 else 0) < 4 := by
          by_cases k3 : kd m K q = 1
          · rw [if_pos k3]; omega
          · rw [if_neg k3]; omega
        have hl1 : (if kd m K q = 1 then 1 else 0) ≤ 1 := by
          by_cases k3 : kd m K q = 1
          · rw [if_pos k3]; omega
          · rw [if_neg k3]; omega
        unfold nxD
        generalize (if kd m K q = 3 then 1 else qT n) = u' at *
        generalize (if kd m K q = 1 then 1 else 0) = l' at *
        have e1 := mkS_O (o := qP n) (p := q) (t := qU n) (u := u') (l := qM n) (m := l') b2 (by omega) b4 hu b6 hl
        have e2 := mkS_P (o := qP n) (p := q) (t := qU n) (u := u') (l := qM n) (m := l') (by omega) b4 hu b6 hl
        have e3 := mkS_T (o := qP n) (p := q) (t := qU n) (u := u') (l := qM n) (m := l') b4 hu b6 hl
        have e4 := mkS_U (o := qP n) (p := q) (t := qU n) (u := u') (l := qM n) (m := l') hu b6 hl
        have e5 := mkS_L (o := qP n) (p := q) (t := qU n) (u := u') (l := qM n) (m := l') b6 hl
        have e6 := mkS_M (o := qP n) (p := q) (t := qU n) (u := u') (l := qM n) (m := l') hl
        have e7 := mkS_lt (o := qP n) (p := q) (t := qU n) (u := u') (l := qM n) (m := l') b2 (by omega) b4 hu b6 hl
        unfold vld mu
        rw [e1, e2, e3, e4, e5, e6]
        exact ⟨⟨e7, h3, c, by omega⟩, by omega⟩
      · rw [if_neg c] at h; exact absurd h (by simp)

/-! the worth's equation and its bounds -/
theorem bt_congr {m : Nat} {K : Nat → Nat} {sp n t : Nat} {W1 W2 : Nat → Int} (h : ∀ n', nxt m K sp n t = some n' → W1 n' = W2 n') : bt m K sp W1 n t = bt m K sp W2 n t := by
  unfold bt
  rcases e : nxt m K sp n t with _ | n'
  · rfl
  · show trn (W1 n') = trn (W2 n')
    rw [h n' e]
theorem bm_congr {m : Nat} {K : Nat → Nat} {pc sp n : Nat} {W1 W2 : Nat → Int} (h : ∀ t n', posT pc n t → nxt m K sp n t = some n' → W1 n' = W2 n') : ∀ k, bm m K pc sp W1 n k = bm m K pc sp W2 n k := by
  intro k
  induction k with
  | zero => rfl
  | succ k ih =>
    rw [bm, bm]
    by_cases c : posT pc n (k + 1)
    · rw [if_pos c, if_pos c, ih, bt_congr (fun n' e => h _ n' c e)]
    · rw [if_neg c, if_neg c, ih]
theorem bd_congr {m : Nat} {K : Nat → Nat} {pc sp n : Nat} {W1 W2 : Nat → Int} (h : ∀ t n', posT pc n t → nxt m K sp n t = some n' → W1 n' = W2 n') : bd m K pc sp W1 n = bd m K pc sp W2 n := by
  unfold bd
  by_cases c : qL n ≠ 0
  · rw [if_pos c, if_pos c, bt_congr (fun n' e => h 0 n' (by unfold posT; rw [if_pos rfl]; exact c) e)]
  · rw [if_neg c, if_neg c, bm_congr h]
section WO
variable {m : Nat} {K : Nat → Nat} {pc sp : Nat}
theorem Vf_st (hm : m ≤ 14) (hs : 1 ≤ sp ∧ sp ≤ 3) : ∀ k n, vld m n → mu m n < k → Vf m K pc sp k n = Vf m K pc sp (k + 1) n := by
  intro k
  induction k with
  | zero => intro n hv h; omega
  | succ k ih =>
    intro n hv h
    show bd m K pc sp (Vf m K pc sp k) n = bd m K pc sp (Vf m K pc sp (k + 1)) n
    refine bd_congr (fun t n' hp e => ?_)
    have := nxt_vld hm hs hv hp e
    exact ih n' this.1 (by omega)
def Wo (m : Nat) (K : Nat → Nat) (pc sp : Nat) (n : Nat) : Int := Vf m K pc sp 500 n
theorem Wo_eq (hm : m ≤ 14) (hs : 1 ≤ sp ∧ sp ≤ 3) {n : Nat} (hv : vld m n) : Wo m K pc sp n = bd m K pc sp (Wo m K pc sp) n := by
  show bd m K pc sp (Vf m K pc sp 499) n = _
  refine bd_congr (fun t n' hp e => ?_)
  have h1 := nxt_vld hm hs hv hp e
  have h2 := mu_le (n := n) hm
  exact Vf_st hm hs 499 n' h1.1 (by omega)
/-- a worth that many turns before the end -/
def gw (c : Nat) (w : Int) : Prop := (499 - c ≤ w ∧ w ≤ 499) ∨ (-499 ≤ w ∧ w ≤ c - 499)
theorem gw_bt {n t : Nat} {W : Nat → Int} (hm : m ≤ 14) (hs : 1 ≤ sp ∧ sp ≤ 3) (hv : vld m n) (hp : posT pc n t) (h : ∀ n', nxt m K sp n t = some n' → gw (mu m n') (W n')) : gw (mu m n) (bt m K sp W n t) := by
  have hu := mu_le (n := n) hm
  unfold bt
  rcases e : nxt m K sp n t with _ | n'
  · exact Or.inl ⟨by show (499 : Int) - mu m n ≤ 499; omega, by show (499 : Int) ≤ 499; omega⟩
  · have h1 := nxt_vld hm hs hv hp e
    have h2 := h n' e
    show gw (mu m n) (trn (W n'))
    unfold trn
    rcases h2 with ⟨a, b⟩ | ⟨a, b⟩
    · rw [if_pos (by omega)]; exact Or.inr ⟨by omega, by omega⟩
    · rw [if_neg (by omega)]; exact Or.inl ⟨by omega, by omega⟩
theorem gw_bm {n : Nat} {W : Nat → Int} (hm : m ≤ 14) (hs : 1 ≤ sp ∧ sp ≤ 3) (hv : vld m n) (h : ∀ t n', posT pc n t → nxt m K sp n t = some n' → gw (mu m n') (W n')) : ∀ k, (bm m K pc sp W n k = -500 ∧ ∀ t, 1 ≤ t → t ≤ k → ¬ posT pc n t) ∨ gw (mu m n) (bm m K pc sp W n k) := by
  have hu := mu_le (n := n) hm
  intro k
  induction k with
  | zero => exact Or.inl ⟨rfl, fun t a b => by omega⟩
  | succ k ih =>
    rw [bm]
    by_cases c : posT pc n (k + 1)
    · rw [if_pos c]
      have g := gw_bt (t := k + 1) hm hs hv c (fun n' e => h _ n' c e)
      generalize bt m K sp W n (k + 1) = x at *
      right
      rcases ih with ⟨i1, -⟩ | i1
      · rw [i1, Int.max_eq_right (by rcases g with ⟨a, b⟩ | ⟨a, b⟩ <;> omega)]; exact g
      · generalize bm m K pc sp W n k = y at *
        by_cases q : x ≤ y
        · rw [Int.max_eq_left q]; exact i1
        · rw [Int.max_eq_right (by omega)]; exact g
    · rw [if_neg c]
      rcases ih with ⟨i1, i2⟩ | i1
      · exact Or.inl ⟨i1, fun t a b => by
          by_cases e : t = k + 1
          · subst e; exact c
          · exact i2 t a (by omega)⟩
      · exact Or.inr i1
theorem gw_bd {n : Nat} {W : Nat → Int} (hm : m ≤ 14) (hs : 1 ≤ sp ∧ sp ≤ 3) (hpc : 1 ≤ pc) (hv : vld m n) (h : ∀ t n', posT pc n t → nxt m K sp n t = some n' → gw (mu m n') (W n')) : gw (mu m n) (bd m K pc sp W n) := by
  unfold bd
  by_cases c : qL n ≠ 0
  · rw [if_pos c]
    have p0 : posT pc n 0 := by unfold posT; rw [if_pos rfl]; exact c
    exact gw_bt hm hs hv p0 (fun n' e => h 0 n' p0 e)
  · rw [if_neg c]
    rcases gw_bm (K := K) hm hs hv h 5 with ⟨-, i2⟩ | i
    · exfalso
      refine i2 1 (by omega) (by omega) ?_
      unfold posT
      rw [if_neg (by omega)]
      exact ⟨Classical.not_not.mp c, by rw [if_neg (by omega)]; exact hpc⟩
    · exact i
theorem Vf_gw (hm : m ≤ 14) (hs : 1 ≤ sp ∧ sp ≤ 3) (hpc : 1 ≤ pc) : ∀ k n, vld m n → mu m n < k → gw (mu m n) (Vf m K pc sp k n) := by
  intro k
  induction k with
  | zero => intro n hv h; omega
  | succ k ih =>
    intro n hv h
    show gw (mu m n) (bd m K pc sp (Vf m K pc sp k) n)
    refine gw_bd hm hs hpc hv (fun t n' hp e => ?_)
    have := nxt_vld hm hs hv hp e
    exact ih n' this.1 (by omega)
theorem Wo_gw (hm : m ≤ 14) (hs : 1 ≤ sp ∧ sp ≤ 3) (hpc : 1 ≤ pc) {n : Nat} (hv : vld m n) : gw 464 (Wo m K pc sp n) := by
  have h := Vf_gw (K := K) hm hs hpc 500 n hv (by have := mu_le (n := n) hm; omega)
  have hu := mu_le (n := n) hm
  show gw 464 (Vf m K pc sp 500 n)
  rcases h with ⟨a, b⟩ | ⟨a, b⟩
  · exact Or.inl ⟨by omega, b⟩
  · exact Or.inr ⟨a, by omega⟩
end WO
/-! worths as Int32 -/
def nZ (w : Int) : Int32 := Int32.ofInt w
theorem nZ_toInt {w : Int} (h1 : -1000 ≤ w) (h2 : w ≤ 1000) : (nZ w).toInt = w := by
  unfold nZ
  exact Int32.toInt_ofInt_of_le (by omega) (by omega)
theorem nZ_le {a b : Int} (a1 : -1000 ≤ a) (a2 : a ≤ 1000) (b1 : -1000 ≤ b) (b2 : b ≤ 1000) : (nZ a ≤ nZ b) = (a ≤ b) := by
  apply propext
  rw [Int32.le_iff_toInt_le, nZ_toInt a1 a2, nZ_toInt b1 b2]
theorem nZ_lt {a b : Int} (a1 : -1000 ≤ a) (a2 : a ≤ 1000) (b1 : -1000 ≤ b) (b2 : b ≤ 1000) : (nZ a < nZ b) = (a < b) := by
  apply propext
  rw [Int32.lt_iff_toInt_lt, nZ_toInt a1 a2, nZ_toInt b1 b2]
theorem nZ_eq {a b : Int} (a1 : -1000 ≤ a) (a2 : a ≤ 1000) (b1 : -1000 ≤ b) (b2 : b ≤ 1000) : (nZ a = nZ b) = (a = b) := by
  apply propext
  constructor
  · intro h
    have := congrArg Int32.toInt h
    rw [nZ_toInt a1 a2, nZ_toInt b1 b2] at this
    exact this
  · intro h; rw [h]
theorem nZ_nI (n : Nat) : nZ n = nI n := by
  unfold nZ
  exact Int32.ofInt_eq_ofNat
theorem nZ_sub (a b : Int) : nZ a - nZ b = nZ (a - b) := by
  unfold nZ
  exact (Int32.ofInt_sub a b).symm
theorem nZ_neg (a : Int) : - nZ a = nZ (-a) := by
  unfold nZ
  exact (Int32.ofInt_neg a).symm
theorem nZ_add (a b : Int) : nZ a + nZ b = nZ (a + b) := by
  unfold nZ
  exact (Int32.ofInt_add a b).symm
/-- both ways of going one turn back -/
theorem before_eq {w : Int} (h1 : -999 ≤ w) (h2 : w ≤ 999) : f_X5_oneTurnBefore (nZ w) = some (nZ (trn w)) := by
  unfold f_X5_oneTurnBefore trn
  have e0 : (0 : Int32) = nZ 0 := rfl
  have e1 : (1 : Int32) = nZ 1 := rfl
  rw [e0, e1]
  by_cases c : 0 ≤ w
  · rw [if_pos c, if_pos (by rw [nZ_le (by omega) (by omega) (by omega) (by omega)]; exact c), nZ_sub]
  · rw [if_neg c, if_neg (by rw [nZ_le (by omega) (by omega) (by omega) (by omega)]; exact c), nZ_neg, nZ_sub]

/-! small numbers as Int32 -/
theorem ofNat_nI (n : Nat) : Int32.ofNat n = nI n := rfl
theorem nI_mul (a b : Nat) : nI a * nI b = nI (a * b) := (Int32.ofNat_mul a b).symm
theorem nI_sub {a b : Nat} (h : b ≤ a) : nI a - nI b = nI (a - b) := by
  have h1 : nI (a - b) + nI b = nI a := by rw [nI_add, Nat.sub_add_cancel h]
  rw [← h1]; simp
theorem k0 : (0 : Int32) = nI 0 := rfl
theorem k1 : (1 : Int32) = nI 1 := rfl
theorem k2 : (2 : Int32) = nI 2 := rfl
theorem k3 : (3 : Int32) = nI 3 := rfl
theorem k4 : (4 : Int32) = nI 4 := rfl
theorem k5 : (5 : Int32) = nI 5 := rfl
theorem k6 : (6 : Int32) = nI 6 := rfl
theorem k8 : (8 : Int32) = nI 8 := rfl
theorem k10 : (10 : Int32) = nI 10 := rfl
theorem k14 : (14 : Int32) = nI 14 := rfl
theorem k15 : (15 : Int32) = nI 15 := rfl
theorem k16 : (16 : Int32) = nI 16 := rfl
theorem ig_nI {i n : Nat} (hi : i < 2 ^ 31) : ig (nI i) n = decide (i < n) := by
  unfold ig
  rw [nI_toInt hi]
  by_cases h : i < n
  · rw [decide_eq_true h, decide_eq_true]; omega
  · rw [decide_eq_false h, decide_eq_false]; omega
theorem ig_t {i n : Nat} (h : i < n) (hn : n < 2 ^ 31) : ig (nI i) n = true := by
  rw [ig_nI (by omega)]; exact decide_eq_true h
theorem upd_s {f : Nat → Int32} {k : Nat} {x : Int32} : upd f k x k = x := if_pos rfl
theorem upd_n {f : Nat → Int32} {k j : Nat} {x : Int32} (h : j ≠ k) : upd f k x j = f j := if_neg h
theorem at_in {n i : Nat} (f : Nat → Int32) (h : i < n) (hn : n < 2 ^ 31) : f_X6_at n f (nI i) = some (f i) := by
  unfold f_X6_at
  rw [if_neg (nI_pos (by omega)), ofNat_nI, if_neg (nI_ge h hn), if_pos (ig_t h hn), nI_clamp (by omega)]
theorem at_out {n i : Nat} (f : Nat → Int32) (h : n ≤ i) (hi : i < 2 ^ 31) : f_X6_at n f (nI i) = some 0 := by
  unfold f_X6_at
  rw [if_neg (nI_pos hi), ofNat_nI, if_pos (nI_le h hi)]
theorem put_in {n i : Nat} (f : Nat → Int32) (x : Int32) (h : i < n) (hn : n < 2 ^ 31) : f_X6_put n f (nI i) x = some (upd f i x) := by
  unfold f_X6_put
  rw [if_neg (nI_pos (by omega)), ofNat_nI, if_neg (nI_ge h hn), if_pos (ig_t h hn), nI_clamp (by omega)]
theorem put_out {n i : Nat} (f : Nat → Int32) (x : Int32) (h : n ≤ i) (hi : i < 2 ^ 31) : f_X6_put n f (nI i) x = some f := by
  unfold f_X6_put
  rw [if_neg (nI_pos hi), ofNat_nI, if_pos (nI_le h hi)]
def cpy (n : Nat) (f g : Nat → Int32) : Nat → Int32 := fun i => if i < n then f i else g i
theorem copyRow_L {n : Nat} (f : Nat → Int32) (hn : n < 2 ^ 31) : ∀ (k i : Nat) (g : Nat → Int32), i ≤ n → n < i + k → (∀ j, j < i → g j = f j) → f_X6_copyRow_L2 n f n k (nI i) g = some (cpy n f g) := by
  intro k
  induction k with
  | zero => intro i g h1 h2; omega
  | succ k ih =>
    intro i g h1 h2 h3
    rw [f_X6_copyRow_L2, ofNat_nI]
    by_cases h : i < n
    · rw [if_neg (nI_ge h hn), if_neg (nI_ge h hn), if_pos (ig_t h hn), if_pos (ig_t h hn), nI_clamp (by omega), nI_1]
      rw [ih (i + 1) _ (by omega) (by omega) (fun j hj => by
        by_cases e : j = i
        · subst e; exact upd_s
        · rw [upd_n e]; exact h3 j (by omega))]
      congr 1
      funext j
      unfold cpy
      by_cases hj : j < n
      · rw [if_pos hj, if_pos hj]
      · rw [if_neg hj, if_neg hj, upd_n (by omega)]
    · have e : i = n := by omega
      subst e
      rw [if_pos (nI_le (Nat.le_refl i) hn)]
      congr 1
      funext j
      unfold cpy
      by_cases hj : j < i
      · rw [if_pos hj, h3 j hj]
      · rw [if_neg hj]
theorem copyRow_eq {n : Nat} (f g : Nat → Int32) (hn : n < 1000000) : f_X6_copyRow n f n g = some (cpy n f g) := by
  unfold f_X6_copyRow
  exact copyRow_L f (by omega) gas 0 g (Nat.zero_le _) (by show n < 0 + 1000000; omega) (fun j h => by omega)
def fil (n : Nat) (x : Int32) (g : Nat → Int32) : Nat → Int32 := fun i => if i < n then x else g i
theorem fillRow_L {n : Nat} (x : Int32) (hn : n < 2 ^ 31) : ∀ (k i : Nat) (g : Nat → Int32), i ≤ n → n < i + k → (∀ j, j < i → g j = x) → f_X6_fillRow_L2 n k x (nI i) g = some (fil n x g) := by
  intro k
  induction k with
  | zero => intro i g h1 h2; omega
  | succ k ih =>
    intro i g h1 h2 h3
    rw [f_X6_fillRow_L2, ofNat_nI]
    by_cases h : i < n
    · rw [if_neg (nI_ge h hn), if_pos (ig_t h hn), nI_clamp (by omega), nI_1]
      rw [ih (i + 1) _ (by omega) (by omega) (fun j hj => by
        by_cases e : j = i
        · subst e; exact upd_s
        · rw [upd_n e]; exact h3 j (by omega))]
      congr 1
      funext j
      unfold fil
      by_cases hj : j < n
      · rw [if_pos hj, if_pos hj]
      · rw [if_neg hj, if_neg hj, upd_n (by omega)]
    · have e : i = n := by omega
      subst e
      rw [if_pos (nI_le (Nat.le_refl i) hn)]
      congr 1
      funext j
      unfold fil
      by_cases hj : j < i
      · rw [if_pos hj, h3 j hj]
      · rw [if_neg hj]
theorem fillRow_eq {n : Nat} (g : Nat → Int32) (x : Int32) (hn : n < 1000000) : f_X6_fillRow n g x = some (fil n x g) := by
  unfold f_X6_fillRow
  exact fillRow_L x (by omega) gas 0 g (Nat.zero_le _) (by show n < 0 + 1000000; omega) (fun j h => by omega)
/-! bits of a stand: own place, the other's, own token, the other's, own lost turns, the other's -/
def qO (n : Nat) : Nat := n / 1024 % 16
def qP (n : Nat) : Nat := n / 64 % 16
def qT (n : Nat) : Nat := n / 32 % 2
def qU (n : Nat) : Nat := n / 16 % 2
def qL (n : Nat) : Nat := n / 4 % 4
def qM (n : Nat) : Nat := n % 4
def mkS (o p t u l m : Nat) : Nat := o * 1024 + p * 64 + t * 32 + u * 16 + l * 4 + m

/-! the road: what places are, where a drive comes to (m miles; K: what each mile is; o: the other wagon) -/
def kd (m : Nat) (K : Nat → Nat) (p : Nat) : Nat := if 1 ≤ p ∧ p ≤ m then K p else 0
def nx (o p : Nat) : Nat := if p + 1 = o then p + 2 else p + 1
def ld (m o p d : Nat) : Nat := if (if p < o ∧ o ≤ p + d then p + d + 1 else p + d) ≤ m then (if p < o ∧ o ≤ p + d then p + d + 1 else p + d) else m + 1
def ro (m : Nat) (K : Nat → Nat) (o : Nat) : Nat → Nat → Nat
  | 0, p => p
  | n + 1, p => if kd m K p = 2 then ro m K o n (nx o p) else p
def rs (m : Nat) (K : Nat → Nat) (o p d : Nat) : Nat := ro m K o 14 (ld m o p d)
/-- a place where a wagon may be beside the other one at o -/
def okp (m o p : Nat) : Prop := p ≤ m + 1 ∧ p ≠ o
theorem kd_pos {m : Nat} {K : Nat → Nat} {p : Nat} (h : kd m K p = 2) : 1 ≤ p ∧ p ≤ m := by
  unfold kd at h
  by_cases c : 1 ≤ p ∧ p ≤ m
  · exact c
  · rw [if_neg c] at h; omega
theorem nx_ok {m o p : Nat} (ho : o ≤ m) (hp : p ≤ m) : okp m o (nx o p) ∧ p < nx o p := by
  unfold nx okp
  by_cases c : p + 1 = o
  · rw [if_pos c]; omega
  · rw [if_neg c]; omega
theorem ld_ok {m o p d : Nat} (ho : o ≤ m) (hp : p ≤ m) (hd : 1 ≤ d) : okp m o (ld m o p d) ∧ p < ld m o p d := by
  unfold ld okp
  by_cases c : p < o ∧ o ≤ p + d
  · simp only [if_pos c]
    by_cases e : p + d + 1 ≤ m
    · rw [if_pos e]; omega
    · rw [if_neg e]; omega
  · simp only [if_neg c]
    by_cases e : p + d ≤ m
    · rw [if_pos e]; omega
    · rw [if_neg e]; omega
theorem ro_ok {m o : Nat} {K : Nat → Nat} (ho : o ≤ m) : ∀ (n p : Nat), okp m o p → okp m o (ro m K o n p) ∧ p ≤ ro m K o n p := by
  intro n
  induction n with
  | zero => intro p h; exact ⟨h, Nat.le_refl _⟩
  | succ n ih =>
    intro p h
    rw [ro]
    by_cases c : kd m K p = 2
    · rw [if_pos c]
      have h1 := nx_ok ho (kd_pos c).2
      have h2 := ih (nx o p) h1.1
      exact ⟨h2.1, by omega⟩
    · rw [if_neg c]; exact ⟨h, Nat.le_refl _⟩
theorem ro_end {m o : Nat} {K : Nat → Nat} (ho : o ≤ m) : ∀ (n p : Nat), m < n + p → ¬ kd m K (ro m K o n p) = 2 := by
  intro n
  induction n with
  | zero => intro p h c; have := kd_pos c; rw [ro] at this; omega
  | succ n ih =>
    intro p h
    rw [ro]
    by_cases c : kd m K p = 2
    · rw [if_pos c]
      have h1 := nx_ok ho (kd_pos c).2
      exact ih _ (by omega)
    · rw [if_neg c]; exact c
theorem rs_ok {m o p d : Nat} {K : Nat → Nat} (hm : m ≤ 14) (ho : o ≤ m) (hp : p ≤ m) (hd : 1 ≤ d) : okp m o (rs m K o p d) ∧ p < rs m K o p d ∧ ¬ kd m K (rs m K o p d) = 2 := by
  have h1 := ld_ok ho hp hd
  have h2 := ro_ok (K := K) ho 14 _ h1.1
  refine ⟨h2.1, ?_, ro_end ho 14 _ (by omega)⟩
  show p < ro m K o 14 (ld m o p d)
  omega
theorem kd_lt {m : Nat} {K : Nat → Nat} (hK : ∀ i, 1 ≤ i → i ≤ m → K i ≤ 3) (p : Nat) : kd m K p ≤ 3 := by
  unfold kd
  by_cases c : 1 ≤ p ∧ p ≤ m
  · rw [if_pos c]; exact hK p c.1 c.2
  · rw [if_neg c]; omega
/-! the class's road -/
def Rd (v : tX3) (m : Nat) (K : Nat → Nat) : Prop := v.2 = nI m ∧ 1 ≤ m ∧ m ≤ 14 ∧ ∀ i, 1 ≤ i → i ≤ m → v.1 i = nI (K i) ∧ K i ≤ 3
theorem Rd.K {v : tX3} {m : Nat} {K : Nat → Nat} (h : Rd v m K) : ∀ i, 1 ≤ i → i ≤ m → K i ≤ 3 := fun i h1 h2 => (h.2.2.2 i h1 h2).2
theorem kindOf_eq {v : tX3} {m : Nat} {K : Nat → Nat} (h : Rd v m K) {p : Nat} (hp : p < 1000) : f_X3_kindOf v (nI p) = some (nI (kd m K p)) := by
  obtain ⟨h1, h2, h3, h4⟩ := h
  unfold f_X3_kindOf kd
  rw [h1, k0, k1, k15]
  by_cases c1 : 1 ≤ p
  · rw [if_neg (nI_nlt c1 (by omega))]
    by_cases c2 : p ≤ m
    · rw [if_neg (nI_nlt c2 (by omega)), if_neg (nI_ge (by omega) (by omega)), if_pos (ig_t (by omega) (by omega)), nI_clamp (by omega), if_pos ⟨c1, c2⟩, (h4 p c1 c2).1]
    · rw [if_pos (nI_lt (by omega) (by omega)), if_neg (by omega)]
  · rw [if_pos (nI_lt (by omega) (by omega)), if_neg (by omega)]
theorem isEnd_eq {v : tX3} {m : Nat} {K : Nat → Nat} (h : Rd v m K) {p : Nat} (hp : p < 1000) : f_X3_isEnd v (nI p) = some (if p ≤ m then nI 0 else nI 1) := by
  unfold f_X3_isEnd
  rw [h.1]
  have := h.2.2.1
  by_cases c : p ≤ m
  · rw [if_pos (nI_le c (by omega)), if_pos c]; rfl
  · rw [if_neg (nI_ge (by omega) (by omega)), if_neg c]; rfl
theorem next_eq (v : tX3) {p o : Nat} (hp : p < 1000) (ho : o < 1000) : f_X3_next v (nI p) (nI o) = some (nI (nx o p)) := by
  unfold f_X3_next nx
  rw [k1, k2, nI_add, nI_add]
  by_cases c : p + 1 = o
  · rw [if_pos (by rw [c]), if_pos c]
  · rw [if_neg (fun e => c ((nI_eq (by omega) (by omega)).mp e)), if_neg c]
theorem J35_eq {v : tX3} {m : Nat} {K : Nat → Nat} (h : Rd v m K) {q : Nat} (hq : q < 3000) : f_X3_landing_J35 v (nI q) = some (nI (if q ≤ m then q else m + 1)) := by
  have hm := h.2.2.1
  unfold f_X3_landing_J35
  rw [h.1, k1, nI_add]
  by_cases c : q ≤ m
  · rw [if_pos (nI_le c (by omega)), if_pos c]
  · rw [if_neg (nI_ge (by omega) (by omega)), if_neg c]
theorem landing_eq {v : tX3} {m : Nat} {K : Nat → Nat} (h : Rd v m K) {p o d : Nat} (hp : p < 1000) (ho : o < 1000) (hd : d < 1000) : f_X3_landing v (nI p) (nI o) (nI d) = some (nI (ld m o p d)) := by
  unfold f_X3_landing f_X3_landing_J16 f_X3_landing_J17 ld
  rw [nI_add, k0, k1, nI_add, J35_eq h (by omega), J35_eq h (by omega)]
  by_cases c1 : o ≤ p
  · rw [if_pos (nI_le c1 (by omega)), if_pos rfl]
    have e : ¬ (p < o ∧ o ≤ p + d) := by omega
    simp only [if_neg e]
  · rw [if_neg (nI_ge (by omega) (by omega))]
    by_cases c3 : p + d < o
    · rw [if_pos (nI_lt c3 (by omega)), if_pos rfl]
      have e : ¬ (p < o ∧ o ≤ p + d) := by omega
      simp only [if_neg e]
    · rw [if_neg (nI_nlt (by omega) (by omega)), if_neg (by decide)]
      have e : p < o ∧ o ≤ p + d := by omega
      simp only [if_pos e]
theorem rest_L {v : tX3} {m : Nat} {K : Nat → Nat} (h : Rd v m K) {o : Nat} (ho : o ≤ m) : ∀ (k i p : Nat), i ≤ 14 → 14 < i + k → p ≤ m + 1 → f_X3_rest_L12 v k (nI o) (nI p) (nI i) = some (nI (ro m K o (14 - i) p)) := by
  have hm := h.2.2.1
  intro k
  induction k with
  | zero => intro i p h1 h2; omega
  | succ k ih =>
    intro i p h1 h2 hp
    rw [f_X3_rest_L12, k14, k2]
    by_cases c : i < 14
    · rw [if_neg (nI_ge c (by omega)), kindOf_eq h (by omega), Option.bind_some]
      rw [show 14 - i = (13 - i) + 1 by omega, ro]
      by_cases c2 : kd m K p = 2
      · rw [if_pos (by rw [c2]), if_pos c2, next_eq v (by omega) (by omega), Option.bind_some, nI_1, show 13 - i = 14 - (i + 1) by omega]
        have := nx_ok ho (kd_pos c2).2
        exact ih (i + 1) _ (by omega) (by omega) this.1.1
      · have := kd_lt h.K p
        rw [if_neg (fun e => c2 ((nI_eq (by omega) (by omega)).mp e)), if_neg c2]
    · rw [if_pos (nI_le (by omega) (by omega)), show 14 - i = 0 by omega, ro]
theorem rest_eq {v : tX3} {m : Nat} {K : Nat → Nat} (h : Rd v m K) {p o d : Nat} (hp : p ≤ m) (ho : o ≤ m) (hd : d < 1000) (hd1 : 1 ≤ d) : f_X3_rest v (nI p) (nI o) (nI d) = some (nI (rs m K o p d)) := by
  have hm := h.2.2.1
  unfold f_X3_rest
  rw [landing_eq h (by omega) (by omega) hd, Option.bind_some, k0]
  exact rest_L h ho gas 0 _ (by omega) (by show 14 < 0 + 1000000; omega) (ld_ok ho hp hd1).1.1

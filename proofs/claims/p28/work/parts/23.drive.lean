/-! a wagon's drive: the class -/
def bump (m : Nat) (f : Nat → Int32) (q : Nat) : Nat → Int32 := if 1 ≤ q ∧ q ≤ m then upd f q (f q + 1) else f
def roV (m : Nat) (K : Nat → Nat) (o : Nat) : Nat → Nat → (Nat → Int32) → (Nat → Int32)
  | 0, _, f => f
  | n + 1, p, f => if kd m K p = 2 then roV m K o n (nx o p) (bump m f (nx o p)) else f
def roC (m : Nat) (K : Nat → Nat) (o : Nat) : Nat → Nat → Nat
  | 0, _ => 0
  | n + 1, p => if kd m K p = 2 then roC m K o n (nx o p) + 1 else 0
def eqm (m : Nat) (f g : Nat → Int32) : Prop := ∀ i, 1 ≤ i → i ≤ m → f i = g i
theorem roC_le {m o : Nat} {K : Nat → Nat} : ∀ (n p : Nat), roC m K o n p ≤ n := by
  intro n
  induction n with
  | zero => intro p; exact Nat.le_refl _
  | succ n ih =>
    intro p
    rw [roC]
    by_cases c : kd m K p = 2
    · rw [if_pos c]; have := ih (nx o p); omega
    · rw [if_neg c]; omega
def bmp (f : Nat → Int32) (q : Nat) : Nat → Int32 := if q < 15 then upd f q (f q + 1) else f
theorem bmp_eqm {m q : Nat} {f g : Nat → Int32} (hm : m ≤ 14) (hq : 1 ≤ q) (h : eqm m f g) : eqm m (bmp f q) (bump m g q) := by
  intro i h1 h2
  unfold bmp bump
  by_cases c : q < 15
  · rw [if_pos c]
    by_cases e : i = q
    · subst e
      rw [if_pos ⟨h1, h2⟩, upd_s, upd_s, h i h1 h2]
    · rw [upd_n e]
      by_cases c2 : 1 ≤ q ∧ q ≤ m
      · rw [if_pos c2, upd_n e]; exact h i h1 h2
      · rw [if_neg c2]; exact h i h1 h2
  · rw [if_neg c, if_neg (by omega)]; exact h i h1 h2
theorem standOn_eq (st : Nat → Int32) (pl tk ls tn lo le us rl : Int32) {q : Nat} (hq : q < 1000) : f_X4_standOn (st, pl, tk, ls, tn, lo, le, us, rl) (nI q) = some (bmp st q, nI q, tk, ls, tn, lo, le, us, rl) := by
  unfold f_X4_standOn bmp
  dsimp only
  by_cases c : q < 15
  · rw [at_in st c (by omega), Option.bind_some, put_in st _ c (by omega), Option.bind_some, if_pos c]
  · rw [at_out st (by omega) (by omega), Option.bind_some, put_out st _ (by omega) (by omega), Option.bind_some, if_neg c]
theorem J115_eq {v1 : tX3} {m : Nat} {K : Nat → Nat} (h : Rd v1 m K) (st : Nat → Int32) (tk ls tn lo le us rl : Int32) {q : Nat} (hq : q < 1000) : f_X4_driveOn_J115 v1 (st, nI q, tk, ls, tn, lo, le, us, rl) = some (st, nI q, (if kd m K q = 3 then 1 else tk), ls, tn, lo, le, us, rl) := by
  unfold f_X4_driveOn_J115
  dsimp only
  rw [kindOf_eq h hq, Option.bind_some, k3]
  have := kd_lt h.K q
  by_cases c : kd m K q = 3
  · rw [if_pos (by rw [c]), if_pos c]
  · rw [if_neg (fun e => c ((nI_eq (by omega) (by omega)).mp e)), if_neg c]
theorem J93_eq {v1 : tX3} {m : Nat} {K : Nat → Nat} (h : Rd v1 m K) (st : Nat → Int32) (tk ls tn lo le us rl : Int32) {q : Nat} (hq : q < 1000) : f_X4_driveOn_J93 v1 (st, nI q, tk, ls, tn, lo, le, us, rl) = some (st, nI q, (if kd m K q = 3 then 1 else tk), (if kd m K q = 1 then ls + 1 else ls), tn, lo, le, us, rl) := by
  unfold f_X4_driveOn_J93
  dsimp only
  rw [kindOf_eq h hq, Option.bind_some, k1]
  have := kd_lt h.K q
  by_cases c : kd m K q = 1
  · rw [if_pos (by rw [c]), if_pos c, J115_eq h st tk _ tn lo le us rl hq]; rfl
  · rw [if_neg (fun e => c ((nI_eq (by omega) (by omega)).mp e)), if_neg c, J115_eq h st tk _ tn lo le us rl hq]; rfl
theorem J69_eq {v1 : tX3} {m : Nat} {K : Nat → Nat} (h : Rd v1 m K) (st : Nat → Int32) (tk ls tn lo le us rl : Int32) {q o p : Nat} (hq : q < 1000) (ho : o < 1000) (hp : p < 1000) : f_X4_driveOn_J69 v1 (nI o) (nI p) (st, nI q, tk, ls, tn, lo, le, us, rl) = some (st, nI q, (if kd m K q = 3 then 1 else tk), (if kd m K q = 1 then ls + 1 else ls), tn, lo, (if p < o ∧ o < q then le + 1 else le), us, rl) := by
  unfold f_X4_driveOn_J69
  dsimp only
  by_cases c1 : o ≤ p
  · rw [if_pos (nI_le c1 (by omega)), J93_eq h st tk ls tn lo le us rl hq, if_neg (by omega : ¬ (p < o ∧ o < q))]
  · rw [if_neg (nI_ge (by omega) (by omega))]
    by_cases c2 : q ≤ o
    · rw [if_pos (nI_le c2 (by omega)), J93_eq h st tk ls tn lo le us rl hq, if_neg (by omega : ¬ (p < o ∧ o < q))]
    · rw [if_neg (nI_ge (by omega) (by omega)), J93_eq h st tk ls tn lo _ us rl hq, if_pos (by omega : p < o ∧ o < q)]
theorem driveOn_L {v1 : tX3} {m : Nat} {K : Nat → Nat} (h : Rd v1 m K) {o p0 : Nat} (ho : o ≤ m) : ∀ (k i p : Nat) (st g : Nat → Int32) (tk ls tn lo le us rl : Int32), i ≤ 14 → 14 < i + k → p ≤ m + 1 → eqm m st g →
    ∃ st' : Nat → Int32, eqm m st' (roV m K o (14 - i) p g) ∧ f_X4_driveOn_L21 v1 k (nI o) (nI p0) (nI i) (st, nI p, tk, ls, tn, lo, le, us, rl) = f_X4_driveOn_J69 v1 (nI o) (nI p0) (st', nI (ro m K o (14 - i) p), tk, ls, tn, lo, le, us, rl + nI (roC m K o (14 - i) p)) := by
  have hm := h.2.2.1
  intro k
  induction k with
  | zero => intro i p st g tk ls tn lo le us rl h1 h2; omega
  | succ k ih =>
    intro i p st g tk ls tn lo le us rl h1 h2 hp he
    rw [f_X4_driveOn_L21, k14, k2]
    dsimp only
    by_cases c : i < 14
    · rw [if_neg (nI_ge c (by omega)), kindOf_eq h (by omega), Option.bind_some]
      rw [show 14 - i = (13 - i) + 1 by omega, ro, roV, roC]
      by_cases c2 : kd m K p = 2
      · simp only [if_pos c2]
        rw [if_pos (show nI (kd m K p) = nI 2 by rw [c2]), next_eq v1 (by omega) (by omega), Option.bind_some]
        have hn := nx_ok ho (kd_pos c2).2
        rw [standOn_eq st _ tk ls tn lo le us rl (by have := hn.1.1; omega), Option.bind_some]
        dsimp only
        rw [nI_1, show 13 - i = 14 - (i + 1) by omega]
        obtain ⟨st', e1, e2⟩ := ih (i + 1) (nx o p) (bmp st (nx o p)) (bump m g (nx o p)) tk ls tn lo le us (rl + 1) (by omega) (by omega) hn.1.1 (bmp_eqm hm (by omega) he)
        refine ⟨st', e1, ?_⟩
        rw [e2, Int32.add_assoc, k1, nI_add, Nat.add_comm 1]
      · have := kd_lt h.K p
        simp only [if_neg c2]
        rw [if_neg (show ¬ nI (kd m K p) = nI 2 from fun e => c2 ((nI_eq (by omega) (by omega)).mp e))]
        refine ⟨st, he, ?_⟩
        rw [← k0, Int32.add_zero]
    · rw [if_pos (nI_le (by omega) (by omega)), show 14 - i = 0 by omega, ro, roV, roC]
      refine ⟨st, he, ?_⟩
      rw [← k0, Int32.add_zero]
/-- the visits that a drive leaves, counted in f -/
def drV (m : Nat) (K : Nat → Nat) (o p d : Nat) (f : Nat → Int32) : Nat → Int32 := roV m K o 14 (ld m o p d) (bump m f (ld m o p d))
def drC (m : Nat) (K : Nat → Nat) (o p d : Nat) : Nat := roC m K o 14 (ld m o p d)
theorem driveOn_eq {v1 : tX3} {m : Nat} {K : Nat → Nat} (h : Rd v1 m K) (st : Nat → Int32) (tk ls tn lo le us rl : Int32) {p o d : Nat} (hp : p ≤ m) (ho : o ≤ m) (hd : d < 1000) (hd1 : 1 ≤ d) :
    ∃ st' : Nat → Int32, eqm m st' (drV m K o p d st) ∧ f_X4_driveOn (st, nI p, tk, ls, tn, lo, le, us, rl) v1 (nI o) (nI d) = some (st', nI (rs m K o p d), (if kd m K (rs m K o p d) = 3 then 1 else tk), (if kd m K (rs m K o p d) = 1 then ls + 1 else ls), tn, lo, (if p < o ∧ o < rs m K o p d then le + 1 else le), us, rl + nI (drC m K o p d)) := by
  have hm := h.2.2.1
  have h1 := ld_ok ho hp hd1
  unfold f_X4_driveOn
  dsimp only
  rw [landing_eq h (by omega) (by omega) hd, Option.bind_some, standOn_eq st _ tk ls tn lo le us rl (by have := h1.1.1; omega), Option.bind_some, k0]
  obtain ⟨st', e1, e2⟩ := driveOn_L h (p0 := p) ho gas 0 (ld m o p d) (bmp st (ld m o p d)) (bump m st (ld m o p d)) tk ls tn lo le us rl (by omega) (by show 14 < 0 + 1000000; omega) h1.1.1 (bmp_eqm hm (by omega) (fun i _ _ => rfl))
  refine ⟨st', e1, ?_⟩
  have h2 := (ro_ok (K := K) ho 14 _ h1.1).1.1
  rw [e2, Nat.sub_zero, J69_eq h st' tk ls tn lo le us _ (by omega) (by omega) (by omega)]
  rfl

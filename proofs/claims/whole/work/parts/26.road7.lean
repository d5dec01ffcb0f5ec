/-! the reference's road and drives -/
abbrev st7 (v : tX7) (s : Nat → Int32) (tp tl ti le rl : Int32) : tX7 := (v.1, s, v.2.2.1, v.2.2.2.1, v.2.2.2.2.1, v.2.2.2.2.2.1, v.2.2.2.2.2.2.1, v.2.2.2.2.2.2.2.1, v.2.2.2.2.2.2.2.2.1, v.2.2.2.2.2.2.2.2.2.1, v.2.2.2.2.2.2.2.2.2.2.1, v.2.2.2.2.2.2.2.2.2.2.2.1, v.2.2.2.2.2.2.2.2.2.2.2.2.1, tp, tl, ti, le, rl)
def Rs (s : Nat → Int32) (m : Nat) (K : Nat → Nat) : Prop := s 2 = nI m ∧ 1 ≤ m ∧ m ≤ 14 ∧ ∀ i, 1 ≤ i → i ≤ m → s (2 + i) = nI (K i) ∧ K i ≤ 3
theorem Rs.K {s : Nat → Int32} {m : Nat} {K : Nat → Nat} (h : Rs s m K) : ∀ i, 1 ≤ i → i ≤ m → K i ≤ 3 := fun i h1 h2 => (h.2.2.2 i h1 h2).2
theorem end7 {v : tX7} {m : Nat} (h : v.2.1 2 = nI m) : f_X7_end v = some (nI (m + 1)) := by
  unfold f_X7_end
  rw [h, k1, nI_add]
theorem kind7 {v : tX7} {m : Nat} {K : Nat → Nat} (h : Rs v.2.1 m K) {p : Nat} (hp : p < 1000) : f_X7_kind v (nI p) = some (nI (kd m K p)) := by
  obtain ⟨h1, h2, h3, h4⟩ := h
  unfold f_X7_kind f_X7_in kd
  rw [h1, k1]
  by_cases c1 : 1 ≤ p
  · rw [if_neg (nI_nlt c1 (by omega))]
    by_cases c2 : p ≤ m
    · rw [if_neg (nI_nlt c2 (by omega)), Option.bind_some, if_neg (show ¬ nI 1 = 0 by decide), k3, nI_add, nI_sub (by omega), show 3 + p - 1 = 2 + p by omega, if_pos (ig_t (by omega) (by omega)), nI_clamp (by omega), if_pos ⟨c1, c2⟩, (h4 p c1 c2).1]
    · rw [if_pos (nI_lt (by omega) (by omega)), Option.bind_some, if_pos rfl, if_neg (by omega)]; rfl
  · rw [if_pos (nI_lt (by omega) (by omega)), Option.bind_some, if_pos rfl, if_neg (by omega)]; rfl
theorem next7 {v : tX7} {s : Nat → Int32} {tp tl ti le rl : Int32} {m : Nat} (h : s 2 = nI m) (hm : m ≤ 14) {p o : Nat} (hp : p ≤ m) (ho : o ≤ m) :
    f_X7_next (st7 v s tp tl ti le rl) (nI p) (nI o) = some (nI (nx o p), st7 v s tp tl ti (if p + 1 = o then le + 1 else le) rl) := by
  unfold f_X7_next f_X7_next_J30 nx
  rw [end7 (show (st7 v s tp tl ti le rl).2.1 2 = nI m from h)]
  simp only [Option.bind_some]
  have e1 : nI p + (1 : Int32) = nI (p + 1) := nI_add p 1
  have e2 : nI (p + 1) + (1 : Int32) = nI (p + 2) := nI_add (p + 1) 1
  rw [e1, e2]
  by_cases c : p + 1 = o
  · rw [if_pos (show nI (p + 1) = nI o by rw [c]), if_pos c, if_pos c, if_neg (nI_ge (by omega) (by omega))]
    rw [end7 (v := (v.1, s, _)) h]
    simp only [Option.bind_some]
    by_cases e : p + 2 = m + 1
    · rw [e, if_pos (nI_le (Nat.le_refl _) (by omega))]
    · rw [if_neg (nI_ge (by omega) (by omega))]
  · rw [if_neg (fun e => c ((nI_eq (by omega) (by omega)).mp e)), if_neg c, if_neg c]
    by_cases e : p + 1 = m + 1
    · rw [e, if_pos (nI_le (Nat.le_refl _) (by omega))]
    · rw [if_neg (nI_ge (by omega) (by omega))]
/-- the visits of a place, counted in the array -/
def vst (m : Nat) (J : Int32) (s : Nat → Int32) (p : Nat) : Nat → Int32 := if J = -4 then s else if p ≤ m then upd s (37 + 2 * p + J.toNatClampNeg) (s (37 + 2 * p + J.toNatClampNeg) + 1) else s
theorem vst_lo {m p : Nat} {J : Int32} {s : Nat → Int32} (hp : 1 ≤ p) : ∀ x, x < 39 → vst m J s p x = s x := by
  intro x hx
  unfold vst
  by_cases c : J = -4
  · rw [if_pos c]
  · rw [if_neg c]
    by_cases c2 : p ≤ m
    · rw [if_pos c2, upd_n (by omega)]
    · rw [if_neg c2]
theorem Rs_lo {s t : Nat → Int32} {m : Nat} {K : Nat → Nat} (h : Rs s m K) (e : ∀ x, x < 39 → t x = s x) : Rs t m K := by
  obtain ⟨h1, h2, h3, h4⟩ := h
  exact ⟨(e 2 (by omega)).trans h1, h2, h3, fun i a b => ⟨(e (2 + i) (by omega)).trans (h4 i a b).1, (h4 i a b).2⟩⟩
def goodJ (J : Int32) : Prop := J = -4 ∨ J = nI 0 ∨ J = nI 1
theorem visits7 {v : tX7} {s : Nat → Int32} {tl ti le rl : Int32} {m : Nat} (h : s 2 = nI m) (hm : m ≤ 14) {J : Int32} (hJ : goodJ J) {p : Nat} (hp : 1 ≤ p) (hp2 : p < 1000) :
    f_X7_visits (st7 v s (nI p) tl ti le rl) J = some (st7 v (vst m J s p) (nI p) tl ti le rl) := by
  unfold f_X7_visits vst
  rw [end7 (show (st7 v s (nI p) tl ti le rl).2.1 2 = nI m from h)]
  simp only [Option.bind_some]
  by_cases c : J = -4
  · rw [if_pos c, if_pos c]
  · rw [if_neg c, if_neg c]
    obtain ⟨j, hj, rfl⟩ : ∃ j, j ≤ 1 ∧ J = nI j := by
      rcases hJ with e | e | e
      · exact absurd e c
      · exact ⟨0, by omega, e⟩
      · exact ⟨1, by omega, e⟩
    dsimp only [st7]
    have e1 : (39 : Int32) + ((2 : Int32) * (nI p - (1 : Int32))) + nI j = nI (37 + 2 * p + j) := by
      show nI 39 + (nI 2 * (nI p - nI 1)) + nI j = _
      rw [nI_sub hp, nI_mul, nI_add, nI_add]
      congr 1
      omega
    by_cases c2 : p ≤ m
    · rw [if_neg (nI_ge (by omega) (by omega)), e1, if_pos (ig_t (by omega) (by omega)), nI_clamp (by omega), nI_clamp (by omega), if_pos (ig_t (by omega) (by omega)), if_pos c2]
    · rw [if_pos (nI_le (by omega) (by omega)), if_neg c2]
def roS (m : Nat) (K : Nat → Nat) (o : Nat) (J : Int32) : Nat → Nat → (Nat → Int32) → (Nat → Int32)
  | 0, _, s => s
  | n + 1, p, s => if kd m K p = 2 then roS m K o J n (nx o p) (vst m J s (nx o p)) else s
theorem roS_lo {m o : Nat} {K : Nat → Nat} {J : Int32} : ∀ (n p : Nat) (s : Nat → Int32), ∀ x, x < 39 → roS m K o J n p s x = s x := by
  intro n
  induction n with
  | zero => intro p s x hx; rfl
  | succ n ih =>
    intro p s x hx
    rw [roS]
    by_cases c : kd m K p = 2
    · rw [if_pos c, ih _ _ x hx]
      exact vst_lo (by unfold nx; by_cases e : p + 1 = o <;> simp only [e, if_true, if_false] <;> omega) x hx
    · rw [if_neg c]
/-- the flags that a drive leaves -/
def fl (b : Prop) [Decidable b] : Int32 := if b then 1 else 0
theorem fl_t {b : Prop} [Decidable b] (h : b) : fl b = 1 := if_pos h
theorem fl_f {b : Prop} [Decidable b] (h : ¬ b) : fl b = 0 := if_neg h
theorem J122_eq {v : tX7} {s : Nat → Int32} {tl ti le rl : Int32} {m : Nat} {K : Nat → Nat} (h : Rs s m K) {p : Nat} (hp : p < 1000) (k0 : Int32) :
    f_X7_drives_J122 k0 (st7 v s (nI p) tl ti le rl) = some (st7 v s (nI p) k0 (fl (kd m K p = 3)) le rl) := by
  unfold f_X7_drives_J122
  dsimp only [st7]
  rw [kind7 (v := (v.1, s, _)) h hp, Option.bind_some]
  have := kd_lt h.K p
  by_cases c : kd m K p = 3
  · rw [if_pos (show nI (kd m K p) = (3 : Int32) by rw [c]; rfl), fl_t c]
  · rw [if_neg (show ¬ nI (kd m K p) = (3 : Int32) from fun e => c ((nI_eq (b := 3) (by omega) (by omega)).mp e)), fl_f c]
theorem L60_eq {v : tX7} {tl ti : Int32} {m : Nat} {K : Nat → Nat} {J : Int32} (hJ : goodJ J) {o : Nat} (ho : o ≤ m) : ∀ (n k p : Nat) (s : Nat → Int32) (le rl : Int32), Rs s m K → n < k → m < n + p → okp m o p →
    f_X7_drives_L60 k (nI o) J (st7 v s (nI p) tl ti le rl) = some (st7 v (roS m K o J n p s) (nI (ro m K o n p)) (fl (kd m K (ro m K o n p) = 1)) (fl (kd m K (ro m K o n p) = 3)) (le + fl (p < o ∧ o < ro m K o n p)) (rl + nI (roC m K o n p))) := by
  have stop : ∀ (k p : Nat) (s : Nat → Int32) (le rl : Int32), Rs s m K → 0 < k → okp m o p → ¬ kd m K p = 2 → f_X7_drives_L60 k (nI o) J (st7 v s (nI p) tl ti le rl) = some (st7 v s (nI p) (fl (kd m K p = 1)) (fl (kd m K p = 3)) (le + fl (p < o ∧ o < p)) (rl + nI 0)) := by
    intro k p s le rl h hk hp c
    have hm := h.2.2.1
    have hp1 := hp.1
    have hl := kd_lt h.K p
    obtain ⟨k, rfl⟩ : ∃ k', k = k' + 1 := ⟨k - 1, by omega⟩
    rw [f_X7_drives_L60]
    rw [kind7 (v := st7 v s (nI p) tl ti le rl) h (show p < 1000 by omega)]
    simp only [Option.bind_some]
    rw [if_neg (show ¬ nI (kd m K p) = (2 : Int32) from fun e => c ((nI_eq (b := 2) (by omega) (by omega)).mp e))]
    rw [fl_f (show ¬ (p < o ∧ o < p) by omega), Int32.add_zero, ← k0, Int32.add_zero]
    by_cases c1 : kd m K p = 1
    · rw [if_pos (show nI (kd m K p) = (1 : Int32) by rw [c1]; rfl), fl_t c1, J122_eq h (by omega)]
    · rw [if_neg (show ¬ nI (kd m K p) = (1 : Int32) from fun e => c1 ((nI_eq (b := 1) (by omega) (by omega)).mp e)), fl_f c1, J122_eq h (by omega)]
  intro n
  induction n with
  | zero =>
    intro k p s le rl h hk hn hp
    rw [ro, roS, roC]
    exact stop k p s le rl h hk hp (fun c => by have := kd_pos c; omega)
  | succ n ih =>
    intro k p s le rl h hk hn hp
    have hm := h.2.2.1
    have hp1 := hp.1
    have hp2 := hp.2
    rw [ro, roS, roC]
    by_cases c : kd m K p = 2
    · simp only [if_pos c]
      have hn1 := nx_ok ho (kd_pos c).2
      have hn2 := hn1.1.1
      obtain ⟨k, rfl⟩ : ∃ k', k = k' + 1 := ⟨k - 1, by omega⟩
      rw [f_X7_drives_L60]
      rw [kind7 (v := st7 v s (nI p) tl ti le rl) h (show p < 1000 by omega), Option.bind_some]
      rw [if_pos (show nI (kd m K p) = (2 : Int32) by rw [c]; rfl)]
      have e1 := next7 (v := v) (tp := nI p) (tl := tl) (ti := ti) (le := le) (rl := rl + 1) h.1 hm (kd_pos c).2 ho
      show (f_X7_next (st7 v s (nI p) tl ti le (rl + 1)) (nI p) (nI o)).bind _ = _
      rw [e1, Option.bind_some]
      show (f_X7_visits (st7 v s (nI (nx o p)) tl ti (if p + 1 = o then le + 1 else le) (rl + 1)) J).bind _ = _
      rw [visits7 h.1 hm hJ (by omega) (by omega), Option.bind_some]
      rw [ih k (nx o p) _ _ _ (Rs_lo h (vst_lo (by omega))) (by omega) (by omega) hn1.1]
      have h2 := (ro_ok (K := K) ho n _ hn1.1).2
      congr 2
      · by_cases e : p + 1 = o
        · have e3 : nx o p = p + 2 := if_pos e
          rw [if_pos e, fl_f (show ¬ (nx o p < o ∧ o < ro m K o n (nx o p)) by omega), fl_t (show p < o ∧ o < ro m K o n (nx o p) by omega), Int32.add_zero]
        · have e3 : nx o p = p + 1 := if_neg e
          rw [if_neg e]
          congr 1
          by_cases q : p < o ∧ o < ro m K o n (nx o p)
          · rw [fl_t q, fl_t (by omega)]
          · rw [fl_f q, fl_f (by omega)]
      · rw [Int32.add_assoc, k1, nI_add, Nat.add_comm 1]
    · simp only [if_neg c]
      exact stop k p s le rl h (by omega) hp c
theorem ld_step {m o p k : Nat} (hp : p ≤ m) (hpo : p ≠ o) (ho : o ≤ m) : ld m o p (k + 1) = ld m o (nx o p) k := by
  unfold ld nx
  by_cases e : p + 1 = o
  · rw [if_pos e, if_pos (by omega : p < o ∧ o ≤ p + (k + 1)), if_neg (by omega : ¬ (p + 2 < o ∧ o ≤ p + 2 + k))]
    rw [show p + (k + 1) + 1 = p + 2 + k by omega]
  · rw [if_neg e]
    by_cases c : p < o ∧ o ≤ p + (k + 1)
    · rw [if_pos c, if_pos (by omega : p + 1 < o ∧ o ≤ p + 1 + k), show p + (k + 1) + 1 = p + 1 + k + 1 by omega]
    · rw [if_neg c, if_neg (by omega : ¬ (p + 1 < o ∧ o ≤ p + 1 + k)), show p + (k + 1) = p + 1 + k by omega]
theorem ld_end {m o p k : Nat} (hp : p = m + 1) (ho : o ≤ m) : ld m o p k = m + 1 := by
  subst hp
  unfold ld
  rw [if_neg (by omega : ¬ (m + 1 < o ∧ o ≤ m + 1 + k)), if_neg (by omega)]
theorem ld_zero {m o p : Nat} (hp : p ≤ m + 1) : ld m o p 0 = p := by
  unfold ld
  rw [if_neg (by omega : ¬ (p < o ∧ o ≤ p + 0))]
  by_cases c : p + 0 ≤ m
  · rw [if_pos c]; rfl
  · rw [if_neg c]; omega
theorem ld_ok0 {m o p d : Nat} (ho : o ≤ m) (hp : okp m o p) : okp m o (ld m o p d) ∧ p ≤ ld m o p d := by
  have h1 := hp.1
  have h2 := hp.2
  by_cases c : p ≤ m
  · by_cases e : d = 0
    · subst e; rw [ld_zero hp.1]; exact ⟨hp, Nat.le_refl _⟩
    · have := ld_ok (d := d) ho c (by omega); exact ⟨this.1, by omega⟩
  · rw [ld_end (by omega) ho]; exact ⟨⟨Nat.le_refl _, by omega⟩, by omega⟩
theorem L18_eq {v : tX7} {tl ti : Int32} {m : Nat} {K : Nat → Nat} {J : Int32} {o d : Nat} {s : Nat → Int32} (h : Rs s m K) (ho : o ≤ m) (hd : d < 1000) : ∀ (n k i p : Nat) (le rl : Int32), n + i = d → n < k → okp m o p →
    f_X7_drives_L18 k (nI o) (nI d) J (nI i) (st7 v s (nI p) tl ti le rl) = f_X7_drives_J54 (nI o) J (st7 v s (nI (ld m o p n)) tl ti (le + fl (p < o ∧ o < ld m o p n)) rl) := by
  have hm := h.2.2.1
  intro n
  induction n with
  | zero =>
    intro k i p le rl hi hk hp
    have hp1 := hp.1
    obtain ⟨k, rfl⟩ : ∃ k', k = k' + 1 := ⟨k - 1, by omega⟩
    rw [f_X7_drives_L18, if_pos (nI_le (by omega) (by omega)), ld_zero hp.1, fl_f (by omega), Int32.add_zero]
  | succ n ih =>
    intro k i p le rl hi hk hp
    have hp1 := hp.1
    have hp2 := hp.2
    obtain ⟨k, rfl⟩ : ∃ k', k = k' + 1 := ⟨k - 1, by omega⟩
    rw [f_X7_drives_L18, if_neg (nI_ge (by omega) (by omega))]
    rw [end7 (show (st7 v s (nI p) tl ti le rl).2.1 2 = nI m from h.1), Option.bind_some]
    show (if nI (m + 1) ≤ nI p then _ else (f_X7_next (st7 v s (nI p) tl ti le rl) (nI p) (nI o)).bind _) = _
    by_cases c : p ≤ m
    · have hn1 := nx_ok ho c
      rw [if_neg (nI_ge (by omega) (by omega)), next7 h.1 hm c ho, Option.bind_some, nI_1]
      show f_X7_drives_L18 k (nI o) (nI d) J (nI (i + 1)) (st7 v s (nI (nx o p)) tl ti (if p + 1 = o then le + 1 else le) rl) = _
      rw [ih k (i + 1) (nx o p) _ _ (by omega) (by omega) hn1.1, ld_step c hp2 ho]
      have h2 := (ld_ok0 (d := n) ho hn1.1).2
      congr 2
      by_cases e : p + 1 = o
      · have e3 : nx o p = p + 2 := if_pos e
        rw [if_pos e, fl_f (show ¬ (nx o p < o ∧ o < ld m o (nx o p) n) by omega), fl_t (show p < o ∧ o < ld m o (nx o p) n by omega), Int32.add_zero]
      · have e3 : nx o p = p + 1 := if_neg e
        rw [if_neg e]
        congr 1
        by_cases q : p < o ∧ o < ld m o (nx o p) n
        · rw [fl_t q, fl_t (by omega)]
        · rw [fl_f q, fl_f (by omega)]
    · have e : p = m + 1 := by omega
      rw [if_pos (nI_le (by omega) (by omega)), ld_end e ho, fl_f (by omega), Int32.add_zero, ← e]
/-- the array behind a drive -/
def drS (m : Nat) (K : Nat → Nat) (J : Int32) (o p d : Nat) (s : Nat → Int32) : Nat → Int32 := roS m K o J 14 (ld m o p d) (vst m J s (ld m o p d))
theorem drS_lo {m o p d : Nat} {K : Nat → Nat} {J : Int32} {s : Nat → Int32} (hd : 1 ≤ d) (hp : p ≤ m) (ho : o ≤ m) : ∀ x, x < 39 → drS m K J o p d s x = s x := fun x hx => (roS_lo _ _ _ x hx).trans (vst_lo (by have := (ld_ok (d := d) ho hp hd).2; omega) x hx)
theorem drives7 {v : tX7} {s : Nat → Int32} {tp tl ti le rl : Int32} {m : Nat} {K : Nat → Nat} (h : Rs s m K) {J : Int32} (hJ : goodJ J) {o p d : Nat} (hp : p ≤ m) (ho : o ≤ m) (hd : d < 1000) (hd1 : 1 ≤ d) (hne : p ≠ o ∨ p = 0) :
    f_X7_drives (st7 v s tp tl ti le rl) (nI p) (nI o) (nI d) J = some (st7 v (drS m K J o p d s) (nI (rs m K o p d)) (fl (kd m K (rs m K o p d) = 1)) (fl (kd m K (rs m K o p d) = 3)) (fl (p < o ∧ o < rs m K o p d)) (nI (drC m K o p d))) := by
  have hm := h.2.2.1
  unfold f_X7_drives
  have hl := ld_ok (d := d) ho hp hd1
  have key : f_X7_drives_L18 gas (nI o) (nI d) J (nI 0) (st7 v s (nI p) tl ti 0 0) = f_X7_drives_J54 (nI o) J (st7 v s (nI (ld m o p d)) tl ti (fl (p < o ∧ o < ld m o p d)) 0) := by
    by_cases c : p = o
    · -- both at the start
      subst c
      have p0 : p = 0 := by omega
      subst p0
      obtain ⟨d, rfl⟩ : ∃ d', d = d' + 1 := ⟨d - 1, by omega⟩
      rw [show gas = 999999 + 1 from rfl, f_X7_drives_L18, if_neg (nI_ge (by omega) (by omega))]
      rw [end7 (show (st7 v s (nI 0) tl ti 0 0).2.1 2 = nI m from h.1), Option.bind_some]
      show (if nI (m + 1) ≤ nI 0 then _ else (f_X7_next (st7 v s (nI 0) tl ti 0 0) (nI 0) (nI 0)).bind _) = _
      rw [if_neg (nI_ge (by omega) (by omega)), next7 h.1 hm hp ho, Option.bind_some, nI_1]
      show f_X7_drives_L18 999999 (nI 0) (nI (d + 1)) J (nI 1) (st7 v s (nI 1) tl ti 0 0) = _
      rw [L18_eq h ho hd d 999999 1 1 _ _ (by omega) (by omega) ⟨by omega, by omega⟩]
      rw [fl_f (by omega), fl_f (by omega), Int32.add_zero]
      have e : ld m 0 1 d = ld m 0 0 (d + 1) := by
        unfold ld
        rw [if_neg (by omega : ¬ (1 < 0 ∧ 0 ≤ 1 + d)), if_neg (by omega : ¬ (0 < 0 ∧ 0 ≤ 0 + (d + 1))), show 1 + d = 0 + (d + 1) by omega]
      rw [e]
    · rw [L18_eq h ho hd d gas 0 p _ _ (by omega) (by show d < 1000000; omega) ⟨by omega, c⟩, Int32.zero_add]
  show f_X7_drives_L18 gas (nI o) (nI d) J (nI 0) (st7 v s (nI p) tl ti 0 0) = _
  rw [key]
  unfold f_X7_drives_J54
  have hl1 := hl.1.1
  rw [visits7 h.1 hm hJ (by omega) (by omega), Option.bind_some]
  rw [L60_eq hJ ho 14 gas _ _ _ _ (Rs_lo h (vst_lo (by omega))) (by show 14 < 1000000; omega) (by omega) hl.1, Int32.zero_add]
  have h2 := (ro_ok (K := K) ho 14 _ hl.1).2
  have ho2 := hl.1.2
  show some (st7 v _ _ _ _ (fl (p < o ∧ o < ld m o p d) + fl (ld m o p d < o ∧ o < ro m K o 14 (ld m o p d))) _) = some (st7 v _ _ _ _ (fl (p < o ∧ o < ro m K o 14 (ld m o p d))) _)
  congr 2
  by_cases q : p < o ∧ o < ld m o p d
  · rw [fl_t q, fl_f (by omega), fl_t (by omega)]; rfl
  · by_cases q2 : ld m o p d < o ∧ o < ro m K o 14 (ld m o p d)
    · rw [fl_f q, fl_t q2, fl_t (by omega)]; rfl
    · rw [fl_f q, fl_f q2, fl_f (by omega)]; rfl
/-- the visits in the array and the visits told -/
theorem vst_at {m p j : Nat} {s f : Nat → Int32} (hp : 1 ≤ p) (hj : j ≤ 1) (h : ∀ i, 1 ≤ i → i ≤ m → s (37 + 2 * i + j) = f i) : ∀ i, 1 ≤ i → i ≤ m → vst m (nI j) s p (37 + 2 * i + j) = bump m f p i := by
  intro i h1 h2
  unfold vst bump
  have nj : ¬ nI j = -4 := by
    rcases (show j = 0 ∨ j = 1 by omega) with rfl | rfl <;> decide
  rw [if_neg nj, nI_clamp (by omega)]
  by_cases c : p ≤ m
  · rw [if_pos c, if_pos ⟨hp, c⟩]
    by_cases e : i = p
    · subst e; rw [upd_s, upd_s, h i h1 h2]
    · rw [upd_n (by omega), upd_n e, h i h1 h2]
  · rw [if_neg c, if_neg (by omega), h i h1 h2]
theorem vst_ot {m p j : Nat} {s : Nat → Int32} (hj : j ≤ 1) : ∀ x, (x + j) % 2 = 0 → vst m (nI j) s p x = s x := by
  intro x hx
  unfold vst
  rw [nI_clamp (by omega)]
  by_cases c : nI j = -4
  · rw [if_pos c]
  · rw [if_neg c]
    by_cases c2 : p ≤ m
    · rw [if_pos c2, upd_n (by omega)]
    · rw [if_neg c2]
theorem roS_at {m o j : Nat} {K : Nat → Nat} (hj : j ≤ 1) : ∀ (n p : Nat) (s f : Nat → Int32), (∀ i, 1 ≤ i → i ≤ m → s (37 + 2 * i + j) = f i) → ∀ i, 1 ≤ i → i ≤ m → roS m K o (nI j) n p s (37 + 2 * i + j) = roV m K o n p f i := by
  intro n
  induction n with
  | zero => intro p s f h; exact h
  | succ n ih =>
    intro p s f h i h1 h2
    rw [roS, roV]
    by_cases c : kd m K p = 2
    · rw [if_pos c, if_pos c]
      exact ih _ _ _ (vst_at (by unfold nx; by_cases e : p + 1 = o <;> simp only [e, if_true, if_false] <;> omega) hj h) i h1 h2
    · rw [if_neg c, if_neg c]; exact h i h1 h2
theorem roS_ot {m o j : Nat} {K : Nat → Nat} (hj : j ≤ 1) : ∀ (n p : Nat) (s : Nat → Int32), ∀ x, (x + j) % 2 = 0 → roS m K o (nI j) n p s x = s x := by
  intro n
  induction n with
  | zero => intro p s x hx; rfl
  | succ n ih =>
    intro p s x hx
    rw [roS]
    by_cases c : kd m K p = 2
    · rw [if_pos c, ih _ _ x hx, vst_ot hj x hx]
    · rw [if_neg c]
theorem drS_at {m o p d j : Nat} {K : Nat → Nat} {s f : Nat → Int32} (hj : j ≤ 1) (hd : 1 ≤ d) (hp : p ≤ m) (ho : o ≤ m) (h : ∀ i, 1 ≤ i → i ≤ m → s (37 + 2 * i + j) = f i) : ∀ i, 1 ≤ i → i ≤ m → drS m K (nI j) o p d s (37 + 2 * i + j) = drV m K o p d f i :=
  roS_at hj _ _ _ _ (vst_at (by have := (ld_ok (d := d) ho hp hd).2; omega) hj h)
theorem drS_ot {m o p d j : Nat} {K : Nat → Nat} {s : Nat → Int32} (hj : j ≤ 1) : ∀ x, (x + j) % 2 = 0 → drS m K (nI j) o p d s x = s x := fun x hx => (roS_ot hj _ _ _ x hx).trans (vst_ot hj x hx)
theorem drS_no {m o p d : Nat} {K : Nat → Nat} {s : Nat → Int32} : drS m K (-4) o p d s = s := by
  unfold drS
  have e : ∀ q t, vst m (-4) t q = t := fun q t => if_pos rfl
  rw [e]
  have : ∀ n q, roS m K o (-4) n q s = s := by
    intro n
    induction n with
    | zero => intro q; rfl
    | succ n ih => intro q; rw [roS, e, ih]; by_cases c : kd m K q = 2 <;> simp only [c, if_true, if_false]
  exact this _ _

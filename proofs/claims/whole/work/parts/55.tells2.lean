/-! the reference tells all worths -/
theorem inS7 : ∀ S, S < 29 → ∀ a, a < 15 → ∀ m, m < 15 → f_X7_in (nI S - nI a) (nI a) (nI m) = some (nI (if a ≤ S ∧ a ≤ S - a ∧ S - a ≤ m then 1 else 0)) := by decide +kernel
section T7t
variable {m : Nat} {K : Nat → Nat} {pc sp : Nat}
theorem places_L10 {v : tX7} (h : E7 v m K pc sp) {at' : Int32} {a b k : Nat} (hab : a ≤ b) (hb : b ≤ m) (hne : a ≠ b ∨ a = 0) (hk : k < 3) {k2 : Int32 → Int32 → Int32 → tX7 → Option tX7} (hc : ∀ wo z, SM8 v wo at' z → D7 m K pc sp (a + b) a (k + 1) 0 wo → T7 m K pc sp v at' (a + b) (a + 1) 0 0 (k2 (nI a) (nI b) (nI (k + 1)) z)) : ∀ (f L : Nat) (wo : Nat → Int32) (z : tX7), L ≤ 7 → 7 < L + f → SM8 v wo at' z → D7 m K pc sp (a + b) a k L wo → T7 m K pc sp v at' (a + b) (a + 1) 0 0 (f_X7_tellsPlaces_L10 k2 f (nI a) (nI b) (nI k) (nI L) z) := by
  intro f
  induction f with
  | zero => intro L wo z x y; omega
  | succ f ih =>
    intro L wo z x y hz hD
    rw [f_X7_tellsPlaces_L10]
    by_cases c : L = 7
    · subst c
      refine ifQt (Q := T7 m K pc sp v at' (a + b) (a + 1) 0 0) (by decide) ?_
      rw [nI_1]
      refine hc wo z hz (fun n hn ho => hD n hn ?_)
      have q := q_lt n
      unfold old7 at *
      omega
    · refine ifQf (Q := T7 m K pc sp v at' (a + b) (a + 1) 0 0) (show ¬ (6 : Int32) < nI L from nI_nlt (a := 6) (by omega) (by omega)) ?_
      obtain ⟨wo1, z1, e1, e2, e3⟩ := some_L3 h hab hb hne hk (show L < 7 by omega) gas 0 wo z (by omega) (by show 8 < 0 + 1000000; omega) hz hD (fun n _ _ _ q => by omega)
      refine bnQ (Q := T7 m K pc sp v at' (a + b) (a + 1) 0 0) (show f_X7_tellsSome z (nI a) (nI b) (nI k) (nI L) = some z1 from e1) ?_
      rw [nI_1]
      exact ih (L + 1) wo1 z1 (by omega) (by omega) e2 e3
theorem places_L2 {v : tX7} (h : E7 v m K pc sp) {at' : Int32} {a b : Nat} (hab : a ≤ b) (hb : b ≤ m) (hne : a ≠ b ∨ a = 0) : ∀ (f k : Nat) (wo : Nat → Int32) (z : tX7), k ≤ 3 → 3 < k + f → SM8 v wo at' z → D7 m K pc sp (a + b) a k 0 wo → T7 m K pc sp v at' (a + b) (a + 1) 0 0 (f_X7_tellsPlaces_L2 f (nI a) (nI b) (nI k) z) := by
  intro f
  induction f with
  | zero => intro k wo z x y; omega
  | succ f ih =>
    intro k wo z x y hz hD
    rw [f_X7_tellsPlaces_L2]
    by_cases c : k = 3
    · subst c
      refine ifQt (Q := T7 m K pc sp v at' (a + b) (a + 1) 0 0) (by decide) ⟨wo, z, rfl, hz, fun n hn ho => hD n hn ?_⟩
      have q := q_lt n
      unfold old7 at *
      omega
    · refine ifQf (Q := T7 m K pc sp v at' (a + b) (a + 1) 0 0) (show ¬ (3 : Int32) ≤ nI k from nI_ge (b := 3) (by omega) (by omega)) ?_
      exact places_L10 h hab hb hne (by omega) (fun wo1 z1 e1 e2 => ih (k + 1) wo1 z1 (by omega) (by omega) e1 e2) gas 0 wo z (by omega) (by show 7 < 0 + 1000000; omega) hz hD
theorem tells_L26 {v : tX7} (h : E7 v m K pc sp) {at' : Int32} {S : Nat} (hS : S ≤ 2 * m) {k20 : Int32 → tX7 → Option tX7} (hc : ∀ wo z, SM8 v wo at' z → D7 m K pc sp S (m + 1) 0 0 wo → Q7 m K pc sp v (k20 (nI S + (-1 : Int32)) z)) : ∀ (f a : Nat) (wo : Nat → Int32) (z : tX7), a ≤ m + 1 → m + 1 < a + f → SM8 v wo at' z → D7 m K pc sp S a 0 0 wo → Q7 m K pc sp v (f_X7_tells_L26 k20 f (nI S) (nI a) z) := by
  have hm := h.m14
  intro f
  induction f with
  | zero => intro a wo z x y; omega
  | succ f ih =>
    intro a wo z x y hz hD
    have e0 : z.2.1 2 = nI m := by
      obtain ⟨_, _, _, _, _, rfl⟩ := hz
      exact h.1.1
    rw [f_X7_tells_L26, e0]
    by_cases c : a = m + 1
    · subst c
      exact ifQt (Q := Q7 m K pc sp v) (nI_lt (by omega) (by omega)) (hc wo z hz hD)
    · refine ifQf (Q := Q7 m K pc sp v) (nI_nlt (by omega) (by omega)) ?_
      refine bnQ (Q := Q7 m K pc sp v) (inS7 S (by omega) a (by omega) m (by omega)) ?_
      have skip : (∀ n, vld m n → ¬ (qO n + qP n = S ∧ min (qO n) (qP n) = a)) → Q7 m K pc sp v (f_X7_tells_J69 k20 (f_X7_tells_L26 k20 f) (nI S) (nI a) z) := by
        intro q
        unfold f_X7_tells_J69
        rw [nI_1]
        refine ih (a + 1) wo z (by omega) (by omega) hz (fun n hn ho => hD n hn ?_)
        have := q n hn
        unfold old7 at *
        omega
      by_cases c1 : a ≤ S ∧ a ≤ S - a ∧ S - a ≤ m
      · rw [if_pos c1]
        refine ifQf (Q := Q7 m K pc sp v) (by decide) ?_
        rw [nI_sub c1.1]
        have go : (a ≠ S - a ∨ a = 0) → Q7 m K pc sp v (f_X7_tells_J63 k20 (f_X7_tells_L26 k20 f) (nI S) (nI a) (nI (S - a)) z) := by
          intro hne
          obtain ⟨wo1, z1, e1, e2, e3⟩ := places_L2 h (a := a) (b := S - a) c1.2.1 c1.2.2 hne gas 0 wo z (by omega) (by show 3 < 0 + 1000000; omega) hz (by rw [show a + (S - a) = S by omega]; exact hD)
          rw [show a + (S - a) = S by omega] at e3
          unfold f_X7_tells_J63
          refine bnQ (Q := Q7 m K pc sp v) (show f_X7_tellsPlaces z (nI a) (nI (S - a)) = some z1 from e1) ?_
          unfold f_X7_tells_J69
          rw [nI_1]
          exact ih (a + 1) wo1 z1 (by omega) (by omega) e2 e3
        by_cases c2 : a < S - a
        · exact ifQt (Q := Q7 m K pc sp v) (nI_lt c2 (by omega)) (go (Or.inl (by omega)))
        · refine ifQf (Q := Q7 m K pc sp v) (nI_nlt (by omega) (by omega)) ?_
          by_cases c3 : a = 0
          · exact ifQt (Q := Q7 m K pc sp v) (by rw [nI_z (by omega)]; exact c3) (go (Or.inr c3))
          · refine ifQf (Q := Q7 m K pc sp v) (by rw [nI_z (by omega)]; exact c3) (skip (fun n hn q => ?_))
            obtain ⟨_, h2, h3, h4⟩ := hn
            omega
      · rw [if_neg c1]
        refine ifQt (Q := Q7 m K pc sp v) (by decide) (skip (fun n hn q => ?_))
        obtain ⟨_, h2, h3, h4⟩ := hn
        omega
theorem tells_L20 {v : tX7} (h : E7 v m K pc sp) {at' : Int32} : ∀ (f S : Nat) (wo : Nat → Int32) (z : tX7), S ≤ 2 * m + 1 → S < f → SM8 v wo at' z → (∀ n, vld m n → S ≤ qO n + qP n → G7 m K pc sp wo n) → Q7 m K pc sp v (f_X7_tells_L20 f (nI S + (-1 : Int32)) z) := by
  have hm := h.m14
  intro f
  induction f with
  | zero => intro S wo z x y; omega
  | succ f ih =>
    intro S wo z x y hz hG
    rw [f_X7_tells_L20]
    by_cases c : S = 0
    · subst c
      obtain ⟨q1, q2, q3, q4, q5, rfl⟩ := hz
      exact ifQt (Q := Q7 m K pc sp v) (by decide) ⟨wo, _, rfl, ⟨q1, q2, q3, q4, q5, rfl⟩, fun n hn => hG n hn (by omega)⟩
    · rw [nI_dn (by omega)]
      refine ifQf (Q := Q7 m K pc sp v) (nI_pos (by omega)) ?_
      refine tells_L26 h (show S - 1 ≤ 2 * m by omega) (fun wo1 z1 e1 e2 => ?_) gas 0 wo z (by omega) (by show m + 1 < 0 + 1000000; omega) hz (fun n hn ho => hG n hn (by unfold old7 at ho; omega))
      refine ih (S - 1) wo1 z1 (by omega) (by omega) e1 (fun n hn q => e2 n hn ?_)
      obtain ⟨_, h2, h3, h4⟩ := hn
      unfold old7
      omega
/-- what the reference keeps of worths between its calls -/
def WR (v : tX7) (m : Nat) (K : Nat → Nat) (pc sp : Nat) : Prop := w_ta v = 0 ∨ ∀ n, vld m n → G7 m K pc sp (w_wo v) n
theorem tells7 {v : tX7} (h : E7 v m K pc sp) (hw : WR v m K pc sp) : Q7 m K pc sp v (f_X7_tells v) := by
  have hm := h.m14
  unfold f_X7_tells f_X7_tells_J19
  have hz : SM8 v (w_wo v) (w_ta v) v := ⟨_, _, _, _, _, rfl⟩
  by_cases c : w_ta v = 0
  · refine ifQt (Q := Q7 m K pc sp v) c ?_
    have e : (2 : Int32) * v.2.1 2 = nI (2 * m + 1) + (-1 : Int32) := by
      rw [nI_dn (by omega), h.1.1, show 2 * m + 1 - 1 = 2 * m by omega]
      exact nI_mul 2 m
    rw [e]
    exact tells_L20 h gas (2 * m + 1) _ v (by omega) (by show 2 * m + 1 < 1000000; omega) hz (fun n hn q => by
      obtain ⟨_, h2, h3, h4⟩ := hn
      omega)
  · refine ifQf (Q := Q7 m K pc sp v) c ?_
    rcases hw with q | q
    · exact absurd q c
    · exact tells_L20 h gas 0 _ v (by omega) (by show 0 < 1000000; omega) hz (fun n hn _ => q n hn)
end T7t

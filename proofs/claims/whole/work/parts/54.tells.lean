/-! the reference tells the worths -/
def G7 (m : Nat) (K : Nat → Nat) (pc sp : Nat) (wo : Nat → Int32) (n : Nat) : Prop := wo n = nZ (Wo m K pc sp n)
def old7 (S a k L n : Nat) : Prop := S < qO n + qP n ∨ (qO n + qP n = S ∧ (min (qO n) (qP n) < a ∨ (min (qO n) (qP n) = a ∧ (qT n + qU n < k ∨ (qT n + qU n = k ∧ qL n + qM n < L)))))
def D7 (m : Nat) (K : Nat → Nat) (pc sp S a k L : Nat) (wo : Nat → Int32) : Prop := ∀ n, vld m n → old7 S a k L n → G7 m K pc sp wo n
def I7 (m : Nat) (K : Nat → Nat) (pc sp a b k L i : Nat) (wo : Nat → Int32) : Prop := ∀ n, vld m n → qT n + qU n = k → qL n + qM n = L → ((qO n = a ∧ qP n = b ∧ qL n * 2 + qT n < i) ∨ (qO n = b ∧ qP n = a ∧ qM n * 2 + qU n < i)) → G7 m K pc sp wo n
def T7 (m : Nat) (K : Nat → Nat) (pc sp : Nat) (v : tX7) (at' : Int32) (S a k L : Nat) (o : Option tX7) : Prop := ∃ wo z, o = some z ∧ SM8 v wo at' z ∧ D7 m K pc sp S a k L wo
def Q7 (m : Nat) (K : Nat → Nat) (pc sp : Nat) (v : tX7) (o : Option tX7) : Prop := ∃ wo z, o = some z ∧ SM8 v wo 1 z ∧ ∀ n, vld m n → G7 m K pc sp wo n
theorem ifQt {α : Type} {Q : α → Prop} {c : Prop} [Decidable c] {a b : α} (h : c) (h2 : Q a) : Q (if c then a else b) := by rw [if_pos h]; exact h2
theorem ifQf {α : Type} {Q : α → Prop} {c : Prop} [Decidable c] {a b : α} (h : ¬ c) (h2 : Q b) : Q (if c then a else b) := by rw [if_neg h]; exact h2
theorem div8 : ∀ i, i < 8 → nI i / (2 : Int32) = nI (i / 2) ∧ nI i - nI (i / 2) * (2 : Int32) = nI (i % 2) := by decide +kernel
theorem inT7 : ∀ k, k < 3 → ∀ t, t < 2 → f_X7_in (nI k - nI t) (0 : Int32) (1 : Int32) = some (nI (if t ≤ k ∧ k - t ≤ 1 then 1 else 0)) := by decide +kernel
theorem inL7 : ∀ k, k < 7 → ∀ t, t < 4 → f_X7_in (nI k - nI t) (0 : Int32) (3 : Int32) = some (nI (if t ≤ k ∧ k - t ≤ 3 then 1 else 0)) := by decide +kernel
section T7s
variable {m : Nat} {K : Nat → Nat} {pc sp : Nat}
theorem G7_upd {wo : Nat → Int32} {n x : Nat} (h : G7 m K pc sp wo x) : G7 m K pc sp (upd wo n (nZ (Wo m K pc sp n))) x := by
  unfold G7 at *
  by_cases e : x = n
  · subst e; exact upd_s
  · rw [upd_n e]; exact h
theorem G7_s {wo : Nat → Int32} {n : Nat} : G7 m K pc sp (upd wo n (nZ (Wo m K pc sp n))) n := upd_s
theorem old_child {n t n' S a k L : Nat} (hm : m ≤ 14) (hv : vld m n) (hp : posT pc n t) (h : nxt m K sp n t = some n') (e1 : qO n + qP n = S) (e2 : min (qO n) (qP n) = a) (e3 : qT n + qU n = k) (e4 : qL n + qM n = L) : old7 S a k L n' := by
  obtain ⟨h1, h2, h3, h4⟩ := hv
  obtain ⟨b1, b2, b3, b4, b5, b6⟩ := q_lt n
  unfold nxt at h
  unfold posT at hp
  unfold old7
  by_cases c0 : t = 0
  · rw [if_pos c0] at h hp
    have e := (Option.some.inj h).symm
    subst e
    obtain ⟨e1, e2, e3, e4, e5, e6⟩ := nxL_q hp
    rw [e1, e2, e3, e4, e5, e6]
    exact Or.inr ⟨by omega, Or.inr ⟨by omega, Or.inr ⟨by omega, by omega⟩⟩⟩
  · rw [if_neg c0] at h hp
    by_cases c5 : t = 5
    · rw [if_pos c5] at h hp
      have e := (Option.some.inj h).symm
      subst e
      have hl : min 3 (qM n + sp) < 4 := by omega
      have e1 : qO (nxT sp n) = qP n := mkS_O b2 b1 b4 (by omega) hl (by omega)
      have e2 : qP (nxT sp n) = qO n := mkS_P b1 b4 (by omega) hl (by omega)
      have e3 : qT (nxT sp n) = qU n := mkS_T b4 (by omega) hl (by omega)
      have e4 : qU (nxT sp n) = 0 := mkS_U (by omega) hl (by omega)
      rw [e1, e2, e3, e4]
      exact Or.inr ⟨by omega, Or.inr ⟨by omega, Or.inl (by omega)⟩⟩
    · rw [if_neg c5] at h
      have hq := rs_ok (K := K) hm h3 h2 (show 1 ≤ t by omega)
      unfold nxR at h
      by_cases c : rs m K (qP n) (qO n) t ≤ m
      · rw [if_pos c] at h
        have e := (Option.some.inj h).symm
        subst e
        have hq2 := hq.2.1
        generalize hqq : rs m K (qP n) (qO n) t = q at *
        have hu : (if kd m K q = 3 then 1 else qT n) < 2 := by
          by_cases k3 : kd m K q = 3
          · rw [if_pos k3]; omega
          · rw [if_neg k3]; omega
        have hl : (if kd m K q = 1 then 1 else 0) < 4 := by
          by_cases k3 : kd m K q = 1
          · rw [if_pos k3]; omega
          · rw [if_neg k3]; omega
        have e1 : qO (nxD m K n q) = qP n := mkS_O b2 (by omega) b4 hu b6 hl
        have e2 : qP (nxD m K n q) = q := mkS_P (by omega) b4 hu b6 hl
        rw [e1, e2]
        exact Or.inl (by omega)
      · rw [if_neg c] at h; exact absurd h (by simp)
theorem some_L3 {v : tX7} (h : E7 v m K pc sp) {at' : Int32} {a b k L : Nat} (hab : a ≤ b) (hb : b ≤ m) (hne : a ≠ b ∨ a = 0) (hk : k < 3) (hL : L < 7) : ∀ (f i : Nat) (wo : Nat → Int32) (z : tX7), i ≤ 8 → 8 < i + f → SM8 v wo at' z → D7 m K pc sp (a + b) a k L wo → I7 m K pc sp a b k L i wo → T7 m K pc sp v at' (a + b) a k (L + 1) (f_X7_tellsSome_L3 f (nI a) (nI b) (nI k) (nI L) (nI i) z) := by
  have hm := h.m14
  intro f
  induction f with
  | zero => intro i wo z x y; omega
  | succ f ih =>
    intro i wo z x y hz hD hI
    rw [f_X7_tellsSome_L3]
    by_cases c8 : i = 8
    · subst c8
      refine ifQt (Q := T7 m K pc sp v at' (a + b) a k (L + 1)) (by decide) ⟨wo, z, rfl, hz, fun n hn ho => ?_⟩
      have q := q_lt n
      by_cases c : old7 (a + b) a k L n
      · exact hD n hn c
      · unfold old7 at ho c
        refine hI n hn (by omega) (by omega) ?_
        omega
    · have dd := div8 i (by omega)
      obtain ⟨tp, tl, ti, le, rl, rfl⟩ := hz
      refine ifQf (Q := T7 m K pc sp v at' (a + b) a k (L + 1)) (show ¬ (8 : Int32) ≤ nI i from nI_ge (b := 8) (by omega) (by omega)) ?_
      rw [dd.1, dd.2]
      have skip : (∀ n, vld m n → qT n + qU n = k → qL n + qM n = L → ¬ (qO n = a ∧ qP n = b ∧ qL n * 2 + qT n = i) ∧ ¬ (qO n = b ∧ qP n = a ∧ qM n * 2 + qU n = i)) → T7 m K pc sp v at' (a + b) a k (L + 1) (f_X7_tellsSome_J131 (f_X7_tellsSome_L3 f) (nI a) (nI b) (nI k) (nI L) (nI i) (st8 v wo at' tp tl ti le rl)) := by
        intro q
        unfold f_X7_tellsSome_J131
        rw [nI_1]
        refine ih (i + 1) wo _ (by omega) (by omega) ⟨_, _, _, _, _, rfl⟩ hD (fun n hn e1 e2 e3 => ?_)
        have q' := q n hn e1 e2
        refine hI n hn e1 e2 ?_
        omega
      refine bnQ (Q := T7 m K pc sp v at' (a + b) a k (L + 1)) (inT7 k hk (i % 2) (by omega)) ?_
      by_cases c1 : i % 2 ≤ k ∧ k - i % 2 ≤ 1
      · rw [if_pos c1]
        refine ifQf (Q := T7 m K pc sp v at' (a + b) a k (L + 1)) (by decide) ?_
        refine bnQ (Q := T7 m K pc sp v at' (a + b) a k (L + 1)) (inL7 L hL (i / 2) (by omega)) ?_
        by_cases c2 : i / 2 ≤ L ∧ L - i / 2 ≤ 3
        · rw [if_pos c2]
          refine ifQf (Q := T7 m K pc sp v at' (a + b) a k (L + 1)) (by decide) ?_
          rw [nI_sub c1.1, nI_sub c2.1]
          have hi : i = i / 2 * 2 + i % 2 := by omega
          generalize ht : i % 2 = t at *
          generalize hl : i / 2 = l at *
          have m1 := mkS_O (o := a) (p := b) (t := t) (u := k - t) (l := l) (m := L - l) (by omega) (by omega) (by omega) (by omega) (by omega) (by omega)
          have m2 := mkS_P (o := a) (p := b) (t := t) (u := k - t) (l := l) (m := L - l) (by omega) (by omega) (by omega) (by omega) (by omega)
          have m3 := mkS_T (o := a) (p := b) (t := t) (u := k - t) (l := l) (m := L - l) (by omega) (by omega) (by omega) (by omega)
          have m4 := mkS_U (o := a) (p := b) (t := t) (u := k - t) (l := l) (m := L - l) (by omega) (by omega) (by omega)
          have m5 := mkS_L (o := a) (p := b) (t := t) (u := k - t) (l := l) (m := L - l) (by omega) (by omega)
          have m6 := mkS_M (o := a) (p := b) (t := t) (u := k - t) (l := l) (m := L - l) (by omega)
          have m7 := mkS_lt (o := a) (p := b) (t := t) (u := k - t) (l := l) (m := L - l) (by omega) (by omega) (by omega) (by omega) (by omega) (by omega)
          have w1 := mkS_O (o := b) (p := a) (t := k - t) (u := t) (l := L - l) (m := l) (by omega) (by omega) (by omega) (by omega) (by omega) (by omega)
          have w2 := mkS_P (o := b) (p := a) (t := k - t) (u := t) (l := L - l) (m := l) (by omega) (by omega) (by omega) (by omega) (by omega)
          have w3 := mkS_T (o := b) (p := a) (t := k - t) (u := t) (l := L - l) (m := l) (by omega) (by omega) (by omega) (by omega)
          have w4 := mkS_U (o := b) (p := a) (t := k - t) (u := t) (l := L - l) (m := l) (by omega) (by omega) (by omega)
          have w5 := mkS_L (o := b) (p := a) (t := k - t) (u := t) (l := L - l) (m := l) (by omega) (by omega)
          have w6 := mkS_M (o := b) (p := a) (t := k - t) (u := t) (l := L - l) (m := l) (by omega)
          have w7 := mkS_lt (o := b) (p := a) (t := k - t) (u := t) (l := L - l) (m := l) (by omega) (by omega) (by omega) (by omega) (by omega) (by omega)
          refine bnQ (Q := T7 m K pc sp v at' (a + b) a k (L + 1)) (number7 (o := a) (p := b) (t := t) (u := k - t) (l := l) (q := L - l)) ?_
          have inj : ∀ n, n < 16384 → qO n = a → qP n = b → qT n = t → qU n = k - t → qL n = l → qM n = L - l → n = mkS a b t (k - t) l (L - l) := fun n hn a1 a2 a3 a4 a5 a6 => by rw [← mkS_q hn, a1, a2, a3, a4, a5, a6]
          have inj2 : ∀ n, n < 16384 → qO n = b → qP n = a → qT n = k - t → qU n = t → qL n = L - l → qM n = l → n = mkS b a (k - t) t (L - l) l := fun n hn a1 a2 a3 a4 a5 a6 => by rw [← mkS_q hn, a1, a2, a3, a4, a5, a6]
          generalize hn1 : mkS a b t (k - t) l (L - l) = n1 at *
          generalize hn2 : mkS b a (k - t) t (L - l) l = n2 at *
          have v1 : vld m n1 := ⟨m7, by omega, by omega, by omega⟩
          have v2 : vld m n2 := ⟨w7, by omega, by omega, by omega⟩
          obtain ⟨z1, x1, q1, q2, q3, q4, q5, rfl⟩ := worthAt7 (v := st8 v wo at' tp tl ti le rl) h v1 (fun t' n' _ hp e => hD n' (h.child v1 hp e) (old_child hm v1 hp e (by omega) (by omega) (by omega) (by omega)))
          rw [m1, m2, m3, m4, m5, m6] at x1
          refine bnQ (Q := T7 m K pc sp v at' (a + b) a k (L + 1)) x1 ?_
          refine ifQt (Q := T7 m K pc sp v at' (a + b) a k (L + 1)) (ig_t (by omega) (by omega)) ?_
          have nn2 := number7 (o := b) (p := a) (t := k - t) (u := t) (l := L - l) (q := l)
          rw [hn2] at nn2
          refine bnQ (Q := T7 m K pc sp v at' (a + b) a k (L + 1)) nn2 ?_
          rw [nI_clamp (show n1 < 2 ^ 31 by omega)]
          have hD2 : D7 m K pc sp (a + b) a k L (upd wo n1 (nZ (Wo m K pc sp n1))) := fun n hn ho => G7_upd (hD n hn ho)
          obtain ⟨z2, y1, p1, p2, p3, p4, p5, rfl⟩ := worthAt7 (v := st8 v (upd wo n1 (nZ (Wo m K pc sp n1))) at' q1 q2 q3 q4 q5) h v2 (fun t' n' _ hp e => hD2 n' (h.child v2 hp e) (old_child hm v2 hp e (by omega) (by omega) (by omega) (by omega)))
          rw [w1, w2, w3, w4, w5, w6] at y1
          refine bnQ (Q := T7 m K pc sp v at' (a + b) a k (L + 1)) y1 ?_
          refine ifQt (Q := T7 m K pc sp v at' (a + b) a k (L + 1)) (ig_t (by omega) (by omega)) ?_
          rw [nI_clamp (show n2 < 2 ^ 31 by omega)]
          unfold f_X7_tellsSome_J131
          rw [nI_1]
          refine ih (i + 1) (upd (upd wo n1 (nZ (Wo m K pc sp n1))) n2 (nZ (Wo m K pc sp n2))) _ (by omega) (by omega) ⟨p1, p2, p3, p4, p5, rfl⟩ (fun n hn ho => G7_upd (hD2 n hn ho)) (fun n hn e1 e2 e3 => ?_)
          have qq := q_lt n
          by_cases g1 : n = n1
          · rw [g1]; exact G7_upd G7_s
          · by_cases g2 : n = n2
            · rw [g2]; exact G7_s
            · refine G7_upd (G7_upd (hI n hn e1 e2 ?_))
              rcases e3 with ⟨d1, d2, d3⟩ | ⟨d1, d2, d3⟩
              · by_cases d4 : qL n * 2 + qT n = i
                · exact absurd (inj n hn.1 d1 d2 (by omega) (by omega) (by omega) (by omega)) g1
                · exact Or.inl ⟨d1, d2, by omega⟩
              · by_cases d4 : qM n * 2 + qU n = i
                · exact absurd (inj2 n hn.1 d1 d2 (by omega) (by omega) (by omega) (by omega)) g2
                · exact Or.inr ⟨d1, d2, by omega⟩
        · rw [if_neg c2]
          refine ifQt (Q := T7 m K pc sp v at' (a + b) a k (L + 1)) (by decide) (skip (fun n hn e1 e2 => ?_))
          have qq := q_lt n
          omega
      · rw [if_neg c1]
        refine ifQt (Q := T7 m K pc sp v at' (a + b) a k (L + 1)) (by decide) (skip (fun n hn e1 e2 => ?_))
        have qq := q_lt n
        omega
end T7s

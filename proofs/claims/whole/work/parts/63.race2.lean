/-! a race read from a text -/
abbrev sh (v : tX6) : tX6 := (v.1, v.2.1, v.2.2.1, v.2.2.2.1, v.2.2.2.2.1, v.2.2.2.2.2.1, v.2.2.2.2.2.2.1, v.2.2.2.2.2.2.2.1, (0 : Int32))
theorem vt_cases {s : Int32} (h : vt s) : (∃ t, 1 ≤ t ∧ t ≤ 4 ∧ s = nI (48 + t)) ∨ s = 116 ∨ s = 98 ∨ s = 103 ∨ s = 45 := by
  rcases h with ⟨a, b⟩ | h
  · obtain ⟨t, rfl, t1, t2⟩ := rng (a := 49) (b := 52) (by omega) (by omega) a (nlt_le.mp b)
    exact Or.inl ⟨t - 48, by omega, by omega, by rw [show 48 + (t - 48) = t by omega]⟩
  · exact Or.inr h
theorem KP.pads {w z : tX7} {r : RcS} (h : KP w r z) : w_ln z = w_ln w ∧ w_pd z = w_pd w := by
  obtain ⟨⟨wo, a, ⟨q1, q2, q3, q4, q5, rfl⟩⟩, k2⟩ := h
  exact ⟨rfl, rfl⟩
theorem sm7.pads {w z : tX7} (h : sm7 w z) : w_ln z = w_ln w ∧ w_pd z = w_pd w := by
  obtain ⟨q1, q2, q3, q4, q5, rfl⟩ := h
  exact ⟨rfl, rfl⟩
theorem same7.pads {w z : tX7} (h : same7 w z) : w_ln z = w_ln w ∧ w_pd z = w_pd w := by
  obtain ⟨s, q1, q2, q3, q4, q5, rfl⟩ := same7_ex h
  exact ⟨rfl, rfl⟩
/-- the turn that a sign means -/
theorem meant_both {v : tX6} {w : tX7} {r : RcS} (h : RelR v w r) {s : Int32} (hs : vt s) : ∃ (t : Nat) (x : tX5) (w2 : tX7), t ≤ 5 ∧ f_X6_turnMeant (sh v) s = some (nI t, sh (v.1, v.2.1, v.2.2.1, v.2.2.2.1, v.2.2.2.2.1, x, v.2.2.2.2.2.2)) ∧ f_X7_turnOf w s = some (nI t, w2) ∧ RelR (v.1, v.2.1, v.2.2.1, v.2.2.2.1, v.2.2.2.2.1, x, v.2.2.2.2.2.2) w2 r ∧ w_ln w2 = w_ln w ∧ w_pd w2 = w_pd w := by
  have e6 := isOver_eq h.2.1
  have e7 := isOver7 h.2.2.1
  unfold f_X6_turnMeant f_X6_turnMeant_J17 f_X7_turnOf
  rcases vt_cases hs with ⟨t, t1, t2, rfl⟩ | rfl | rfl | rfl | rfl
  · have d : ∀ k, (k = 45 ∨ k = 98 ∨ k = 103 ∨ k = 116) → ¬ nI (48 + t) = nI k := fun k hk e => by
      have := (nI_eq (by omega) (by omega)).mp e
      omega
    have e : nI (48 + t) - (48 : Int32) = nI t := by
      show nI (48 + t) - nI 48 = _
      rw [nI_sub (by omega)]
      congr 1
      omega
    refine ⟨t, v.2.2.2.2.2.1, w, by omega, iff' (nI_nlt (b := 49) (by omega) (by omega)) (iff' (nI_nlt (a := 52) (by omega) (by omega)) (by rw [e])), iff' (d 45 (by omega)) (iff' (d 98 (by omega)) (iff' (d 103 (by omega)) (iff' (d 116 (by omega)) (by rw [e])))), h, rfl, rfl⟩
  · exact ⟨5, v.2.2.2.2.2.1, w, by omega, iff' (by decide) (ift (by decide) (ift rfl rfl)), iff' (by decide) (iff' (by decide) (iff' (by decide) (ift rfl rfl))), h, rfl, rfl⟩
  · by_cases c : rWi r = -4
    · rw [if_pos c] at e6 e7
      obtain ⟨x, p1, p2⟩ := prepare_eq h.2.2.2.2.2.2.2.1 h.2.1 h.1
      have p1' : f_X6_preparedWorths (sh v) = some (v.1, v.2.1, v.2.2.1, v.2.2.2.1, v.2.2.2.2.1, x, v.2.2.2.2.2.2.1, v.2.2.2.2.2.2.2.1, (0 : Int32)) := by
        unfold f_X6_preparedWorths
        exact bnd p1 rfl
      obtain ⟨to, T, b1, b2, b3⟩ := bestOf_eq p2.2.1 h.2.1 h.1 c
      obtain ⟨T', y, d1, d2, d3⟩ := bestNow_eq h.2.2.1 h.1 h.2.2.2.2.2.2.2.2 c
      have eT : T' = T := isB_uniq d2 b3
      subst eT
      obtain ⟨c3, c5⟩ := isB_ref h.1 c b3
      exact ⟨T', stT x to, y, c5, iff' (by decide) (ift (by decide) (iff' (by decide) (iff' (by decide) (bnd e6 (ift rfl (iff' (by decide) (bnd p1' (bnd b1 rfl)))))))), iff' (by decide) (ift rfl (bnd e7 (ift rfl (bnd d1 rfl)))), h.look d3 (im := v.2.1) (PI_st p2 b2).wi, d3.pads.1, d3.pads.2⟩
    · rw [if_neg c] at e6 e7
      exact ⟨0, v.2.2.2.2.2.1, w, by omega, iff' (by decide) (ift (by decide) (iff' (by decide) (iff' (by decide) (bnd e6 (iff' (by decide) rfl))))), iff' (by decide) (ift rfl (bnd e7 (iff' (by decide) rfl))), h, rfl, rfl⟩
  · by_cases c : rWi r = -4
    · rw [if_pos c] at e6 e7
      obtain ⟨c3, c5⟩ := sGreedy_ref h.1 c
      have g6 := greediest_eq h.2.1 h.1 c
      obtain ⟨y, d1, d2, d3⟩ := greedy7 h.2.2.1 h.1 c
      exact ⟨sGreedy r, v.2.2.2.2.2.1, y.2, by omega, iff' (by decide) (ift (by decide) (iff' (by decide) (iff' (by decide) (bnd e6 (ift rfl (ift rfl (bnd g6 rfl))))))), iff' (by decide) (iff' (by decide) (ift rfl (bnd e7 (ift rfl (bnd d1 (by rw [d2])))))), h.sm d3, d3.pads.1, d3.pads.2⟩
    · rw [if_neg c] at e6 e7
      exact ⟨0, v.2.2.2.2.2.1, w, by omega, iff' (by decide) (ift (by decide) (iff' (by decide) (iff' (by decide) (bnd e6 (iff' (by decide) rfl))))), iff' (by decide) (iff' (by decide) (ift rfl (bnd e7 (iff' (by decide) rfl)))), h, rfl, rfl⟩
  · exact ⟨0, v.2.2.2.2.2.1, w, by omega, ift (by decide) (iff' (by decide) (ift rfl rfl)), ift rfl rfl, h, rfl, rfl⟩
/-- what lies on the pads -/
def PL (v : tX6) (w : tX7) (L : Nat) : Prop := L ≤ 60 ∧ (vP v).2 = nI L ∧ w_ln w = nI L ∧ ∀ i, i < L → (vP v).1 i = w_pd w i ∧ vt ((vP v).1 i)
theorem race_end {v : tX6} {w : tX7} {r : RcS} (h : RelR v w r) {L : Nat} (hL : PL v w L) {i k : Nat} (hk : k < 6) (hi : i ≤ L) {b : Int32} (hb : b = nI k) {a : Int32} (ha : k ≠ 0 → a = nI i) : ∃ (x : Int32) (v1 : tX6) (w1 : tX7), f_X6_race_J111 (nI i) (v.1, v.2.1, v.2.2.1, v.2.2.2.1, v.2.2.2.2.1, v.2.2.2.2.2.1, v.2.2.2.2.2.2.1, a, b) = some (x, v1) ∧ f_X7_race_J71 (nI i) (nI k) w = some (x, w1) ∧ Rel v1 w1 := by
  obtain ⟨h1, h2, h3, h4, h5, h6, h7, h8, h9⟩ := h
  obtain ⟨l1, l2, l3, l4⟩ := hL
  subst hb
  unfold f_X6_race_J111 f_X1_empty f_X7_race_J71 f_X7_race_J82
  by_cases c : k = 0
  · subst c
    exact ⟨nI i, (v.1, v.2.1, v.2.2.1, v.2.2.2.1, (v.2.2.2.2.1.1, 0), v.2.2.2.2.2.1, v.2.2.2.2.2.2.1, a, nI 0), (w.1, w.2.1, w.2.2.1, w.2.2.2.1, w.2.2.2.2.1, w.2.2.2.2.2.1, w.2.2.2.2.2.2.1, w.2.2.2.2.2.2.2.1, 0, -4, -4, w.2.2.2.2.2.2.2.2.2.2.2), bnd rfl rfl, ift rfl (ift rfl rfl), r, h1, h2, h3, h4, h5, ⟨0, by omega, rfl, rfl, fun i hi => by omega⟩, Or.inl ⟨rfl, rfl, rfl⟩, h8, h9⟩
  · have nk : ¬ nI k = 0 := by rw [nI_z (by omega)]; exact c
    have ha' := ha c
    subst ha'
    exact ⟨nI i, (v.1, v.2.1, v.2.2.1, v.2.2.2.1, (v.2.2.2.2.1.1, 0), v.2.2.2.2.2.1, v.2.2.2.2.2.2.1, nI i, nI k), (w.1, w.2.1, w.2.2.1, w.2.2.2.1, w.2.2.2.2.1, w.2.2.2.2.2.1, w.2.2.2.2.2.2.1, w.2.2.2.2.2.2.2.1, 0, nI i, nI k, w.2.2.2.2.2.2.2.2.2.2.2), bnd rfl rfl, iff' nk (iff' nk rfl), r, h1, h2, h3, h4, h5, ⟨0, by omega, rfl, rfl, fun i hi => by omega⟩, Or.inr ⟨nk, rfl, rfl⟩, h8, h9⟩
theorem race_L {L : Nat} : ∀ (f i : Nat) (v : tX6) (w : tX7) (r : RcS), i ≤ L → L < i + f → RelR v w r → PL v w L → ∃ (x : Int32) (v1 : tX6) (w1 : tX7), f_X6_race_L36 f (nI i) (nI i) (sh v) = some (x, v1) ∧ f_X7_race_L26 f (nI i) (0 : Int32) w = some (x, w1) ∧ Rel v1 w1 := by
  intro f
  induction f with
  | zero => intro i v w r a b; omega
  | succ f ih =>
    intro i v w r a b h hP
    have hP' := hP
    obtain ⟨l1, l2, l3, l4⟩ := hP'
    have l2' : v.2.2.2.2.1.2 = nI L := l2
    have l3' : w.2.2.2.2.2.2.2.2.1 = nI L := l3
    rw [f_X6_race_L36, f_X7_race_L26]
    by_cases c : i = L
    · obtain ⟨x, v1, w1, x1, x2, x3⟩ := race_end h hP (k := 0) (i := i) (by omega) a (b := 0) rfl (a := v.2.2.2.2.2.2.2.1) (fun e => absurd rfl e)
      refine ⟨x, v1, w1, ift ?_ x1, ift ?_ x2, x3⟩
      · show v.2.2.2.2.1.2 ≤ nI i
        rw [l2', c]
        exact nI_le (Nat.le_refl _) (by omega)
      · show w.2.2.2.2.2.2.2.2.1 ≤ nI i
        rw [l3', c]
        exact nI_le (Nat.le_refl _) (by omega)
    · have n1 : ¬ v.2.2.2.2.1.2 ≤ nI i := by rw [l2']; exact nI_ge (by omega) (by omega)
      have n2 : ¬ w.2.2.2.2.2.2.2.2.1 ≤ nI i := by rw [l3']; exact nI_ge (by omega) (by omega)
      obtain ⟨s1, s2⟩ := l4 i (by omega)
      have sg : f_X1_signAt v.2.2.2.2.1 (nI i) = some (v.2.2.2.2.1.1 i) := by
        unfold f_X1_signAt
        rw [at_in _ (show i < 60 by omega) (by omega)]; rfl
      obtain ⟨t, x, w2, t5, m1, m2, m3, m4, m5⟩ := meant_both h s2
      have s1' : w.2.2.2.2.2.2.2.1 (nI i).toNatClampNeg = v.2.2.2.2.1.1 i := by rw [nI_clamp (by omega)]; exact s1.symm
      have r6 := refusal_eq m3.2.1 m3.1 (t := t) (by omega)
      have r7 := refuses7 m3.2.2.1 m3.1 (t := t) (by omega)
      have hP2 : PL (v.1, v.2.1, v.2.2.1, v.2.2.2.1, v.2.2.2.2.1, x, v.2.2.2.2.2.2) w2 L := ⟨l1, l2, m4.trans l3, fun j hj => ⟨(l4 j hj).1.trans (congrFun m5 j).symm, (l4 j hj).2⟩⟩
      by_cases c3 : sRef r t = 0
      · obtain ⟨y, y1, y2⟩ := make_eq m3.2.1 m3.1 c3
        obtain ⟨q, q1, q2, q3, q4⟩ := makes7 m3.2.2.1 m3.1 c3 (by omega)
        have R := m3.turn (okR_make m3.1 c3) y2 q3 q4 (make_keep r t)
        have hP3 : PL (y, v.2.1, v.2.2.1, v.2.2.2.1, v.2.2.2.2.1, x, v.2.2.2.2.2.2) q.2 L := ⟨l1, l2, q4.pads.1.trans (m4.trans l3), fun j hj => ⟨(l4 j hj).1.trans ((congrFun m5 j).symm.trans (congrFun q4.pads.2 j).symm), (l4 j hj).2⟩⟩
        obtain ⟨a', v1, w1, x1, x2, x3⟩ := ih (i + 1) _ q.2 _ (by omega) (by omega) R hP3
        refine ⟨a', v1, w1, iff' n1 (ift rfl (bnd sg (bnd m1 (bnd r6 (ift (by rw [c3]; rfl) (bnd y1 ?_)))))), iff' n2 (ift rfl (ift (ig_t (by omega) (by omega)) (bnd (by rw [s1']; exact m2) (bnd r7 (ift (by rw [c3]; rfl) (bnd q1 ?_)))))), x3⟩
        · unfold f_X6_race_J105
          rw [nI_1, c3]
          exact x1
        · unfold f_X7_race_J68
          rw [nI_1, c3]
          exact x2
      · have n0 : ¬ nI (sRef r t) = 0 := by rw [sRef_z]; exact c3
        obtain ⟨f, rfl⟩ : ∃ f', f = f' + 1 := ⟨f - 1, by omega⟩
        obtain ⟨a', v1, w1, x1, x2, x3⟩ := race_end m3 hP2 (k := sRef r t) (i := i) (sRef_lt r t) a (b := nI (sRef r t)) rfl (a := nI i) (fun _ => rfl)
        refine ⟨a', v1, w1, iff' n1 (ift rfl (bnd sg (bnd m1 (bnd r6 (iff' n0 ?_))))), iff' n2 (ift rfl (ift (ig_t (by omega) (by omega)) (bnd (by rw [s1']; exact m2) (bnd r7 (iff' n0 ?_))))), x3⟩
        · unfold f_X6_race_J105
          rw [f_X6_race_L36]
          by_cases d : v.2.2.2.2.1.2 ≤ nI i + (1 : Int32)
          · exact ift d x1
          · exact iff' d (iff' n0 x1)
        · unfold f_X7_race_J68
          rw [f_X7_race_L26]
          exact iff' (by rw [show w2.2.2.2.2.2.2.2.2.1 = w.2.2.2.2.2.2.2.2.1 from m4]; exact n2) (iff' n0 x2)
theorem sim_race_ok : sim_race Rel := by
  intro v w hR
  obtain ⟨r, h⟩ := hR
  have z := h.z
  obtain ⟨x, L, l1, l2, l3, l4, f1, f2, f3⟩ := fault_both z (1 : Int32)
  unfold f_X6_race f_X7_race
  by_cases c : x = -4
  · obtain ⟨L1, g⟩ := f3 c
    obtain ⟨h', sts, sm, e1, e2, e3⟩ := record_eq z.2.2.2.1 z.2.1 z.1 z.2.2.1
    have R := z.rec' e3
    obtain ⟨a, v1, w1, x1, x2, x3⟩ := race_L gas 0 _ _ r (by omega) (by show L < 0 + 1000000; omega) R ⟨l1, l2, l3, fun i hi => ⟨l4 i hi, by
      have := g i hi
      unfold gd7 at this
      rw [if_neg (by decide)] at this
      exact this⟩⟩
    exact ⟨a, v1, w1, bnd f1 (ift c (bnd e1 x1)), bnd f2 (ift c (bnd e2 x2)), x3⟩
  · exact ⟨-2, v, _, bnd f1 (iff' c rfl), bnd f2 (iff' c rfl), r, z⟩

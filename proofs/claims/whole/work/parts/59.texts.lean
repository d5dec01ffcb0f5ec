/-! texts: append, clear, fault, road -/
theorem sim_append_ok : sim_append Rel := by
  intro v w p hR
  obtain ⟨r, h⟩ := hR
  have z := h.z
  obtain ⟨h1, h2, h3, h4, h5, ⟨L, l1, l2, l3, l4⟩, h7, h8, h9⟩ := z
  unfold f_X6_append f_X7_append
  by_cases c1 : p < (33 : Int32)
  · exact ⟨-1, v, _, ift c1 rfl, bnd (in7_1 c1) (ift rfl rfl), r, h.z⟩
  · by_cases c2 : p ≤ (126 : Int32)
    · have i1 := in7_3 c1 (fun e => nle_lt.mpr e c2)
      have l2' : v.2.2.2.2.1.2 = nI L := l2
      by_cases c3 : L = 60
      · subst c3
        refine ⟨-3, v, _, iff' c1 (ift c2 (bnd (show f_X1_isFull v.2.2.2.2.1 = some 1 from ?_) (iff' (by decide) rfl))), bnd i1 (iff' (by decide) (ift l3 rfl)), r, h.z⟩
        exact iff' (by rw [l2']; decide) rfl
      · have full : f_X1_isFull v.2.2.2.2.1 = some 0 := ift (by rw [l2']; exact nI_lt (a := L) (b := 60) (by omega) (by omega)) rfl
        have add : f_X1_add v.2.2.2.2.1 p = some (nI (L + 1), (upd v.2.2.2.2.1.1 L p, nI (L + 1))) := by
          unfold f_X1_add
          rw [l2', nI_1]
          exact bnd (put_in _ _ (by omega) (by omega)) rfl
        have l3' : w.2.2.2.2.2.2.2.2.1 = nI L := l3
        refine ⟨nI (L + 1), (v.1, v.2.1, v.2.2.1, v.2.2.2.1, (upd v.2.2.2.2.1.1 L p, nI (L + 1)), v.2.2.2.2.2), ((0 : Int32), w.2.1, w.2.2.1, w.2.2.2.1, w.2.2.2.2.1, w.2.2.2.2.2.1, w.2.2.2.2.2.2.1, upd w.2.2.2.2.2.2.2.1 L p, nI (L + 1), w.2.2.2.2.2.2.2.2.2), iff' c1 (ift c2 (bnd full (ift rfl (bnd add rfl)))), bnd i1 (iff' (by decide) (iff' (by rw [l3']; exact fun e => c3 ((nI_eq (b := 60) (by omega) (by omega)).mp e)) (ift (by rw [l3']; exact ig_t (by omega) (by omega)) ?_))), r, ?_⟩
        · rw [l3', nI_1, nI_clamp (by omega)]
        · refine ⟨h1, h2, h3, h4, h5, ⟨L + 1, by omega, rfl, rfl, fun i hi => ?_⟩, h7, h8, h9⟩
          show upd v.2.2.2.2.1.1 L p i = upd w.2.2.2.2.2.2.2.1 L p i
          by_cases e : i = L
          · subst e; rw [upd_s, upd_s]
          · rw [upd_n e, upd_n e]; exact l4 i (by omega)
    · exact ⟨-1, v, _, iff' c1 (iff' c2 rfl), bnd (in7_2 c1 (nle_lt.mp c2)) (ift rfl rfl), r, h.z⟩
theorem sim_clear_ok : sim_clear Rel := by
  intro v w hR
  obtain ⟨r, h⟩ := hR
  obtain ⟨h1, h2, h3, h4, h5, ⟨L, l1, l2, l3, l4⟩, h7, h8, h9⟩ := h.z
  unfold f_X6_clear f_X7_clear f_X1_empty
  have l2' : v.2.2.2.2.1.2 = nI L := l2
  have l3' : w.2.2.2.2.2.2.2.2.1 = nI L := l3
  refine ⟨nI L, (v.1, v.2.1, v.2.2.1, v.2.2.2.1, (v.2.2.2.2.1.1, 0), v.2.2.2.2.2), ((0 : Int32), w.2.1, w.2.2.1, w.2.2.2.1, w.2.2.2.2.1, w.2.2.2.2.2.1, w.2.2.2.2.2.2.1, w.2.2.2.2.2.2.2.1, 0, w.2.2.2.2.2.2.2.2.2), ?_, ?_, r, ?_⟩
  · exact bnd rfl (by rw [l2'])
  · rw [l3']
  · exact ⟨h1, h2, h3, h4, h5, ⟨0, by omega, rfl, rfl, fun i hi => by omega⟩, h7, h8, h9⟩
theorem fault_J46 {v : tX1} {k k' : Int32 → Int32 → Option Int32} {l1 l2 k0 x : Int32} (hk : ∀ a b y, k a b = some y → k' a b = some y) (h : f_X1_firstFault_J46 v k l1 l2 k0 = some x) : f_X1_firstFault_J46 v k' l1 l2 k0 = some x := by
  unfold f_X1_firstFault_J46 at h ⊢
  by_cases c : k0 = 0
  · rw [if_pos c] at h ⊢; exact h
  · rw [if_neg c] at h ⊢; exact hk _ _ _ h
theorem fault_mono (v : tX1) : ∀ (n : Nat) (l1 i x : Int32), f_X1_firstFault_L2 v n l1 i = some x → f_X1_firstFault_L2 v (n + 1) l1 i = some x := by
  intro n
  induction n with
  | zero => intro l1 i x h; rw [f_X1_firstFault_L2] at h; exact absurd h (by simp)
  | succ n ih =>
    intro l1 i x h
    rw [f_X1_firstFault_L2] at h ⊢
    by_cases c1 : v.2 ≤ i
    · rw [if_pos c1] at h ⊢; exact h
    · rw [if_neg c1] at h ⊢
      rcases e : f_X1_signAt v i with _ | x0
      · rw [e] at h; exact absurd h (by simp)
      · rw [e, Option.bind_some] at h
        rw [Option.bind_some]
        by_cases c2 : l1 = 0
        · rw [if_pos c2] at h ⊢
          by_cases c3 : (14 : Int32) ≤ i
          · rw [if_pos c3] at h ⊢
            unfold f_X1_firstFault_J38 at h ⊢
            exact fault_J46 ih h
          · rw [if_neg c3] at h ⊢
            rcases e2 : f_X1_kindMeant x0 with _ | x2
            · rw [e2] at h; exact absurd h (by simp)
            · rw [e2, Option.bind_some] at h
              rw [Option.bind_some]
              by_cases c4 : x2 = (-1 : Int32)
              · rw [if_pos c4] at h ⊢
                unfold f_X1_firstFault_J38 at h ⊢
                exact fault_J46 ih h
              · rw [if_neg c4] at h ⊢
                exact fault_J46 ih h
        · rw [if_neg c2] at h ⊢
          rcases e2 : f_X1_isTurn x0 with _ | x2
          · rw [e2] at h; exact absurd h (by simp)
          · rw [e2, Option.bind_some] at h
            rw [Option.bind_some]
            exact fault_J46 ih h
theorem in01 {p : Int32} (c0 : ¬ p = 0) (c1 : ¬ p = 1) : f_X7_in p (0 : Int32) (1 : Int32) = some 0 := by
  by_cases a : p < 0
  · exact in7_1 a
  · refine in7_2 a ?_
    by_cases b : (1 : Int32) < p
    · exact b
    · obtain ⟨t, rfl, t1, t2⟩ := rng (a := 0) (b := 1) (by omega) (by omega) a (nlt_le.mp b)
      rcases (show t = 0 ∨ t = 1 by omega) with e | e
      · subst e; exact absurd rfl c0
      · subst e; exact absurd rfl c1
theorem okR_begin2 {r : RcS} (h1 : 1 ≤ rM r) (h2 : rM r ≤ 14) (h3 : ∀ i, 1 ≤ i → i ≤ rM r → rK r i ≤ 3) (h4 : 1 ≤ rPc r) (h5 : rPc r ≤ 4) (h6 : 1 ≤ rSp r) (h7 : rSp r ≤ 3) : okR (sBegin r) :=
  ⟨h1, h2, h3, h4, h5, h6, h7, Nat.zero_le _, fun j _ => ⟨Nat.zero_le _, Nat.le_refl 1, Nat.zero_le _⟩, Or.inl ⟨rfl, Nat.zero_le _, Nat.zero_le _, Or.inr rfl⟩⟩
theorem fault_both {v : tX6} {w : tX7} {r : RcS} (h : RelR v w r) (way : Int32) : ∃ x L, L ≤ 60 ∧ (vP v).2 = nI L ∧ w_ln w = nI L ∧ (∀ i, i < L → (vP v).1 i = w_pd w i) ∧ f_X1_firstFault (vP v) way = some x ∧ f_X7_faultOf w way = some x ∧ (x = -4 → 1 ≤ L ∧ ∀ j, j < L → gd7 way j ((vP v).1 j)) := by
  obtain ⟨L, l1, l2, l3, l4⟩ := h.2.2.2.2.2.1
  obtain ⟨x, f1, f2, f3⟩ := fault_L (l1 := way) l1 l2 l3 l4 999999 0 (by omega) (by omega)
  exact ⟨x, L, l1, l2, l3, l4, fault_mono (vP v) 999999 way (nI 0) x f1, f2, fun e => ⟨(f3 e).1, fun j hj => (f3 e).2 j (by omega) hj⟩⟩
theorem sim_fault_ok : sim_fault Rel := by
  intro v w p hR
  obtain ⟨r, h⟩ := hR
  obtain ⟨x, L, l1, l2, l3, l4, f1, f2, f3⟩ := fault_both h.z p
  unfold f_X6_fault f_X7_fault f_X6_fault_J11
  by_cases c0 : p = 0
  · subst c0
    exact ⟨x, _, ift rfl (bnd f1 rfl), bnd (show f_X7_in 0 (0 : Int32) (1 : Int32) = some 1 by decide) (iff' (by decide) (bnd f2 rfl)), r, h.z⟩
  · by_cases c1 : p = 1
    · subst c1
      exact ⟨x, _, iff' c0 (ift rfl (bnd f1 rfl)), bnd (show f_X7_in 1 (0 : Int32) (1 : Int32) = some 1 by decide) (iff' (by decide) (bnd f2 rfl)), r, h.z⟩
    · exact ⟨-1, _, iff' c0 (iff' c1 rfl), bnd (in01 c0 c1) (ift rfl rfl), r, h.z⟩
theorem sim_road_ok : sim_road Rel := by
  intro v w hR
  obtain ⟨r, h⟩ := hR
  have z := h.z
  obtain ⟨x, L, l1, l2, l3, l4, f1, f2, f3⟩ := fault_both z (0 : Int32)
  unfold f_X6_road f_X7_road
  by_cases c : x = -4
  · obtain ⟨L1, g⟩ := f3 c
    have g14 : ∀ j, j < L → j < 14 ∧ vk ((vP v).1 j) := fun j hj => by
      have := g j hj
      unfold gd7 at this
      rw [if_pos rfl] at this
      exact this
    have L14 : L ≤ 14 := by
      have := (g14 (L - 1) (by omega)).1
      omega
    obtain ⟨h', sts, sm, e1, e2, e3⟩ := record_eq z.2.2.2.1 z.2.1 z.1 z.2.2.1
    obtain ⟨y, y1, y2⟩ := layOut_eq (v := vP v) (v1 := v.1.1) L1 L14 l2 (fun j hj => (g14 j hj).2)
    have ok := h.1
    have cr := h.2.1
    have mr := h.2.2.1
    obtain ⟨b, b1, b2, b3⟩ := CR_begin (v := (y, v.1.2)) (r := (L, (fun i => kdn ((vP v).1 (i - 1))), r.2.2)) y2 cr.2.2.2.1 cr.2.2.2.2.1 cr.2.2.2.2.2.2.2.2.1 cr.2.2.2.2.2.2.2.2.2.1 cr.2.2.2.2.2.2.2.2.2.2
    have gw : ∀ j, j < L → vk (w_pd w j) := fun j hj => by
      have := (g14 j hj).2
      rw [l4 j hj] at this
      exact this
    have rd := road_L34 (L := L) (p := w_pd w) (g := upd w.2.1 2 (nI L)) L14 gw gas 0 (stX (stH ((0 : Int32), w.2) sts sm) (upd w.2.1 2 (nI L))) (by omega) (by show 14 < 0 + 1000000; omega) l3 rfl (ovo_0).symm
    have lo : ∀ i, (i < 3 ∨ 17 ≤ i) → ovo 3 14 (laid L (w_pd w)) (upd w.2.1 2 (nI L)) i = upd w.2.1 2 (nI L) i := fun i hi => ovo_out (by omega)
    have hi : ∀ i, i < 14 → ovo 3 14 (laid L (w_pd w)) (upd w.2.1 2 (nI L)) (3 + i) = laid L (w_pd w) i := fun i hi => ovo_in hi
    have mb := MR_begin (s := ovo 3 14 (laid L (w_pd w)) (upd w.2.1 2 (nI L))) (r := (L, (fun i => kdn ((vP v).1 (i - 1))), r.2.2)) L14
      ((lo 0 (by omega)).trans ((upd_n (by omega)).trans mr.1)) ((lo 1 (by omega)).trans ((upd_n (by omega)).trans mr.2.1)) ((lo 2 (by omega)).trans upd_s)
      (fun i a b => by
        have b' : i ≤ L := b
        rw [show 2 + i = 3 + (i - 1) by omega, hi (i - 1) (by omega)]
        unfold laid
        rw [if_pos (by omega), ← l4 (i - 1) (by omega)])
      ((lo 19 (by omega)).trans ((upd_n (by omega)).trans mr.2.2.2.2.2.2.1)) ((lo 20 (by omega)).trans ((upd_n (by omega)).trans mr.2.2.2.2.2.2.2.1)) ((lo 21 (by omega)).trans ((upd_n (by omega)).trans mr.2.2.2.2.2.2.2.2.1))
    refine ⟨nI L, (b, v.2.1, v.2.2.1, h', ((vP v).1, 0), v.2.2.2.2.2), stR (stX (stH ((0 : Int32), w.2) sts sm) (upd w.2.1 2 (nI L))) (beS (ovo 3 14 (laid L (w_pd w)) (upd w.2.1 2 (nI L)))), bnd f1 (ift c (bnd e1 (bnd y1 (bnd rfl (bnd b1 ?_))))), bnd f2 (ift c (bnd e2 ?_)), sBegin (L, (fun i => kdn ((vP v).1 (i - 1))), r.2.2), ?_⟩
    · rw [b3]
    · refine Eq.trans ?_ (rd.trans ?_)
      · show f_X7_road_L34 gas (nI 0) (stX (stH ((0 : Int32), w.2) sts sm) (upd w.2.1 2 (w_ln w))) = _
        rw [show w_ln w = nI L from l3]
      · rw [show beS (ovo 3 14 (laid L (w_pd w)) (upd w.2.1 2 (nI L))) 2 = nI L from mb.2.2.1]
    · obtain ⟨h1, h2, h3, h4, h5, h6, h7, h8, h9⟩ := z
      obtain ⟨o1, o2, o3, o4, o5, o6, o7, o8⟩ := h1
      refine ⟨okR_begin2 L1 L14 (fun i _ _ => kdn_le _) o4 o5 o6 o7, b2, mb, e3, h5, ⟨0, by omega, rfl, rfl, fun i hi => by omega⟩, h7, h8, Or.inl rfl⟩
  · exact ⟨-2, v, _, bnd f1 (iff' c rfl), bnd f2 (iff' c rfl), r, z⟩

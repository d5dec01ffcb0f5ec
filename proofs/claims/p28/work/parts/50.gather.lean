/-! the class's sweeps: gathering -/
def cP (m s : Nat) : Nat := if s ≤ m then s + 1 else 2 * m + 1 - s
def cC (m : Nat) : Nat → Nat
  | 0 => 0
  | s + 1 => cC m s + cP m s
theorem cC_ok : ∀ m, m < 15 → ∀ s, s < 29 → 64 * cC m s + 63 * cP m s + 15 < 16384 := by decide +kernel
def pos (s d o : Nat) : Nat := (s * 64 + d) * 16 + o
def cn (m s d o : Nat) : Nat := 64 * cC m s + d * cP m s + (o - (s - m))
theorem key3 {a b c a' b' c' : Nat} (h1 : c < 16) (h2 : c' < 16) (h3 : b < 64) (h4 : b' < 64) (e : (a * 64 + b) * 16 + c = (a' * 64 + b') * 16 + c') : a = a' ∧ b = b' ∧ c = c' := by
  have e1 : a * 64 + b = a' * 64 + b' := by omega
  omega
theorem key4 {a b c s d o : Nat} (h1 : c < 16) (h3 : b < 64) (h4 : d < 64) (l : (s * 64 + d) * 16 + o ≤ (a * 64 + b) * 16 + c) (u : (a * 64 + b) * 16 + c < (s * 64 + (d + 1)) * 16) : a = s ∧ o ≤ c := by
  have e1 : a * 64 + b ≤ s * 64 + d := by omega
  have e2 : s * 64 + d ≤ a * 64 + b := by omega
  have e3 : a * 64 + b = s * 64 + d := by omega
  constructor
  · omega
  · rw [e3] at l; omega
theorem kap_inj {n n' : Nat} (h : n < 16384) (h' : n' < 16384) (e : kap n = kap n') : n = n' := by
  have h1 := jT_ok (n % 64) (by omega)
  have h2 := jT_ok (n' % 64) (by omega)
  have q1 := q_lt n
  have q2 := q_lt n'
  have e1 := of_tail h
  have e2 := of_tail h'
  unfold kap at e
  obtain ⟨x, y, z⟩ := key3 q1.1 q2.1 (show 63 - jT (n % 64) < 64 by omega) (show 63 - jT (n' % 64) < 64 by omega) e
  have ej : jT (n % 64) = jT (n' % 64) := by
    have := h1.1
    have := h2.1
    omega
  have et : n % 64 = n' % 64 := by rw [← h1.2, ← h2.2, ej]
  rw [e1, e2, et, z, show qP n = qP n' by omega]
theorem kap_row {n s d o : Nat} (hd : d ≤ 63) (l : pos s d o ≤ kap n) (u : kap n < pos s (d + 1) 0) : qO n + qP n = s ∧ o ≤ qO n := by
  have h1 := (jT_ok (n % 64) (by omega)).1
  have q1 := (q_lt n).1
  unfold pos at l u
  unfold kap at l u
  exact key4 q1 (show 63 - jT (n % 64) < 64 by omega) (by omega) l (by omega)
def GV (m : Nat) (K : Nat → Nat) (pc sp r : Nat) (k c : Nat) (sw ga : Nat → Int32) (ri : Nat) : Prop := GI m K pc sp sw ∧ ri ≤ c ∧ sw r ≠ 0 ∧ ∃ X : Nat → Nat, (∀ j, j < ri → ga j = nI (X j) ∧ vld m (X j) ∧ kap (X j) < k ∧ sw (X j) = nI 1000 ∧ ∀ t n', t < 6 → posT pc (X j) t → nxt m K sp (X j) t = some n' → sw n' ≠ 0) ∧ (∀ i j, i < j → j < ri → kap (X i) < kap (X j)) ∧ ∀ n, vld m n → sw n = nI 1000 → k ≤ kap n ∨ ∃ j, j < ri ∧ X j = n
section GA1
variable {m : Nat} {K : Nat → Nat} {pc sp r : Nat}
theorem GV_skip {k c k' c' : Nat} {sw ga : Nat → Int32} {ri : Nat} (h : GV m K pc sp r k c sw ga ri) (h1 : k ≤ k') (h2 : c ≤ c') (h3 : ∀ n, vld m n → sw n = nI 1000 → k ≤ kap n → k' ≤ kap n) : GV m K pc sp r k' c' sw ga ri := by
  obtain ⟨g1, g2, g3, X, x1, x2, x3⟩ := h
  refine ⟨g1, by omega, g3, X, fun j hj => ?_, x2, fun n hn hs => ?_⟩
  · obtain ⟨a, b, d, e, f⟩ := x1 j hj
    exact ⟨a, b, by omega, e, f⟩
  · rcases x3 n hn hs with q | q
    · exact Or.inl (h3 n hn hs q)
    · exact Or.inr q
theorem GV_put {k c : Nat} {sw sw' ga : Nat → Int32} {ri n : Nat} (h : GV m K pc sp r k c sw ga ri) (hv : vld m n) (hk : kap n = k) (hs : sw n = nI 1000) (hm : MK m K pc sp n sw sw' 6) : GV m K pc sp r (k + 1) (c + 1) sw' (upd ga ri (nI n)) (ri + 1) := by
  obtain ⟨g1, g2, g3, X, x1, x2, x3⟩ := h
  obtain ⟨m1, m2, m3, m4⟩ := hm
  have tz : (nI 1000 : Int32) ≠ 0 := by decide
  have hX : ∀ j, j < ri → (if j = ri then n else X j) = X j := fun j hj => if_neg (by omega)
  have hXr : (if ri = ri then n else X ri) = n := if_pos rfl
  refine ⟨m1, by omega, by rw [m2 r g3]; exact g3, fun j => if j = ri then n else X j, fun j hj => ?_, fun i j hi hj => ?_, fun x hx hs' => ?_⟩
  · dsimp only
    by_cases e : j = ri
    · subst e
      rw [hXr]
      exact ⟨upd_s, hv, by omega, by rw [m2 n (by rw [hs]; exact tz)]; exact hs, m4⟩
    · rw [hX j (by omega)]
      obtain ⟨a, b, d, e', f⟩ := x1 j (by omega)
      refine ⟨by rw [upd_n e]; exact a, b, by omega, by rw [m2 _ (by rw [e']; exact tz)]; exact e', fun t n' p q w => ?_⟩
      have := f t n' p q w
      rw [m2 n' this]; exact this
  · dsimp only
    rw [hX i (by omega)]
    by_cases e : j = ri
    · subst e
      rw [hXr]
      have := (x1 i hi).2.2.1
      omega
    · rw [hX j (by omega)]; exact x2 i j hi (by omega)
  · rcases m3 x hx.1 with q | ⟨q, w⟩
    · rcases x3 x hx (by rw [← q]; exact hs') with a | ⟨j, a, b⟩
      · by_cases e : kap x = k
        · have : x = n := kap_inj hx.1 hv.1 (by omega)
          subst this
          exact Or.inr ⟨ri, by omega, hXr⟩
        · exact Or.inl (by omega)
      · exact Or.inr ⟨j, by omega, by dsimp only; rw [hX j a]; exact b⟩
    · exact Or.inl (by omega)
def GQ (m : Nat) (K : Nat → Nat) (pc sp r : Nat) (v : tX5) (o : Option tX5) : Prop := ∃ sw ga ri, o = some (stG v sw ga (nI ri)) ∧ ri < 16384 ∧ GV m K pc sp r ((2 * m + 1) * 1024) ri sw ga ri
theorem gather_L41 {k18 : Int32 → tX5 → Option tX5} {k34 : Int32 → Int32 → tX5 → Option tX5} {v : tX5} (h : TW v m K pc sp) (hT : TT v) {s d : Nat} (hs : s ≤ 2 * m) (hd : d ≤ 63) (hk : ∀ sw ga ri, GV m K pc sp r (pos s (d + 1) 0) (cn m s (d + 1) 0) sw ga ri → GQ m K pc sp r v (k34 (nI s) (nI (63 - d) + (-1 : Int32)) (stG v sw ga (nI ri)))) : ∀ (f o : Nat) (sw ga : Nat → Int32) (ri : Nat), o ≤ m + 1 → o ≤ s + 1 → m + 1 < o + f → GV m K pc sp r (pos s d o) (cn m s d o) sw ga ri → GQ m K pc sp r v (f_X5_gather_L41 k18 k34 f (nI s) (nI (63 - d)) (nI o) (stG v sw ga (nI ri))) := by
  have hm := h.m14
  have e0 : v.1.2 = nI m := h.1.1
  have hb := cC_ok m (by omega) s (by omega)
  have hmul : d * cP m s ≤ 63 * cP m s := Nat.mul_le_mul_right _ hd
  have hsu : (d + 1) * cP m s = d * cP m s + cP m s := Nat.succ_mul _ _
  have hz := ordT_ok (63 - d) (by omega)
  intro f
  induction f with
  | zero => intro o sw ga ri a b c; omega
  | succ f ih =>
    intro o sw ga ri a b c hg
    rw [f_X5_gather_L41]
    have fin : (m < o ∨ s < o) → GQ m K pc sp r v (f_X5_gather_J150 k18 k34 (nI s) (nI (63 - d)) (stG v sw ga (nI ri))) := by
      intro q
      refine hk sw ga ri (GV_skip hg (by unfold pos; omega) ?_ ?_)
      · unfold cn; rw [hsu]; unfold cP; by_cases c : s ≤ m
        · rw [if_pos c]; omega
        · rw [if_neg c]; omega
      · intro n hn _ hp
        obtain ⟨n1, n2, n3, -⟩ := hn
        by_cases z : pos s (d + 1) 0 ≤ kap n
        · exact z
        · have := kap_row hd hp (by omega)
          omega
    by_cases c1 : m < o
    · exact (ift (show (stG v sw ga (nI ri)).1.2 < nI o by show v.1.2 < nI o; rw [e0]; exact nI_lt c1 (by omega)) rfl) ▸ fin (Or.inl c1)
    · by_cases c2 : s < o
      · exact (iff' (show ¬ (stG v sw ga (nI ri)).1.2 < nI o by show ¬ v.1.2 < nI o; rw [e0]; exact nI_nlt (by omega) (by omega)) (ift (nI_lt c2 (by omega)) rfl)) ▸ fin (Or.inr c2)
      · have n1 : ¬ (stG v sw ga (nI ri)).1.2 < nI o := by show ¬ v.1.2 < nI o; rw [e0]; exact nI_nlt (by omega) (by omega)
        have n2 : ¬ nI s < nI o := nI_nlt (by omega) (by omega)
        have a1 : f_X6_at 64 (stG v sw ga (nI ri)).2.2.1 (nI (63 - d)) = some (nI (ordT (63 - d))) := by
          rw [at_in _ (show 63 - d < 64 by omega) (by omega)]
          exact congrArg some (hT (63 - d) (by omega))
        rw [if_neg n1, if_neg n2, a1, Option.bind_some, nI_sub (show o ≤ s by omega)]
        by_cases c3 : m < s - o
        · rw [if_pos (show (stG v sw ga (nI ri)).1.2 < nI (s - o) by show v.1.2 < _; rw [e0]; exact nI_lt c3 (by omega))]
          unfold f_X5_gather_J144
          rw [nI_1]
          refine ih (o + 1) sw ga ri (by omega) (by omega) (by omega) (GV_skip hg (by unfold pos; omega) (by unfold cn; omega) ?_)
          intro n hn _ hp
          obtain ⟨q1, q2, q3, -⟩ := hn
          by_cases z : pos s d (o + 1) ≤ kap n
          · exact z
          · have hx : kap n = pos s d o := by unfold pos at *; omega
            have h1 := (jT_ok (n % 64) (by omega)).1
            have q4 := (q_lt n).1
            unfold kap pos at hx
            have := key3 q4 (show o < 16 by omega) (show 63 - jT (n % 64) < 64 by omega) (show d < 64 by omega) hx
            omega
        · rw [if_neg (show ¬ (stG v sw ga (nI ri)).1.2 < nI (s - o) by show ¬ v.1.2 < _; rw [e0]; exact nI_nlt (by omega) (by omega)), bit_tail (by omega) (by omega) hz.1]
          obtain ⟨t1, t2, t3, t4⟩ := q_tail (o := o) (p := s - o) (t := ordT (63 - d)) (by omega) (by omega) hz.1
          generalize hn : o * 1024 + (s - o) * 64 + ordT (63 - d) = n at *
          have kn : kap n = pos s d o := by
            unfold kap pos
            rw [t2, t3, t4, hz.2, show o + (s - o) = s by omega, show 63 - (63 - d) = d by omega]
          have a2 : f_X6_at 16384 (stG v sw ga (nI ri)).2.2.2.2.1 (nI n) = some (sw n) := at_in sw t1 (by omega)
          rw [a2, Option.bind_some]
          by_cases c4 : sw n = nI 1000
          · have hv : vld m n := by
              rcases hg.1 n t1 with q | q
              · rw [c4] at q; exact absurd q (by decide)
              · exact q.1
            have hri : ri < 16384 := by
              have := hg.2.1
              unfold cn at this
              omega
            obtain ⟨s2, r1, r2⟩ := guess_eq (ga := upd ga ri (nI n)) (ri := nI (ri + 1)) h hv hg.1
            rw [if_pos (show sw n = (1000 : Int32) from c4)]
            have a3 : f_X6_put 16384 (stG v sw ga (nI ri)).2.2.2.2.2.1 (stG v sw ga (nI ri)).2.2.2.2.2.2.1 (nI n) = some (upd ga ri (nI n)) := put_in ga _ hri (by omega)
            rw [a3, Option.bind_some]
            have r1' : f_X5_guessAllAfter ((stG v sw ga (nI ri)).1, (stG v sw ga (nI ri)).2.1, (stG v sw ga (nI ri)).2.2.1, (stG v sw ga (nI ri)).2.2.2.1, (stG v sw ga (nI ri)).2.2.2.2.1, upd ga ri (nI n), ((stG v sw ga (nI ri)).2.2.2.2.2.2.1 + (1 : Int32)), (stG v sw ga (nI ri)).2.2.2.2.2.2.2.1, (stG v sw ga (nI ri)).2.2.2.2.2.2.2.2) (nI n) = some (stG v s2 (upd ga ri (nI n)) (nI (ri + 1))) := by
              rw [← r1, ← nI_1 ri]
            rw [r1', Option.bind_some]
            unfold f_X5_gather_J144
            rw [nI_1]
            have := GV_put hg hv kn c4 r2
            exact ih (o + 1) s2 _ (ri + 1) (by omega) (by omega) (by omega) (GV_skip this (by unfold pos; omega) (by unfold cn; omega) (fun x _ _ hx => by unfold pos at *; omega))
          · rw [if_neg (show ¬ sw n = (1000 : Int32) from c4)]
            unfold f_X5_gather_J144
            rw [nI_1]
            refine ih (o + 1) sw ga ri (by omega) (by omega) (by omega) (GV_skip hg (by unfold pos; omega) (by unfold cn; omega) ?_)
            intro x hx hx0 hp
            by_cases q : kap x = pos s d o
            · have : x = n := kap_inj hx.1 t1 (by omega)
              subst this
              exact absurd hx0 c4
            · unfold pos at *; omega
theorem nI_dn {i : Nat} (h : 1 ≤ i) : nI i + (-1 : Int32) = nI (i - 1) := by
  have := nI_sub (a := i) (b := 1) h
  rw [← this, Int32.sub_eq_add_neg]
  rfl
theorem gather_L34 {k18 : Int32 → tX5 → Option tX5} {v : tX5} (h : TW v m K pc sp) (hT : TT v) {s : Nat} (hs : s ≤ 2 * m) (hk : ∀ sw ga ri, GV m K pc sp r (pos (s + 1) 0 0) (cn m (s + 1) 0 0) sw ga ri → GQ m K pc sp r v (k18 (nI s + (1 : Int32)) (stG v sw ga (nI ri)))) : ∀ (f d : Nat) (sw ga : Nat → Int32) (ri : Nat), d ≤ 64 → 64 < d + f → GV m K pc sp r (pos s d 0) (cn m s d 0) sw ga ri → GQ m K pc sp r v (f_X5_gather_L34 k18 f (nI s) (nI (64 - d) + (-1 : Int32)) (stG v sw ga (nI ri))) := by
  have hm := h.m14
  intro f
  induction f with
  | zero => intro d sw ga ri a b; omega
  | succ f ih =>
    intro d sw ga ri a b hg
    rw [f_X5_gather_L34]
    by_cases c : d = 64
    · subst c
      rw [if_pos (by decide)]
      refine hk sw ga ri (GV_skip hg (by unfold pos; omega) ?_ (fun n hn _ hp => by unfold pos at *; omega))
      unfold cn
      rw [cC]
      omega
    · have e : nI (64 - d) + (-1 : Int32) = nI (63 - d) := by rw [nI_dn (by omega), show 64 - d - 1 = 63 - d by omega]
      rw [e, if_neg (nI_pos (by omega))]
      refine gather_L41 h hT hs (by omega) (fun sw' ga' ri' hg' => ?_) gas 0 sw ga ri (by omega) (by omega) (by show m + 1 < 0 + 1000000; omega) hg
      have := ih (d + 1) sw' ga' ri' (by omega) (by omega) hg'
      rw [show 64 - (d + 1) = 63 - d by omega] at this
      exact this
theorem gather_L18 {v : tX5} (h : TW v m K pc sp) (hT : TT v) : ∀ (f s : Nat) (sw ga : Nat → Int32) (ri : Nat), s ≤ 2 * m + 1 → 2 * m + 1 < s + f → GV m K pc sp r (pos s 0 0) (cn m s 0 0) sw ga ri → GQ m K pc sp r v (f_X5_gather_L18 f (nI s) (stG v sw ga (nI ri))) := by
  have hm := h.m14
  have e0 : v.1.2 = nI m := h.1.1
  intro f
  induction f with
  | zero => intro s sw ga ri a b; omega
  | succ f ih =>
    intro s sw ga ri a b hg
    rw [f_X5_gather_L18]
    have e1 : (2 : Int32) * (stG v sw ga (nI ri)).1.2 = nI (2 * m) := by show nI 2 * v.1.2 = _; rw [e0, nI_mul]
    rw [e1]
    by_cases c : s = 2 * m + 1
    · subst c
      rw [if_pos (nI_lt (by omega) (by omega))]
      have hr : ri < 16384 := by
        have h1 := cC_ok m (by omega) (2 * m) (by omega)
        have := hg.2.1
        unfold cn at this
        rw [cC] at this
        have : cP m (2 * m) = 1 := by
          unfold cP
          by_cases c : 2 * m ≤ m
          · rw [if_pos c]; omega
          · rw [if_neg c]; omega
        omega
      refine ⟨sw, ga, ri, rfl, hr, ?_⟩
      obtain ⟨g1, g2, g3, g4⟩ := hg
      have : pos (2 * m + 1) 0 0 = (2 * m + 1) * 1024 := by unfold pos; omega
      rw [this] at g4
      exact ⟨g1, Nat.le_refl _, g3, g4⟩
    · rw [if_neg (nI_nlt (by omega) (by omega))]
      have := gather_L34 (k18 := f_X5_gather_L18 f) h hT (show s ≤ 2 * m by omega) (fun sw' ga' ri' hg' => by rw [nI_1]; exact ih (s + 1) sw' ga' ri' (by omega) (by omega) hg') gas 0 sw ga ri (by omega) (by show 64 < 0 + 1000000; omega) hg
      have e2 : nI (64 - 0) + (-1 : Int32) = (63 : Int32) := by decide
      rw [e2] at this
      exact this
theorem gather_eq {v : tX5} (h : TW v m K pc sp) (hT : TT v) (hS : SI m K pc sp (tSW v)) {n : Nat} (hv : vld m n) : GQ m K pc sp n v (f_X5_gather v (nI n)) := by
  have hn : n < 16384 := hv.1
  unfold f_X5_gather
  rw [put_in (tSW v) _ hn (by omega), Option.bind_some]
  refine gather_L18 (r := n) h hT gas 0 (upd (tSW v) n (nI 1000)) v.2.2.2.2.2.1 0 (by omega) (by show 2 * m + 1 < 0 + 1000000; have := h.m14; omega) ?_
  refine ⟨fun x hx => ?_, by omega, by rw [upd_s]; decide, fun _ => 0, fun j hj => by omega, fun i j _ hj => by omega, fun x hx _ => Or.inl (by unfold pos; omega)⟩
  by_cases e : x = n
  · subst e; exact Or.inr ⟨hv, Or.inr upd_s⟩
  · rw [upd_n e]
    rcases hS x hx with q | ⟨q1, q2⟩
    · exact Or.inl q
    · exact Or.inr ⟨q1, Or.inl q2⟩
end GA1

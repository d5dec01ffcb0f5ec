/-! the class's sweeps: the order of the list -/
abbrev tSW (v : tX5) : Nat → Int32 := v.2.2.2.2.1
abbrev stG (v : tX5) (sw ga : Nat → Int32) (ri : Int32) : tX5 := (v.1, v.2.1, v.2.2.1, v.2.2.2.1, sw, ga, ri, v.2.2.2.2.2.2.2.1, v.2.2.2.2.2.2.2.2)
def kap (n : Nat) : Nat := ((qO n + qP n) * 64 + (63 - jT (n % 64))) * 16 + qO n
theorem q64 (n : Nat) : qT n = n % 64 / 32 % 2 ∧ qU n = n % 64 / 16 % 2 ∧ qL n = n % 64 / 4 % 4 ∧ qM n = n % 64 % 4 := by
  unfold qT qU qL qM; omega
theorem kap_up {n n' : Nat} (h : qO n + qP n < qO n' + qP n') : kap n < kap n' := by
  have h1 := (jT_ok (n % 64) (by omega)).1
  have h2 := (jT_ok (n' % 64) (by omega)).1
  have := q_lt n
  have := q_lt n'
  unfold kap
  omega
theorem kap_same {n n' : Nat} (h : qO n + qP n = qO n' + qP n') (hl : qT n' + qU n' < qT n + qU n ∨ (qT n' + qU n' = qT n + qU n ∧ qL n' + qM n' < qL n + qM n)) : kap n < kap n' := by
  obtain ⟨a1, a2, a3, a4⟩ := q64 n
  obtain ⟨b1, b2, b3, b4⟩ := q64 n'
  have h1 := (jT_ok (n % 64) (by omega)).1
  have h2 := (jT_ok (n' % 64) (by omega)).1
  have h3 := jT_lt (n' % 64) (by omega) (n % 64) (by omega) (by rw [← a1, ← a2, ← a3, ← a4, ← b1, ← b2, ← b3, ← b4]; exact hl)
  have := q_lt n
  have := q_lt n'
  unfold kap
  omega
theorem kap_child {m n t n' : Nat} {K : Nat → Nat} {pc sp : Nat} (hm : m ≤ 14) (hv : vld m n) (hp : posT pc n t) (h : nxt m K sp n t = some n') : kap n < kap n' := by
  obtain ⟨h1, h2, h3, h4⟩ := hv
  obtain ⟨b1, b2, b3, b4, b5, b6⟩ := q_lt n
  unfold nxt at h
  unfold posT at hp
  by_cases c0 : t = 0
  · rw [if_pos c0] at h hp
    have e := (Option.some.inj h).symm
    subst e
    obtain ⟨e1, e2, e3, e4, e5, e6⟩ := nxL_q hp
    exact kap_same (by omega) (Or.inr ⟨by omega, by omega⟩)
  · rw [if_neg c0] at h hp
    by_cases c5 : t = 5
    · rw [if_pos c5] at h hp
      have e := (Option.some.inj h).symm
      subst e
      have hl : min 3 (qM n + sp) < 4 := by omega
      have e1 : qO (nxT sp n) = qP n := mkS_O b2 b1 b4 (by omega) hl (by omega)
      have e2 : qP (nxT sp n) = qO n := mkS_P b1 b4 (by omega) hl (by omega)
      have e3 : qT (nxT sp n) = qU n := mkS_T b4 (by omega) hl (by omega)
      have e4 : qU (nxT sp n) = 0 := mkS_U (by omega) hl (by omega)
      exact kap_same (by omega) (Or.inl (by omega))
    · rw [if_neg c5] at h
      have hq := rs_ok (K := K) hm h3 h2 (show 1 ≤ t by omega)
      unfold nxR at h
      by_cases c : rs m K (qP n) (qO n) t ≤ m
      · rw [if_pos c] at h
        have e := (Option.some.inj h).symm
        subst e
        have hq2 := hq.2.1
        generalize hqq : rs m K (qP n) (qO n) t = q at *
        have hu : (if kd m K q = 3 then 1 else qT n) < 2 := by
          by_cases k3 : kd m K q = 3
          · rw [if_pos k3]; omega
          · rw [if_neg k3]; omega
        have hl : (if kd m K q = 1 then 1 else 0) < 4 := by
          by_cases k3 : kd m K q = 1
          · rw [if_pos k3]; omega
          · rw [if_neg k3]; omega
        have e1 : qO (nxD m K n q) = qP n := mkS_O b2 (by omega) b4 hu b6 hl
        have e2 : qP (nxD m K n q) = q := mkS_P (by omega) b4 hu b6 hl
        exact kap_up (by omega)
      · rw [if_neg c] at h; exact absurd h (by simp)
theorem kap_v {m n : Nat} (hm : m ≤ 14) (hv : vld m n) : kap n < (2 * m + 1) * 1024 := by
  obtain ⟨h1, h2, h3, h4⟩ := hv
  have := q_lt n
  unfold kap
  omega
theorem bit_tail {o p t : Nat} (ho : o < 16) (hp : p < 16) (ht : t < 64) : ((nI o <<< ((10 : Int32) &&& 31)) ||| ((nI p &&& (15 : Int32)) <<< ((6 : Int32) &&& 31))) ||| nI t = nI (o * 1024 + p * 64 + t) := by
  rw [show (15 : Int32) = nI (2 ^ 4 - 1) from rfl, nI_mask, Nat.mod_eq_of_lt (by omega)]
  show ((nI o <<< (nI 10 &&& 31)) ||| (nI p <<< (nI 6 &&& 31))) ||| nI t = _
  rw [nI_shl 10 (by omega) (by omega), nI_shl 6 (by omega) (by omega), nI_orp 10 (by omega), show o * 2 ^ 10 + p * 2 ^ 6 = (o * 2 ^ 4 + p) * 2 ^ 6 by omega, nI_orp 6 (by omega), show (o * 2 ^ 4 + p) * 2 ^ 6 + t = o * 1024 + p * 64 + t by omega]
theorem q_tail {o p t : Nat} (ho : o < 16) (hp : p < 16) (ht : t < 64) : o * 1024 + p * 64 + t < 16384 ∧ qO (o * 1024 + p * 64 + t) = o ∧ qP (o * 1024 + p * 64 + t) = p ∧ (o * 1024 + p * 64 + t) % 64 = t := by
  unfold qO qP; omega
theorem of_tail {n : Nat} (h : n < 16384) : n = qO n * 1024 + qP n * 64 + n % 64 := by
  unfold qO qP; omega
/-! the marks -/
def GI (m : Nat) (K : Nat → Nat) (pc sp : Nat) (sw : Nat → Int32) : Prop := ∀ n, n < 16384 → sw n = 0 ∨ (vld m n ∧ (sw n = nZ (Wo m K pc sp n) ∨ sw n = nI 1000))
def SI (m : Nat) (K : Nat → Nat) (pc sp : Nat) (sw : Nat → Int32) : Prop := ∀ n, n < 16384 → sw n = 0 ∨ (vld m n ∧ sw n = nZ (Wo m K pc sp n))
section SW1
variable {m : Nat} {K : Nat → Nat} {pc sp : Nat}
theorem Wo_1000 {v : tX5} (h : TW v m K pc sp) {n : Nat} (hv : vld m n) : ¬ nZ (Wo m K pc sp n) = nI 1000 := by
  have g := gw_b (Wo_b h hv)
  intro e
  rw [← nZ_nI] at e
  have := (nZ_eq (a := Wo m K pc sp n) (b := (1000 : Nat)) (by omega) (by omega) (by omega) (by omega)).mp e
  omega
/-- what marking does -/
def MK (m : Nat) (K : Nat → Nat) (pc sp n : Nat) (sw sw' : Nat → Int32) (k : Nat) : Prop := GI m K pc sp sw' ∧ (∀ x, sw x ≠ 0 → sw' x = sw x) ∧ (∀ x, x < 16384 → sw' x = sw x ∨ (sw' x = nI 1000 ∧ kap n < kap x)) ∧ ∀ t n', t < k → posT pc n t → nxt m K sp n t = some n' → sw' n' ≠ 0
theorem guess_L2 {v : tX5} {n : Nat} (h : TW v m K pc sp) (hv : vld m n) {sw : Nat → Int32} {ga : Nat → Int32} {ri : Int32} : ∀ (f k : Nat) (sw' : Nat → Int32), k ≤ 6 → 6 < k + f → MK m K pc sp n sw sw' k → ∃ sw'', f_X5_guessAllAfter_L2 f (nI n) (nI k) (stG v sw' ga ri) = some (stG v sw'' ga ri) ∧ MK m K pc sp n sw sw'' 6 := by
  intro f
  induction f with
  | zero => intro k sw' a b; omega
  | succ f ih =>
    intro k sw' a b hk
    rw [f_X5_guessAllAfter_L2]
    by_cases c6 : k = 6
    · subst c6
      exact ⟨sw', ift (by decide) rfl, hk⟩
    · have e5 : ¬ (5 : Int32) < nI k := show ¬ nI 5 < nI k from nI_nlt (by omega) (by omega)
      obtain ⟨g1, g2, g3, g4⟩ := hk
      by_cases cp : posT pc n k
      · rcases e : nxt m K sp n k with _ | n'
        · obtain ⟨s2, r1, r2⟩ := ih (k + 1) sw' (by omega) (by omega) ⟨g1, g2, g3, fun t n' x y z => by
            by_cases q : t = k
            · subst q; rw [e] at z; exact absurd z (by simp)
            · exact g4 t n' (by omega) y z⟩
          refine ⟨s2, ?_, r2⟩
          refine iff' e5 (bnd (possible_eq (v := stG v sw' ga ri) h hv.1 (by omega)) ?_)
          rw [if_pos cp]
          refine iff' (by decide) (bnd (after_eq (v := stG v sw' ga ri) h hv cp (by omega)) ?_)
          rw [e]
          unfold f_X5_guessAllAfter_J26 f_X5_guessAllAfter_J54
          refine ift rfl ?_
          rw [nI_1]
          exact r1
        · have hv' := TI_child h hv cp e
          have hn' : n' < 16384 := hv'.1
          have kk := kap_child h.m14 hv cp e
          have pre : ∀ s3, f_X5_guessAllAfter_J26 (f_X5_guessAllAfter_L2 f) (nI n) (nI k) (nI n') (stG v sw' ga ri) = some (stG v s3 ga ri) → f_X5_guessAllAfter_L2 (f + 1) (nI n) (nI k) (stG v sw' ga ri) = some (stG v s3 ga ri) := by
            intro s3 q
            rw [f_X5_guessAllAfter_L2]
            refine iff' e5 (bnd (possible_eq (v := stG v sw' ga ri) h hv.1 (by omega)) ?_)
            rw [if_pos cp]
            refine iff' (by decide) (bnd (after_eq (v := stG v sw' ga ri) h hv cp (by omega)) ?_)
            rw [e]
            exact q
          rw [f_X5_guessAllAfter_L2] at pre
          by_cases c : sw' n' = 0
          · have hold : ∀ x, x ≠ n' → upd sw' n' (nI 1000) x = sw' x := fun x q => upd_n q
            obtain ⟨s2, r1, r2⟩ := ih (k + 1) (upd sw' n' (nI 1000)) (by omega) (by omega) ⟨fun x hx => by
                by_cases q : x = n'
                · subst q; exact Or.inr ⟨hv', Or.inr upd_s⟩
                · rw [hold x q]; exact g1 x hx, fun x hx => by
                by_cases q : x = n'
                · subst q; have := g2 x hx; rw [c] at this; exact absurd this.symm hx
                · rw [hold x q]; exact g2 x hx, fun x hx => by
                by_cases q : x = n'
                · subst q; exact Or.inr ⟨upd_s, kk⟩
                · rw [hold x q]; exact g3 x hx, fun t x y z w => by
                by_cases q' : x = n'
                · subst q'; rw [upd_s]; decide
                · rw [hold x q']
                  by_cases q : t = k
                  · subst q; rw [e] at w; exact absurd (Option.some.inj w).symm q'
                  · exact g4 t x (by omega) z w⟩
            refine ⟨s2, ?_, r2⟩
            refine pre _ ?_
            unfold f_X5_guessAllAfter_J26 f_X5_guessAllAfter_J54
            refine iff' (nI_m1 hn') (bnd (at_in sw' hn' (by omega)) ?_)
            refine ift c (bnd (put_in sw' _ hn' (by omega)) ?_)
            rw [nI_1]
            exact r1
          · obtain ⟨s2, r1, r2⟩ := ih (k + 1) sw' (by omega) (by omega) ⟨g1, g2, g3, fun t x y z w => by
              by_cases q : t = k
              · subst q; rw [e] at w; rw [← Option.some.inj w]; exact c
              · exact g4 t x (by omega) z w⟩
            refine ⟨s2, ?_, r2⟩
            refine pre _ ?_
            unfold f_X5_guessAllAfter_J26 f_X5_guessAllAfter_J54
            refine iff' (nI_m1 hn') (bnd (at_in sw' hn' (by omega)) ?_)
            refine iff' c ?_
            rw [nI_1]
            exact r1
      · obtain ⟨s2, r1, r2⟩ := ih (k + 1) sw' (by omega) (by omega) ⟨g1, g2, g3, fun t n' x y z => by
          by_cases q : t = k
          · subst q; exact absurd y cp
          · exact g4 t n' (by omega) y z⟩
        refine ⟨s2, ?_, r2⟩
        refine iff' e5 (bnd (possible_eq (v := stG v sw' ga ri) h hv.1 (by omega)) ?_)
        rw [if_neg cp]
        refine ift rfl ?_
        unfold f_X5_guessAllAfter_J26 f_X5_guessAllAfter_J54
        refine ift rfl ?_
        rw [nI_1]
        exact r1
theorem guess_eq {v : tX5} {n : Nat} (h : TW v m K pc sp) (hv : vld m n) {sw : Nat → Int32} {ga : Nat → Int32} {ri : Int32} (hg : GI m K pc sp sw) : ∃ sw'', f_X5_guessAllAfter (stG v sw ga ri) (nI n) = some (stG v sw'' ga ri) ∧ MK m K pc sp n sw sw'' 6 :=
  guess_L2 h hv gas 0 sw (by omega) (by show 6 < 0 + 1000000; omega) ⟨hg, fun _ _ => rfl, fun _ _ => Or.inl rfl, fun t n' x => by omega⟩
end SW1

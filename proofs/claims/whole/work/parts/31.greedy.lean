/-! the greedy turn -/
def greT (f : Nat → Nat) : Nat → Nat × Nat
  | 0 => (1, f 1)
  | k + 1 => if f (k + 2) ≤ (greT f k).2 then greT f k else (k + 2, f (k + 2))
def sGreedy (r : RcS) : Nat := if gLs (rW r (rOt r)) = 0 then (greT (sTo r) (rPc r - 1)).1 else 0
theorem greT_le (f : Nat → Nat) : ∀ k, 1 ≤ (greT f k).1 ∧ (greT f k).1 ≤ k + 1 := by
  intro k
  induction k with
  | zero => exact ⟨Nat.le_refl _, Nat.le_refl _⟩
  | succ k ih =>
    rw [greT]
    by_cases c : f (k + 2) ≤ (greT f k).2
    · rw [if_pos c]; omega
    · rw [if_neg c]; exact ⟨by show 1 ≤ k + 2; omega, Nat.le_refl _⟩
theorem greT_b {f : Nat → Nat} {b : Nat} (h : ∀ d, 1 ≤ d → f d ≤ b) : ∀ k, (greT f k).2 ≤ b := by
  intro k
  induction k with
  | zero => exact h 1 (Nat.le_refl _)
  | succ k ih =>
    rw [greT]
    by_cases c : f (k + 2) ≤ (greT f k).2
    · rw [if_pos c]; exact ih
    · rw [if_neg c]; exact h _ (by omega)
theorem sGreedy_ref {r : RcS} (ok : okR r) (hw : rWi r = -4) : sRef r (sGreedy r) = 0 ∧ sGreedy r ≤ 4 := by
  have hp1 := ok.2.2.2.1
  have hp2 := ok.2.2.2.2.1
  unfold sRef sGreedy
  rw [if_neg (fun e => e hw)]
  by_cases c : gLs (rW r (rOt r)) = 0
  · have h := greT_le (sTo r) (rPc r - 1)
    rw [if_neg (fun e => e c), if_pos c, if_neg (by omega), if_neg (by omega), if_pos (by omega)]
    exact ⟨rfl, by omega⟩
  · rw [if_pos c, if_neg c]
    exact ⟨rfl, by omega⟩
theorem sTo_le {r : RcS} (ok : okR r) (hw : rWi r = -4) : ∀ d, 1 ≤ d → sTo r d ≤ rM r + 1 := fun d hd => by
  obtain ⟨a, b, _⟩ := ok_pl ok hw
  exact (rs_ok (K := rK r) ok.2.1 b a hd).1.1
theorem gre_L {v : tX2} {r : RcS} (h : CR v r) (ok : okR r) (hw : rWi r = -4) (e : rOt r = 0) : ∀ (n k : Nat), k + 1 ≤ rPc r → rPc r ≤ n + (k + 1) → f_X2_greediest_L21 v (n + 1) (nI (greT (sTo r) k).1) (nI (greT (sTo r) k).2) (nI (k + 2)) = some (nI (greT (sTo r) (rPc r - 1)).1) := by
  obtain ⟨m1, m2⟩ := mover_eq h ok.2.2.2.2.2.2.2.1
  obtain ⟨pm, po, _⟩ := ok_pl ok hw
  have hp1 := ok.2.2.2.1
  have hp2 := ok.2.2.2.2.1
  have hR := h.1
  have hpc := h.2.2.2.1
  have w0 := h.2.1.1
  have w1 := h.2.2.1.1
  have hb := sTo_le ok hw
  have hg := greT_b hb
  have hm := ok.2.1
  have f4 : (4 : Int32) = nI 4 := rfl
  rw [e] at pm po
  have stop : ∀ (n k : Nat), k + 1 = rPc r → f_X2_greediest_L21 v (n + 1) (nI (greT (sTo r) k).1) (nI (greT (sTo r) k).2) (nI (k + 2)) = some (nI (greT (sTo r) (rPc r - 1)).1) := by
    intro n k hk
    rw [f_X2_greediest_L21, hpc, f4, show rPc r - 1 = k by omega]
    by_cases c : 4 < k + 2
    · rw [if_pos (nI_lt c (by omega))]
    · rw [if_neg (nI_nlt (by omega) (by omega)), if_pos (nI_lt (by omega) (by omega))]
  intro n
  induction n with
  | zero => intro k h1 h2; exact stop 0 k (by omega)
  | succ n ih =>
    intro k h1 h2
    by_cases c0 : k + 1 = rPc r
    · exact stop _ k c0
    · rw [f_X2_greediest_L21, hpc, f4, if_neg (nI_nlt (by omega) (by omega)), if_neg (nI_nlt (by omega) (by omega)), m2, Option.bind_some, e, if_neg (by omega : ¬ (1 - 0 = 0)), if_pos (by omega : 1 - 0 = 1)]
      rw [w0, w1, rest_eq hR pm po (by omega) (by omega), Option.bind_some]
      have q : rs (rM r) (rK r) (rW r 1).1 (rW r 0).1 (k + 2) = sTo r (k + 2) := by unfold sTo; rw [e]
      rw [q]
      unfold f_X2_greediest_J70
      rw [nI_1]
      have hs := hb (k + 2) (by omega)
      have hgk := hg k
      have st : greT (sTo r) (k + 1) = if sTo r (k + 2) ≤ (greT (sTo r) k).2 then greT (sTo r) k else (k + 2, sTo r (k + 2)) := rfl
      by_cases c : sTo r (k + 2) ≤ (greT (sTo r) k).2
      · rw [if_pos c] at st
        rw [if_pos (nI_le c (by omega)), ← st]
        exact ih (k + 1) (by omega) (by omega)
      · rw [if_neg c] at st
        rw [if_neg (nI_ge (by omega) (by omega))]
        have := ih (k + 1) (by omega) (by omega)
        rw [st] at this
        exact this
theorem gre_Lb {v : tX2} {r : RcS} (h : CR v r) (ok : okR r) (hw : rWi r = -4) (e : rOt r = 1) : ∀ (n k : Nat), k + 1 ≤ rPc r → rPc r ≤ n + (k + 1) → f_X2_greediest_L21b v (n + 1) (nI (greT (sTo r) k).1) (nI (greT (sTo r) k).2) (nI (k + 2)) = some (nI (greT (sTo r) (rPc r - 1)).1) := by
  obtain ⟨m1, m2⟩ := mover_eq h ok.2.2.2.2.2.2.2.1
  obtain ⟨pm, po, _⟩ := ok_pl ok hw
  have hp1 := ok.2.2.2.1
  have hp2 := ok.2.2.2.2.1
  have hR := h.1
  have hpc := h.2.2.2.1
  have w0 := h.2.1.1
  have w1 := h.2.2.1.1
  have hb := sTo_le ok hw
  have hg := greT_b hb
  have hm := ok.2.1
  have f4 : (4 : Int32) = nI 4 := rfl
  rw [e] at pm po
  have stop : ∀ (n k : Nat), k + 1 = rPc r → f_X2_greediest_L21b v (n + 1) (nI (greT (sTo r) k).1) (nI (greT (sTo r) k).2) (nI (k + 2)) = some (nI (greT (sTo r) (rPc r - 1)).1) := by
    intro n k hk
    rw [f_X2_greediest_L21b, hpc, f4, show rPc r - 1 = k by omega]
    by_cases c : 4 < k + 2
    · rw [if_pos (nI_lt c (by omega))]
    · rw [if_neg (nI_nlt (by omega) (by omega)), if_pos (nI_lt (by omega) (by omega))]
  intro n
  induction n with
  | zero => intro k h1 h2; exact stop 0 k (by omega)
  | succ n ih =>
    intro k h1 h2
    by_cases c0 : k + 1 = rPc r
    · exact stop _ k c0
    · rw [f_X2_greediest_L21b, hpc, f4, if_neg (nI_nlt (by omega) (by omega)), if_neg (nI_nlt (by omega) (by omega)), m2, Option.bind_some, e, if_pos (by omega : 1 - 1 = 0)]
      rw [w0, w1, rest_eq hR pm po (by omega) (by omega), Option.bind_some]
      have q : rs (rM r) (rK r) (rW r 0).1 (rW r 1).1 (k + 2) = sTo r (k + 2) := by unfold sTo; rw [e]
      rw [q]
      unfold f_X2_greediest_J70b
      rw [nI_1]
      have hs := hb (k + 2) (by omega)
      have hgk := hg k
      have st : greT (sTo r) (k + 1) = if sTo r (k + 2) ≤ (greT (sTo r) k).2 then greT (sTo r) k else (k + 2, sTo r (k + 2)) := rfl
      by_cases c : sTo r (k + 2) ≤ (greT (sTo r) k).2
      · rw [if_pos c] at st
        rw [if_pos (nI_le c (by omega)), ← st]
        exact ih (k + 1) (by omega) (by omega)
      · rw [if_neg c] at st
        rw [if_neg (nI_ge (by omega) (by omega))]
        have := ih (k + 1) (by omega) (by omega)
        rw [st] at this
        exact this
theorem nI_nm1 {n : Nat} (h : n < 1000) : ¬ nI n ≤ (-1 : Int32) := by
  intro c
  have h1 := (Int32.le_iff_toInt_le).mp c
  rw [nI_toInt (by omega)] at h1
  have : (-1 : Int32).toInt = -1 := by decide
  omega
theorem greediest_eq {v : tX2} {r : RcS} (h : CR v r) (ok : okR r) (hw : rWi r = -4) : f_X2_greediest v = some (nI (sGreedy r)) := by
  obtain ⟨m1, m2⟩ := mover_eq h ok.2.2.2.2.2.2.2.1
  obtain ⟨pm, po, _⟩ := ok_pl ok hw
  have hp1 := ok.2.2.2.1
  have hp2 := ok.2.2.2.2.1
  have hR := h.1
  have hpc := h.2.2.2.1
  have w0 := h.2.1.1
  have w1 := h.2.2.1.1
  have l0 := h.2.1.2.2.1
  have l1 := h.2.2.1.2.2.1
  have g0 := (ok.2.2.2.2.2.2.2.2.1 0 (by omega)).2.2
  have g1 := (ok.2.2.2.2.2.2.2.2.1 1 (by omega)).2.2
  have hb := sTo_le ok hw
  have hm := ok.2.1
  have f4 : (4 : Int32) = nI 4 := rfl
  unfold f_X2_greediest sGreedy
  rw [m1, Option.bind_some]
  rcases (show rOt r = 0 ∨ rOt r = 1 by have := ok.2.2.2.2.2.2.2.1; omega) with e | e
  · rw [e] at pm po
    rw [if_pos e, l0, e]
    have g0' : (rW r 0).2.2.1 < 2 ^ 31 := by show gLs (rW r 0) < _; omega
    by_cases c : gLs (rW r 0) = 0
    · rw [if_pos c, if_pos (by rw [nI_le0 g0']; exact c)]
      rw [show gas = (999998 + 1) + 1 from rfl, f_X2_greediest_L21, hpc, f4, k1, if_neg (nI_nlt (by omega) (by omega)), if_neg (nI_nlt (by omega) (by omega)), m2, Option.bind_some, e, if_neg (by omega : ¬ (1 - 0 = 0)), if_pos (by omega : 1 - 0 = 1)]
      rw [w0, w1, rest_eq hR pm po (by omega) (by omega), Option.bind_some]
      have q : rs (rM r) (rK r) (rW r 1).1 (rW r 0).1 1 = sTo r 1 := by unfold sTo; rw [e]
      have := hb 1 (by omega)
      rw [q, if_neg (show ¬ nI (sTo r 1) ≤ -nI 1 from nI_nm1 (by omega))]
      exact gre_L h ok hw e 999998 0 (by omega) (by omega)
    · rw [if_neg c, if_neg (by rw [nI_le0 g0']; exact c)]; rfl
  · rw [e] at pm po
    rw [if_neg (by omega), if_pos e, l1, e]
    have g1' : (rW r 1).2.2.1 < 2 ^ 31 := by show gLs (rW r 1) < _; omega
    by_cases c : gLs (rW r 1) = 0
    · rw [if_pos c, if_pos (by rw [nI_le0 g1']; exact c)]
      rw [show gas = (999998 + 1) + 1 from rfl, f_X2_greediest_L21b, hpc, f4, k1, if_neg (nI_nlt (by omega) (by omega)), if_neg (nI_nlt (by omega) (by omega)), m2, Option.bind_some, e, if_pos (by omega : 1 - 1 = 0)]
      rw [w0, w1, rest_eq hR pm po (by omega) (by omega), Option.bind_some]
      have q : rs (rM r) (rK r) (rW r 0).1 (rW r 1).1 1 = sTo r 1 := by unfold sTo; rw [e]
      have := hb 1 (by omega)
      rw [q, if_neg (show ¬ nI (sTo r 1) ≤ -nI 1 from nI_nm1 (by omega))]
      exact gre_Lb h ok hw e 999998 0 (by omega) (by omega)
    · rw [if_neg c, if_neg (by rw [nI_le0 g1']; exact c)]; rfl
/-- only the helpers of a drive have changed -/
def sm7 (v v' : tX7) : Prop := ∃ tp tl ti le rl : Int32, v' = st7 v v.2.1 tp tl ti le rl
theorem sm7_s {v v' : tX7} (h : sm7 v v') : v'.2.1 = v.2.1 := by obtain ⟨a, b, c, d, e, rfl⟩ := h; rfl
theorem sm7_refl (v : tX7) : sm7 v v := ⟨_, _, _, _, _, rfl⟩
theorem gre7_L {r : RcS} (ok : okR r) (hw : rWi r = -4) (hl : gLs (rW r (rOt r)) = 0) : ∀ (n k : Nat) (v : tX7), MR v.2.1 r → k + 1 ≤ rPc r → rPc r ≤ n + (k + 1) → ∃ z, f_X7_greedyNow_L15 (n + 1) (nI (rOt r)) (nI (greT (sTo r) k).1) (nI (greT (sTo r) k).2) (nI (k + 2)) v = some z ∧ (z.1 = nI (greT (sTo r) (rPc r - 1)).1 ∧ sm7 v z.2) := by
  obtain ⟨pm, po, hne⟩ := ok_pl ok hw
  have ho := ok.2.2.2.2.2.2.2.1
  have ho' : 1 - rOt r ≤ 1 := by omega
  have hp1 := ok.2.2.2.1
  have hp2 := ok.2.2.2.2.1
  have hb := sTo_le ok hw
  have hg := greT_b hb
  have hm := ok.2.1
  have stop : ∀ (n k : Nat) (v : tX7), MR v.2.1 r → k + 1 = rPc r → ∃ z, f_X7_greedyNow_L15 (n + 1) (nI (rOt r)) (nI (greT (sTo r) k).1) (nI (greT (sTo r) k).2) (nI (k + 2)) v = some z ∧ (z.1 = nI (greT (sTo r) (rPc r - 1)).1 ∧ sm7 v z.2) := by
    intro n k v h hk
    rw [f_X7_greedyNow_L15, h.1]
    refine ifE_t (nI_lt (by omega) (by omega)) ⟨_, rfl, ?_, sm7_refl v⟩
    rw [show rPc r - 1 = k by omega]
  intro n
  induction n with
  | zero => intro k v h h1 h2; exact stop 0 k v h (by omega)
  | succ n ih =>
    intro k v h h1 h2
    by_cases c0 : k + 1 = rPc r
    · exact stop _ k v h c0
    · have hW := MR_W h ho
      have hW' := MR_W h ho'
      rw [f_X7_greedyNow_L15, h.1]
      refine ifE_f (nI_nlt (by omega) (by omega)) ?_
      refine bndE (of7 (k := 2) rfl rfl ho (by omega)) ?_
      rw [show 23 + 8 * rOt r + 2 = 25 + 8 * rOt r by omega, hW.2.2.1]
      refine ifE_t (by rw [show (rW r (rOt r)).2.2.1 = 0 from hl]; rfl) ?_
      refine bndE (of7 (k := 0) rfl rfl ho (by omega)) ?_
      refine bndE (of7 (k := 0) (nI_1m ho) rfl ho' (by omega)) ?_
      refine bndE (drives7' (p := gPl (rW r (rOt r))) (o := gPl (rW r (1 - rOt r))) (d := k + 2) (MR_R h ok) (Or.inl rfl) hW.1 hW'.1 rfl pm po (by omega) (by omega) hne) ?_
      rw [drS_no]
      unfold f_X7_greedyNow_J71 f_X7_greedyNow_J88
      rw [nI_1]
      have hs := hb (k + 2) (by omega)
      have hgk := hg k
      have st : greT (sTo r) (k + 1) = if sTo r (k + 2) ≤ (greT (sTo r) k).2 then greT (sTo r) k else (k + 2, sTo r (k + 2)) := rfl
      by_cases c : sTo r (k + 2) ≤ (greT (sTo r) k).2
      · rw [if_pos c] at st
        refine ifE_t (nI_le c (by omega)) ?_
        refine ifE_t (nI_le c (by omega)) ?_
        rw [← st]
        obtain ⟨z, z1, z2, z3⟩ := ih (k + 1) (st7 v v.2.1 (nI (sTo r (k + 2))) (fl (kd (rM r) (rK r) (sTo r (k + 2)) = 1)) (fl (kd (rM r) (rK r) (sTo r (k + 2)) = 3)) (fl (gPl (rW r (rOt r)) < gPl (rW r (1 - rOt r)) ∧ gPl (rW r (1 - rOt r)) < sTo r (k + 2))) (nI (drC (rM r) (rK r) (gPl (rW r (1 - rOt r))) (gPl (rW r (rOt r))) (k + 2)))) h (by omega) (by omega)
        refine ⟨z, z1, z2, ?_⟩
        obtain ⟨a1, a2, a3, a4, a5, e⟩ := z3
        exact ⟨a1, a2, a3, a4, a5, e⟩
      · rw [if_neg c] at st
        refine ifE_f (nI_ge (by show (greT (sTo r) k).2 < sTo r (k + 2); omega) (by show sTo r (k + 2) < _; omega)) ?_
        refine ifE_f (nI_ge (by show (greT (sTo r) k).2 < sTo r (k + 2); omega) (by show sTo r (k + 2) < _; omega)) ?_
        obtain ⟨z, z1, z2, z3⟩ := ih (k + 1) (st7 v v.2.1 (nI (sTo r (k + 2))) (fl (kd (rM r) (rK r) (sTo r (k + 2)) = 1)) (fl (kd (rM r) (rK r) (sTo r (k + 2)) = 3)) (fl (gPl (rW r (rOt r)) < gPl (rW r (1 - rOt r)) ∧ gPl (rW r (1 - rOt r)) < sTo r (k + 2))) (nI (drC (rM r) (rK r) (gPl (rW r (1 - rOt r))) (gPl (rW r (rOt r))) (k + 2)))) h (by omega) (by omega)
        rw [st] at z1
        refine ⟨z, z1, z2, ?_⟩
        obtain ⟨a1, a2, a3, a4, a5, e⟩ := z3
        exact ⟨a1, a2, a3, a4, a5, e⟩
theorem greedy7 {v : tX7} {r : RcS} (h : MR v.2.1 r) (ok : okR r) (hw : rWi r = -4) : ∃ z, f_X7_greedyNow v = some z ∧ (z.1 = nI (sGreedy r) ∧ sm7 v z.2) := by
  obtain ⟨pm, po, hne⟩ := ok_pl ok hw
  have ho := ok.2.2.2.2.2.2.2.1
  have ho' : 1 - rOt r ≤ 1 := by omega
  have hp1 := ok.2.2.2.1
  have hp2 := ok.2.2.2.2.1
  have hb := sTo_le ok hw
  have hm := ok.2.1
  have hW := MR_W h ho
  have hW' := MR_W h ho'
  have hls := (ok.2.2.2.2.2.2.2.2.1 (rOt r) ho).2.2
  unfold f_X7_greedyNow sGreedy
  rw [MR_17 h, show gas = (999998 + 1) + 1 from rfl, f_X7_greedyNow_L15, h.1]
  refine ifE_f (show ¬ nI (rPc r) < nI 1 from nI_nlt (by omega) (by omega)) ?_
  refine bndE (of7 (k := 2) rfl rfl ho (by omega)) ?_
  rw [show 23 + 8 * rOt r + 2 = 25 + 8 * rOt r by omega, hW.2.2.1]
  have hls' : (rW r (rOt r)).2.2.1 < 2 ^ 31 := by show gLs (rW r (rOt r)) < _; omega
  by_cases c : gLs (rW r (rOt r)) = 0
  · rw [if_pos c]
    refine ifE_t (by rw [nI_z hls']; exact c) ?_
    refine bndE (of7 (k := 0) rfl rfl ho (by omega)) ?_
    refine bndE (of7 (k := 0) (nI_1m ho) rfl ho' (by omega)) ?_
    refine bndE (drives7' (p := gPl (rW r (rOt r))) (o := gPl (rW r (1 - rOt r))) (d := 1) (MR_R h ok) (Or.inl rfl) hW.1 hW'.1 rfl pm po (by omega) (by omega) hne) ?_
    rw [drS_no]
    unfold f_X7_greedyNow_J71 f_X7_greedyNow_J88
    have := hb 1 (by omega)
    refine ifE_f (nI_nm1 (by show sTo r 1 < _; omega)) ?_
    refine ifE_f (nI_nm1 (by show sTo r 1 < _; omega)) ?_
    obtain ⟨z, z1, z2, z3⟩ := gre7_L ok hw c 999998 0 (st7 v v.2.1 (nI (sTo r 1)) (fl (kd (rM r) (rK r) (sTo r 1) = 1)) (fl (kd (rM r) (rK r) (sTo r 1) = 3)) (fl (gPl (rW r (rOt r)) < gPl (rW r (1 - rOt r)) ∧ gPl (rW r (1 - rOt r)) < sTo r 1)) (nI (drC (rM r) (rK r) (gPl (rW r (1 - rOt r))) (gPl (rW r (rOt r))) 1))) h (by omega) (by omega)
    refine ⟨z, z1, z2, ?_⟩
    obtain ⟨a1, a2, a3, a4, a5, e⟩ := z3
    exact ⟨a1, a2, a3, a4, a5, e⟩
  · rw [if_neg c]
    refine ifE_f (by rw [nI_z hls']; exact c) ?_
    exact ⟨_, rfl, rfl, sm7_refl v⟩

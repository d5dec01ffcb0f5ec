/-! the greedy turn -/
def greT (f : Nat → Nat) : Nat → Nat × Nat
  | 0 => (1, f 1)
  | k + 1 => if f (k + 2) ≤ (greT f k).2 then greT f k else (k + 2, f (k + 2))
def sGreedy (r : RcS) : Nat := if gLs (rW r (rOt r)) = 0 then (greT (sTo r) (rPc r - 1)).1 else 0
theorem greT_le (f : Nat → Nat) : ∀ k, 1 ≤ (greT f k).1 ∧ (greT f k).1 ≤ k + 1 := by
  intro k
  induction k with
  | zero => exact ⟨Nat.le_refl _, Nat.le_refl _⟩
  | succ k ih =>
    rw [greT]
    by_cases c : f (k + 2) ≤ (greT f k).2
    · rw [if_pos c]; omega
    · rw [if_neg c]; exact ⟨by show 1 ≤ k + 2; omega, Nat.le_refl _⟩
theorem greT_b {f : Nat → Nat} {b : Nat} (h : ∀ d, 1 ≤ d → f d ≤ b) : ∀ k, (greT f k).2 ≤ b := by
  intro k
  induction k with
  | zero => exact h 1 (Nat.le_refl _)
  | succ k ih =>
    rw [greT]
    by_cases c : f (k + 2) ≤ (greT f k).2
    · rw [if_pos c]; exact ih
    · rw [if_neg c]; exact h _ (by omega)
theorem sGreedy_ref {r : RcS} (ok : okR r) (hw : rWi r = -4) : sRef r (sGreedy r) = 0 ∧ sGreedy r ≤ 4 := by
  have hp1 := ok.2.2.2.1
  have hp2 := ok.2.2.2.2.1
  unfold sRef sGreedy
  rw [if_neg (fun e => e hw)]
  by_cases c : gLs (rW r (rOt r)) = 0
  · have h := greT_le (sTo r) (rPc r - 1)
    rw [if_neg (fun e => e c), if_pos c, if_neg (by omega), if_neg (by omega), if_pos (by omega)]
    exact ⟨rfl, by omega⟩
  · rw [if_pos c, if_neg c]
    exact ⟨rfl, by omega⟩
theorem sTo_le {r : RcS} (ok : okR r) (hw : rWi r = -4) : ∀ d, 1 ≤ d → sTo r d ≤ rM r + 1 := fun d hd => by
  obtain ⟨a, b, _⟩ := ok_pl ok hw
  exact (rs_ok (K := rK r) ok.2.1 b a hd).1.1
theorem gre_L {v : tX2} {r : RcS} (h : CR v r) (ok : okR r) (hw : rWi r = -4) (e : rOt r = 0) : ∀ (n k : Nat), k + 1 ≤ rPc r → rPc r ≤ n + (k + 1) → f_X2_greediest_L21 v (n + 1) (nI (greT (sTo r) k).1) (nI (greT (sTo r) k).2) (nI (k + 2)) = some (nI (greT (sTo r) (rPc r - 1)).1) := by
  obtain ⟨m1, m2⟩ := mover_eq h ok.2.2.2.2.2.2.2.1
  obtain ⟨pm, po, _⟩ := ok_pl ok hw
  have hp1 := ok.2.2.2.1
  have hp2 := ok.2.2.2.2.1
  have hR := h.1
  have hpc := h.2.2.2.1
  have w0 := h.2.1.1
  have w1 := h.2.2.1.1
  have hb := sTo_le ok hw
  have hg := greT_b hb
  have hm := ok.2.1
  have f4 : (4 : Int32) = nI 4 := rfl
  rw [e] at pm po
  have stop : ∀ (n k : Nat), k + 1 = rPc r → f_X2_greediest_L21 v (n + 1) (nI (greT (sTo r) k).1) (nI (greT (sTo r) k).2) (nI (k + 2)) = some (nI (greT (sTo r) (rPc r - 1)).1) := by
    intro n k hk
    rw [f_X2_greediest_L21, hpc, f4, show rPc r - 1 = k by omega]
    by_cases c : 4 < k + 2
    · rw [if_pos (nI_lt c (by omega))]
    · rw [if_neg (nI_nlt (by omega) (by omega)), if_pos (nI_lt (by omega) (by omega))]
  intro n
  induction n with
  | zero => intro k h1 h2; exact stop 0 k (by omega)
  | succ n ih =>
    intro k h1 h2
    by_cases c0 : k + 1 = rPc r
    · exact stop _ k c0
    · rw [f_X2_greediest_L21, hpc, f4, if_neg (nI_nlt (by omega) (by omega)), if_neg (nI_nlt (by omega) (by omega)), m2, Option.bind_some, e, if_neg (by omega : ¬ (1 - 0 = 0)), if_pos (by omega : 1 - 0 = 1)]
      rw [w0, w1, rest_eq hR pm po (by omega) (by omega), Option.bind_some]
      have q : rs (rM r) (rK r) (rW r 1).1 (rW r 0).1 (k + 2) = sTo r (k + 2) := by unfold sTo; rw [e]
      rw [q]
      unfold f_X2_greediest_J70
      rw [nI_1]
      have hs := hb (k + 2) (by omega)
      have hgk := hg k
      have st : greT (sTo r) (k + 1) = if sTo r (k + 2) ≤ (greT (sTo r) k).2 then greT (sTo r) k else (k + 2, sTo r (k + 2)) := rfl
      by_cases c : sTo r (k + 2) ≤ (greT (sTo r) k).2
      · rw [if_pos c] at st
        rw [if_pos (nI_le c (by omega)), ← st]
        exact ih (k + 1) (by omega) (by omega)
      · rw [if_neg c] at st
        rw [if_neg (nI_ge (by omega) (by omega))]
        have := ih (k + 1) (by omega) (by omega)
        rw [st] at this
        exact this
theorem gre_Lb {v : tX2} {r : RcS} (h : CR v r) (ok : okR r) (hw : rWi r = -4) (e : rOt r = 1) : ∀ (n k : Nat), k + 1 ≤ rPc r → rPc r ≤ n + (k + 1) → f_X2_greediest_L21b v (n + 1) (nI (greT (sTo r) k).1) (nI (greT (sTo r) k).2) (nI (k + 2)) = some (nI (greT (sTo r) (rPc r - 1)).1) := by
  obtain ⟨m1, m2⟩ := mover_eq h ok.2.2.2.2.2.2.2.1
  obtain ⟨pm, po, _⟩ := ok_pl ok hw
  have hp1 := ok.2.2.2.1
  have hp2 := ok.2.2.2.2.1
  have hR := h.1
  have hpc := h.2.2.2.1
  have w0 := h.2.1.1
  have w1 := h.2.2.1.1
  have hb := sTo_le ok hw
  have hg := greT_b hb
  have hm := ok.2.1
  have f4 : (4 : Int32) = nI 4 := rfl
  rw [e] at pm po
  have stop : ∀ (n k : Nat), k + 1 = rPc r → f_X2_greediest_L21b v (n + 1) (nI (greT (sTo r) k).1) (nI (greT (sTo r) k).2) (nI (k + 2)) = some (nI (greT (sTo r) (rPc r - 1)).1) := by
    intro n k hk
    rw [f_X2_greediest_L21b, hpc, f4, show rPc r - 1 = k by omega]
    by_cases c : 4 < k + 2
    · rw [if_pos (nI_lt c (by omega))]
    · rw [if_neg (nI_nlt (by omega) (by omega)), if_pos (nI_lt (by omega) (by omega))]
  intro n
  induction n with
  | zero => intro k h1 h2; exact stop 0 k (by omega)
  | succ n ih =>
    intro k h1 h2
    by_cases c0 : k + 1 = rPc r
    · exact stop _ k c0
    · rw [f_X2_greediest_L21b, hpc, f4, if_neg (nI_nlt (by omega) (by omega)), if_neg (nI_nlt (by omega) (by omega)), m2, Option.bind_some, e, if_pos (by omega : 1 - 1 = 0)]
      rw [w0, w1, rest_eq hR pm po (by omega) (by omega), Option.bind_some]
      have q : rs (rM r) (rK r) (rW r 0).1 (rW r 1).1 (k + 2) = sTo r (k + 2) := by unfold sTo; rw [e]
      rw [q]
      unfold f_X2_greediest_J70b
      rw [nI_1]
      have hs := hb (k + 2) (by omega)
      have hgk := hg k
      have st : greT (sTo r) (k + 1) = if sTo r (k + 2) ≤ (greT (sTo r) k).2 then greT (sTo r) k else (k + 2, sTo r (k + 2)) := rfl
      by_cases c : sTo r (k + 2) ≤ (greT (sTo r) k).2
      · rw [if_pos c] at st
        rw [if_pos (nI_le c (by omega)), ← st]
        exact ih (k + 1) (by omega) (by omega)
      · rw [if_neg c] at st
        rw [if_neg (nI_ge (by omega) (by omega))]
        have := ih (k + 1) (by omega) (by omega)
        rw [st] at this
        exact this
theorem nI_nm1 {n : Nat} (h : n < 1000) : ¬ nI n ≤ (-1 : Int32) := by
  intro c
  have h1 := (Int32.le_iff_toInt_le).mp c
  rw [nI_toInt (by omega)] at h1
  have : (-1 : Int32).toInt = -1 := by decide
  omega
theorem greediest_eq {v : tX2} {r : RcS} (h : CR v r) (ok : okR r) (hw : rWi r = -4) : f_X2_greediest v = some (nI (sGreedy r)) := by
  obtain ⟨m1, m2⟩ := mover_eq h ok.2.2.2.2.2.2.2.1
  obtain ⟨pm, po, _⟩ := ok_pl ok hw
  have hp1 := ok.2.2.2.1
  have hp2 := ok.2.2.2.2.1
  have hR := h.1
  have hpc := h.2.2.2.1
  have w0 := h.2.1.1
  have w1 := h.2.2.1.1
  have l0 := h.2.1.2.2.1
  have l1 := h.2.2.1.2.2.1
  have g0 := (ok.2.2.2.2.2.2.2.2.1 0 (by omega)).2.2
  have g1 := (ok.2.2.2.2.2.2.2.2.1 1 (by omega)).2.2
  have hb := sTo_le ok hw
  have hm := ok.2.1
  have f4 : (4 : Int32) = nI 4 := rfl
  unfold f_X2_greediest sGreedy
  rw [m1, Option.bind_some]
  rcases (show rOt r = 0 ∨ rOt r = 1 by have := ok.2.2.2.2.2.2.2.1; omega) with e | e
  · rw [e] at pm po
    rw [if_pos e, l0, e]
    have g0' : (rW r 0).2.2.1 < 2 ^ 31 := by show gLs (rW r 0) < _; omega
    by_cases c : gLs (rW r 0) = 0
    · rw [if_pos c, if_pos (by rw [nI_le0 g0']; exact c)]
      rw [show gas = (999998 + 1) + 1 from rfl, f_X2_greediest_L21, hpc, f4, k1, if_neg (nI_nlt (by omega) (by omega)), if_neg (nI_nlt (by omega) (by omega)), m2, Option.bind_some, e, if_neg (by omega : ¬ (1 - 0 = 0)), if_pos (by omega : 1 - 0 = 1)]
      rw [w0, w1, rest_eq hR pm po (by omega) (by omega), Option.bind_some]
      have q : rs (rM r) (rK r) (rW r 1).1 (rW r 0).1 1 = sTo r 1 := by unfold sTo; rw [e]
      have := hb 1 (by omega)
      rw [q, if_neg (show ¬ nI (sTo r 1) ≤ -nI 1 from nI_nm1 (by omega))]
      exact gre_L h ok hw e 999998 0 (by omega) (by omega)
    · rw [if_neg c, if_neg (by rw [nI_le0 g0']; exact c)]; rfl
  · rw [e] at pm po
    rw [if_neg (by omega), if_pos e, l1, e]
    have g1' : (rW r 1).2.2.1 < 2 ^ 31 := by show gLs (rW r 1) < _; omega
    by_cases c : gLs (rW r 1) = 0
    · rw [if_pos c, if_pos (by rw [nI_le0 g1']; exact c)]
      rw [show gas = (999998 + 1) + 1 from rfl, f_X2_greediest_L21b, hpc, f4, k1, if_neg (nI_nlt (by omega) (by omega)), if_neg (nI_nlt (by omega) (by omega)), m2, Option.bind_some, e, if_pos (by omega : 1 - 1 = 0)]
      rw [w0, w1, rest_eq hR pm po (by omega) (by omega), Option.bind_some]
      have q : rs (rM r) (rK r) (rW r 0).1 (rW r 1).1 1 = sTo r 1 := by unfold sTo; rw [e]
      have := hb 1 (by omega)
      rw [q, if_neg (show ¬ nI (sTo r 1) ≤ -nI 1 from nI_nm1 (by omega))]
      exact gre_Lb h ok hw e 999998 0 (by omega) (by omega)
    · rw [if_neg c, if_neg (by rw [nI_le0 g1']; exact c)]; rfl

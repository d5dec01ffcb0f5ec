/-! a road laid out -/
theorem lay_L15 {v : tX1} {L : Nat} {x : Int32} (hL1 : 1 ≤ L) (hL : L ≤ 14) (h1 : v.2 = nI L) (hg : ∀ j, j < L → vk (v.1 j)) : ∀ (n i : Nat) (a : Nat → Int32), 1 ≤ i → i ≤ L + 1 → L + 1 < i + n → (∀ j, 1 ≤ j → j < i → a j = nI (kdn (v.1 (j - 1)))) → ∃ a', f_X1_layOut_L15 v n (nI i) (a, x) = some (a', x) ∧ ∀ j, 1 ≤ j → j ≤ L → a' j = nI (kdn (v.1 (j - 1))) := by
  intro n
  induction n with
  | zero => intro i a h2 h3 h4; omega
  | succ n ih =>
    intro i a h2 h3 h4 ha
    rw [f_X1_layOut_L15]
    by_cases c : i = L + 1
    · refine ⟨a, ?_, fun j p q => ha j p (by omega)⟩
      by_cases c14 : 14 < i
      · exact ift (nI_lt (a := 14) c14 (by omega)) rfl
      · exact iff' (show ¬ nI 14 < nI _ from nI_nlt (by omega) (by omega)) (ift (by rw [h1]; exact nI_lt (by omega) (by omega)) rfl)
    · have es : nI i - (1 : Int32) = nI (i - 1) := nI_sub (b := 1) h2
      have hs : f_X1_signAt v (nI (i - 1)) = some (v.1 (i - 1)) := by
        unfold f_X1_signAt
        rw [at_in v.1 (show i - 1 < 60 by omega) (by omega)]; rfl
      obtain ⟨a', e1, e2⟩ := ih (i + 1) (upd a i (nI (kdn (v.1 (i - 1))))) (by omega) (by omega) (by omega) (fun j p q => by
        by_cases e : j = i
        · subst e; exact upd_s
        · rw [upd_n e]; exact ha j p (by omega))
      refine ⟨a', ?_, e2⟩
      refine iff' (show ¬ nI 14 < nI _ from nI_nlt (by omega) (by omega)) (iff' (by rw [h1]; exact nI_nlt (by omega) (by omega)) ?_)
      rw [es]
      refine bnd hs (bnd (kind_good (hg _ (by omega))) (bnd (put_in a _ (show i < 15 by omega) (by omega)) ?_))
      rw [nI_1]
      exact e1
theorem layOut_eq {v : tX1} {v1 : tX3} {L : Nat} (hL1 : 1 ≤ L) (hL : L ≤ 14) (h1 : v.2 = nI L) (hg : ∀ j, j < L → vk (v.1 j)) : ∃ v', f_X1_layOut v v1 = some v' ∧ Rd v' L (fun i => kdn (v.1 (i - 1))) := by
  unfold f_X1_layOut
  have e : (if (14 : Int32) < v.2 then (14 : Int32) else v.2) = nI L := by
    rw [h1]; exact iff' (show ¬ nI 14 < nI _ from nI_nlt (by omega) (by omega)) rfl
  rw [e]
  obtain ⟨a', e1, e2⟩ := lay_L15 (x := nI L) hL1 hL h1 hg gas 1 v1.1 (by omega) (by omega) (by show L + 1 < 1 + 1000000; omega) (fun j p q => by omega)
  exact ⟨_, e1, rfl, hL1, hL, fun i p q => ⟨e2 i p q, kdn_le _⟩⟩
/-! how many miles of a kind -/
def hmK (K : Nat → Nat) (c : Nat) : Nat → Nat
  | 0 => 0
  | n + 1 => hmK K c n + (if K (n + 1) = c then 1 else 0)
theorem howMany_L {v : tX3} {m : Nat} {K : Nat → Nat} (h : Rd v m K) {c : Nat} (hc : c ≤ 3) : ∀ (n i : Nat), i ≤ m → m < i + n → f_X3_howMany_L4 v n (nI c) (nI (hmK K c i)) (nI (i + 1)) = some (nI (hmK K c m)) := by
  have hm := h.2.2.1
  have h1 := h.1
  intro n
  induction n with
  | zero => intro i a b; omega
  | succ n ih =>
    intro i a b
    rw [f_X3_howMany_L4]
    by_cases e : i = m
    · subst e
      by_cases c14 : 14 < i + 1
      · exact ift (nI_lt (a := 14) c14 (by omega)) rfl
      · exact iff' (show ¬ nI 14 < nI _ from nI_nlt (by omega) (by omega)) (ift (by rw [h1]; exact nI_lt (by omega) (by omega)) rfl)
    · refine iff' (show ¬ nI 14 < nI _ from nI_nlt (by omega) (by omega)) (iff' (by rw [h1]; exact nI_nlt (by omega) (by omega)) ?_)
      refine bnd (kindOf_eq h (show i + 1 < 1000 by omega)) ?_
      have ek : kd m K (i + 1) = K (i + 1) := if_pos ⟨by omega, by omega⟩
      have := h.K (i + 1) (by omega) (by omega)
      have st : hmK K c (i + 1) = hmK K c i + (if K (i + 1) = c then 1 else 0) := rfl
      rw [ek]
      unfold f_X3_howMany_J30
      by_cases q : K (i + 1) = c
      · refine ift (by rw [q]) ?_
        rw [if_pos q] at st
        rw [nI_1, nI_1, ← st]
        exact ih (i + 1) (by omega) (by omega)
      · refine iff' (fun e => q ((nI_eq (by omega) (by omega)).mp e)) ?_
        have st : hmK K c (i + 1) = hmK K c i := by rw [st, if_neg q]; rfl
        rw [nI_1, ← st]
        exact ih (i + 1) (by omega) (by omega)
theorem howMany_eq {v : tX3} {m : Nat} {K : Nat → Nat} (h : Rd v m K) {c : Nat} (hc : c ≤ 3) : f_X3_howMany v (nI c) = some (nI (hmK K c m)) := by
  have hm := h.2.2.1
  exact howMany_L h hc gas 0 (by omega) (by show m < 0 + 1000000; omega)

/-! the reference's other copying loops -/
abbrev stA (v : tX7) (s : Nat → Int32) (at' : Int32) : tX7 := (v.1, s, v.2.2.1, v.2.2.2.1, v.2.2.2.2.1, v.2.2.2.2.2.1, v.2.2.2.2.2.2.1, v.2.2.2.2.2.2.2.1, v.2.2.2.2.2.2.2.2.1, v.2.2.2.2.2.2.2.2.2.1, v.2.2.2.2.2.2.2.2.2.2.1, v.2.2.2.2.2.2.2.2.2.2.2.1, at', v.2.2.2.2.2.2.2.2.2.2.2.2.2)
abbrev w_at (v : tX7) : Int32 := v.2.2.2.2.2.2.2.2.2.2.2.2.1
abbrev w_as (v : tX7) : Nat → Int32 := v.2.2.1
abbrev w_sn (v : tX7) : Nat → Int32 := v.2.2.2.2.2.1
abbrev w_hs (v : tX7) : Int32 := v.2.2.2.2.2.2.1
abbrev stS (v : tX7) (sn : Nat → Int32) (hs : Int32) : tX7 := (v.1, v.2.1, v.2.2.1, v.2.2.2.1, v.2.2.2.2.1, sn, hs, v.2.2.2.2.2.2.2)
abbrev stP (v : tX7) (a : Nat → Int32) : tX7 := (v.1, v.2.1, a, v.2.2.2)
abbrev stX (v : tX7) (s : Nat → Int32) : tX7 := (v.1, s, v.2.2)
theorem ovo_s0 {i : Nat} {f g : Nat → Int32} {x : Int32} (h : x = f i) : upd (ovo 0 i f g) i x = ovo 0 (i + 1) f g := by
  have := ovo_s (c := 0) (i := i) (f := f) (g := g) (x := x) h
  rw [Nat.zero_add] at this
  exact this
theorem undo_L27 {c : Nat} (hc : c ≤ 3) {f g : Nat → Int32} : ∀ (n i : Nat) (v : tX7), i ≤ 72 → 72 < i + n → w_sm v = nI c → w_sts v = f → v.2.1 = ovo 0 i (fun x => f (72 * c + x)) g → f_X7_undo_L27 n (nI i) v = some (nI c, stA v (ovo 0 72 (fun x => f (72 * c + x)) g) 0) := by
  intro n
  induction n with
  | zero => intro i v h2 h3; omega
  | succ n ih =>
    intro i v h2 h3 h1 hf hg
    rw [f_X7_undo_L27]
    by_cases c1 : 72 ≤ i
    · have e : i = 72 := by omega
      subst e
      refine ift (nI_le (a := 72) (by omega) (by omega)) ?_
      rw [← hg]
      show some (w_sm v, stA v v.2.1 0) = _
      rw [h1]
    · refine iff' (nI_ge (b := 72) (by omega) (by omega)) ?_
      have e1 : (72 : Int32) * w_sm v + nI i = nI (72 * c + i) := by
        rw [h1]; show nI 72 * nI c + nI i = _
        rw [nI_mul, nI_add]
      show (if ig ((72 : Int32) * w_sm v + nI i) 288 = true then (if ig (nI i) 72 = true then f_X7_undo_L27 n (nI i + 1) (stX v (upd v.2.1 (nI i).toNatClampNeg (w_sts v ((72 : Int32) * w_sm v + nI i).toNatClampNeg))) else none) else none) = _
      rw [e1, if_pos (ig_t (by omega) (by omega)), if_pos (ig_t (by omega) (by omega)), nI_clamp (by omega), nI_clamp (by omega), hg, hf, ovo_s0 rfl, nI_1]
      exact ih (i + 1) (stX v _) (by omega) (by omega) h1 hf rfl
theorem save_L7 {f g : Nat → Int32} : ∀ (n i : Nat) (v : tX7), i ≤ 72 → 72 < i + n → v.2.1 = f → w_sn v = ovo 0 i f g → f_X7_save_L7 n (nI i) v = some (f 18, stS v (ovo 0 72 f g) 1) := by
  intro n
  induction n with
  | zero => intro i v h2 h3; omega
  | succ n ih =>
    intro i v h2 h3 hf hg
    rw [f_X7_save_L7]
    by_cases c1 : 72 ≤ i
    · have e : i = 72 := by omega
      subst e
      refine ift (nI_le (a := 72) (by omega) (by omega)) ?_
      rw [← hg, ← hf]
    · refine iff' (nI_ge (b := 72) (by omega) (by omega)) ?_
      refine ift (ig_t (by omega) (by omega)) ?_
      refine ift (ig_t (by omega) (by omega)) ?_
      show f_X7_save_L7 n (nI i + 1) (stS v (upd (w_sn v) (nI i).toNatClampNeg (v.2.1 (nI i).toNatClampNeg)) (w_hs v)) = _
      rw [nI_clamp (by omega), hg, hf, ovo_s0 rfl, nI_1]
      exact ih (i + 1) (stS v _ _) (by omega) (by omega) hf rfl
theorem rest_L21 {f g : Nat → Int32} : ∀ (n i : Nat) (v : tX7), i ≤ 72 → 72 < i + n → w_sn v = f → v.2.1 = ovo 0 i f g → f_X7_restore_L21 n (nI i) v = some (ovo 0 72 f g 18, stA v (ovo 0 72 f g) 0) := by
  intro n
  induction n with
  | zero => intro i v h2 h3; omega
  | succ n ih =>
    intro i v h2 h3 hf hg
    rw [f_X7_restore_L21]
    by_cases c1 : 72 ≤ i
    · have e : i = 72 := by omega
      subst e
      refine ift (nI_le (a := 72) (by omega) (by omega)) ?_
      rw [← hg]
    · refine iff' (nI_ge (b := 72) (by omega) (by omega)) ?_
      refine ift (ig_t (by omega) (by omega)) ?_
      refine ift (ig_t (by omega) (by omega)) ?_
      show f_X7_restore_L21 n (nI i + 1) (stX v (upd v.2.1 (nI i).toNatClampNeg (w_sn v (nI i).toNatClampNeg))) = _
      rw [nI_clamp (by omega), hg, hf, ovo_s0 rfl, nI_1]
      exact ih (i + 1) (stX v _) (by omega) (by omega) hf rfl
theorem aside_L2 {f g : Nat → Int32} : ∀ (n i : Nat) (v : tX7), i ≤ 72 → 72 < i + n → v.2.1 = f → w_as v = ovo 0 i f g → f_X7_putAside_L2 n (nI i) v = some (stP v (ovo 0 72 f g)) := by
  intro n
  induction n with
  | zero => intro i v h2 h3; omega
  | succ n ih =>
    intro i v h2 h3 hf hg
    rw [f_X7_putAside_L2]
    by_cases c1 : 72 ≤ i
    · have e : i = 72 := by omega
      subst e
      refine ift (nI_le (a := 72) (by omega) (by omega)) ?_
      rw [← hg]
    · refine iff' (nI_ge (b := 72) (by omega) (by omega)) ?_
      refine ift (ig_t (by omega) (by omega)) ?_
      refine ift (ig_t (by omega) (by omega)) ?_
      show f_X7_putAside_L2 n (nI i + 1) (stP v (upd (w_as v) (nI i).toNatClampNeg (v.2.1 (nI i).toNatClampNeg))) = _
      rw [nI_clamp (by omega), hg, hf, ovo_s0 rfl, nI_1]
      exact ih (i + 1) (stP v _) (by omega) (by omega) hf rfl
theorem putAside7 (v : tX7) : f_X7_putAside v = some (stP v (ovo 0 72 v.2.1 (w_as v))) :=
  aside_L2 gas 0 v (by omega) (by show 72 < 0 + 1000000; omega) rfl ovo_0.symm
theorem back_L2 {f g : Nat → Int32} : ∀ (n i : Nat) (v : tX7), i ≤ 72 → 72 < i + n → w_as v = f → v.2.1 = ovo 0 i f g → f_X7_takeBack_L2 n (nI i) v = some (stX v (ovo 0 72 f g)) := by
  intro n
  induction n with
  | zero => intro i v h2 h3; omega
  | succ n ih =>
    intro i v h2 h3 hf hg
    rw [f_X7_takeBack_L2]
    by_cases c1 : 72 ≤ i
    · have e : i = 72 := by omega
      subst e
      refine ift (nI_le (a := 72) (by omega) (by omega)) ?_
      rw [← hg]
    · refine iff' (nI_ge (b := 72) (by omega) (by omega)) ?_
      refine ift (ig_t (by omega) (by omega)) ?_
      refine ift (ig_t (by omega) (by omega)) ?_
      show f_X7_takeBack_L2 n (nI i + 1) (stX v (upd v.2.1 (nI i).toNatClampNeg (w_as v (nI i).toNatClampNeg))) = _
      rw [nI_clamp (by omega), hg, hf, ovo_s0 rfl, nI_1]
      exact ih (i + 1) (stX v _) (by omega) (by omega) hf rfl
theorem takeBack7 (v : tX7) : f_X7_takeBack v = some (stX v (ovo 0 72 (w_as v) v.2.1)) :=
  back_L2 gas 0 v (by omega) (by show 72 < 0 + 1000000; omega) rfl ovo_0.symm
/-! a race begins: the reference -/
def beS (s : Nat → Int32) : Nat → Int32 := upd (upd (upd (upd (upd (upd (ovo 23 49 (fun _ => 0) s) 24 1) 32 1) 17 0) 18 0) 22 (-4)) 19 (s 19 + 1)
theorem begins_L3 {g : Nat → Int32} : ∀ (n i : Nat) (v : tX7), i ≤ 49 → 49 < i + n → v.2.1 = ovo 23 i (fun _ => 0) g → f_X7_begins_L3 n (nI (23 + i)) v = some (stX v (beS g)) := by
  intro n
  induction n with
  | zero => intro i v h2 h3; omega
  | succ n ih =>
    intro i v h2 h3 hg
    rw [f_X7_begins_L3]
    by_cases c1 : 49 ≤ i
    · have e : i = 49 := by omega
      subst e
      refine ift (nI_le (a := 72) (by omega) (by omega)) ?_
      refine bnd (lay7 (j := 0) (k := 1) rfl rfl (by omega) (by omega)) ?_
      refine bnd (lay7 (j := 1) (k := 1) rfl rfl (by omega) (by omega)) ?_
      have e19 : (upd (upd (upd (upd (upd (ovo 23 49 (fun _ => 0) g) 24 1) 32 1) 17 0) 18 0) 22 (-4)) 19 = g 19 := by
        rw [upd_n (by omega), upd_n (by omega), upd_n (by omega), upd_n (by omega), upd_n (by omega), ovo_out (by omega)]
      show some (stX v (upd (upd (upd (upd (upd (upd v.2.1 24 1) 32 1) 17 0) 18 0) 22 (-4)) 19 ((upd (upd (upd (upd (upd v.2.1 24 1) 32 1) 17 0) 18 0) 22 (-4)) 19 + 1))) = _
      rw [hg, e19]
      rfl
    · refine iff' (nI_ge (b := 72) (by omega) (by omega)) ?_
      refine ift (ig_t (by omega) (by omega)) ?_
      show f_X7_begins_L3 n (nI (23 + i) + 1) (stX v (upd v.2.1 (nI (23 + i)).toNatClampNeg 0)) = _
      rw [nI_clamp (by omega), hg, ovo_s rfl, nI_1]
      exact ih (i + 1) (stX v _) (by omega) (by omega) rfl
theorem begins7 (v : tX7) : f_X7_begins v = some (stX v (beS v.2.1)) :=
  begins_L3 gas 0 v (by omega) (by show 49 < 0 + 1000000; omega) ovo_0.symm
theorem MR_begin {s : Nat → Int32} {r : RcS} (hm : rM r ≤ 14) (q1 : s 0 = nI (rPc r)) (q2 : s 1 = nI (rSp r)) (q3 : s 2 = nI (rM r)) (q4 : ∀ i, 1 ≤ i → i ≤ rM r → s (2 + i) = nI (rK r i)) (q7 : s 19 = r.2.2.2.2.2.2.2.2.1) (q8 : s 20 = r.2.2.2.2.2.2.2.2.2 0) (q9 : s 21 = r.2.2.2.2.2.2.2.2.2 1) : MR (beS s) (sBegin r) := by
  have lo : ∀ x, x < 17 ∨ x = 20 ∨ x = 21 → beS s x = s x := by
    intro x hx
    unfold beS
    rw [upd_n (by omega), upd_n (by omega), upd_n (by omega), upd_n (by omega), upd_n (by omega), upd_n (by omega), ovo_out (by omega)]
  have hi : ∀ x, 23 ≤ x → x < 72 → x ≠ 24 → x ≠ 32 → beS s x = 0 := by
    intro x h1 h2 h3 h4
    unfold beS
    rw [upd_n (by omega), upd_n (by omega), upd_n (by omega), upd_n (by omega), upd_n (by omega), upd_n (by omega)]
    obtain ⟨y, rfl⟩ : ∃ y, x = 23 + y := ⟨x - 23, by omega⟩
    exact ovo_in (by omega)
  refine ⟨(lo _ (by omega)).trans q1, (lo _ (by omega)).trans q2, (lo _ (by omega)).trans q3, fun i a (b : i ≤ rM r) => (lo _ (by omega)).trans (q4 i a b), rfl, rfl, ?_, (lo _ (by omega)).trans q8, (lo _ (by omega)).trans q9, rfl, ⟨hi _ (by omega) (by omega) (by omega) (by omega), rfl, hi _ (by omega) (by omega) (by omega) (by omega), hi _ (by omega) (by omega) (by omega) (by omega), hi _ (by omega) (by omega) (by omega) (by omega), hi _ (by omega) (by omega) (by omega) (by omega), hi _ (by omega) (by omega) (by omega) (by omega), hi _ (by omega) (by omega) (by omega) (by omega), fun i a (b : i ≤ rM r) => hi _ (by omega) (by omega) (by omega) (by omega)⟩, ⟨hi _ (by omega) (by omega) (by omega) (by omega), rfl, hi _ (by omega) (by omega) (by omega) (by omega), hi _ (by omega) (by omega) (by omega) (by omega), hi _ (by omega) (by omega) (by omega) (by omega), hi _ (by omega) (by omega) (by omega) (by omega), hi _ (by omega) (by omega) (by omega) (by omega), hi _ (by omega) (by omega) (by omega) (by omega), fun i a (b : i ≤ rM r) => hi _ (by omega) (by omega) (by omega) (by omega)⟩⟩
  show s 19 + 1 = r.2.2.2.2.2.2.2.2.1 + 1
  rw [q7]

/-! the reference's race = the spec -/
theorem bnd {α β : Type} {x : Option α} {f : α → Option β} {y : α} {z : Option β} (h : x = some y) (h2 : f y = z) : x.bind f = z := by subst h; exact h2
theorem bndE {α β : Type} {x : Option α} {f : α → Option β} {y : α} {P : β → Prop} (h : x = some y) (h2 : ∃ z, f y = some z ∧ P z) : ∃ z, x.bind f = some z ∧ P z := by subst h; exact h2
theorem ifE_t {β : Type} {c : Prop} [Decidable c] {a b : Option β} {P : β → Prop} (h : c) (h2 : ∃ z, a = some z ∧ P z) : ∃ z, (if c then a else b) = some z ∧ P z := by rw [if_pos h]; exact h2
theorem ifE_f {β : Type} {c : Prop} [Decidable c] {a b : Option β} {P : β → Prop} (h : ¬ c) (h2 : ∃ z, b = some z ∧ P z) : ∃ z, (if c then a else b) = some z ∧ P z := by rw [if_neg h]; exact h2
theorem ift {β : Type} {c : Prop} [Decidable c] {a b z : β} (h : c) (h2 : a = z) : (if c then a else b) = z := by rw [if_pos h]; exact h2
theorem iff' {β : Type} {c : Prop} [Decidable c] {a b z : β} (h : ¬ c) (h2 : b = z) : (if c then a else b) = z := by rw [if_neg h]; exact h2
abbrev w_tp (v : tX7) : Int32 := v.2.2.2.2.2.2.2.2.2.2.2.2.2.1
abbrev w_tl (v : tX7) : Int32 := v.2.2.2.2.2.2.2.2.2.2.2.2.2.2.1
abbrev w_ti (v : tX7) : Int32 := v.2.2.2.2.2.2.2.2.2.2.2.2.2.2.2.1
abbrev w_le (v : tX7) : Int32 := v.2.2.2.2.2.2.2.2.2.2.2.2.2.2.2.2.1
abbrev w_rl (v : tX7) : Int32 := v.2.2.2.2.2.2.2.2.2.2.2.2.2.2.2.2.2
abbrev set7 (v : tX7) (s : Nat → Int32) : tX7 := st7 v s (w_tp v) (w_tl v) (w_ti v) (w_le v) (w_rl v)
def same7 (v v' : tX7) : Prop := v' = st7 v v'.2.1 (w_tp v') (w_tl v') (w_ti v') (w_le v') (w_rl v')
theorem of7 {v : tX7} {p q : Int32} {j k : Nat} (hp : p = nI j) (hq : q = nI k) (hj : j ≤ 1) (hk : k < 8) : f_X7_of v p q = some (v.2.1 (23 + 8 * j + k)) := by
  subst hp hq
  unfold f_X7_of
  have e : (23 : Int32) + (8 : Int32) * nI j + nI k = nI (23 + 8 * j + k) := by
    show nI 23 + nI 8 * nI j + nI k = _
    rw [nI_mul, nI_add, nI_add]
  rw [e, if_pos (ig_t (by omega) (by omega)), nI_clamp (by omega)]
theorem lay7 {v : tX7} {p q x : Int32} {j k : Nat} (hp : p = nI j) (hq : q = nI k) (hj : j ≤ 1) (hk : k < 8) : f_X7_lay v p q x = some (set7 v (upd v.2.1 (23 + 8 * j + k) x)) := by
  subst hp hq
  unfold f_X7_lay
  have e : (23 : Int32) + (8 : Int32) * nI j + nI k = nI (23 + 8 * j + k) := by
    show nI 23 + nI 8 * nI j + nI k = _
    rw [nI_mul, nI_add, nI_add]
  rw [e, if_pos (ig_t (by omega) (by omega)), nI_clamp (by omega)]
theorem nI_1m {j : Nat} (hj : j ≤ 1) : (1 : Int32) - nI j = nI (1 - j) := by
  show nI 1 - nI j = _
  exact nI_sub hj
theorem goesOn7 {v : tX7} {j : Nat} (hj : j ≤ 1) (h : v.2.1 17 = nI j) : f_X7_goesOn v = some (set7 v (upd (upd (upd v.2.1 (26 + 8 * j) (v.2.1 (26 + 8 * j) + 1)) 18 (v.2.1 18 + 1)) 17 (nI (1 - j)))) := by
  unfold f_X7_goesOn
  refine bnd (of7 (k := 3) h rfl hj (by omega)) ?_
  refine bnd (lay7 (k := 3) h rfl hj (by omega)) ?_
  have e : (set7 v (upd v.2.1 (23 + 8 * j + 3) (v.2.1 (23 + 8 * j + 3) + 1))).2.1 18 = v.2.1 18 := upd_n (by omega)
  rw [e, h, nI_1m hj, show 23 + 8 * j + 3 = 26 + 8 * j by omega]
theorem isOver7 {v : tX7} {r : RcS} (h : MR v.2.1 r) : f_X7_isOver v = some (if rWi r = -4 then nI 0 else nI 1) := by
  have e := h.2.2.2.2.2.2.2.2.2.1
  unfold f_X7_isOver
  rw [e]
  by_cases c : rWi r = -4
  · rw [if_pos c, if_pos c]; rfl
  · rw [if_neg c, if_neg c]; rfl
theorem MR_17 {s : Nat → Int32} {r : RcS} (h : MR s r) : s 17 = nI (rOt r) := h.2.2.2.2.1
theorem MR_W {s : Nat → Int32} {r : RcS} (h : MR s r) {j : Nat} (hj : j ≤ 1) : MW s (rM r) j (rW r j) := by
  rcases (show j = 0 ∨ j = 1 by omega) with e | e
  · subst e; exact h.2.2.2.2.2.2.2.2.2.2.1
  · subst e; exact h.2.2.2.2.2.2.2.2.2.2.2
theorem MR_R {s : Nat → Int32} {r : RcS} (h : MR s r) (ok : okR r) : Rs s (rM r) (rK r) := ⟨h.2.2.1, ok.1, ok.2.1, fun i a b => ⟨h.2.2.2.1 i a b, ok.2.2.1 i a b⟩⟩
theorem J40_eq {v : tX7} {r : RcS} (h : MR v.2.1 r) (ok : okR r) {t : Nat} (ht : t < 1000) (a b : Nat) (ha : a ≤ 1) (hb : b ≤ 1) : f_X7_refuses_J40 v (nI t) (nI a) (nI b) (nI a) = some (nI (if a = b then (if t = 5 then (if gTk (rW r (rOt r)) = 0 then 5 else 0) else if t ≤ rPc r then 0 else 4) else if a = 0 then 3 else 2)) := by
  have ho := ok.2.2.2.2.2.2.2.1
  have hw := MR_W h ho
  have hk := ok.2.2.2.2.2.2.2.2.1 (rOt r) ho
  have hpc := ok.2.2.2.2.1
  unfold f_X7_refuses_J40
  by_cases c : a = b
  · refine ift (by rw [c]) ?_
    rw [if_pos c]
    by_cases c5 : t = 5
    · refine ift (by rw [c5]; rfl) ?_
      rw [if_pos c5]
      refine bnd (of7 (k := 1) (MR_17 h) rfl ho (by omega)) ?_
      rw [show 23 + 8 * rOt r + 1 = 24 + 8 * rOt r by omega, hw.2.1]
      by_cases c0 : gTk (rW r (rOt r)) = 0
      · rw [if_pos c0]; exact ift (show nI (rW r (rOt r)).2.1 = 0 by rw [show (rW r (rOt r)).2.1 = 0 from c0]; rfl) rfl
      · rw [if_neg c0]; exact iff' (fun e => c0 ((nI_eq (b := 0) (by have := hk.2.1; show gTk (rW r (rOt r)) < _; omega) (by omega)).mp e)) rfl
    · refine iff' (fun e => c5 ((nI_eq (b := 5) (by omega) (by omega)).mp e)) ?_
      rw [if_neg c5, h.1]
      by_cases c6 : t ≤ rPc r
      · rw [if_pos c6, if_pos (nI_le c6 (by omega))]; rfl
      · rw [if_neg c6, if_neg (nI_ge (by omega) (by omega))]; rfl
  · refine iff' (fun e => c ((nI_eq (by omega) (by omega)).mp e)) ?_
    rw [if_neg c]
    by_cases c0 : a = 0
    · rw [if_pos c0]; exact ift (by rw [c0]; rfl) rfl
    · rw [if_neg c0]; exact iff' (fun e => c0 ((nI_eq (b := 0) (by omega) (by omega)).mp e)) rfl
theorem refuses7 {v : tX7} {r : RcS} (h : MR v.2.1 r) (ok : okR r) {t : Nat} (ht : t < 1000) : f_X7_refuses v (nI t) = some (nI (sRef r t)) := by
  have ho := ok.2.2.2.2.2.2.2.1
  have hw := MR_W h ho
  have hk := ok.2.2.2.2.2.2.2.2.1 (rOt r) ho
  unfold f_X7_refuses sRef
  refine bnd (isOver7 h) ?_
  by_cases c : rWi r = -4
  · rw [if_pos c, if_neg (show ¬ rWi r ≠ -4 from fun e => e c)]
    refine ift rfl ?_
    refine bnd (of7 (k := 2) (MR_17 h) rfl ho (by omega)) ?_
    rw [show 23 + 8 * rOt r + 2 = 25 + 8 * rOt r by omega, hw.2.2.1]
    have hl : (rW r (rOt r)).2.2.1 < 2 ^ 31 := by have := hk.2.2; show gLs (rW r (rOt r)) < _; omega
    by_cases c2 : gLs (rW r (rOt r)) = 0
    · rw [if_neg (show ¬ gLs (rW r (rOt r)) ≠ 0 from fun e => e c2)]
      refine ift (by rw [nI_le0 hl]; exact c2) ?_
      unfold f_X7_refuses_J29
      by_cases ct : t = 0
      · refine ift (by rw [ct]; rfl) ?_
        rw [if_pos ct]
        exact J40_eq h ok ht 0 1 (by omega) (by omega)
      · refine iff' (by rw [nI_z (by omega)]; exact ct) ?_
        rw [if_neg ct]
        exact J40_eq h ok ht 0 0 (by omega) (by omega)
    · rw [if_pos (show gLs (rW r (rOt r)) ≠ 0 from c2)]
      refine iff' (by rw [nI_le0 hl]; exact c2) ?_
      unfold f_X7_refuses_J29
      by_cases ct : t = 0
      · refine ift (by rw [ct]; rfl) ?_
        rw [if_pos ct]
        rw [show (some (nI 0) : Option Int32) = some (nI (if 1 = 1 then (if t = 5 then (if gTk (rW r (rOt r)) = 0 then 5 else 0) else if t ≤ rPc r then 0 else 4) else if 1 = 0 then 3 else 2)) by
          rw [if_pos rfl, if_neg (show ¬ t = 5 by omega), if_pos (show t ≤ rPc r by omega)]]
        exact J40_eq h ok ht 1 1 (by omega) (by omega)
      · refine iff' (by rw [nI_z (by omega)]; exact ct) ?_
        rw [if_neg ct]
        exact J40_eq h ok ht 1 0 (by omega) (by omega)
  · rw [if_neg c, if_pos (show rWi r ≠ -4 from c)]
    exact iff' (by decide) rfl
theorem fl_add {c : Prop} [Decidable c] (x : Int32) : x + fl c = if c then x + 1 else x := by
  by_cases h : c
  · rw [fl_t h, if_pos h]
  · rw [fl_f h, if_neg h, Int32.add_zero]
theorem fl_nI {c : Prop} [Decidable c] (n : Nat) : nI n + fl c = nI (if c then n + 1 else n) := by
  by_cases h : c
  · rw [fl_t h, if_pos h, nI_1]
  · rw [fl_f h, if_neg h, Int32.add_zero]
theorem makesLost7 {v : tX7} {r : RcS} (h : MR v.2.1 r) (ok : okR r) (hp : sRef r 0 = 0) : ∃ z, f_X7_makesLost v = some z ∧ (z.1 = nI (gLs (rW r (rOt r)) - 1) ∧ MR z.2.2.1 (sLost r) ∧ same7 v z.2) := by
  have h17 := MR_17 h
  have ho := ok.2.2.2.2.2.2.2.1
  unfold f_X7_makesLost
  refine bndE (of7 (k := 2) h17 rfl ho (by omega)) ?_
  refine bndE (lay7 (k := 2) h17 rfl ho (by omega)) ?_
  refine bndE (of7 (k := 4) h17 rfl ho (by omega)) ?_
  refine bndE (lay7 (k := 4) h17 rfl ho (by omega)) ?_
  refine bndE (goesOn7 ho (by
    show upd (upd _ _ _) _ _ 17 = _
    rw [upd_n (by omega), upd_n (by omega)]; exact h17)) ?_
  refine bndE (of7 (k := 2) h17 rfl ho (by omega)) ?_
  obtain ⟨m, K, pc, sp, W, ot, wi, tu, be, won⟩ := r
  obtain ⟨h1, h2, h3, h4, h5, h6, h7, h8, h9, h10⟩ := ok
  obtain ⟨q1, q2, q3, q4, q5, q6, q7, q8, q9, q10, q11, q12⟩ := h
  dsimp only [rM, rK, rPc, rSp, rW, rOt, rWi, gPl, gTk, gLs] at *
  have hl : 1 ≤ (W ot).2.2.1 := by
    unfold sRef at hp
    dsimp only [rM, rK, rPc, rSp, rW, rOt, rWi, gPl, gTk, gLs] at hp
    by_cases c1 : wi ≠ -4
    · rw [if_pos c1] at hp; omega
    · rw [if_neg c1] at hp
      by_cases c2 : (W ot).2.2.1 ≠ 0
      · omega
      · rw [if_neg c2] at hp; simp at hp
  rcases e0 : W 0 with ⟨p0, t0, l0, a1, a2, a3, a4, a5, a6⟩
  rcases e1 : W 1 with ⟨p1, t1, l1, b1, b2, b3, b4, b5, b6⟩
  rw [e0] at q11; rw [e1] at q12
  obtain ⟨u1, u2, u3, u4, u5, u6, u7, u8, u9⟩ := q11
  obtain ⟨v1, v2, v3, v4, v5, v6, v7, v8, v9⟩ := q12
  rcases (show ot = 0 ∨ ot = 1 by omega) with rfl | rfl
  · rw [e0] at hl
    have hsub : v.2.1 25 - 1 = nI (l0 - 1) := (congrArg (· - 1) u3).trans (nI_sub hl)
    refine ⟨_, rfl, ?_, ?_, rfl⟩
    · simp [upd, e0]; exact hsub
    · simp only [sLost, rW, rOt, e0]
      refine ⟨?_, ?_, ?_, fun i a (b : i ≤ m) => ?_, ?_, ?_, ?_, ?_, ?_, ?_, ⟨?_, ?_, ?_, ?_, ?_, ?_, ?_, ?_, fun i a (b : i ≤ m) => ?_⟩, ⟨?_, ?_, ?_, ?_, ?_, ?_, ?_, ?_, fun i a (b : i ≤ m) => ?_⟩⟩
      all_goals try dsimp only [set7, st7]
      all_goals first
        | (repeat rw [upd_n (by omega)]) <;> first | exact q4 i a b | exact (u9 i a b).trans (by simp [upw, e0, e1, rW]) | exact (v9 i a b).trans (by simp [upw, e0, e1, rW])
        | (simp [upd, upw, e0, e1, rM, rPc, rSp, rK, rWi, rOt, rW]; done)
        | (simp [upd, upw, e0, e1, rM, rPc, rSp, rK, rWi, rOt, rW]; assumption)
  · rw [e1] at hl
    have hsub : v.2.1 33 - 1 = nI (l1 - 1) := (congrArg (· - 1) v3).trans (nI_sub hl)
    refine ⟨_, rfl, ?_, ?_, rfl⟩
    · simp [upd, e1]; exact hsub
    · simp only [sLost, rW, rOt, e1]
      refine ⟨?_, ?_, ?_, fun i a (b : i ≤ m) => ?_, ?_, ?_, ?_, ?_, ?_, ?_, ⟨?_, ?_, ?_, ?_, ?_, ?_, ?_, ?_, fun i a (b : i ≤ m) => ?_⟩, ⟨?_, ?_, ?_, ?_, ?_, ?_, ?_, ?_, fun i a (b : i ≤ m) => ?_⟩⟩
      all_goals try dsimp only [set7, st7]
      all_goals first
        | (repeat rw [upd_n (by omega)]) <;> first | exact q4 i a b | exact (u9 i a b).trans (by simp [upw, e0, e1, rW]) | exact (v9 i a b).trans (by simp [upw, e0, e1, rW])
        | (simp [upd, upw, e0, e1, rM, rPc, rSp, rK, rWi, rOt, rW]; done)
        | (simp [upd, upw, e0, e1, rM, rPc, rSp, rK, rWi, rOt, rW]; assumption)

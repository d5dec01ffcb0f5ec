/-! taking over and beginning: the class -/
theorem nI_bq {n : Nat} (h : n ≤ 1) : bq (nI n) = true := by
  rcases (show n = 0 ∨ n = 1 by omega) with rfl | rfl <;> decide
theorem cpy_in {n i : Nat} {f g : Nat → Int32} (h : i < n) : cpy n f g i = f i := if_pos h
theorem CW_take {m : Nat} (hm : m ≤ 14) {v v1 : tX4} {w : WgS} (h : CW m v1 w) (ht : w.2.1 ≤ 1) : ∃ v', f_X4_takeOver v v1 = some v' ∧ CW m v' w := by
  obtain ⟨u1, u2, u3, u4, u5, u6, u7, u8, u9⟩ := h
  unfold f_X4_takeOver
  rw [copyRow_eq _ _ (by omega), Option.bind_some, if_pos (by rw [u2]; exact nI_bq ht)]
  exact ⟨_, rfl, u1, u2, u3, u4, u5, u6, u7, u8, fun i a b => (cpy_in (by omega)).trans (u9 i a b)⟩
theorem CR_take {v v1 : tX2} {r : RcS} (h : CR v1 r) (ok : okR r) : ∃ v', f_X2_takeOver v v1 = some v' ∧ CR v' r := by
  obtain ⟨hR, hW0, hW1, q1, q2, q3, q4, q5, q6, q7, q8⟩ := h
  have hm := ok.2.1
  obtain ⟨x1, e1, c1⟩ := CW_take (v := v.2.1) hm hW0 (ok.2.2.2.2.2.2.2.2.1 0 (by omega)).2.1
  obtain ⟨x2, e2, c2⟩ := CW_take (v := v.2.2.1) hm hW1 (ok.2.2.2.2.2.2.2.2.1 1 (by omega)).2.1
  unfold f_X2_takeOver f_X3_takeOver
  rw [copyRow_eq _ _ (by omega), Option.bind_some, Option.bind_some, e1, Option.bind_some, e2, Option.bind_some]
  obtain ⟨r1, r2, r3, r4⟩ := hR
  exact ⟨_, rfl, ⟨r1, r2, r3, fun i a b => ⟨(cpy_in (by omega)).trans (r4 i a b).1, (r4 i a b).2⟩⟩, c1, c2, q1, q2, q3, q4, q5, q6, q7, q8⟩
def wg0 : WgS := (0, 1, 0, 0, 0, 0, 0, 0, fun _ => 0)
def sBegin (r : RcS) : RcS := (r.1, r.2.1, r.2.2.1, r.2.2.2.1, fun _ => wg0, 0, -4, 0, r.2.2.2.2.2.2.2.2.1 + 1, r.2.2.2.2.2.2.2.2.2)
theorem okR_begin {r : RcS} (h : okR r) : okR (sBegin r) := by
  obtain ⟨h1, h2, h3, h4, h5, h6, h7, h8, h9, h10⟩ := h
  exact ⟨h1, h2, h3, h4, h5, h6, h7, Nat.zero_le _, fun j _ => ⟨Nat.zero_le _, Nat.le_refl 1, Nat.zero_le _⟩, Or.inl ⟨rfl, Nat.zero_le _, Nat.zero_le _, Or.inr rfl⟩⟩
theorem fil_in {n i : Nat} {x : Int32} {g : Nat → Int32} (h : i < n) : fil n x g i = x := if_pos h
theorem CR_begin {v : tX2} {r : RcS} (hR : Rd v.1 (rM r) (rK r)) (q1 : v.2.2.2.1 = nI (rPc r)) (q2 : v.2.2.2.2.1 = nI (rSp r)) (q6 : v.2.2.2.2.2.2.2.2.1 = r.2.2.2.2.2.2.2.2.1) (q7 : v.2.2.2.2.2.2.2.2.2.1 = r.2.2.2.2.2.2.2.2.2 0) (q8 : v.2.2.2.2.2.2.2.2.2.2 = r.2.2.2.2.2.2.2.2.2 1) : ∃ v', f_X2_begin v = some v' ∧ CR v' (sBegin r) ∧ v'.1.2 = nI (rM r) := by
  have hm := hR.2.2.1
  unfold f_X2_begin f_X4_begin
  rw [fillRow_eq _ _ (by omega), fillRow_eq _ _ (by omega)]
  simp only [Option.bind_some]
  refine ⟨_, rfl, ⟨hR, ⟨rfl, rfl, rfl, rfl, rfl, rfl, rfl, rfl, fun i a b => fil_in (by have : i ≤ rM r := b; omega)⟩, ⟨rfl, rfl, rfl, rfl, rfl, rfl, rfl, rfl, fun i a b => fil_in (by have : i ≤ rM r := b; omega)⟩, q1, q2, rfl, rfl, rfl, ?_, q7, q8⟩, hR.1⟩
  show v.2.2.2.2.2.2.2.2.1 + 1 = _
  rw [q6]; rfl
/-! arrays laid over one another -/
def ovo (c i : Nat) (f g : Nat → Int32) : Nat → Int32 := fun x => if c ≤ x ∧ x < c + i then f (x - c) else g x
theorem ovo_0 {c : Nat} {f g : Nat → Int32} : ovo c 0 f g = g := by
  funext x; unfold ovo; rw [if_neg (by omega)]
theorem ovo_s {c i : Nat} {f g : Nat → Int32} {x : Int32} (h : x = f i) : upd (ovo c i f g) (c + i) x = ovo c (i + 1) f g := by
  subst h
  funext x
  unfold ovo upd
  by_cases e : x = c + i
  · rw [if_pos e, if_pos (by omega), show x - c = i by omega]
  · rw [if_neg e]
    dsimp only
    by_cases c1 : c ≤ x ∧ x < c + i
    · rw [if_pos c1, if_pos (by omega)]
    · rw [if_neg c1, if_neg (by omega)]
theorem ovo_in {c n i : Nat} {f g : Nat → Int32} (h : i < n) : ovo c n f g (c + i) = f i := by
  unfold ovo; rw [if_pos (by omega), show c + i - c = i by omega]
theorem ovo_out {c n x : Nat} {f g : Nat → Int32} (h : x < c ∨ c + n ≤ x) : ovo c n f g x = g x := by
  unfold ovo; rw [if_neg (by omega)]
theorem MR_cong {s s' : Nat → Int32} {r : RcS} (hm : rM r ≤ 14) (e : ∀ x, x < 72 → s' x = s x) (h : MR s r) : MR s' r := by
  obtain ⟨q1, q2, q3, q4, q5, q6, q7, q8, q9, q10, q11, q12⟩ := h
  obtain ⟨u1, u2, u3, u4, u5, u6, u7, u8, u9⟩ := q11
  obtain ⟨v1, v2, v3, v4, v5, v6, v7, v8, v9⟩ := q12
  exact ⟨(e _ (by omega)).trans q1, (e _ (by omega)).trans q2, (e _ (by omega)).trans q3, fun i a b => (e _ (by omega)).trans (q4 i a b), (e _ (by omega)).trans q5, (e _ (by omega)).trans q6, (e _ (by omega)).trans q7, (e _ (by omega)).trans q8, (e _ (by omega)).trans q9, (e _ (by omega)).trans q10,
    ⟨(e _ (by omega)).trans u1, (e _ (by omega)).trans u2, (e _ (by omega)).trans u3, (e _ (by omega)).trans u4, (e _ (by omega)).trans u5, (e _ (by omega)).trans u6, (e _ (by omega)).trans u7, (e _ (by omega)).trans u8, fun i a b => (e _ (by omega)).trans (u9 i a b)⟩,
    ⟨(e _ (by omega)).trans v1, (e _ (by omega)).trans v2, (e _ (by omega)).trans v3, (e _ (by omega)).trans v4, (e _ (by omega)).trans v5, (e _ (by omega)).trans v6, (e _ (by omega)).trans v7, (e _ (by omega)).trans v8, fun i a b => (e _ (by omega)).trans (v9 i a b)⟩⟩
/-! the reference's copying loops -/
abbrev stH (v : tX7) (sts : Nat → Int32) (sm : Int32) : tX7 := (v.1, v.2.1, v.2.2.1, sts, sm, v.2.2.2.2.2)
abbrev w_sts (v : tX7) : Nat → Int32 := v.2.2.2.1
abbrev w_sm (v : tX7) : Int32 := v.2.2.2.2.1
theorem rec_L50 {c : Nat} (hc : c ≤ 3) : ∀ (n i : Nat) (v : tX7), w_sm v = nI c → i ≤ 72 → 72 < i + n → ∀ g, w_sts v = ovo (72 * c) i v.2.1 g → f_X7_records_L50 n (nI i) v = some (stH v (ovo (72 * c) 72 v.2.1 g) (nI (c + 1))) := by
  intro n
  induction n with
  | zero => intro i v h1 h2 h3; omega
  | succ n ih =>
    intro i v h1 h2 h3 g hg
    rw [f_X7_records_L50]
    by_cases c1 : 72 ≤ i
    · have e : i = 72 := by omega
      subst e
      refine ift (nI_le (a := 72) (by omega) (by omega)) ?_
      rw [← hg]
      show some (stH v (w_sts v) (w_sm v + 1)) = _
      rw [h1, nI_1]
    · refine iff' (nI_ge (b := 72) (by omega) (by omega)) ?_
      refine ift (ig_t (by omega) (by omega)) ?_
      have e1 : (72 : Int32) * w_sm v + nI i = nI (72 * c + i) := by
        rw [h1]; show nI 72 * nI c + nI i = _
        rw [nI_mul, nI_add]
      show (if ig ((72 : Int32) * w_sm v + nI i) 288 = true then f_X7_records_L50 n (nI i + 1) (stH v (upd (w_sts v) ((72 : Int32) * w_sm v + nI i).toNatClampNeg (v.2.1 (nI i).toNatClampNeg)) (w_sm v)) else none) = _
      rw [e1, if_pos (ig_t (by omega) (by omega)), nI_clamp (by omega), nI_clamp (by omega), hg, ovo_s rfl, nI_1]
      exact ih (i + 1) (stH v (ovo (72 * c) (i + 1) v.2.1 g) (w_sm v)) h1 (by omega) (by omega) g rfl
theorem rec_L10 {f : Nat → Int32} : ∀ (n i : Nat) (v : tX7), i ≤ 216 → 216 < i + n → w_sts v = ovo 0 i (fun x => f (x + 72)) f → f_X7_records_L10 n (nI i) v = f_X7_records_J48 (stH v (ovo 0 216 (fun x => f (x + 72)) f) (w_sm v - 1)) := by
  intro n
  induction n with
  | zero => intro i v h2 h3; omega
  | succ n ih =>
    intro i v h2 h3 hg
    rw [f_X7_records_L10]
    by_cases c1 : 216 ≤ i
    · have e : i = 216 := by omega
      subst e
      refine ift (nI_le (a := 216) (by omega) (by omega)) ?_
      rw [← hg]
    · refine iff' (nI_ge (b := 216) (by omega) (by omega)) ?_
      have e1 : nI i + (72 : Int32) = nI (i + 72) := nI_add i 72
      rw [e1]
      refine ift (ig_t (by omega) (by omega)) ?_
      refine ift (ig_t (by omega) (by omega)) ?_
      show f_X7_records_L10 n (nI i + 1) (stH v (upd (w_sts v) (nI i).toNatClampNeg (w_sts v (nI (i + 72)).toNatClampNeg)) (w_sm v)) = _
      rw [nI_clamp (by omega), nI_clamp (by omega), hg, ovo_out (by omega), nI_1]
      have := ovo_s (c := 0) (i := i) (f := fun x => f (x + 72)) (g := f) (x := f (i + 72)) rfl
      rw [Nat.zero_add] at this
      rw [this]
      exact ih (i + 1) _ (by omega) (by omega) rfl

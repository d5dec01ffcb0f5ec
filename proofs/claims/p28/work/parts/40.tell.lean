/-! the class's memo of worths -/
abbrev tTO (v : tX5) : Nat → Int32 := v.2.2.2.1
abbrev stT (v : tX5) (to : Nat → Int32) : tX5 := (v.1, v.2.1, v.2.2.1, to, v.2.2.2.2)
def dl (m n : Nat) : Nat := 2 * (2 * m - qO n - qP n) + qT n + qU n
def TI (v : tX5) (m : Nat) (K : Nat → Nat) (pc sp : Nat) : Prop := TW v m K pc sp ∧ ∀ n, vld m n → (tTO v n = 0 ∨ tTO v n = nZ (Wo m K pc sp n)) ∧ (tTO v n ≠ 0 → qL n = 0 → ∀ t n', 1 ≤ t → t ≤ 5 → posT pc n t → nxt m K sp n t = some n' → tTO v n' ≠ 0)
/-- what a telling does -/
def TS (m : Nat) (K : Nat → Nat) (pc sp : Nat) (v : tX5) (n : Nat) (o : Option (Int32 × tX5)) : Prop := ∃ to, o = some (nZ (Wo m K pc sp n), stT v to) ∧ TI (stT v to) m K pc sp ∧ to n ≠ 0 ∧ ∀ x, vld m x → tTO v x ≠ 0 → to x ≠ 0
section TE
variable {m : Nat} {K : Nat → Nat} {pc sp : Nat}
theorem TI.W {v : tX5} (h : TI v m K pc sp) : TW v m K pc sp := h.1
theorem TW.m14 {v : tX5} (h : TW v m K pc sp) : m ≤ 14 := h.1.2.2.1
theorem Wo_b {v : tX5} (h : TW v m K pc sp) {n : Nat} (hv : vld m n) : gw 464 (Wo m K pc sp n) := Wo_gw h.m14 h.2.2.2.2.2 h.2.2.2.2.1.1 hv
theorem Wo_nz {v : tX5} (h : TW v m K pc sp) {n : Nat} (hv : vld m n) : nZ (Wo m K pc sp n) ≠ 0 := by
  have g := Wo_b h hv
  intro e
  have e0 : (0 : Int32) = nZ 0 := rfl
  rw [e0] at e
  have := (nZ_eq (a := Wo m K pc sp n) (b := 0) (by rcases g with ⟨a, b⟩ | ⟨a, b⟩ <;> omega) (by rcases g with ⟨a, b⟩ | ⟨a, b⟩ <;> omega) (by omega) (by omega)).mp e
  rcases g with ⟨a, b⟩ | ⟨a, b⟩ <;> omega
theorem TI.at {v : tX5} (h : TI v m K pc sp) {n : Nat} (hv : vld m n) (h0 : tTO v n ≠ 0) : tTO v n = nZ (Wo m K pc sp n) := by
  rcases (h.2 n hv).1 with e | e
  · exact absurd e h0
  · exact e
theorem dl_dec {n t n' : Nat} (hm : m ≤ 14) (hs : 1 ≤ sp ∧ sp ≤ 3) (hv : vld m n) (ht : 1 ≤ t) (hp : posT pc n t) (h : nxt m K sp n t = some n') : dl m n' < dl m n := by
  obtain ⟨h1, h2, h3, h4⟩ := hv
  obtain ⟨b1, b2, b3, b4, b5, b6⟩ := q_lt n
  unfold nxt at h
  unfold posT at hp
  rw [if_neg (by omega)] at h hp
  by_cases c5 : t = 5
  · rw [if_pos c5] at h
    rw [if_pos c5] at hp
    have e := (Option.some.inj h).symm
    subst e
    have hl : min 3 (qM n + sp) < 4 := by omega
    unfold dl nxT
    rw [mkS_O b2 b1 b4 (by omega) hl (by omega), mkS_P b1 b4 (by omega) hl (by omega), mkS_T b4 (by omega) hl (by omega), mkS_U (by omega) hl (by omega)]
    omega
  · rw [if_neg c5] at h
    have hq := rs_ok (K := K) hm h3 h2 (show 1 ≤ t by omega)
    unfold nxR at h
    by_cases c : rs m K (qP n) (qO n) t ≤ m
    · rw [if_pos c] at h
      have e := (Option.some.inj h).symm
      subst e
      have hq2 := hq.2.1
      generalize hqq : rs m K (qP n) (qO n) t = q at *
      have hu : (if kd m K q = 3 then 1 else qT n) < 2 := by
        by_cases k3 : kd m K q = 3
        · rw [if_pos k3]; omega
        · rw [if_neg k3]; omega
      have hl : (if kd m K q = 1 then 1 else 0) < 4 := by
        by_cases k3 : kd m K q = 1
        · rw [if_pos k3]; omega
        · rw [if_neg k3]; omega
      unfold dl nxD
      generalize (if kd m K q = 3 then 1 else qT n) = u' at *
      generalize (if kd m K q = 1 then 1 else 0) = l' at *
      rw [mkS_O b2 (by omega) b4 hu b6 hl, mkS_P (by omega) b4 hu b6 hl, mkS_T b4 hu b6 hl, mkS_U hu b6 hl]
      omega
    · rw [if_neg c] at h; exact absurd h (by simp)
theorem TI_child {v : tX5} (h : TW v m K pc sp) {n t n' : Nat} (hv : vld m n) (hp : posT pc n t) (e : nxt m K sp n t = some n') : vld m n' := (nxt_vld h.m14 h.2.2.2.2.2 hv hp e).1
/-- the best of a stand's turns, told -/
theorem great_L7 {rec : tX5 → Int32 → Int32 → Option (Int32 × tX5)} {n p2 : Nat} (hrec : ∀ (v : tX5) (n' : Nat), TI v m K pc sp → vld m n' → dl m n' < dl m n → TS m K pc sp v n' (rec v (nI n') (nI p2))) : ∀ (f k : Nat) (v : tX5), TI v m K pc sp → vld m n → qL n = 0 → k ≤ 5 → 5 < k + f → (∀ t n', 1 ≤ t → t ≤ k → posT pc n t → nxt m K sp n t = some n' → tTO v n' ≠ 0) →
    ∃ to, f_X5_greatestInto_L7 rec f (nI n) (nI p2) (nZ (bm m K pc sp (Wo m K pc sp) n k)) (nI (k + 1)) v = some (nZ (bm m K pc sp (Wo m K pc sp) n 5), stT v to) ∧ TI (stT v to) m K pc sp ∧ (∀ x, vld m x → tTO v x ≠ 0 → to x ≠ 0) ∧ (∀ t n', 1 ≤ t → t ≤ 5 → posT pc n t → nxt m K sp n t = some n' → to n' ≠ 0) := by
  intro f
  induction f with
  | zero => intro k v h hv hl hk hf; omega
  | succ f ih =>
    intro k v h hv hl hk hf hc
    rw [f_X5_greatestInto_L7]
    by_cases c5 : k = 5
    · subst c5
      exact ⟨tTO v, ift (show nI 5 < nI 6 from nI_lt (by omega) (by omega)) rfl, h, fun x _ h0 => h0, hc⟩
    · have e5 : ¬ (5 : Int32) < nI (k + 1) := show ¬ nI 5 < nI (k + 1) from nI_nlt (by omega) (by omega)
      have hb : ∀ j, -500 ≤ bm m K pc sp (Wo m K pc sp) n j ∧ bm m K pc sp (Wo m K pc sp) n j ≤ 499 := by
        intro j
        rcases gw_bm (W := Wo m K pc sp) h.1.m14 h.1.2.2.2.2.2 hv (fun t n' hp e => by
          have := nxt_vld h.1.m14 h.1.2.2.2.2.2 hv hp e
          exact Vf_gw h.1.m14 h.1.2.2.2.2.2 h.1.2.2.2.2.1.1 500 n' this.1 (by have := mu_le (n := n') h.1.m14; omega)) j with ⟨e, -⟩ | ⟨a, b⟩ | ⟨a, b⟩
        · rw [e]; omega
        · have := mu_le (n := n) h.1.m14; omega
        · have := mu_le (n := n) h.1.m14; omega
      have st : bm m K pc sp (Wo m K pc sp) n (k + 1) = if posT pc n (k + 1) then max (bm m K pc sp (Wo m K pc sp) n k) (bt m K sp (Wo m K pc sp) n (k + 1)) else bm m K pc sp (Wo m K pc sp) n k := rfl
      by_cases cp : posT pc n (k + 1)
      · rw [if_pos cp] at st
        have hmx : ∀ x : Int, -999 ≤ x → x ≤ 999 → (if nZ (bm m K pc sp (Wo m K pc sp) n k) < nZ x then nZ x else nZ (bm m K pc sp (Wo m K pc sp) n k)) = nZ (max (bm m K pc sp (Wo m K pc sp) n k) x) := by
          intro x x1 x2
          have := hb k
          by_cases q : bm m K pc sp (Wo m K pc sp) n k < x
          · rw [if_pos (by rw [nZ_lt (by omega) (by omega) (by omega) (by omega)]; exact q), Int.max_eq_right (by omega)]
          · rw [if_neg (by rw [nZ_lt (by omega) (by omega) (by omega) (by omega)]; exact q), Int.max_eq_left (by omega)]
        rcases e : nxt m K sp n (k + 1) with _ | n'
        · obtain ⟨to, t1, t2, t3, t4⟩ := ih (k + 1) v h hv hl (by omega) (by omega) (fun t n' a b hp e' => by
            by_cases q : t = k + 1
            · subst q; rw [e] at e'; exact absurd e' (by simp)
            · exact hc t n' a (by omega) hp e')
          refine ⟨to, ?_, t2, t3, t4⟩
          refine iff' e5 (bnd (possible_eq h.1 hv.1 (by omega)) ?_)
          rw [if_pos cp]
          refine iff' (by decide) (bnd (after_eq h.1 hv cp (by omega)) ?_)
          rw [e]
          refine ift rfl ?_
          unfold f_X5_greatestInto_J51 f_X5_greatestInto_J63
          refine bnd (show f_X5_oneTurnBefore (-500) = some (nZ 499) by decide) ?_
          have eb : bt m K sp (Wo m K pc sp) n (k + 1) = 499 := by unfold bt; rw [e]
          rw [hmx 499 (by omega) (by omega), ← eb, ← st, nI_1]
          exact t1
        · have hv' := TI_child h.1 hv cp e
          have hd := dl_dec h.1.m14 h.1.2.2.2.2.2 hv (show 1 ≤ k + 1 by omega) cp e
          obtain ⟨to1, s1, s2, s3, s4⟩ := hrec v n' h hv' hd
          obtain ⟨to, t1, t2, t3, t4⟩ := ih (k + 1) (stT v to1) s2 hv hl (by omega) (by omega) (fun t n'' a b hp e' => by
            by_cases q : t = k + 1
            · subst q; rw [e] at e'; rw [← Option.some.inj e']; exact s3
            · exact s4 n'' (TI_child h.1 hv hp e') (hc t n'' a (by omega) hp e'))
          refine ⟨to, ?_, t2, fun x hx h0 => t3 x hx (s4 x hx h0), t4⟩
          refine iff' e5 (bnd (possible_eq h.1 hv.1 (by omega)) ?_)
          rw [if_pos cp]
          refine iff' (by decide) (bnd (after_eq h.1 hv cp (by omega)) ?_)
          rw [e]
          have g := Wo_b h.1 hv'
          have hn' : n' < 16384 := hv'.1
          refine iff' (show ¬ nI n' = -1 from fun q => by
            have q1 := congrArg Int32.toInt q
            rw [nI_toInt (by omega)] at q1
            have : (-1 : Int32).toInt = -1 := by decide
            omega) ?_
          refine bnd s1 ?_
          unfold f_X5_greatestInto_J51 f_X5_greatestInto_J63
          refine bnd (before_eq (by rcases g with ⟨a, b⟩ | ⟨a, b⟩ <;> omega) (by rcases g with ⟨a, b⟩ | ⟨a, b⟩ <;> omega)) ?_
          have eb : bt m K sp (Wo m K pc sp) n (k + 1) = trn (Wo m K pc sp n') := by unfold bt; rw [e]
          have gt : -999 ≤ trn (Wo m K pc sp n') ∧ trn (Wo m K pc sp n') ≤ 999 := by
            unfold trn
            rcases g with ⟨a, b⟩ | ⟨a, b⟩
            · rw [if_pos (by omega)]; omega
            · rw [if_neg (by omega)]; omega
          rw [hmx _ gt.1 gt.2, ← eb, ← st, nI_1]
          exact t1
      · rw [if_neg cp] at st
        obtain ⟨to, t1, t2, t3, t4⟩ := ih (k + 1) v h hv hl (by omega) (by omega) (fun t n' a b hp e' => by
          by_cases q : t = k + 1
          · subst q; exact absurd hp cp
          · exact hc t n' a (by omega) hp e')
        refine ⟨to, ?_, t2, t3, t4⟩
        refine iff' e5 (bnd (possible_eq h.1 hv.1 (by omega)) ?_)
        rw [if_neg cp]
        refine ift rfl ?_
        unfold f_X5_greatestInto_J63
        rw [← st, nI_1]
        exact t1
end TE

/-! the class's worths: what can be done from a stand, and where it leads -/
def TW (v : tX5) (m : Nat) (K : Nat → Nat) (pc sp : Nat) : Prop := Rd v.1 m K ∧ (∀ o p d, o ≤ m → p ≤ m → d < 4 → v.2.1 (o * 64 + p * 4 + d) = nI (rs m K p o (d + 1))) ∧ v.2.2.2.2.2.2.2.1 = nI pc ∧ v.2.2.2.2.2.2.2.2 = nI sp ∧ (1 ≤ pc ∧ pc ≤ 4) ∧ (1 ≤ sp ∧ sp ≤ 3)
theorem ownL_eq {n : Nat} (h : n < 16384) : f_X5_ownLoses (nI n) = some (nI (qL n)) := by
  unfold f_X5_ownLoses
  rw [bit_L h]
theorem othL_eq (n : Nat) : f_X5_otherLoses (nI n) = some (nI (qM n)) := by
  unfold f_X5_otherLoses
  rw [bit_M]
theorem possible_eq {v : tX5} {m : Nat} {K : Nat → Nat} {pc sp : Nat} (h : TW v m K pc sp) {n t : Nat} (hn : n < 16384) (ht : t ≤ 5) : f_X5_isPossible v (nI n) (nI t) = some (if posT pc n t then nI 1 else nI 0) := by
  obtain ⟨b1, b2, b3, b4, b5, b6⟩ := q_lt n
  have hpc := h.2.2.2.2.1
  unfold f_X5_isPossible f_X5_isPossible_J11 posT
  rw [ownL_eq hn, bit_T hn, h.2.2.1]
  simp only [Option.bind_some]
  have et : (nI t = 0) = (t = 0) := nI_z (by omega)
  have el : (nI (qL n) ≤ 0) = (qL n = 0) := nI_le0 (by omega)
  have e5 : (nI t = (5 : Int32)) = (t = 5) := propext (nI_eq (b := 5) (by omega) (by omega))
  have eT : (nI (qT n) = (1 : Int32)) = (qT n = 1) := propext (nI_eq (b := 1) (by omega) (by omega))
  have ep : (nI pc < nI t) = (pc < t) := propext (nI_ltI (by omega) (by omega))
  simp only [et, el, e5, eT, ep]
  by_cases c0 : t = 0
  · simp only [if_pos c0]
    by_cases cl : qL n = 0
    · rw [if_pos cl, if_neg (fun e => e cl)]; rfl
    · rw [if_neg cl, if_pos cl]; rfl
  · simp only [if_neg c0]
    by_cases cl : qL n = 0
    · rw [if_pos cl]
      by_cases c5 : t = 5
      · simp only [if_pos c5]
        by_cases cT : qT n = 1
        · rw [if_pos cT, if_pos ⟨cl, cT⟩]; rfl
        · rw [if_neg cT, if_neg (fun e => cT e.2)]; rfl
      · simp only [if_neg c5]
        by_cases cp : pc < t
        · rw [if_pos cp, if_neg (fun e => by omega)]; rfl
        · rw [if_neg cp, if_pos ⟨cl, by omega⟩]; rfl
    · rw [if_neg cl, if_neg (fun e => cl e.1)]; rfl
def oI : Option Nat → Int32
  | none => -1
  | some n => nI n
theorem J150_eq {v : tX5} {n o p u l m' : Nat} (hn : n < 16384) (ho : o < 16) (hp : p < 16) (hu : u < 2) (hl : l < 4) (hm : m' < 4) : f_X5_after_J150 v (nI n) (nI p) (nI o) (nI u) (nI m') (nI l) = some (nI (mkS o p (qU n) u l m')) := by
  obtain ⟨b1, b2, b3, b4, b5, b6⟩ := q_lt n
  unfold f_X5_after_J150
  rw [bit_U hn, bit_mk ho hp b4 hu hl hm]
theorem after_eq {v : tX5} {m : Nat} {K : Nat → Nat} {pc sp : Nat} (h : TW v m K pc sp) {n t : Nat} (hv : vld m n) (hp : posT pc n t) (ht : t ≤ 5) : f_X5_after v (nI n) (nI t) = some (oI (nxt m K sp n t)) := by
  obtain ⟨b1, b2, b3, b4, b5, b6⟩ := q_lt n
  obtain ⟨hR, hT, hpc, hsp, kpc, ksp⟩ := h
  obtain ⟨hn, v1, v2, v3⟩ := hv
  have hm := hR.2.2.1
  unfold f_X5_after nxt
  rw [ownL_eq hn, othL_eq, bit_O hn, bit_P hn, bit_T hn, hsp]
  simp only [Option.bind_some]
  unfold posT at hp
  by_cases c0 : t = 0
  · rw [if_pos c0] at hp ⊢
    subst c0
    refine ift rfl ?_
    have e1 : nI (qL n) - (1 : Int32) = nI (qL n - 1) := nI_sub (b := 1) (by omega)
    have e2 : (if (0 : Int32) < nI (qL n - 1) then nI (qL n - 1) else (0 : Int32)) = nI (qL n - 1) := by
      by_cases c : qL n - 1 = 0
      · rw [c]; rfl
      · exact ift (show nI 0 < nI (qL n - 1) from nI_lt (by omega) (by omega)) rfl
    rw [e1, e2, J150_eq hn b2 b1 b3 b6 (by omega)]
    rfl
  · rw [if_neg c0] at hp ⊢
    refine iff' (by rw [nI_z (by omega)]; exact c0) ?_
    by_cases c5 : t = 5
    · subst c5
      refine ift rfl ?_
      rw [nI_min (by omega) (by omega), if_pos rfl]
      have := J150_eq (v := v) (u := 0) (m' := 0) (l := min 3 (qM n + sp)) hn b2 b1 (by omega) (by omega) (by omega)
      exact this
    · refine iff' (fun e => c5 ((nI_eq (b := 5) (by omega) (by omega)).mp e)) ?_
      rw [if_neg c5]
      have et : nI t - (1 : Int32) = nI (t - 1) := nI_sub (b := 1) (by omega)
      rw [et, bit_rest b1 b2 (by omega)]
      have hq := rs_ok (K := K) hm v2 v1 (show 1 ≤ t by omega)
      have hx := hT (qO n) (qP n) (t - 1) v1 v2 (by omega)
      rw [show t - 1 + 1 = t by omega] at hx
      refine bnd (at_in v.2.1 (show qO n * 64 + qP n * 4 + (t - 1) < 1024 by omega) (by omega)) ?_
      rw [hx]
      unfold nxR
      have hqb := hq.1.1
      have hqo := hq.2.1
      generalize hqq : rs m K (qP n) (qO n) t = q at *
      refine bnd (isEnd_eq hR (show q < 1000 by omega)) ?_
      by_cases c : q ≤ m
      · rw [if_pos c, if_pos c]
        refine ift rfl ?_
        refine bnd (at_in v.1.1 (show q < 15 by omega) (by omega)) ?_
        have ek := hR.2.2.2 q (by omega) c
        have ekd : kd m K q = K q := if_pos ⟨by omega, c⟩
        rw [ek.1]
        have hk3 := ek.2
        have key : ∀ u, u < 2 → f_X5_after_J135 v (nI n) (nI q) (nI (qP n)) (nI (qM n)) (nI (K q)) (nI u) = some (nI (mkS (qP n) q (qU n) u (qM n) (if kd m K q = 1 then 1 else 0))) := by
          intro u hu
          unfold f_X5_after_J135 f_X5_after_J148
          by_cases c1 : K q = 1
          · refine ift (by rw [c1]; rfl) ?_
            rw [ekd, if_pos c1]
            exact J150_eq (m' := 1) hn b2 (by omega) hu b6 (by omega)
          · refine iff' (fun e => c1 ((nI_eq (b := 1) (by omega) (by omega)).mp e)) ?_
            rw [ekd, if_neg c1]
            exact J150_eq (m' := 0) hn b2 (by omega) hu b6 (by omega)
        unfold nxD oI
        dsimp only
        by_cases c3 : K q = 3
        · refine ift (by rw [c3]; rfl) ?_
          rw [show (if kd m K q = 3 then 1 else qT n) = 1 by rw [ekd, if_pos c3]]
          exact key 1 (by omega)
        · refine iff' (fun e => c3 ((nI_eq (b := 3) (by omega) (by omega)).mp e)) ?_
          rw [show (if kd m K q = 3 then 1 else qT n) = qT n by rw [ekd, if_neg c3]]
          exact key (qT n) b3
      · rw [if_neg c, if_neg c]
        exact iff' (by decide) rfl

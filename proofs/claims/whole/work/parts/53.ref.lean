/-! the reference's worths: one stand -/
theorem bnQ {α β : Type} {Q : Option β → Prop} {x : Option α} {f : α → Option β} {y : α} (h : x = some y) (h2 : Q (f y)) : Q (x.bind f) := by subst h; exact h2
abbrev w_wo (v : tX7) : Nat → Int32 := v.2.2.2.2.2.2.2.2.2.2.2.1
abbrev w_ta (v : tX7) : Int32 := v.2.2.2.2.2.2.2.2.2.2.2.2.1
abbrev st8 (v : tX7) (wo : Nat → Int32) (a tp tl ti le rl : Int32) : tX7 := (v.1, v.2.1, v.2.2.1, v.2.2.2.1, v.2.2.2.2.1, v.2.2.2.2.2.1, v.2.2.2.2.2.2.1, v.2.2.2.2.2.2.2.1, v.2.2.2.2.2.2.2.2.1, v.2.2.2.2.2.2.2.2.2.1, v.2.2.2.2.2.2.2.2.2.2.1, wo, a, tp, tl, ti, le, rl)
def SM8 (v : tX7) (wo : Nat → Int32) (a : Int32) (z : tX7) : Prop := ∃ tp tl ti le rl : Int32, z = st8 v wo a tp tl ti le rl
def E7 (v : tX7) (m : Nat) (K : Nat → Nat) (pc sp : Nat) : Prop := Rs v.2.1 m K ∧ v.2.1 0 = nI pc ∧ v.2.1 1 = nI sp ∧ (1 ≤ pc ∧ pc ≤ 4) ∧ (1 ≤ sp ∧ sp ≤ 3)
theorem number7 {o p t u l q : Nat} : f_X7_numberOf (nI o) (nI p) (nI t) (nI u) (nI l) (nI q) = some (nI (mkS o p t u l q)) := by
  unfold f_X7_numberOf mkS
  show some ((((((((((nI o * nI 16) + nI p) * nI 2) + nI t) * nI 2) + nI u) * nI 4) + nI l) * nI 4) + nI q) = _
  simp only [nI_mul, nI_add]
  congr 2
  omega
section R7
variable {m : Nat} {K : Nat → Nat} {pc sp : Nat}
theorem E7.m14 {v : tX7} (h : E7 v m K pc sp) : m ≤ 14 := h.1.2.2.1
theorem Wo_b7 {v : tX7} (h : E7 v m K pc sp) {n : Nat} (hv : vld m n) : -999 ≤ Wo m K pc sp n ∧ Wo m K pc sp n ≤ 999 ∧ Wo m K pc sp n ≠ 0 := gw_b (Wo_gw h.m14 h.2.2.2.2 h.2.2.2.1.1 hv)
theorem E7.child {v : tX7} (h : E7 v m K pc sp) {n t n' : Nat} (hv : vld m n) (hp : posT pc n t) (e : nxt m K sp n t = some n') : vld m n' := (nxt_vld h.m14 h.2.2.2.2 hv hp e).1
theorem bt_b7 {v : tX7} (h : E7 v m K pc sp) {n t : Nat} (hv : vld m n) (hp : posT pc n t) : -499 ≤ bt m K sp (Wo m K pc sp) n t ∧ bt m K sp (Wo m K pc sp) n t ≤ 499 := by
  have g := gw_bt (K := K) (W := Wo m K pc sp) h.m14 h.2.2.2.2 hv hp (fun n' e => by
    have := nxt_vld h.m14 h.2.2.2.2 hv hp e
    exact Vf_gw h.m14 h.2.2.2.2 h.2.2.2.1.1 500 n' this.1 (by have := mu_le (n := n') h.m14; omega))
  have := mu_le (n := n) h.m14
  rcases g with ⟨a, b⟩ | ⟨a, b⟩ <;> omega
theorem bm_b7 {v : tX7} (h : E7 v m K pc sp) {n : Nat} (hv : vld m n) : ∀ k, -500 ≤ bm m K pc sp (Wo m K pc sp) n k ∧ bm m K pc sp (Wo m K pc sp) n k ≤ 499 := by
  intro k
  induction k with
  | zero => rw [bm]; omega
  | succ k ih =>
    rw [bm]
    by_cases c : posT pc n (k + 1)
    · rw [if_pos c]
      have := bt_b7 h hv c
      omega
    · rw [if_neg c]; exact ih
/-- the number of a stand, read from the table -/
theorem read7 {wo : Nat → Int32} {n : Nat} (hn : n < 16384) {v : tX7} {f : Int32 → Option (Int32 × tX7)} : (if ig (nI n) 32768 = true then f (wo (nI n).toNatClampNeg) else none) = f (wo n) := by
  rw [if_pos (ig_t (by omega) (by omega)), nI_clamp (by omega)]
theorem behindD7 {v : tX7} (h : E7 v m K pc sp) {n t : Nat} (hv : vld m n) (h1 : 1 ≤ t) (h5 : t ≤ 4) (hp : posT pc n t) (hc : ∀ n', nxt m K sp n t = some n' → w_wo v n' = nZ (Wo m K pc sp n')) : ∃ z, f_X7_worthBehindDrive v (nI (qO n)) (nI (qP n)) (nI (qT n)) (nI (qU n)) (nI (qM n)) (nI t) = some (nZ (bt m K sp (Wo m K pc sp) n t), z) ∧ sm7 v z := by
  have hR := h.1
  have hm := h.m14
  have hch := fun n' e => h.child (n' := n') hv hp e
  obtain ⟨hn, v1, v2, v3⟩ := hv
  obtain ⟨b1, b2, b3, b4, b5, b6⟩ := q_lt n
  have hq := rs_ok (K := K) hm v2 v1 h1
  have ed := drives7' (J := -4) hR (Or.inl rfl) rfl rfl rfl v1 v2 (show t < 1000 by omega) h1 v3
  rw [drS_no] at ed
  have en : nxt m K sp n t = if nxR m K n t ≤ m then some (nxD m K n (nxR m K n t)) else none := by
    unfold nxt
    rw [if_neg (by omega), if_neg (by omega)]
  unfold nxR at en
  unfold bt
  generalize hqq : rs m K (qP n) (qO n) t = q at *
  have hqb := hq.1.1
  refine ⟨st7 v v.2.1 (nI q) (fl (kd m K q = 1)) (fl (kd m K q = 3)) (fl (qO n < qP n ∧ qP n < q)) (nI (drC m K (qP n) (qO n) t)), ?_, _, _, _, _, _, rfl⟩
  unfold f_X7_worthBehindDrive
  refine bnd ed ?_
  refine bnd (end7 hR.1) ?_
  by_cases c : q ≤ m
  · rw [if_pos c] at en
    refine iff' (fun e => ?_) ?_
    · have := (nI_eq (a := q) (b := m + 1) (by omega) (by omega)).mp e
      omega
    · have v' := hch _ en
      have wn := hc _ en
      rw [en]
      have hk := kd_lt hR.K q
      have key : ∀ u, u < 2 → u = (if kd m K q = 3 then 1 else qT n) → f_X7_worthBehindDrive_J51 (nI (qM n)) (nI u) (nI (qU n)) (nI q) (nI (qP n)) (st7 v v.2.1 (nI q) (fl (kd m K q = 1)) (fl (kd m K q = 3)) (fl (qO n < qP n ∧ qP n < q)) (nI (drC m K (qP n) (qO n) t))) = some (nZ (trn (Wo m K pc sp (nxD m K n q))), st7 v v.2.1 (nI q) (fl (kd m K q = 1)) (fl (kd m K q = 3)) (fl (qO n < qP n ∧ qP n < q)) (nI (drC m K (qP n) (qO n) t))) := by
        intro u hu hu2
        unfold f_X7_worthBehindDrive_J51
        have e1 : fl (kd m K q = 1) = nI (if kd m K q = 1 then 1 else 0) := by
          unfold fl
          by_cases c1 : kd m K q = 1
          · rw [if_pos c1, if_pos c1]; rfl
          · rw [if_neg c1, if_neg c1]; rfl
        have e2 : f_X7_numberOf (nI (qP n)) (nI q) (nI (qU n)) (nI u) (nI (qM n)) (fl (kd m K q = 1)) = some (nI (nxD m K n q)) := by
          rw [e1, number7, hu2]; rfl
        refine bnd e2 ?_
        refine ift (ig_t (by have := v'.1; omega) (by omega)) ?_
        have e3 : w_wo v (nI (nxD m K n q)).toNatClampNeg = nZ (Wo m K pc sp (nxD m K n q)) := by rw [nI_clamp (by have := v'.1; omega)]; exact wn
        have g := Wo_b7 h v'
        exact bnd (by
          show f_X7_turned (w_wo v _) = _
          rw [e3]; exact turned_eq g.1 g.2.1 g.2.2) rfl
      by_cases c3 : kd m K q = 3
      · refine iff' (show ¬ fl (kd m K q = 3) = 0 by rw [fl_t c3]; decide) ?_
        exact key 1 (by omega) (by rw [if_pos c3])
      · refine ift (show fl (kd m K q = 3) = 0 from fl_f c3) ?_
        exact key (qT n) b3 (by rw [if_neg c3])
  · rw [if_neg c] at en
    rw [en]
    have : q = m + 1 := by omega
    refine ift (show nI q = nI (m + 1) by rw [this]) ?_
    exact bnd (show f_X7_turned (-500) = some (nZ 499) by decide) rfl
theorem behindT7 {v : tX7} (h : E7 v m K pc sp) {n : Nat} (hv : vld m n) (hp : posT pc n 5) (hc : ∀ n', nxt m K sp n 5 = some n' → w_wo v n' = nZ (Wo m K pc sp n')) : f_X7_worthBehindToken v (nI (qO n)) (nI (qP n)) (nI (qU n)) (nI (qM n)) = some (nZ (bt m K sp (Wo m K pc sp) n 5)) := by
  have en : nxt m K sp n 5 = some (nxT sp n) := by unfold nxt; rw [if_neg (by omega), if_pos rfl]
  have v' := h.child hv hp en
  have wn := hc _ en
  have g := Wo_b7 h v'
  obtain ⟨b1, b2, b3, b4, b5, b6⟩ := q_lt n
  have hs := h.2.2.2.2
  unfold bt
  rw [en]
  have key : ∀ k, k = min 3 (qM n + sp) → f_X7_worthBehindToken_J26 v (nI (qO n)) (nI (qP n)) (nI (qU n)) (nI k) = some (nZ (trn (Wo m K pc sp (nxT sp n)))) := by
    intro k hk
    unfold f_X7_worthBehindToken_J26
    have e2 : f_X7_numberOf (nI (qP n)) (nI (qO n)) (nI (qU n)) (0 : Int32) (nI k) (0 : Int32) = some (nI (nxT sp n)) := by
      have := number7 (o := qP n) (p := qO n) (t := qU n) (u := 0) (l := k) (q := 0)
      rw [hk] at this ⊢
      exact this
    refine bnd e2 ?_
    refine ift (ig_t (by have := v'.1; omega) (by omega)) ?_
    have e3 : w_wo v (nI (nxT sp n)).toNatClampNeg = nZ (Wo m K pc sp (nxT sp n)) := by rw [nI_clamp (by have := v'.1; omega)]; exact wn
    exact bnd (by
      show f_X7_turned (w_wo v _) = _
      rw [e3]; exact turned_eq g.1 g.2.1 g.2.2) rfl
  unfold f_X7_worthBehindToken
  have ea : nI (qM n) + v.2.1 1 = nI (qM n + sp) := by rw [h.2.2.1, nI_add]
  rw [ea]
  by_cases c : 3 ≤ qM n + sp
  · refine ift (show nI 3 ≤ nI (qM n + sp) from nI_le c (by omega)) ?_
    exact key 3 (by omega)
  · refine iff' (show ¬ nI 3 ≤ nI (qM n + sp) from nI_ge (by omega) (by omega)) ?_
    exact key (qM n + sp) (by omega)
theorem bm_pc {n : Nat} {W : Nat → Int} : ∀ k, pc ≤ k → k ≤ 4 → bm m K pc sp W n k = bm m K pc sp W n pc := by
  intro k
  induction k with
  | zero => intro a b; have : pc = 0 := by omega
            subst this; rfl
  | succ k ih =>
    intro a b
    by_cases c : pc = k + 1
    · subst c; rfl
    · rw [bm, if_neg (fun q => by
        unfold posT at q
        rw [if_neg (by omega), if_neg (by omega)] at q
        omega)]
      exact ih (by omega) (by omega)
theorem sm7_tr {v a b : tX7} (h : sm7 v a) (h2 : sm7 a b) : sm7 v b := by
  obtain ⟨q1, q2, q3, q4, q5, rfl⟩ := h
  obtain ⟨p1, p2, p3, p4, p5, rfl⟩ := h2
  exact ⟨p1, p2, p3, p4, p5, rfl⟩
theorem sm7_E {v a : tX7} (h : sm7 v a) (e : E7 v m K pc sp) : E7 a m K pc sp := by
  obtain ⟨q1, q2, q3, q4, q5, rfl⟩ := h
  exact e
theorem sm7_wo {v a : tX7} (h : sm7 v a) : w_wo a = w_wo v := by
  obtain ⟨q1, q2, q3, q4, q5, rfl⟩ := h
  rfl
theorem mxZ {a b : Int} (a1 : -999 ≤ a) (a2 : a ≤ 999) (b1 : -999 ≤ b) (b2 : b ≤ 999) : nZ b ≤ nZ a ↔ b ≤ a := by
  rw [nZ_le (by omega) (by omega) (by omega) (by omega)]
theorem worthAt_L36 {n : Nat} (hv : vld m n) (hl : qL n = 0) : ∀ (f k : Nat) (v : tX7), E7 v m K pc sp → (∀ t n', 1 ≤ t → t ≤ 5 → posT pc n t → nxt m K sp n t = some n' → w_wo v n' = nZ (Wo m K pc sp n')) → k ≤ pc → pc < k + f → ∃ z, f_X7_worthAt_L36 f (nI (qO n)) (nI (qP n)) (nI (qT n)) (nI (qU n)) (nI (qM n)) (nZ (bm m K pc sp (Wo m K pc sp) n k)) (nI (k + 1)) v = some (nZ (bm m K pc sp (Wo m K pc sp) n 5), z) ∧ sm7 v z := by
  obtain ⟨b1, b2, b3, b4, b5, b6⟩ := q_lt n
  intro f
  induction f with
  | zero => intro k v h hc a b; omega
  | succ f ih =>
    intro k v h hc a b
    have hpc := h.2.2.2.1
    rw [f_X7_worthAt_L36, h.2.1]
    have g := bm_b7 h hv k
    by_cases c : k = pc
    · subst c
      rw [if_pos (nI_lt (by omega) (by omega))]
      have e4 := bm_pc (m := m) (K := K) (sp := sp) (n := n) (W := Wo m K k sp) 4 hpc.2 (Nat.le_refl 4)
      by_cases c1 : qT n = 1
      · have p5 : posT k n 5 := by unfold posT; rw [if_neg (by omega), if_pos rfl]; exact ⟨hl, c1⟩
        have b5' := bt_b7 h hv p5
        rw [if_pos (show nI (qT n) = (1 : Int32) by rw [c1]; rfl), behindT7 h hv p5 (fun n' e => hc 5 n' (by omega) (by omega) p5 e), Option.bind_some]
        unfold f_X7_worthAt_J105
        have es : bm m K k sp (Wo m K k sp) n 5 = max (bm m K k sp (Wo m K k sp) n k) (bt m K sp (Wo m K k sp) n 5) := by
          rw [bm, if_pos p5, e4]
        rw [es]
        by_cases q : bt m K sp (Wo m K k sp) n 5 ≤ bm m K k sp (Wo m K k sp) n k
        · rw [if_pos ((mxZ (by omega) (by omega) (by omega) (by omega)).mpr q), Int.max_eq_left q]
          exact ⟨v, rfl, sm7_refl v⟩
        · rw [if_neg (fun e => q ((mxZ (by omega) (by omega) (by omega) (by omega)).mp e)), Int.max_eq_right (by omega)]
          exact ⟨v, rfl, sm7_refl v⟩
      · have p5 : ¬ posT k n 5 := by unfold posT; rw [if_neg (by omega), if_pos rfl]; exact fun e => c1 e.2
        rw [if_neg (show ¬ nI (qT n) = (1 : Int32) from fun e => c1 ((nI_eq (b := 1) (by omega) (by omega)).mp e))]
        unfold f_X7_worthAt_J105
        have es : bm m K k sp (Wo m K k sp) n 5 = bm m K k sp (Wo m K k sp) n k := by
          rw [bm, if_neg p5, e4]
        rw [es, if_pos (show (-500 : Int32) ≤ nZ (bm m K k sp (Wo m K k sp) n k) from (mxZ (b := -500) (by omega) (by omega) (by omega) (by omega)).mpr g.1)]
        exact ⟨v, rfl, sm7_refl v⟩
    · rw [if_neg (nI_nlt (by omega) (by omega))]
      have pk : posT pc n (k + 1) := by
        unfold posT
        rw [if_neg (by omega), if_neg (by omega)]
        exact ⟨hl, by omega⟩
      have gb := bt_b7 h hv pk
      obtain ⟨z, z1, z2⟩ := behindD7 h hv (show 1 ≤ k + 1 by omega) (show k + 1 ≤ 4 by omega) pk (fun n' e => hc (k + 1) n' (by omega) (by omega) pk e)
      rw [z1, Option.bind_some]
      obtain ⟨y, y1, y2⟩ := ih (k + 1) z (sm7_E z2 h) (fun t n' x1 x2 x3 x4 => by rw [sm7_wo z2]; exact hc t n' x1 x2 x3 x4) (by omega) (by omega)
      refine ⟨y, ?_, sm7_tr z2 y2⟩
      rw [← y1]
      unfold f_X7_worthAt_J76
      rw [nI_1]
      have es : bm m K pc sp (Wo m K pc sp) n (k + 1) = max (bm m K pc sp (Wo m K pc sp) n k) (bt m K sp (Wo m K pc sp) n (k + 1)) := by
        rw [bm, if_pos pk]
      rw [es]
      by_cases q : bt m K sp (Wo m K pc sp) n (k + 1) ≤ bm m K pc sp (Wo m K pc sp) n k
      · rw [if_pos ((mxZ (by omega) (by omega) (by omega) (by omega)).mpr q), Int.max_eq_left q]
      · rw [if_neg (fun e => q ((mxZ (by omega) (by omega) (by omega) (by omega)).mp e)), Int.max_eq_right (by omega)]
theorem worthAt7 {n : Nat} {v : tX7} (h : E7 v m K pc sp) (hv : vld m n) (hc : ∀ t n', t ≤ 5 → posT pc n t → nxt m K sp n t = some n' → w_wo v n' = nZ (Wo m K pc sp n')) : ∃ z, f_X7_worthAt v (nI (qO n)) (nI (qP n)) (nI (qT n)) (nI (qU n)) (nI (qL n)) (nI (qM n)) = some (nZ (Wo m K pc sp n), z) ∧ sm7 v z := by
  obtain ⟨b1, b2, b3, b4, b5, b6⟩ := q_lt n
  have hw := Wo_eq (K := K) (pc := pc) h.m14 h.2.2.2.2 hv
  unfold bd at hw
  unfold f_X7_worthAt
  by_cases c : qL n = 0
  · rw [if_neg (fun e => e c)] at hw
    obtain ⟨z, z1, z2⟩ := worthAt_L36 hv c gas 0 v h (fun t n' _ x y w => hc t n' x y w) (by omega) (by show pc < 0 + 1000000; have := h.2.2.2.1; omega)
    refine ⟨z, ift (by rw [nI_le0 (by omega)]; exact c) ?_, z2⟩
    rw [hw]
    exact z1
  · rw [if_pos c] at hw
    have p0 : posT pc n 0 := by unfold posT; rw [if_pos rfl]; exact c
    have en : nxt m K sp n 0 = some (nxL n) := if_pos rfl
    have v' := h.child hv p0 en
    have wn := hc 0 _ (by omega) p0 en
    have g := Wo_b7 h v'
    refine ⟨v, iff' (by rw [nI_le0 (by omega)]; exact c) ?_, sm7_refl v⟩
    have e1 : nI (qL n) - (1 : Int32) = nI (qL n - 1) := nI_sub (b := 1) (by omega)
    rw [e1]
    refine bnd (number7 (o := qP n) (p := qO n) (t := qU n) (u := qT n) (l := qM n) (q := qL n - 1)) ?_
    refine ift (ig_t (by have : nxL n < 16384 := v'.1; unfold nxL at this; omega) (by omega)) ?_
    have e3 : w_wo v (nI (nxL n)).toNatClampNeg = nZ (Wo m K pc sp (nxL n)) := by rw [nI_clamp (by have := v'.1; omega)]; exact wn
    have e4 : bt m K sp (Wo m K pc sp) n 0 = trn (Wo m K pc sp (nxL n)) := by unfold bt; rw [en]
    rw [hw, e4]
    exact bnd (by
      show f_X7_turned (w_wo v (nI (nxL n)).toNatClampNeg) = _
      rw [e3]; exact turned_eq g.1 g.2.1 g.2.2) rfl
end R7

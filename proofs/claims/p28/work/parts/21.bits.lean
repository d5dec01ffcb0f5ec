/-! bits of small numbers -/
theorem bs_l : ∀ n, n < 32 → ((nI n &&& 31).toBitVec.smod 32).toNat = n := by decide +kernel
theorem nI_bv (n : Nat) : (nI n).toBitVec = BitVec.ofNat 32 n := rfl
theorem nI_and (a b : Nat) : nI a &&& nI b = nI (a &&& b) := by
  apply Int32.toBitVec_inj.1
  show BitVec.ofNat 32 a &&& BitVec.ofNat 32 b = BitVec.ofNat 32 (a &&& b)
  rw [BitVec.ofNat_and]
theorem nI_or (a b : Nat) : nI a ||| nI b = nI (a ||| b) := by
  apply Int32.toBitVec_inj.1
  show BitVec.ofNat 32 a ||| BitVec.ofNat 32 b = BitVec.ofNat 32 (a ||| b)
  rw [BitVec.ofNat_or]
theorem nI_mask (a k : Nat) : nI a &&& nI (2 ^ k - 1) = nI (a % 2 ^ k) := by rw [nI_and, Nat.and_two_pow_sub_one_eq_mod]
theorem nI_orp {a b : Nat} (k : Nat) (h : b < 2 ^ k) : nI (a * 2 ^ k) ||| nI b = nI (a * 2 ^ k + b) := by
  rw [nI_or, Nat.mul_comm, Nat.two_pow_add_eq_or_of_lt h]
theorem nI_shl {a : Nat} (k : Nat) (hk : k < 32) (h : a * 2 ^ k < 2 ^ 32) : nI a <<< (nI k &&& 31) = nI (a * 2 ^ k) := by
  apply Int32.toBitVec_inj.1
  rw [Int32.toBitVec_shiftLeft]
  show (BitVec.ofNat 32 a) <<< ((nI k &&& 31).toBitVec.smod 32).toNat = BitVec.ofNat 32 (a * 2 ^ k)
  rw [bs_l k hk]
  apply BitVec.eq_of_toNat_eq
  have h1 : a < 2 ^ 32 := Nat.lt_of_le_of_lt (Nat.le_mul_of_pos_right a (Nat.two_pow_pos k)) h
  rw [BitVec.toNat_shiftLeft, BitVec.toNat_ofNat, BitVec.toNat_ofNat, Nat.mod_eq_of_lt h1, Nat.shiftLeft_eq]
theorem nI_shr {a : Nat} (k : Nat) (hk : k < 32) (h : a < 2 ^ 31) : nI a >>> (nI k &&& 31) = nI (a / 2 ^ k) := by
  apply Int32.toBitVec_inj.1
  rw [Int32.toBitVec_shiftRight]
  show (BitVec.ofNat 32 a).sshiftRight ((nI k &&& 31).toBitVec.smod 32).toNat = BitVec.ofNat 32 (a / 2 ^ k)
  rw [bs_l k hk]
  apply BitVec.eq_of_toNat_eq
  have h1 : a < 2 ^ 32 := by omega
  have hm : (BitVec.ofNat 32 a).msb = false := by
    rw [BitVec.msb_eq_decide, BitVec.toNat_ofNat, Nat.mod_eq_of_lt h1]
    simp only [decide_eq_false_iff_not]
    omega
  have h2 : a / 2 ^ k < 2 ^ 32 := Nat.lt_of_le_of_lt (Nat.div_le_self _ _) h1
  rw [BitVec.toNat_sshiftRight_of_msb_false hm, BitVec.toNat_ofNat, BitVec.toNat_ofNat, Nat.mod_eq_of_lt h1, Nat.mod_eq_of_lt h2, Nat.shiftRight_eq_div_pow]
theorem bit_O {n : Nat} (h : n < 16384) : (nI n >>> ((10 : Int32) &&& 31)) &&& (15 : Int32) = nI (qO n) := by
  show (nI n >>> (nI 10 &&& 31)) &&& nI (2 ^ 4 - 1) = _
  rw [nI_shr 10 (by omega) (by omega), nI_mask]; rfl
theorem bit_P {n : Nat} (h : n < 16384) : (nI n >>> ((6 : Int32) &&& 31)) &&& (15 : Int32) = nI (qP n) := by
  show (nI n >>> (nI 6 &&& 31)) &&& nI (2 ^ 4 - 1) = _
  rw [nI_shr 6 (by omega) (by omega), nI_mask]; rfl
theorem bit_T {n : Nat} (h : n < 16384) : (nI n >>> ((5 : Int32) &&& 31)) &&& (1 : Int32) = nI (qT n) := by
  show (nI n >>> (nI 5 &&& 31)) &&& nI (2 ^ 1 - 1) = _
  rw [nI_shr 5 (by omega) (by omega), nI_mask]; rfl
theorem bit_U {n : Nat} (h : n < 16384) : (nI n >>> ((4 : Int32) &&& 31)) &&& (1 : Int32) = nI (qU n) := by
  show (nI n >>> (nI 4 &&& 31)) &&& nI (2 ^ 1 - 1) = _
  rw [nI_shr 4 (by omega) (by omega), nI_mask]; rfl
theorem bit_L {n : Nat} (h : n < 16384) : (nI n >>> ((2 : Int32) &&& 31)) &&& (3 : Int32) = nI (qL n) := by
  show (nI n >>> (nI 2 &&& 31)) &&& nI (2 ^ 2 - 1) = _
  rw [nI_shr 2 (by omega) (by omega), nI_mask]; rfl
theorem bit_M (n : Nat) : nI n &&& (3 : Int32) = nI (qM n) := by
  show nI n &&& nI (2 ^ 2 - 1) = _
  rw [nI_mask]; rfl
theorem mkS_lt {o p t u l m : Nat} (ho : o < 16) (hp : p < 16) (ht : t < 2) (hu : u < 2) (hl : l < 4) (hm : m < 4) : mkS o p t u l m < 16384 := by unfold mkS; omega
theorem mkS_O {o p t u l m : Nat} (ho : o < 16) (hp : p < 16) (ht : t < 2) (hu : u < 2) (hl : l < 4) (hm : m < 4) : qO (mkS o p t u l m) = o := by unfold mkS qO; omega
theorem mkS_P {o p t u l m : Nat} (hp : p < 16) (ht : t < 2) (hu : u < 2) (hl : l < 4) (hm : m < 4) : qP (mkS o p t u l m) = p := by unfold mkS qP; omega
theorem mkS_T {o p t u l m : Nat} (ht : t < 2) (hu : u < 2) (hl : l < 4) (hm : m < 4) : qT (mkS o p t u l m) = t := by unfold mkS qT; omega
theorem mkS_U {o p t u l m : Nat} (hu : u < 2) (hl : l < 4) (hm : m < 4) : qU (mkS o p t u l m) = u := by unfold mkS qU; omega
theorem mkS_L {o p t u l m : Nat} (hl : l < 4) (hm : m < 4) : qL (mkS o p t u l m) = l := by unfold mkS qL; omega
theorem mkS_M {o p t u l m : Nat} (hm : m < 4) : qM (mkS o p t u l m) = m := by unfold mkS qM; omega
theorem mkS_q {n : Nat} (h : n < 16384) : mkS (qO n) (qP n) (qT n) (qU n) (qL n) (qM n) = n := by unfold mkS qO qP qT qU qL qM; omega
theorem q_lt (n : Nat) : qO n < 16 ∧ qP n < 16 ∧ qT n < 2 ∧ qU n < 2 ∧ qL n < 4 ∧ qM n < 4 := by unfold qO qP qT qU qL qM; omega
/-- a stand written as its bits, the class's way (tokens as two bits) -/
theorem bit_mk {o p t u l m : Nat} (ho : o < 16) (hp : p < 16) (ht : t < 2) (hu : u < 2) (hl : l < 4) (hm : m < 4) :
    (((((nI o <<< ((10 : Int32) &&& 31)) ||| (nI p <<< ((6 : Int32) &&& 31))) ||| (nI t <<< ((5 : Int32) &&& 31))) ||| (nI u <<< ((4 : Int32) &&& 31))) ||| (nI l <<< ((2 : Int32) &&& 31))) ||| nI m = nI (mkS o p t u l m) := by
  show (((((nI o <<< (nI 10 &&& 31)) ||| (nI p <<< (nI 6 &&& 31))) ||| (nI t <<< (nI 5 &&& 31))) ||| (nI u <<< (nI 4 &&& 31))) ||| (nI l <<< (nI 2 &&& 31))) ||| nI m = _
  rw [nI_shl 10 (by omega) (by omega), nI_shl 6 (by omega) (by omega), nI_shl 5 (by omega) (by omega), nI_shl 4 (by omega) (by omega), nI_shl 2 (by omega) (by omega)]
  rw [nI_orp 10 (by omega)]
  rw [show o * 2 ^ 10 + p * 2 ^ 6 = (o * 2 ^ 4 + p) * 2 ^ 6 by omega, nI_orp 6 (by omega)]
  rw [show (o * 2 ^ 4 + p) * 2 ^ 6 + t * 2 ^ 5 = ((o * 2 ^ 4 + p) * 2 + t) * 2 ^ 5 by omega, nI_orp 5 (by omega)]
  rw [show ((o * 2 ^ 4 + p) * 2 + t) * 2 ^ 5 + u * 2 ^ 4 = (((o * 2 ^ 4 + p) * 2 + t) * 2 + u) * 2 ^ 4 by omega, nI_orp 4 (by omega)]
  rw [show (((o * 2 ^ 4 + p) * 2 + t) * 2 + u) * 2 ^ 4 + l * 2 ^ 2 = ((((o * 2 ^ 4 + p) * 2 + t) * 2 + u) * 4 + l) * 2 ^ 2 by omega, nI_orp 2 (by omega)]
  congr 1
  unfold mkS
  omega
theorem bit_mk2 {o p t u l m : Nat} (ho : o < 16) (hp : p < 16) (ht : t < 2) (hu : u < 2) (hl : l < 4) (hm : m < 4) :
    ((((nI o <<< ((10 : Int32) &&& 31)) ||| (nI p <<< ((6 : Int32) &&& 31))) ||| ((nI (2 * t) ||| nI u) <<< ((4 : Int32) &&& 31))) ||| (nI l <<< ((2 : Int32) &&& 31))) ||| nI m = nI (mkS o p t u l m) := by
  show ((((nI o <<< (nI 10 &&& 31)) ||| (nI p <<< (nI 6 &&& 31))) ||| ((nI (2 * t) ||| nI u) <<< (nI 4 &&& 31))) ||| (nI l <<< (nI 2 &&& 31))) ||| nI m = _
  rw [show 2 * t = t * 2 ^ 1 by omega, nI_orp 1 (by omega)]
  rw [nI_shl 10 (by omega) (by omega), nI_shl 6 (by omega) (by omega), nI_shl 4 (by omega) (by omega), nI_shl 2 (by omega) (by omega)]
  rw [nI_orp 10 (by omega)]
  rw [show o * 2 ^ 10 + p * 2 ^ 6 = (o * 2 ^ 4 + p) * 2 ^ 6 by omega, nI_orp 6 (by omega)]
  rw [show (o * 2 ^ 4 + p) * 2 ^ 6 + (t * 2 ^ 1 + u) * 2 ^ 4 = ((o * 2 ^ 4 + p) * 4 + (t * 2 + u)) * 2 ^ 4 by omega, nI_orp 4 (by omega)]
  rw [show ((o * 2 ^ 4 + p) * 4 + (t * 2 + u)) * 2 ^ 4 + l * 2 ^ 2 = (((o * 2 ^ 4 + p) * 4 + (t * 2 + u)) * 4 + l) * 2 ^ 2 by omega, nI_orp 2 (by omega)]
  congr 1
  unfold mkS
  omega
/-- the place in the table of rests -/
theorem bit_rest {o p d : Nat} (ho : o < 16) (hp : p < 16) (hd : d < 4) : ((nI o <<< ((6 : Int32) &&& 31)) ||| (nI p <<< ((2 : Int32) &&& 31))) ||| nI d = nI (o * 64 + p * 4 + d) := by
  show ((nI o <<< (nI 6 &&& 31)) ||| (nI p <<< (nI 2 &&& 31))) ||| nI d = _
  rw [nI_shl 6 (by omega) (by omega), nI_shl 2 (by omega) (by omega), nI_orp 6 (by omega)]
  rw [show o * 2 ^ 6 + p * 2 ^ 2 = (o * 2 ^ 4 + p) * 2 ^ 2 by omega, nI_orp 2 (by omega), show (o * 2 ^ 4 + p) * 2 ^ 2 + d = o * 64 + p * 4 + d by omega]

/-! ===== pure: numbers, things, bits of a long ===== -/
theorem i_le (x y : Int32) : x ≤ y ↔ x.toInt ≤ y.toInt := Int32.le_iff_toInt_le
theorem i_lt (x y : Int32) : x < y ↔ x.toInt < y.toInt := Int32.lt_iff_toInt_lt
theorem i_eq (x y : Int32) : x = y ↔ x.toInt = y.toInt := Int32.toInt_inj.symm
theorem i_rng (x : Int32) : -2147483648 ≤ x.toInt ∧ x.toInt < 2147483648 := by
  have h1 := Int32.le_toInt x
  have h2 := Int32.toInt_lt x
  omega
theorem if_cg {α : Type} {c d : Prop} [hc : Decidable c] [hd : Decidable d] (h : c ↔ d) (a b : α) : (if c then a else b) = (if d then a else b) := by
  by_cases e : c
  · rw [if_pos e, if_pos (h.mp e)]
  · rw [if_neg e, if_neg (fun z => e (h.mpr z))]
/-- a number is one of 0 .. n - 1 -/
def tg (n : Nat) (x : Int32) : Bool := decide (0 ≤ x.toInt ∧ x.toInt < (n : Int))
theorem tg_nI {n a : Nat} (h : a < n) (hn : n < 2 ^ 31) : tg n (nI a) = true := by
  unfold tg
  rw [nI_toInt (by omega)]
  exact decide_eq_true ⟨by omega, by omega⟩
theorem tg_of {n : Nat} {x : Int32} (h : tg n x = true) : ∃ a : Nat, a < n ∧ x = nI a := by
  have h2 := of_decide_eq_true h
  refine ⟨x.toInt.toNat, by omega, ?_⟩
  have := i_rng x
  rw [i_eq, nI_toInt (by omega)]
  omega
theorem bn_nI {k n : Nat} (h : k < n) (hn : n < 2 ^ 31) : bn (nI k) n = true := bn_of (vp_in_nI h hn)
theorem clampN {k : Nat} (h : k < 2 ^ 31) : (nI k).toNatClampNeg = k := nI_clamp h
theorem X4_isThing {nn : Nat} (hn : nn ≤ 48) (x : Int32) : F_X4_isThing nn x = some (if tg nn x = true then 1 else 0) := by
  unfold F_X4_isThing tg
  by_cases h1 : x < 0
  · rw [if_pos h1, if_neg]
    rw [i_lt, Int32.toInt_zero] at h1
    simp only [decide_eq_true_eq]; omega
  · rw [if_neg h1]
    by_cases h2 : nI nn ≤ x
    · rw [if_pos h2, if_neg]
      rw [i_le, nI_toInt (by omega)] at h2
      simp only [decide_eq_true_eq]; omega
    · rw [if_neg h2, if_pos]
      rw [i_lt, Int32.toInt_zero] at h1
      rw [i_le, nI_toInt (by omega)] at h2
      simp only [decide_eq_true_eq]; omega
theorem X8_isBelow {k : Nat} (hk : k < 2 ^ 31) (x : Int32) : F_X8_isBelow x (nI k) = some (if tg k x = true then 1 else 0) := by
  unfold F_X8_isBelow tg
  by_cases h1 : x < 0
  · rw [if_pos h1, if_neg]
    rw [i_lt, Int32.toInt_zero] at h1
    simp only [decide_eq_true_eq]; omega
  · rw [if_neg h1]
    by_cases h2 : nI k ≤ x
    · rw [if_pos h2, if_neg]
      rw [i_le, nI_toInt (by omega)] at h2
      simp only [decide_eq_true_eq]; omega
    · rw [if_neg h2, if_pos]
      rw [i_lt, Int32.toInt_zero] at h1
      rw [i_le, nI_toInt (by omega)] at h2
      simp only [decide_eq_true_eq]; omega
theorem X9_in (x lo hi : Int64) : F_X9_in x lo hi = some (if lo.toInt ≤ x.toInt ∧ x.toInt ≤ hi.toInt then 1 else 0) := by
  unfold F_X9_in
  rw [if_cg ((lg_cmp_lt x lo).trans Int64.lt_iff_toInt_lt), if_cg ((lg_cmp_gt x hi).trans Int64.lt_iff_toInt_lt)]
  by_cases h1 : x.toInt < lo.toInt
  · rw [if_pos h1, if_neg (by omega)]
  · rw [if_neg h1]
    by_cases h2 : hi.toInt < x.toInt
    · rw [if_pos h2, if_neg (by omega)]
    · rw [if_neg h2, if_pos (by omega)]
theorem X9_in0 {k : Nat} {hi : Int64} (x : Int32) (hh : hi.toInt + 1 = (k : Int)) : F_X9_in x.toInt64 (0 : Int64) hi = some (if tg k x = true then 1 else 0) := by
  rw [X9_in, Int32.toInt_toInt64, Int64.toInt_zero]
  unfold tg
  by_cases h : 0 ≤ x.toInt ∧ x.toInt ≤ hi.toInt
  · rw [if_pos h, if_pos (by simp; omega)]
  · rw [if_neg h, if_neg (by simp; omega)]
theorem zb_if (c : Prop) [Decidable c] : zb (if c then 1 else 0) = true := by
  by_cases h : c
  · rw [if_pos h]; decide
  · rw [if_neg h]; decide
theorem X9_isThing {nn : Nat} (h1 : 1 ≤ nn) (hn : nn ≤ 48) (x : Int32) : F_X9_isThing x (nI nn) = some (if tg nn x = true then 1 else 0) := by
  unfold F_X9_isThing
  have e : ((nI nn - 1 : Int32).toInt64).toInt + 1 = (nn : Int) := by
    rw [Int32.toInt_toInt64, show (1 : Int32) = nI 1 from rfl, pk_sub_toInt (by omega) (by omega)]
    omega
  rw [X9_in0 x e]
  show ck _ _ = _
  rw [ck_t (zb_if _)]
theorem if10 (c : Prop) [Decidable c] : ((if c then 1 else 0 : Int32) = 0) ↔ ¬ c := by
  by_cases h : c
  · rw [if_pos h]; simp [h]
  · rw [if_neg h]; simp [h]
theorem if10' {α : Type} (c : Prop) [Decidable c] (a b : α) : (if (if c then 1 else 0 : Int32) = 0 then a else b) = if c then b else a := by
  by_cases h : c
  · rw [if_pos h, if_pos h, if_neg (by decide)]
  · rw [if_neg h, if_neg h, if_pos rfl]
theorem el_nI {len : Nat} {f : Nat → Int32} {k : Nat} (h : k < len) (hl : len < 2 ^ 31) : el len f (nI k) = f k := by
  unfold el
  rw [if_neg (nI_pos (by omega)), if_neg (nI_ge h hl), clampN (by omega)]
theorem el_out {len : Nat} {f : Nat → Int32} {x : Int32} (hl : len < 2 ^ 31) (h : tg len x = false) : el len f x = 0 := by
  unfold el
  have h2 := of_decide_eq_false h
  by_cases h1 : x < 0
  · rw [if_pos h1]
  · rw [if_neg h1, if_pos]
    rw [i_le, nI_toInt hl]
    rw [i_lt, Int32.toInt_zero] at h1
    omega
theorem ix48 (a b : Nat) : (48 : Int32) * nI a + nI b = nI (48 * a + b) := by
  rw [show (48 : Int32) = nI 48 from rfl, pk_mul, nI_add]
theorem upd_s (f : Nat → Int32) (k : Nat) (x : Int32) : upd f k x k = x := pk_us
theorem upd_n {f : Nat → Int32} {k j : Nat} {x : Int32} (h : j ≠ k) : upd f k x j = f j := pk_un h
theorem upd_if (f : Nat → Int32) (k j : Nat) (x : Int32) : upd f k x j = if j = k then x else f j := rfl
theorem updL_if (f : Nat → Int64) (k j : Nat) (x : Int64) : vp_updL f k x j = if j = k then x else f j := rfl
/-! bits of a long -/
def bt (x : Int64) (i : Nat) : Bool := x.toBitVec.getLsbD i
theorem bt_ext {x y : Int64} (h : ∀ i, i < 64 → bt x i = bt y i) : x = y := by
  apply Int64.toBitVec_inj.mp
  apply BitVec.eq_of_getLsbD_eq
  intro i hi
  exact h i hi
theorem bt_ge {x : Int64} {i : Nat} (h : 64 ≤ i) : bt x i = false := BitVec.getLsbD_of_ge _ _ h
theorem bt_and (x y : Int64) (i : Nat) : bt (x &&& y) i = (bt x i && bt y i) := by
  unfold bt
  rw [Int64.toBitVec_and, BitVec.getLsbD_and]
theorem bt_or (x y : Int64) (i : Nat) : bt (x ||| y) i = (bt x i || bt y i) := by
  unfold bt
  rw [Int64.toBitVec_or, BitVec.getLsbD_or]
theorem bt_xor (x y : Int64) (i : Nat) : bt (x ^^^ y) i = (bt x i ^^ bt y i) := by
  unfold bt
  rw [Int64.toBitVec_xor, BitVec.getLsbD_xor]
theorem bt_zero (i : Nat) : bt 0 i = false := by
  unfold bt
  show (0#64).getLsbD i = false
  simp
theorem bt_m1 {i : Nat} (h : i < 64) : bt (-1) i = true := by
  unfold bt
  have e : (-1 : Int64).toBitVec = BitVec.allOnes 64 := by decide
  rw [e, BitVec.getLsbD_allOnes]
  exact decide_eq_true h
theorem ushr_bv {k : Nat} (h : k < 64) (x : Int64) : (xb_ushr x (nI k)).toBitVec = x.toBitVec >>> k := by
  unfold xb_ushr
  have e : ((nI k).toInt64.toUInt64 &&& Int64.toUInt64 63).toBitVec = BitVec.ofNat 64 k := by
    have : ∀ k, k < 64 → ((nI k).toInt64.toUInt64 &&& Int64.toUInt64 63).toBitVec = BitVec.ofNat 64 k := by decide +kernel
    exact this k h
  show (x.toUInt64 >>> ((nI k).toInt64.toUInt64 &&& Int64.toUInt64 63)).toBitVec = _
  rw [UInt64.toBitVec_shiftRight, e]
  show x.toBitVec >>> (BitVec.ofNat 64 k % 64) = _
  rw [BitVec.ushiftRight_eq']
  congr 1
  rw [BitVec.toNat_umod, BitVec.toNat_ofNat]
  show k % 2 ^ 64 % 64 = k
  omega
theorem bt_ushr {k : Nat} (h : k < 64) (x : Int64) (i : Nat) : bt (xb_ushr x (nI k)) i = bt x (k + i) := by
  unfold bt
  rw [ushr_bv h, BitVec.getLsbD_ushiftRight]
theorem bt_one (i : Nat) : bt 1 i = decide (i = 0) := by
  unfold bt
  show (1#64).getLsbD i = _
  rw [BitVec.getLsbD_one]
  simp
theorem bt_bit {k : Nat} (h : k < 64) (i : Nat) : bt ((1 : Int64) <<< ((nI k).toInt64 &&& 63)) i = decide (i = k) := by
  have : ∀ k, k < 64 → ((1 : Int64) <<< ((nI k).toInt64 &&& 63)).toBitVec = BitVec.twoPow 64 k := by decide +kernel
  unfold bt
  rw [this k h, BitVec.getLsbD_twoPow]
  by_cases e : i = k
  · subst e; simp [h]
  · simp [e, Ne.symm e]
theorem bt_test {k : Nat} (h : k < 64) (x : Int64) : (lg_cmp (xb_ushr x (nI k) &&& 1) 0 = 0) ↔ bt x k = false := by
  rw [lg_cmp_eq]
  constructor
  · intro e
    have h2 : bt (xb_ushr x (nI k) &&& 1) 0 = false := by rw [e, bt_zero]
    rw [bt_and, bt_ushr h, bt_one] at h2
    simpa using h2
  · intro e
    apply bt_ext
    intro i hi
    rw [bt_and, bt_ushr h, bt_one, bt_zero]
    by_cases z : i = 0
    · subst z; simp [e]
    · simp [z]
theorem X8_isIn (r : Int64) (b : Nat) (hb : b < 2 ^ 31) : F_X8_isIn r (nI b) = some (if b < 48 ∧ bt r b = true then 1 else 0) := by
  unfold F_X8_isIn
  rw [if_neg (nI_pos hb), show (48 : Int32) = nI 48 from rfl]
  by_cases h : b < 48
  · rw [if_neg (nI_ge h (by decide)), if_cg (bt_test (by omega) r)]
    cases e : bt r b <;> simp [h]
  · rw [if_pos (nI_le (by omega) hb), if_neg (by omega)]
theorem X8_isIn_out {r : Int64} {x : Int32} (h : x.toInt < 0 ∨ 48 ≤ x.toInt) : F_X8_isIn r x = some 0 := by
  unfold F_X8_isIn
  by_cases h1 : x < 0
  · rw [if_pos h1]
  · rw [if_neg h1, if_pos]
    rw [i_le]
    rw [i_lt, Int32.toInt_zero] at h1
    show (48 : Int) ≤ _
    omega
theorem X4_rowOf {nn a : Nat} (ha : a < nn) (hn : nn ≤ 48) (ro : Nat → Int64) : F_X4_rowOf nn (nI a) ro = some (ro a) := by
  unfold F_X4_rowOf
  rw [if_neg (nI_pos (by omega)), if_neg (nI_ge ha (by omega)), ck_t (bn_nI ha (by omega)), clampN (by omega)]

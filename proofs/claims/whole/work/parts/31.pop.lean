/-! ===== pure: how many; Long.bitCount ===== -/
def ct (p : Nat → Bool) : Nat → Nat
  | 0 => 0
  | n + 1 => ct p n + (if p n = true then 1 else 0)
theorem ct_succ (p : Nat → Bool) (n : Nat) : ct p (n + 1) = ct p n + (if p n = true then 1 else 0) := rfl
theorem ct_le (p : Nat → Bool) : ∀ n, ct p n ≤ n
  | 0 => Nat.le_refl _
  | n + 1 => by
    have h := ct_le p n
    rw [ct_succ]
    split <;> omega
theorem ct_cong {p q : Nat → Bool} : ∀ {n : Nat}, (∀ k, k < n → p k = q k) → ct p n = ct q n
  | 0, _ => rfl
  | n + 1, h => by rw [ct_succ, ct_succ, ct_cong (fun k hk => h k (by omega)), h n (by omega)]
theorem ct_split (p : Nat → Bool) (m : Nat) : ∀ n, ct p (m + n) = ct p m + ct (fun k => p (m + k)) n
  | 0 => rfl
  | n + 1 => by
    have h := ct_split p m n
    show ct p (m + n + 1) = _
    rw [ct_succ, ct_succ, h]
    omega
theorem ct_none {p : Nat → Bool} : ∀ {n : Nat}, (∀ k, k < n → p k = false) → ct p n = 0
  | 0, _ => rfl
  | n + 1, h => by rw [ct_succ, ct_none (fun k hk => h k (by omega)), h n (by omega)]; rfl
theorem ct_ext {p : Nat → Bool} {m n : Nat} (h : m ≤ n) (h0 : ∀ k, m ≤ k → k < n → p k = false) : ct p n = ct p m := by
  obtain ⟨d, rfl⟩ : ∃ d, n = m + d := ⟨n - m, by omega⟩
  rw [ct_split, ct_none (fun k hk => h0 (m + k) (by omega) (by omega))]
  rfl
/-- one bit turned -/
theorem ct_flip {p q : Nat → Bool} {i : Nat} (hi : p i = !q i) (hne : ∀ k, k ≠ i → p k = q k) : ∀ {n : Nat}, i < n → ct p n + (if q i = true then 1 else 0) = ct q n + (if p i = true then 1 else 0)
  | 0, h => absurd h (Nat.not_lt_zero i)
  | n + 1, h => by
    rw [ct_succ, ct_succ]
    rcases Nat.lt_or_ge i n with e | e
    · have ih := ct_flip hi hne e
      have := hne n (by omega)
      rw [this]
      omega
    · have e2 : i = n := by omega
      subst e2
      have := ct_cong (p := p) (q := q) (n := i) (fun k hk => hne k (by omega))
      omega
theorem and_byte {a c : Nat} (b d : Nat) (ha : a < 256) (hc : c < 256) : (a + 256 * b) &&& (c + 256 * d) = (a &&& c) + 256 * (b &&& d) := by
  have hac : a &&& c < 256 := Nat.and_lt_two_pow (n := 8) a hc
  apply Nat.eq_of_testBit_eq
  intro i
  rw [Nat.testBit_and, Nat.add_comm a, Nat.add_comm c, Nat.add_comm (a &&& c), show 256 = 2 ^ 8 from rfl, Nat.testBit_two_pow_mul_add b (b_lt := ha), Nat.testBit_two_pow_mul_add d (b_lt := hc), Nat.testBit_two_pow_mul_add (b &&& d) (b_lt := hac)]
  by_cases h : i < 8
  · simp [h]
  · simp [h]
/-- masks of n bytes -/
def mk (m : Nat) : Nat → Nat
  | 0 => 0
  | n + 1 => m + 256 * mk m n
def q1 (y : Nat) : Nat := y - ((y / 2) &&& 85)
def q2 (y : Nat) : Nat := (q1 y &&& 51) + ((q1 y / 4) &&& 51)
def p8 (y : Nat) : Nat := ct y.testBit 8
def f1 (n X : Nat) : Nat := X - ((X / 2) &&& mk 85 n)
def f2 (n X : Nat) : Nat := (X &&& mk 51 n) + ((X / 4) &&& mk 51 n)
def f3 (n X : Nat) : Nat := (X + X / 16) &&& mk 15 n
theorem by1 : ∀ y, y < 256 → ∀ e, e < 2 → ((y / 2 + 128 * e) &&& 85) = ((y / 2) &&& 85) ∧ ((y / 2) &&& 85) ≤ y ∧ y / 2 + 128 * e < 256 ∧ q1 y < 256 := by decide +kernel
theorem by2 : ∀ y, y < 256 → ∀ e, e < 4 → ((y / 4 + 64 * e) &&& 51) = ((y / 4) &&& 51) ∧ y / 4 + 64 * e < 256 := by decide +kernel
theorem by3 : ∀ y, y < 256 → q2 y < 256 ∧ q2 y % 16 ≤ 4 ∧ p8 y ≤ 8 ∧ ∀ e, e ≤ 4 → q2 y + q2 y / 16 + 16 * e < 256 ∧ ((q2 y + q2 y / 16 + 16 * e) &&& 15) = p8 y := by decide +kernel
theorem f1_le (n X : Nat) : (X / 2) &&& mk 85 n ≤ X := Nat.le_trans Nat.and_le_left (by omega)
theorem f1_s (n y z : Nat) (hy : y < 256) : f1 (n + 1) (y + 256 * z) = q1 y + 256 * f1 n z := by
  unfold f1 q1
  have hb := by1 y hy (z % 2) (Nat.mod_lt _ (by decide))
  have e : (y + 256 * z) / 2 = (y / 2 + 128 * (z % 2)) + 256 * (z / 2) := by omega
  rw [e]
  show _ - (((y / 2 + 128 * (z % 2)) + 256 * (z / 2)) &&& (85 + 256 * mk 85 n)) = _
  rw [and_byte _ _ hb.2.2.1 (by decide), hb.1]
  have := hb.2.1
  have := f1_le n z
  omega
theorem f2_s (n a b : Nat) (ha : a < 256) : f2 (n + 1) (a + 256 * b) = ((a &&& 51) + ((a / 4) &&& 51)) + 256 * f2 n b := by
  unfold f2
  have hb := by2 a ha (b % 4) (Nat.mod_lt _ (by decide))
  have e : (a + 256 * b) / 4 = (a / 4 + 64 * (b % 4)) + 256 * (b / 4) := by omega
  rw [e]
  show ((a + 256 * b) &&& (51 + 256 * mk 51 n)) + (((a / 4 + 64 * (b % 4)) + 256 * (b / 4)) &&& (51 + 256 * mk 51 n)) = _
  rw [and_byte _ _ ha (by decide), and_byte _ _ hb.2 (by decide), hb.1]
  omega
theorem f3_s (n y b : Nat) (hy : y < 256) (hb : b % 16 ≤ 4) : f3 (n + 1) (q2 y + 256 * b) = p8 y + 256 * f3 n b := by
  unfold f3
  obtain ⟨h1, h2, h3, h4⟩ := by3 y hy
  have h4 := h4 (b % 16) hb
  have e : (q2 y + 256 * b) + (q2 y + 256 * b) / 16 = (q2 y + q2 y / 16 + 16 * (b % 16)) + 256 * (b + b / 16) := by omega
  rw [e]
  show ((q2 y + q2 y / 16 + 16 * (b % 16)) + 256 * (b + b / 16)) &&& (15 + 256 * mk 15 n) = _
  rw [and_byte _ _ h4.1 (by decide), h4.2]
theorem f21_s (n y z : Nat) (hy : y < 256) : f2 (n + 1) (f1 (n + 1) (y + 256 * z)) = q2 y + 256 * f2 n (f1 n z) := by
  rw [f1_s n y z hy, f2_s n _ _ (by1 y hy 0 (by decide)).2.2.2]
  rfl
theorem f21_low (n X : Nat) (h : X < 256 ^ n) : f2 n (f1 n X) % 16 ≤ 4 := by
  cases n with
  | zero =>
    have : X = 0 := by simpa using h
    subst this
    decide
  | succ n =>
    have e : X = X % 256 + 256 * (X / 256) := by omega
    rw [e, f21_s n _ _ (Nat.mod_lt _ (by decide))]
    have := (by3 (X % 256) (Nat.mod_lt _ (by decide))).2.1
    omega
theorem f321_s (n y z : Nat) (hy : y < 256) (hz : z < 256 ^ n) : f3 (n + 1) (f2 (n + 1) (f1 (n + 1) (y + 256 * z))) = p8 y + 256 * f3 n (f2 n (f1 n z)) := by
  rw [f21_s n y z hy, f3_s n y _ hy (f21_low n z hz)]
theorem ct_byte (n y z : Nat) (hy : y < 256) : ct (y + 256 * z).testBit (8 + n) = p8 y + ct z.testBit n := by
  rw [ct_split, Nat.add_comm y, show 256 = 2 ^ 8 from rfl]
  congr 1
  · exact ct_cong (fun k hk => by rw [Nat.testBit_two_pow_mul_add z (b_lt := hy)]; simp [hk])
  · exact ct_cong (fun k hk => by rw [Nat.testBit_two_pow_mul_add z (b_lt := hy), if_neg (by omega), Nat.add_sub_cancel_left])
def pc (x : Int64) : Nat := ct (bt x) 64
theorem pc_le (x : Int64) : pc x ≤ 64 := ct_le _ _
theorem swar (X : Nat) (h : X < 2 ^ 64) : ∃ p0 p1 p2 p3 p4 p5 p6 p7 : Nat, p0 ≤ 8 ∧ p1 ≤ 8 ∧ p2 ≤ 8 ∧ p3 ≤ 8 ∧ p4 ≤ 8 ∧ p5 ≤ 8 ∧ p6 ≤ 8 ∧ p7 ≤ 8 ∧ f3 8 (f2 8 (f1 8 X)) = p0 + 256 * (p1 + 256 * (p2 + 256 * (p3 + 256 * (p4 + 256 * (p5 + 256 * (p6 + 256 * (p7 + 256 * 0))))))) ∧ ct X.testBit 64 = p0 + (p1 + (p2 + (p3 + (p4 + (p5 + (p6 + (p7 + 0))))))) := by
  have st : ∀ (n X : Nat), X < 256 ^ (n + 1) → ∃ y z : Nat, y < 256 ∧ z < 256 ^ n ∧ X = y + 256 * z := fun n X hX => ⟨X % 256, X / 256, Nat.mod_lt _ (by decide), by rw [Nat.pow_succ] at hX; omega, by omega⟩
  obtain ⟨y0, z0, a0, b0, rfl⟩ := st 7 X h
  obtain ⟨y1, z1, a1, b1, rfl⟩ := st 6 z0 b0
  obtain ⟨y2, z2, a2, b2, rfl⟩ := st 5 z1 b1
  obtain ⟨y3, z3, a3, b3, rfl⟩ := st 4 z2 b2
  obtain ⟨y4, z4, a4, b4, rfl⟩ := st 3 z3 b3
  obtain ⟨y5, z5, a5, b5, rfl⟩ := st 2 z4 b4
  obtain ⟨y6, z6, a6, b6, rfl⟩ := st 1 z5 b5
  obtain ⟨y7, z7, a7, b7, rfl⟩ := st 0 z6 b6
  have hz : z7 = 0 := by simpa using b7
  subst hz
  refine ⟨p8 y0, p8 y1, p8 y2, p8 y3, p8 y4, p8 y5, p8 y6, p8 y7, (by3 _ a0).2.2.1, (by3 _ a1).2.2.1, (by3 _ a2).2.2.1, (by3 _ a3).2.2.1, (by3 _ a4).2.2.1, (by3 _ a5).2.2.1, (by3 _ a6).2.2.1, (by3 _ a7).2.2.1, ?_, ?_⟩
  · rw [f321_s 7 _ _ a0 b0, f321_s 6 _ _ a1 b1, f321_s 5 _ _ a2 b2, f321_s 4 _ _ a3 b3, f321_s 3 _ _ a4 b4, f321_s 2 _ _ a5 b5, f321_s 1 _ _ a6 b6, f321_s 0 _ _ a7 (by decide)]
    rfl
  · rw [show 64 = 8 + 56 from rfl, ct_byte 56 _ _ a0, show 56 = 8 + 48 from rfl, ct_byte 48 _ _ a1, show 48 = 8 + 40 from rfl, ct_byte 40 _ _ a2, show 40 = 8 + 32 from rfl, ct_byte 32 _ _ a3, show 32 = 8 + 24 from rfl, ct_byte 24 _ _ a4, show 24 = 8 + 16 from rfl, ct_byte 16 _ _ a5, show 16 = 8 + 8 from rfl, ct_byte 8 _ _ a6, show 8 = 8 + 0 from rfl, ct_byte 0 _ _ a7]
    rfl
theorem tN_ushr {k : Nat} (h : k < 64) (x : Int64) : (xb_ushr x (nI k)).toBitVec.toNat = x.toBitVec.toNat / 2 ^ k := by
  rw [ushr_bv h, BitVec.toNat_ushiftRight, Nat.shiftRight_eq_div_pow]
theorem tN_and (x y : Int64) : (x &&& y).toBitVec.toNat = x.toBitVec.toNat &&& y.toBitVec.toNat := by
  rw [Int64.toBitVec_and, BitVec.toNat_and]
theorem tN_add (x y : Int64) : (x + y).toBitVec.toNat = (x.toBitVec.toNat + y.toBitVec.toNat) % 2 ^ 64 := by
  rw [Int64.toBitVec_add, BitVec.toNat_add]
theorem tN_sub (x y : Int64) : (x - y).toBitVec.toNat = (2 ^ 64 - y.toBitVec.toNat + x.toBitVec.toNat) % 2 ^ 64 := by
  rw [Int64.toBitVec_sub, BitVec.toNat_sub]
theorem tN_lt (x : Int64) : x.toBitVec.toNat < 2 ^ 64 := x.toBitVec.isLt
def vl : List Nat → Nat
  | [] => 0
  | x :: l => x + 256 * vl l
def ad : List Nat → List Nat → List Nat
  | [], m => m
  | x :: l, [] => x :: l
  | x :: l, y :: m => (x + y) :: ad l m
theorem vl_c (x : Nat) (l : List Nat) : vl (x :: l) = x + 256 * vl l := rfl
theorem vl_ad : ∀ l m : List Nat, vl (ad l m) = vl l + vl m
  | [], m => by show vl m = 0 + vl m; omega
  | x :: l, [] => by show vl (x :: l) = vl (x :: l) + 0; omega
  | x :: l, y :: m => by
    have h := vl_ad l m
    show (x + y) + 256 * vl (ad l m) = (x + 256 * vl l) + (y + 256 * vl m)
    omega
theorem vl_dv {x : Nat} (l : List Nat) (h : x < 256) : vl (x :: l) / 256 = vl l := by
  show (x + 256 * vl l) / 256 = vl l
  omega
theorem vl_md {x : Nat} (l : List Nat) (h : x < 128) : vl (x :: l) % 2 ^ 32 % 2 ^ 7 = x := by
  show (x + 256 * vl l) % 2 ^ 32 % 2 ^ 7 = x
  omega
theorem dv2 (n : Nat) : n / 65536 = n / 256 / 256 := by omega
theorem dv4 (n : Nat) : n / 4294967296 = n / 256 / 256 / 256 / 256 := by omega
theorem swar_end {V p0 p1 p2 p3 p4 p5 p6 p7 : Nat} (h0 : p0 ≤ 8) (h1 : p1 ≤ 8) (h2 : p2 ≤ 8) (h3 : p3 ≤ 8) (h4 : p4 ≤ 8) (h5 : p5 ≤ 8) (h6 : p6 ≤ 8) (h7 : p7 ≤ 8) (hV : V = vl [p0, p1, p2, p3, p4, p5, p6, p7]) : ((V + V / 256) + (V + V / 256) / 65536 + ((V + V / 256) + (V + V / 256) / 65536) / 4294967296) % 2 ^ 32 % 2 ^ 7 = p0 + p1 + (p2 + p3) + (p4 + p5 + (p6 + p7)) := by
  have d1 : V / 256 = vl [p1, p2, p3, p4, p5, p6, p7] := (congrArg (· / 256) hV).trans (vl_dv _ (by omega))
  have d2 : V + V / 256 = vl [p0 + p1, p1 + p2, p2 + p3, p3 + p4, p4 + p5, p5 + p6, p6 + p7, p7] := (congr (congrArg HAdd.hAdd hV) d1).trans (vl_ad _ _).symm
  generalize V + V / 256 = A at d2 ⊢
  have d3 : A / 65536 = vl [p2 + p3, p3 + p4, p4 + p5, p5 + p6, p6 + p7, p7] := (dv2 A).trans ((congrArg (· / 256 / 256) d2).trans ((congrArg (· / 256) (vl_dv _ (by omega))).trans (vl_dv _ (by omega))))
  have d4 : A + A / 65536 = vl [p0 + p1 + (p2 + p3), p1 + p2 + (p3 + p4), p2 + p3 + (p4 + p5), p3 + p4 + (p5 + p6), p4 + p5 + (p6 + p7), p5 + p6 + p7, p6 + p7, p7] := (congr (congrArg HAdd.hAdd d2) d3).trans (vl_ad _ _).symm
  generalize A + A / 65536 = B at d4 ⊢
  have d5 : B / 4294967296 = vl [p4 + p5 + (p6 + p7), p5 + p6 + p7, p6 + p7, p7] := (dv4 B).trans ((congrArg (· / 256 / 256 / 256 / 256) d4).trans ((congrArg (· / 256 / 256 / 256) (vl_dv _ (by omega))).trans ((congrArg (· / 256 / 256) (vl_dv _ (by omega))).trans ((congrArg (· / 256) (vl_dv _ (by omega))).trans (vl_dv _ (by omega))))))
  have d6 : B + B / 4294967296 = vl [p0 + p1 + (p2 + p3) + (p4 + p5 + (p6 + p7)), p1 + p2 + (p3 + p4) + (p5 + p6 + p7), p2 + p3 + (p4 + p5) + (p6 + p7), p3 + p4 + (p5 + p6) + p7, p4 + p5 + (p6 + p7), p5 + p6 + p7, p6 + p7, p7] := (congr (congrArg HAdd.hAdd d4) d5).trans (vl_ad _ _).symm
  exact (congrArg (fun n => n % 2 ^ 32 % 2 ^ 7) d6).trans (vl_md _ (by omega))
theorem mk85 : mk 85 8 = 6148914691236517205 := by decide +kernel
theorem mk51 : mk 51 8 = 3689348814741910323 := by decide +kernel
theorem mk15 : mk 15 8 = 1085102592571150095 := by decide +kernel
theorem X_bitCount (x : Int64) : F_J13_bitCount_95d88 x = some (nI (pc x)) := by
  unfold F_J13_bitCount_95d88
  dsimp only [nm]
  have hX := tN_lt x
  obtain ⟨p0, p1, p2, p3, p4, p5, p6, p7, h0, h1, h2, h3, h4, h5, h6, h7, hs, hc⟩ := swar x.toBitVec.toNat hX
  have e1 : (x - ((xb_ushr x (1 : Int32)) &&& (6148914691236517205 : Int64))).toBitVec.toNat = f1 8 x.toBitVec.toNat := by
    rw [tN_sub, tN_and, show (1 : Int32) = nI 1 from rfl, tN_ushr (by decide)]
    unfold f1
    have := f1_le 8 x.toBitVec.toNat
    rw [mk85] at this ⊢
    show (2 ^ 64 - (x.toBitVec.toNat / 2 ^ 1 &&& 6148914691236517205) + x.toBitVec.toNat) % 2 ^ 64 = _
    rw [show 2 ^ 1 = 2 from rfl]
    omega
  generalize (x - ((xb_ushr x (1 : Int32)) &&& (6148914691236517205 : Int64))) = v1 at e1 ⊢
  have b2 : ∀ V : Nat, f2 8 V < 2 ^ 64 := fun V => by
    unfold f2
    have a1 : V &&& mk 51 8 ≤ mk 51 8 := Nat.and_le_right
    have a2 : (V / 4) &&& mk 51 8 ≤ mk 51 8 := Nat.and_le_right
    rw [mk51] at *
    omega
  have e2 : ((v1 &&& (3689348814741910323 : Int64)) + ((xb_ushr v1 (2 : Int32)) &&& (3689348814741910323 : Int64))).toBitVec.toNat = f2 8 (f1 8 x.toBitVec.toNat) := by
    rw [tN_add, tN_and, tN_and, show (2 : Int32) = nI 2 from rfl, tN_ushr (by decide), e1]
    have := b2 (f1 8 x.toBitVec.toNat)
    unfold f2 at this ⊢
    rw [mk51] at this ⊢
    exact Nat.mod_eq_of_lt this
  generalize ((v1 &&& (3689348814741910323 : Int64)) + ((xb_ushr v1 (2 : Int32)) &&& (3689348814741910323 : Int64))) = v3 at e2 ⊢
  have e3 : ((v3 + (xb_ushr v3 (4 : Int32))) &&& (1085102592571150095 : Int64)).toBitVec.toNat = f3 8 (f2 8 (f1 8 x.toBitVec.toNat)) := by
    rw [tN_and, tN_add, show (4 : Int32) = nI 4 from rfl, tN_ushr (by decide), e2]
    unfold f3
    have hb : f2 8 (f1 8 x.toBitVec.toNat) ≤ 7378697629483820646 := by
      unfold f2
      have a1 : f1 8 x.toBitVec.toNat &&& mk 51 8 ≤ mk 51 8 := Nat.and_le_right
      have a2 : (f1 8 x.toBitVec.toNat / 4) &&& mk 51 8 ≤ mk 51 8 := Nat.and_le_right
      rw [mk51] at *
      omega
    rw [mk15, show 2 ^ 4 = 16 from rfl, Nat.mod_eq_of_lt (show _ < 2 ^ 64 by omega)]
    rfl
  generalize ((v3 + (xb_ushr v3 (4 : Int32))) &&& (1085102592571150095 : Int64)) = v5 at e3 ⊢
  rw [hs] at e3
  have e4 : ((v5 + (xb_ushr v5 (8 : Int32))) + (xb_ushr (v5 + (xb_ushr v5 (8 : Int32))) (16 : Int32))).toBitVec.toNat = (v5.toBitVec.toNat + v5.toBitVec.toNat / 256) + (v5.toBitVec.toNat + v5.toBitVec.toNat / 256) / 65536 := by
    have a : (v5 + (xb_ushr v5 (8 : Int32))).toBitVec.toNat = v5.toBitVec.toNat + v5.toBitVec.toNat / 256 := by
      rw [tN_add, show (8 : Int32) = nI 8 from rfl, tN_ushr (by decide)]
      omega
    rw [tN_add, show (16 : Int32) = nI 16 from rfl, tN_ushr (by decide), a]
    omega
  generalize ((v5 + (xb_ushr v5 (8 : Int32))) + (xb_ushr (v5 + (xb_ushr v5 (8 : Int32))) (16 : Int32))) = v7 at e4 ⊢
  have e5 : (v7 + (xb_ushr v7 (32 : Int32))).toBitVec.toNat = v7.toBitVec.toNat + v7.toBitVec.toNat / 4294967296 := by
    rw [tN_add, show (32 : Int32) = nI 32 from rfl, tN_ushr (by decide)]
    omega
  congr 1
  have hpc : pc x = p0 + (p1 + (p2 + (p3 + (p4 + (p5 + (p6 + (p7 + 0))))))) := hc
  generalize (v7 + (xb_ushr v7 (32 : Int32))) = v9 at e5 ⊢
  rw [pk_and _ 7 (by decide)]
  congr 1
  have e6 : v9.toInt32.toBitVec.toNat = v9.toBitVec.toNat % 2 ^ 32 := by
    show (v9.toBitVec.signExtend 32).toNat = _
    rw [BitVec.signExtend_eq_setWidth_of_le _ (by decide), BitVec.toNat_setWidth]
  rw [e6, hpc]
  refine ((congrArg (fun n => n % 2 ^ 32 % 2 ^ 7) (e5.trans (congrArg (fun n => n + n / 4294967296) e4))).trans (swar_end h0 h1 h2 h3 h4 h5 h6 h7 e3)).trans ?_
  clear e1 e2 e3 e4 e5 e6 hs hc b2
  omega

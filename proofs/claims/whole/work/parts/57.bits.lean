/-! ===== pure: bit, sum, alter, judge ===== -/
theorem nx_xor (a b : Nat) : nI a ^^^ nI b = nI (a ^^^ b) := by
  apply Int32.toBitVec_inj.1
  show BitVec.ofNat 32 a ^^^ BitVec.ofNat 32 b = BitVec.ofNat 32 (a ^^^ b)
  apply BitVec.eq_of_getLsbD_eq
  intro i hi
  simp [hi]
theorem byv_div {g : Nat → Bool} {i r : Nat} : ∀ d : Nat, byv g i (r + d) / 2 ^ d = byv g i r
  | 0 => by rw [Nat.pow_zero, Nat.div_one]; rfl
  | d + 1 => by
    have ih := byv_div (g := g) (i := i) (r := r) d
    show (2 * byv g i (r + d) + (if g (8 * i + (r + d)) = true then 1 else 0)) / 2 ^ (d + 1) = _
    rw [Nat.pow_succ, Nat.mul_comm (2 ^ d) 2, ← Nat.div_div_eq_div_mul]
    rw [show (2 * byv g i (r + d) + (if g (8 * i + (r + d)) = true then 1 else 0)) / 2 = byv g i (r + d) by split <;> omega]
    exact ih
theorem byv_bit {g : Nat → Bool} {i r : Nat} (hr : r < 8) : byv g i 8 / 2 ^ (7 - r) % 2 = if g (8 * i + r) = true then 1 else 0 := by
  have := byv_div (g := g) (i := i) (r := r + 1) (7 - r)
  rw [show r + 1 + (7 - r) = 8 by omega] at this
  rw [this, show byv g i (r + 1) = 2 * byv g i r + (if g (8 * i + r) = true then 1 else 0) from rfl]
  split <;> omega
theorem byv_bitd {g : Nat → Bool} {i r : Nat} (hr : r < 8) : decide (byv g i 8 / 2 ^ (7 - r) % 2 = 1) = g (8 * i + r) := by
  rw [byv_bit hr]
  cases g (8 * i + r) <;> rfl
theorem nbytes {T : Nat} (h : T < 100000) : F_X0_byteCount (nI T) = some (nI ((T + 7) / 8)) ∧ F_X9_bytes (nI T) = some (nI ((T + 7) / 8)) := by
  constructor
  · unfold F_X0_byteCount
    rw [show nI T + (7 : Int32) = nI (T + 7) from nI_add T 7]
    exact congrArg some (shrN (n := T + 7) (j := 3) (by omega) (by decide))
  · unfold F_X9_bytes
    rw [show nI T + (7 : Int32) = nI (T + 7) from nI_add T 7]
    exact congrArg some (pk_div (a := T + 7) (d := 8) (by omega) (by decide) (by decide))
theorem X_bitOf {nn i : Nat} {g : Nat → Bool} {no : AI} (hn : nn ≤ 48) (hi : i / 8 < 64 * nn) (h : no (i / 8) = nI (byv g (i / 8) 8)) : F_X0_bitOf nn (nI i) no = some (b10 (g i)) := by
  unfold F_X0_bitOf
  have q1 : nI i >>> ((3 : Int32) &&& 31) = nI (i / 8) := shrN (n := i) (j := 3) (by omega) (by decide)
  have q2 : nI i &&& (7 : Int32) = nI (i % 8) := pk_andN (n := i) (by omega) 3 (by decide)
  have q3 : (7 : Int32) - nI (i % 8) = nI (7 - i % 8) := by rw [show (7 : Int32) = nI 7 from rfl]; exact sub_all (by omega)
  have hv := byv_lt g (i / 8) 8
  rw [ck_t (blen hn), q1, q2, q3, el_nI hi (by omega), h, bit_of (by omega) (by omega), byv_bitd (Nat.mod_lt _ (by decide)), show 8 * (i / 8) + i % 8 = i by omega]
theorem M_byteAt {fu j : Nat} {g : Nat → Bool} {bi : AI} (hf : 1000 ≤ fu) (hj : 8 * j + 8 ≤ 16384) (h : ∀ k, k < 8 → bi (8 * j + k) = b10 (g (8 * j + k))) : F_X9_byteAt fu (nI j) bi = some (nI (byv g j 8)) := by
  have K : ∀ (r k f : Nat), k + r = 8 → r < f → F_X9_byteAt_L7 (nI j) bi f (nI (byv g j k)) (nI (8 * j + k)) = some (nI (byv g j 8)) := by
    intro r
    induction r with
    | zero =>
      intro k f e1 e2
      obtain ⟨f, rfl⟩ : ∃ g, f = g + 1 := ⟨f - 1, by omega⟩
      have e1 : k = 8 := by omega
      subst e1
      rw [F_X9_byteAt_L7, show (8 : Int32) = nI 8 from rfl, pk_mul, nI_add, if_pos (nI_le (Nat.le_refl _) (by omega))]
    | succ r ih =>
      intro k f e1 e2
      obtain ⟨f, rfl⟩ : ∃ g, f = g + 1 := ⟨f - 1, by omega⟩
      rw [F_X9_byteAt_L7, show (8 : Int32) = nI 8 from rfl, pk_mul, nI_add, if_neg (nI_ge (by omega) (by omega)), ck_t (bn_nI (show 8 * j + k < 16384 by omega) (by decide)), clampN (by omega), h k (by omega), nI_1, show (2 : Int32) = nI 2 from rfl, pk_mul]
      have e : nI (2 * byv g j k) + b10 (g (8 * j + k)) = nI (byv g j (k + 1)) := by
        show _ = nI (2 * byv g j k + (if g (8 * j + k) = true then 1 else 0))
        cases g (8 * j + k)
        · exact i_add0 _
        · exact nI_1 _
      rw [e]
      exact ih (k + 1) f (by omega) (by omega)
  unfold F_X9_byteAt
  have := K 8 0 fu (by omega) (by omega)
  rw [show (8 : Int32) = nI 8 from rfl, pk_mul, show F_X9_byteAt_L7 (nI j) bi fu 0 (nI (8 * j)) = _ from this]
  rfl
theorem in_T {T : Nat} (h : T < 100000) (x : Int32) : F_X9_in x.toInt64 (0 : Int64) ((nI T - 1 : Int32).toInt64) = some (if tg T x = true then 1 else 0) := by
  apply X9_in0
  rw [Int32.toInt_toInt64, show (1 : Int32) = nI 1 from rfl, pk_sub_toInt (by omega) (by omega)]
  omega
theorem ok_bit {fu : Nat} (hf : 20000 ≤ fu) : OK_bit fu (Rel BKd) := by
  intro nn X M x1 hR
  obtain ⟨h1, hn, hmn, hP, hRR, hB⟩ := id hR
  suffices h : ∃ r : Int32, F_X8_bit nn x1 (xth_ X) (xbs_ X) (xno_ X) = some r ∧ F_X9_bit x1 (mth_ M) (mib_ M) (msz_ M) (mbi_ M) = some (r, 0) by
    obtain ⟨r, a, b⟩ := h
    unfold SX_bit SM_bit
    rw [a, b, bd_some, bd_some]
    exact ⟨_, _, _, rfl, rfl, h1, hn, hmn, hP, hRR, hB⟩
  unfold F_X8_bit F_X9_bit F_X1_bits F_X0_bitNow
  rcases hB with ⟨t1, t2, t3⟩ | ⟨t1, t2, t4, t5, t6, t7⟩
  · rw [t1, t2, isThere0, bd_some, if_pos rfl, if_pos rfl]
    exact ⟨_, rfl, rfl⟩
  · obtain ⟨K, D, E, φ, N, W, s, T, b1, b2, b3, b4, b5, b6, b7, ⟨b8, b8'⟩, b9, b0⟩ := id t7
    rw [t1, t2, isThere1, bd_some, if_neg n10, if_neg n10, bd_some, b8, b8', X8_isBelow (by omega), bd_some, if10', in_T (by omega), bd_some, if10']
    by_cases e : tg T x1 = true
    · obtain ⟨i, hi, rfl⟩ := tg_of e
      obtain ⟨c1, c2⟩ := b0 (i / 8) (by omega)
      have c3 := (c2 (i % 8) (Nat.mod_lt _ (by decide))).1
      rw [show 8 * (i / 8) + i % 8 = i by omega] at c3
      rw [if_pos e, if_pos e, X_bitOf hn (by omega) c1.2, bd_some, bd_some, ck_t (bn_nI (show i < 16384 by omega) (by decide)), clampN (by omega), c3]
      exact ⟨_, rfl, rfl⟩
    · rw [if_neg e, if_neg e]
      exact ⟨_, rfl, rfl⟩
theorem sum2 {fu nn T : Nat} {N : Nat → Bool} {no bi : AI} (hf : 1000 ≤ fu) (hn : nn ≤ 48) (hT : T ≤ 200 * nn) (h : ∀ j, 8 * j < T → no j = nI (byv N j 8) ∧ ∀ k, k < 8 → bi (8 * j + k) = b10 (N (8 * j + k))) : ∀ (r j fX fM : Nat) (acc : Int64), j + r = (T + 7) / 8 → r < fX → r < fM → ∃ v : Int64, F_X0_hash_L4 nn (nI T) no fX acc (nI j) = some v ∧ F_X9_sum_L20 fu (nI T) bi fM acc (nI j) = some v := by
  have hb := nbytes (T := T) (by omega)
  intro r
  induction r with
  | zero =>
    intro j fX fM acc e1 e2 e3
    obtain ⟨fX, rfl⟩ : ∃ g, fX = g + 1 := ⟨fX - 1, by omega⟩
    obtain ⟨fM, rfl⟩ : ∃ g, fM = g + 1 := ⟨fM - 1, by omega⟩
    rw [F_X0_hash_L4, F_X9_sum_L20, hb.1, hb.2, bd_some, bd_some, if_pos (nI_le (by omega) (by omega)), if_pos (nI_le (by omega) (by omega))]
    exact ⟨_, rfl, rfl⟩
  | succ r ih =>
    intro j fX fM acc e1 e2 e3
    obtain ⟨fX, rfl⟩ : ∃ g, fX = g + 1 := ⟨fX - 1, by omega⟩
    obtain ⟨fM, rfl⟩ : ∃ g, fM = g + 1 := ⟨fM - 1, by omega⟩
    obtain ⟨c1, c2⟩ := h j (by omega)
    rw [F_X0_hash_L4, F_X9_sum_L20, hb.1, hb.2, bd_some, bd_some, if_neg (nI_ge (by omega) (by omega)), if_neg (nI_ge (by omega) (by omega)), ck_t (blen hn), el_nI (show j < 64 * nn by omega) (by omega), c1, M_byteAt hf (by omega) c2, bd_some, nI_1]
    exact ih (j + 1) fX fM _ (by omega) (by omega) (by omega)
theorem ok_sum {fu : Nat} (hf : 20000 ≤ fu) : OK_sum fu (Rel BKd) := by
  intro nn X M hR
  obtain ⟨h1, hn, hmn, hP, hRR, hB⟩ := id hR
  suffices h : ∃ r : Int64, F_X8_sum fu nn (xth_ X) (xbs_ X) (xno_ X) = some r ∧ F_X9_sum fu (mth_ M) (mib_ M) (msz_ M) (mbi_ M) = some (r, 0) by
    obtain ⟨r, a, b⟩ := h
    unfold SX_sum SM_sum
    rw [a, b, bd_some, bd_some]
    exact ⟨_, _, _, rfl, rfl, h1, hn, hmn, hP, hRR, hB⟩
  unfold F_X8_sum F_X9_sum F_X1_bits F_X0_hash
  rcases hB with ⟨t1, t2, t3⟩ | ⟨t1, t2, t4, t5, t6, t7⟩
  · rw [t1, t2, isThere0, bd_some, if_pos rfl, if_pos rfl]
    exact ⟨_, rfl, rfl⟩
  · obtain ⟨K, D, E, φ, N, W, s, T, b1, b2, b3, b4, b5, b6, b7, ⟨b8, b8'⟩, b9, b0⟩ := id t7
    obtain ⟨v, a1, a2⟩ := sum2 (fu := fu) (by omega) hn b5 (fun j hj => ⟨(b0 j hj).1.2, fun k hk => ((b0 j hj).2 k hk).1⟩) ((T + 7) / 8) 0 fu fu 1 (by omega) (by omega) (by omega)
    rw [t1, t2, isThere1, bd_some, if_neg n10, if_neg n10, bd_some, b8, b8', show F_X0_hash_L4 nn (nI T) (xno_ X) fu 1 0 = _ from a1, show F_X9_sum_L20 fu (nI T) (mbi_ M) fu 1 0 = _ from a2, bd_some, bd_some, bd_some]
    exact ⟨_, rfl, rfl⟩
/-- bits turned by a mask -/
def trn (N : Nat → Bool) (j m : Nat) : Nat → Bool := fun i => if i / 8 = j then (N i ^^ decide (m / 2 ^ (7 - i % 8) % 2 = 1)) else N i
theorem trn_in (N : Nat → Bool) (m : Nat) {j k : Nat} (hk : k < 8) : trn N j m (8 * j + k) = (N (8 * j + k) ^^ decide (m / 2 ^ (7 - k) % 2 = 1)) := by
  unfold trn
  rw [if_pos (by omega), show (8 * j + k) % 8 = k by omega]
theorem trn_out {N : Nat → Bool} {m j i : Nat} (h : i / 8 ≠ j) : trn N j m i = N i := if_neg h
theorem trn_byte {N : Nat → Bool} {m j : Nat} (hm : m < 256) : byv N j 8 ^^^ m = byv (trn N j m) j 8 := by
  apply Nat.eq_of_testBit_eq
  intro i
  rw [Nat.testBit_xor, Nat.testBit_eq_decide_div_mod_eq, Nat.testBit_eq_decide_div_mod_eq, Nat.testBit_eq_decide_div_mod_eq]
  have l1 := byv_lt N j 8
  have l2 := byv_lt (trn N j m) j 8
  rcases Nat.lt_or_ge i 8 with h | h
  · have e1 := byv_bitd (g := N) (i := j) (r := 7 - i) (by omega)
    have e2 := byv_bitd (g := trn N j m) (i := j) (r := 7 - i) (by omega)
    rw [show 7 - (7 - i) = i by omega] at e1 e2
    rw [e1, e2, trn_in N m (by omega), show 7 - (7 - i) = i by omega]
  · have hp : 256 ≤ 2 ^ i := Nat.pow_le_pow_right (n := 2) (i := 8) (by decide) h
    rw [Nat.div_eq_of_lt (show byv N j 8 < 2 ^ i by omega), Nat.div_eq_of_lt (show m < 2 ^ i by omega), Nat.div_eq_of_lt (show byv (trn N j m) j 8 < 2 ^ i by omega)]
    rfl
theorem b10_xor (a b : Bool) : b10 a ^^^ b10 b = b10 (a ^^ b) := by cases a <;> cases b <;> decide
theorem M_alterL {fu j m : Nat} {N : Nat → Bool} {bi : AI} (hf : 1000 ≤ fu) (hj : 8 * j + 8 ≤ 16384) (hm : m < 256) (h : ∀ k, k < 8 → bi (8 * j + k) = b10 (N (8 * j + k))) : ∃ bi2 : AI, F_X9_alter_L48 (nI j) (nI m) fu 0 bi = some bi2 ∧ (∀ k, k < 8 → bi2 (8 * j + k) = b10 (trn N j m (8 * j + k))) ∧ ∀ i, i / 8 ≠ j → bi2 i = bi i := by
  refine fwd 8 (fun f k (s : AI) => F_X9_alter_L48 (nI j) (nI m) f (nI k) s) (fun k s => (∀ q, q < k → s (8 * j + q) = b10 (trn N j m (8 * j + q))) ∧ (∀ q, k ≤ q → s (8 * j + q) = bi (8 * j + q)) ∧ ∀ i, i / 8 ≠ j → s i = bi i) _ (fun f s hs => ?_) (fun f k s hk hs => Or.inl ?_) 8 0 fu bi (by omega) (by omega) ⟨fun q hq => absurd hq (by omega), fun _ _ => rfl, fun _ _ => rfl⟩
  · exact ⟨s, by rw [F_X9_alter_L48, if_pos (show (8 : Int32) ≤ nI 8 by decide)], hs.1, hs.2.2⟩
  · have q3 : (7 : Int32) - nI k = nI (7 - k) := by rw [show (7 : Int32) = nI 7 from rfl]; exact sub_all (by omega)
    rw [F_X9_alter_L48, if_neg (show ¬ (8 : Int32) ≤ nI k from nI_ge (b := 8) hk (by decide)), show (8 : Int32) = nI 8 from rfl, pk_mul, nI_add, ck_t (bn_nI (show 8 * j + k < 16384 by omega) (by decide)), ck_t (bn_nI (show 8 * j + k < 16384 by omega) (by decide)), clampN (by omega), q3, bit_of (by omega) (by omega), hs.2.1 k (Nat.le_refl _), h k hk, b10_xor, nI_1]
    refine ⟨_, rfl, fun q hq => ?_, fun q hq => ?_, fun i hi => ?_⟩
    · rw [upd_if]
      by_cases e : q = k
      · rw [if_pos (by omega), e, trn_in N m hk]
      · rw [if_neg (by omega)]
        exact hs.1 q (by omega)
    · rw [upd_n (by omega)]
      exact hs.2.1 q (by omega)
    · rw [upd_n (by omega)]
      exact hs.2.2 i hi
theorem ok_alter {fu : Nat} (hf : 20000 ≤ fu) : OK_alter fu (Rel BKd) := by
  intro nn X M x1 x2 hR
  obtain ⟨h1, hn, hmn, hP, hRR, hB⟩ := id hR
  suffices h : ∃ (r : Int32) (no2 bi2 : AI), F_X8_alter nn x1 x2 (xth_ X) (xbs_ X) (xno_ X) = some (r, no2) ∧ F_X9_alter fu x1 x2 (mth_ M) (mib_ M) (msz_ M) (mbi_ M) = some (r, 0, bi2) ∧ RB BKd nn (xro_ X) (xth_ X) (xsp_ X) (xpr_ X) (xbs_ X) (xwr_ X) no2 (xki_ X) (xdi_ X) (xde_ X) (xst_ X) (xta_ X) (mib_ M) (mpa_ M) (msz_ M) (mps_ M) (mpk_ M) bi2 (mwr_ M) (mki_ M) (mfr_ M) (mde_ M) (mbe_ M) by
    obtain ⟨r, no2, bi2, a, b, c⟩ := h
    unfold SX_alter SM_alter
    rw [a, b, bd_some, bd_some]
    exact ⟨_, _, _, rfl, rfl, h1, hn, hmn, hP, hRR, c⟩
  unfold F_X8_alter F_X9_alter F_X1_bits
  rcases id hB with ⟨t1, t2, t3⟩ | ⟨t1, t2, t4, t5, t6, t7⟩
  · rw [t1, t2, isThere0, bd_some, if_pos rfl, if_pos rfl]
    exact ⟨_, _, _, rfl, rfl, Or.inl ⟨rfl, rfl, t3⟩⟩
  · obtain ⟨K, D, E, φ, N, W, s, T, b1, b2, b3, b4, b5, b6, b7, ⟨b8, b8'⟩, b9, b0⟩ := id t7
    have hb := nbytes (T := T) (by omega)
    have same : ∀ r : Int32, ∃ (r' : Int32) (no2 bi2 : AI), some (r, xno_ X) = some (r', no2) ∧ some (r, (0 : Int32), mbi_ M) = some (r', 0, bi2) ∧ RB BKd nn (xro_ X) (xth_ X) (xsp_ X) (xpr_ X) (xbs_ X) (xwr_ X) no2 (xki_ X) (xdi_ X) (xde_ X) (xst_ X) (xta_ X) (mib_ M) (mpa_ M) (msz_ M) (mps_ M) (mpk_ M) bi2 (mwr_ M) (mki_ M) (mfr_ M) (mde_ M) (mbe_ M) := fun r => ⟨r, _, _, rfl, rfl, hB⟩
    rw [t1, t2] at same ⊢
    rw [isThere1, bd_some, if_neg n10, if_neg n10, bd_some]
    rw [b8, b8'] at same ⊢
    simp only [hb.1, hb.2, bd_some]
    rw [X8_isBelow (by omega), bd_some, if10', in_T (by omega), bd_some, if10', X9_in, bd_some, if10', Int32.toInt_toInt64]
    by_cases e : tg ((T + 7) / 8) x1 = true
    · rw [if_pos e, if_pos e]
      by_cases e2 : (1 : Int64).toInt ≤ x2.toInt ∧ x2.toInt ≤ (255 : Int64).toInt
      · obtain ⟨j, hj, rfl⟩ := tg_of e
        obtain ⟨m, m1, m2, rfl⟩ := nI_ofT (lo := 1) (hi := 255) (x := x2) e2.1 e2.2
        obtain ⟨c1, c2⟩ := b0 j (by omega)
        obtain ⟨bi2, a1, a2, a3⟩ := M_alterL (fu := fu) (j := j) (m := m) (N := N) (bi := mbi_ M) (by omega) (by omega) (by omega) (fun k hk => (c2 k hk).1)
        rw [if_pos e2, if_neg (show ¬ nI m < (1 : Int32) by rw [show (1 : Int32) = nI 1 from rfl, nI_ltI (by omega) (by decide)]; omega), if_pos (show nI m ≤ (255 : Int32) from nI_le (b := 255) m2 (by decide)), a1, bd_some, M_byteAt (by omega) (by omega) a2, bd_some]
        unfold F_X0_turn
        rw [if_neg (nI_pos (by omega)), if_neg (nI_ge (show j < 64 * nn by omega) (by omega)), ck_t (bn_nI (show j < 64 * nn by omega) (by omega)), ck_t (bn_nI (show j < 64 * nn by omega) (by omega)), ck_t (blen hn), el_nI (show j < 64 * nn by omega) (by omega), clampN (by omega), upd_s, c1.2, nx_xor, trn_byte (by omega), bd_some]
        refine ⟨_, _, _, rfl, rfl, Or.inr ⟨rfl, rfl, t4, t5, t6, K, D, E, φ, trn N j m, W, s, T, b1, b2, b3, b4, b5, b6, b7, ⟨rfl, rfl⟩, b9, fun i hi => ?_⟩⟩
        obtain ⟨d1, d2⟩ := b0 i hi
        refine ⟨⟨d1.1, ?_⟩, fun k hk => ⟨?_, (d2 k hk).2⟩⟩
        · show upd (xno_ X) j (nI (byv (trn N j m) j 8)) i = _
          rw [upd_if]
          by_cases z : i = j
          · rw [if_pos z, z]
          · rw [if_neg z, d1.2]
            exact congrArg nI (byv_cong (fun q hq => (trn_out (by omega)).symm))
        · by_cases z : i = j
          · rw [z]; exact a2 k hk
          · rw [a3 _ (by omega), trn_out (by omega)]
            exact (d2 k hk).1
      · rw [if_neg e2]
        by_cases z : x2 < 1
        · rw [if_pos z]
          exact same _
        · rw [if_neg z, if_neg]
          · exact same _
          · intro q
            rw [i_lt] at z
            rw [i_le] at q
            exact e2 ⟨by have z : ¬ x2.toInt < 1 := z; show (1 : Int) ≤ _; omega, q⟩
    · rw [if_neg e, if_neg e]
      exact same _

/-! ===== pure: how many bits a number has in a form ===== -/
def dg (v : Nat) : Nat := Nat.log2 v + 1
theorem dg_lt (v : Nat) : v < 2 ^ dg v := Nat.lt_log2_self
theorem dg_le {v : Nat} (h : 1 ≤ v) : 2 ^ (dg v - 1) ≤ v := by
  show 2 ^ (Nat.log2 v + 1 - 1) ≤ v
  rw [Nat.add_sub_cancel]
  exact Nat.log2_self_le (by omega)
theorem dg_pos (v : Nat) : 1 ≤ dg v := Nat.succ_le_succ (Nat.zero_le _)
theorem dg_30 {v k : Nat} (h : 1 ≤ v) (hv : v < 2 ^ k) : dg v ≤ k := by
  rcases Nat.lt_or_ge k (dg v) with e | e
  · have h1 := dg_le h
    have h2 : 2 ^ k ≤ 2 ^ (dg v - 1) := Nat.pow_le_pow_right (by decide) (by omega)
    omega
  · exact e
theorem dg_zero {v j : Nat} (h : dg v ≤ j) : v / 2 ^ j = 0 := Nat.div_eq_of_lt (Nat.lt_of_lt_of_le (dg_lt v) (Nat.pow_le_pow_right (by decide) h))
theorem dg_nz {v j : Nat} (h1 : 1 ≤ v) (h : j < dg v) : 1 ≤ v / 2 ^ j := by
  have h2 := dg_le h1
  have h3 : 2 ^ j ≤ 2 ^ (dg v - 1) := Nat.pow_le_pow_right (by decide) (by omega)
  exact Nat.div_pos (by omega) (Nat.pow_pos (by decide))
theorem M_bitsOf {fu v : Nat} (hf : 100 ≤ fu) (h1 : 1 ≤ v) (hv : v < 2 ^ 30) : F_X9_bitsOf fu (nI v) = some (nI (dg v)) := by
  have hd : dg v ≤ 30 := dg_30 h1 hv
  have L : ∀ (r l fuel : Nat), l + r = dg v → r < fuel → F_X9_bitsOf_L4 fuel (nI l) (nI (v / 2 ^ l)) = some (nI (dg v)) := by
    intro r
    induction r with
    | zero =>
      intro l fuel e1 e2
      obtain ⟨f, rfl⟩ : ∃ f, fuel = f + 1 := ⟨fuel - 1, by omega⟩
      rw [F_X9_bitsOf_L4, dg_zero (by omega), if_pos (by decide)]
      congr 2
    | succ r ih =>
      intro l fuel e1 e2
      obtain ⟨f, rfl⟩ : ∃ f, fuel = f + 1 := ⟨fuel - 1, by omega⟩
      have h3 : v / 2 ^ l ≤ v := Nat.div_le_self _ _
      rw [F_X9_bitsOf_L4, if_neg (nI_nle (dg_nz h1 (by omega)) (by omega)), show (2 : Int32) = nI 2 from rfl, pk_div (by omega) (by decide) (by decide), Nat.div_div_eq_div_mul, ← Nat.pow_succ, nI_1]
      exact ih (l + 1) f (by omega) (by omega)
  unfold F_X9_bitsOf
  have := L (dg v) 0 fu (by omega) (by omega)
  rw [Nat.pow_zero, Nat.div_one] at this
  rw [show F_X9_bitsOf_L4 fu 0 (nI v) = _ from this]
  rfl
theorem sh31 : ∀ j, j < 32 → ((nI j &&& 31 : Int32).toBitVec.smod 32).toNat = j := by decide +kernel
theorem shrN {n j : Nat} (hn : n < 2 ^ 31) (hj : j < 32) : nI n >>> (nI j &&& 31) = nI (n / 2 ^ j) := pk_shrN hn _ j (sh31 j hj)
theorem X_digitsOf {fu v : Nat} (hf : 100 ≤ fu) (h1 : 1 ≤ v) (hv : v < 2 ^ 30) : F_X8_digitsOf fu (nI v) = some (nI (dg v)) := by
  have hd : dg v ≤ 30 := dg_30 h1 hv
  have hp := dg_pos v
  have L : ∀ (r j fuel : Nat), j + r = dg v → r < fuel → F_X8_digitsOf_L2 (nI v) fuel (nI j) = some (nI (dg v)) := by
    intro r
    induction r with
    | zero =>
      intro j fuel e1 e2
      obtain ⟨f, rfl⟩ : ∃ f, fuel = f + 1 := ⟨fuel - 1, by omega⟩
      rw [F_X8_digitsOf_L2, show (31 : Int32) = nI 31 from rfl, if_neg (nI_ge (by omega) (by decide)), show nI 31 = (31 : Int32) from rfl, shrN (by omega) (by omega), dg_zero (by omega), if_pos (by decide)]
      congr 2
    | succ r ih =>
      intro j fuel e1 e2
      obtain ⟨f, rfl⟩ : ∃ f, fuel = f + 1 := ⟨fuel - 1, by omega⟩
      have h3 : v / 2 ^ j ≤ v := Nat.div_le_self _ _
      rw [F_X8_digitsOf_L2, show (31 : Int32) = nI 31 from rfl, if_neg (nI_ge (by omega) (by decide)), show nI 31 = (31 : Int32) from rfl, shrN (by omega) (by omega), if_neg (nI_nle (dg_nz h1 (by omega)) (by omega)), nI_1]
      exact ih (j + 1) f (by omega) (by omega)
  unfold F_X8_digitsOf
  rw [show F_X8_digitsOf_L2 (nI v) fu 1 = _ from L (dg v - 1) 1 fu (by omega) (by omega)]
  rfl
def ln (f v : Nat) : Nat := if f = 0 then v + 1 else if f = 1 then 2 * dg (v + 1) - 1 else if f = 2 then 2 * dg (dg (v + 1)) - 1 + (dg (v + 1) - 1) else v / 2 ^ (f - 3) + 1 + (f - 3)
theorem two_m {d : Nat} (h : 1 ≤ d) : (2 : Int32) * nI d - 1 = nI (2 * d - 1) := by
  rw [show (2 : Int32) = nI 2 from rfl, show (1 : Int32) = nI 1 from rfl, pk_mul, pk_sub (by omega)]
theorem nI_k {f k : Nat} (hf : f < 2 ^ 31) (hk : k < 2 ^ 31) (h : ¬ f = k) : ¬ nI f = nI k := by rw [nI_eq hf hk]; exact h
theorem X_bitsIn {fu f v : Nat} (hf : 100 ≤ fu) (h10 : f < 10) (hv : v < 2 ^ 20) : F_X8_bitsIn fu (nI f) (nI v) = some (nI (ln f v)) := by
  unfold F_X8_bitsIn ln
  by_cases e0 : f = 0
  · subst e0
    rw [if_pos (show nI 0 = (0 : Int32) from rfl), if_pos rfl, nI_1]
  · rw [if_neg (show ¬ nI f = (0 : Int32) from nI_k (k := 0) (by omega) (by decide) e0), if_neg e0]
    have d1 := dg_pos (v + 1)
    have d2 : dg (v + 1) ≤ 21 := dg_30 (by omega) (by omega)
    by_cases e1 : f = 1
    · subst e1
      rw [if_pos (show nI 1 = (1 : Int32) from rfl), if_pos rfl, nI_1, X_digitsOf hf (by omega) (by omega), bd_some, two_m d1]
    · rw [if_neg (show ¬ nI f = (1 : Int32) from nI_k (k := 1) (by omega) (by decide) e1), if_neg e1]
      by_cases e2 : f = 2
      · subst e2
        rw [if_pos (show nI 2 = (2 : Int32) from rfl), if_pos rfl, nI_1, X_digitsOf hf (by omega) (by omega), bd_some]
        have e3 : nI (dg (v + 1)) - 1 = nI (dg (v + 1) - 1) := by rw [show (1 : Int32) = nI 1 from rfl, pk_sub d1]
        rw [e3, nI_1, show dg (v + 1) - 1 + 1 = dg (v + 1) by omega, X_digitsOf hf d1 (by omega), bd_some, two_m (dg_pos _), nI_add]
      · rw [if_neg (show ¬ nI f = (2 : Int32) from nI_k (k := 2) (by omega) (by decide) e2), if_neg e2]
        have e3 : nI f - 3 = nI (f - 3) := by rw [show (3 : Int32) = nI 3 from rfl, pk_sub (by omega)]
        rw [e3, shrN (by omega) (by omega), nI_1, nI_add]
theorem M_lengthIn {fu f v : Nat} (hf : 100 ≤ fu) (h10 : f < 10) (hv : v < 2 ^ 20) : F_X9_lengthIn fu (nI f) (nI v) = some (nI (ln f v)) := by
  unfold F_X9_lengthIn ln
  have d1 := dg_pos (v + 1)
  have d2 : dg (v + 1) ≤ 21 := dg_30 (by omega) (by omega)
  rw [nI_1, M_bitsOf hf (by omega) (by omega), bd_some]
  by_cases e0 : f = 0
  · subst e0
    rw [if_pos (show nI 0 = (0 : Int32) from rfl), if_pos rfl]
  · rw [if_neg (show ¬ nI f = (0 : Int32) from nI_k (k := 0) (by omega) (by decide) e0), if_neg e0]
    by_cases e1 : f = 1
    · subst e1
      rw [if_pos (show nI 1 = (1 : Int32) from rfl), if_pos rfl, two_m d1]
    · rw [if_neg (show ¬ nI f = (1 : Int32) from nI_k (k := 1) (by omega) (by decide) e1), if_neg e1]
      by_cases e2 : f = 2
      · subst e2
        have d3 := dg_pos (dg (v + 1))
        rw [if_pos (show nI 2 = (2 : Int32) from rfl), if_pos rfl, M_bitsOf hf d1 (by omega), bd_some, two_m d3, nI_add, show (1 : Int32) = nI 1 from rfl, pk_sub (by omega)]
        congr 2
      · rw [if_neg (show ¬ nI f = (2 : Int32) from nI_k (k := 2) (by omega) (by decide) e2), if_neg e2]
        have e3 : nI f - 3 = nI (f - 3) := by rw [show (3 : Int32) = nI 3 from rfl, pk_sub (by omega)]
        rw [e3, shrN (by omega) (by omega), nI_1]
        generalize v / 2 ^ (f - 3) = z
        rw [nI_add, show (3 : Int32) = nI 3 from rfl, pk_sub (by omega)]
        congr 2
        omega
theorem ok_length (BK : BKT) {fu : Nat} (hf : 20000 ≤ fu) : OK_length fu (Rel BK) := by
  intro nn X M x1 x2 hR
  unfold SX_length SM_length F_X8_length F_X9_length
  rw [show (10 : Int32) = nI 10 from rfl, X8_isBelow (by decide), X9_in0 (k := 10) x1 (by decide), X9_in0 (k := 100001) x2 (by decide)]
  simp only [bd_some, if10']
  by_cases e1 : tg 10 x1 = true
  · rw [if_pos e1, if_pos e1]
    obtain ⟨f, h10, rfl⟩ := tg_of e1
    by_cases e2 : tg 100001 x2 = true
    · obtain ⟨v, hv, rfl⟩ := tg_of e2
      rw [if_pos e2, if_neg (nI_pos (by omega)), if_pos (by rw [show (100000 : Int32) = nI 100000 from rfl]; exact nI_le (by omega) (by decide)), X_bitsIn (by omega) h10 (by omega), M_lengthIn (by omega) h10 (by omega)]
      exact ⟨_, _, _, rfl, rfl, hR⟩
    · rw [if_neg e2]
      have h2 := of_decide_eq_false (Bool.eq_false_iff.mpr e2)
      by_cases e3 : x2 < 0
      · rw [if_pos e3]
        exact ⟨_, _, _, rfl, rfl, hR⟩
      · rw [if_neg e3, if_neg]
        · exact ⟨_, _, _, rfl, rfl, hR⟩
        · rw [i_lt, Int32.toInt_zero] at e3
          rw [i_le, show (100000 : Int32).toInt = 100000 from by decide]
          omega
  · rw [if_neg e1, if_neg e1]
    exact ⟨_, _, _, rfl, rfl, hR⟩

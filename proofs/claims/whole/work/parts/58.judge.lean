/-! ===== pure: judge, count ===== -/
def FXp (S : NN) (nn x i : Nat) : Prop := x ≤ nn ∧ ∀ y, y < x → S (y + 1) ≤ i
def FXd (S : NN) (nn x i : Nat) : Prop := FXp S nn x i ∧ (x < nn → i < S (x + 1))
theorem FX_uniq {S : NN} {nn x y i : Nat} (h1 : FXd S nn x i) (h2 : FXd S nn y i) : x = y := by
  rcases Nat.lt_trichotomy x y with h | h | h
  · have a := h1.2 (by have := h2.1.1; omega)
    have b := h2.1.2 x h
    omega
  · exact h
  · have a := h2.2 (by have := h1.1.1; omega)
    have b := h1.1.2 y h
    omega
theorem M_L30 {nn i : Nat} {S : NN} {be : AI} (hn : nn ≤ 48) (hi : i < 100000) (hS : ∀ y, y ≤ nn → be y = nI (S y) ∧ S y < 100000) : ∀ (r x f : Nat), x + r = nn → r < f → FXp S nn x i → ∃ x2 : Nat, F_X9_judge_L30 (nI i) (nI nn) be f (nI x) = some (nI x2) ∧ FXd S nn x2 i := by
  intro r
  induction r with
  | zero =>
    intro x f e1 e2 e3
    obtain ⟨f, rfl⟩ : ∃ g, f = g + 1 := ⟨f - 1, by omega⟩
    rw [F_X9_judge_L30, if_pos (nI_le (by omega) (by omega))]
    exact ⟨x, rfl, e3, fun z => by omega⟩
  | succ r ih =>
    intro x f e1 e2 e3
    obtain ⟨f, rfl⟩ : ∃ g, f = g + 1 := ⟨f - 1, by omega⟩
    obtain ⟨s1, s2⟩ := hS (x + 1) (by omega)
    rw [F_X9_judge_L30, if_neg (nI_ge (by omega) (by omega)), nI_1, ck_t (bn_nI (show x + 1 < 49 by omega) (by decide)), clampN (by omega), s1, if_cg (nI_ltI (show i < 2 ^ 31 by omega) (show S (x + 1) < 2 ^ 31 by omega))]
    by_cases c : i < S (x + 1)
    · rw [if_pos c]
      exact ⟨x, rfl, e3, fun _ => c⟩
    · rw [if_neg c]
      refine ih (x + 1) f (by omega) (by omega) ⟨by omega, fun y hy => ?_⟩
      by_cases z : y = x
      · rw [z]; omega
      · exact e3.2 y (by omega)
theorem X_L17 {nn i : Nat} {S : NN} {st : AI} (hn : nn ≤ 48) (hi : i < 100000) (hS : ∀ y, y ≤ nn → st y = nI (S y) ∧ S y < 100000) : ∀ (r x f : Nat), x + r = nn → r < f → FXp S nn x i → ∃ x2 : Nat, F_X1_firstSpoiled_L17 nn (nI i) st f (nI x) = some (nI x2) ∧ FXd S nn x2 i := by
  intro r
  induction r with
  | zero =>
    intro x f e1 e2 e3
    obtain ⟨f, rfl⟩ : ∃ g, f = g + 1 := ⟨f - 1, by omega⟩
    have e1 : x = nn := by omega
    subst e1
    rw [F_X1_firstSpoiled_L17, if_pos (nI_le (by omega) (by omega))]
    exact ⟨x, rfl, e3, fun z => by omega⟩
  | succ r ih =>
    intro x f e1 e2 e3
    obtain ⟨f, rfl⟩ : ∃ g, f = g + 1 := ⟨f - 1, by omega⟩
    obtain ⟨s1, s2⟩ := hS (x + 1) (by omega)
    rw [F_X1_firstSpoiled_L17, if_neg (nI_ge (by omega) (by omega)), nI_1, X_startOf hn (by omega), bd_some, s1]
    by_cases c : i < S (x + 1)
    · rw [if_neg (nI_ge c (by omega))]
      exact ⟨x, rfl, e3, fun _ => c⟩
    · rw [if_pos (nI_le (by omega) (by omega))]
      refine ih (x + 1) f (by omega) (by omega) ⟨by omega, fun y hy => ?_⟩
      by_cases z : y = x
      · rw [z]; omega
      · exact e3.2 y (by omega)
theorem judge2 {fu nn T : Nat} {N W : Nat → Bool} {S : NN} {wr no be bi mwr : AI} {th : Int32} (hf : 1000 ≤ fu) (hn : nn ≤ 48) (hT : T ≤ 200 * nn) (hS : ∀ y, y ≤ nn → be y = nI (S y) ∧ S y < 100000) (h : ∀ j, 8 * j < T → (wr j = nI (byv W j 8) ∧ no j = nI (byv N j 8)) ∧ ∀ k, k < 8 → bi (8 * j + k) = b10 (N (8 * j + k)) ∧ mwr (8 * j + k) = b10 (W (8 * j + k))) : ∀ (r i x fX fM : Nat), i + r = 8 * ((T + 7) / 8) → r < fX → r < fM → FXp S nn x i → (F_X0_firstTurned_L2 nn (nI T) wr no fX (nI i) = some (-1) ∧ F_X9_judge_L19 fu (nI T) (nI nn) be bi mwr th fM (nI x) (nI i) = some (-1, th)) ∨ ∃ i0 x0 : Nat, i0 < 100000 ∧ F_X0_firstTurned_L2 nn (nI T) wr no fX (nI i) = some (nI i0) ∧ F_X9_judge_L19 fu (nI T) (nI nn) be bi mwr th fM (nI x) (nI i) = some (nI x0, th) ∧ FXd S nn x0 i0 := by
  have hb := nbytes (T := T) (by omega)
  intro r
  induction r with
  | zero =>
    intro i x fX fM e1 e2 e3 e4
    obtain ⟨fX, rfl⟩ : ∃ g, fX = g + 1 := ⟨fX - 1, by omega⟩
    obtain ⟨fM, rfl⟩ : ∃ g, fM = g + 1 := ⟨fM - 1, by omega⟩
    left
    rw [F_X0_firstTurned_L2, F_X9_judge_L19, hb.1, hb.2, bd_some, bd_some, show (8 : Int32) = nI 8 from rfl, pk_mul, if_pos (nI_le (by omega) (by omega)), if_pos (nI_le (by omega) (by omega))]
    exact ⟨rfl, rfl⟩
  | succ r ih =>
    intro i x fX fM e1 e2 e3 e4
    obtain ⟨fX, rfl⟩ : ∃ g, fX = g + 1 := ⟨fX - 1, by omega⟩
    obtain ⟨fM, rfl⟩ : ∃ g, fM = g + 1 := ⟨fM - 1, by omega⟩
    obtain ⟨c1, c2⟩ := h (i / 8) (by omega)
    have c3 := c2 (i % 8) (Nat.mod_lt _ (by decide))
    rw [show 8 * (i / 8) + i % 8 = i by omega] at c3
    obtain ⟨x2, a1, a2⟩ := M_L30 (i := i) hn (by omega) hS (nn - x) x fu (by have := e4.1; omega) (by omega) e4
    rw [F_X0_firstTurned_L2, F_X9_judge_L19, hb.1, hb.2, bd_some, bd_some, show (8 : Int32) = nI 8 from rfl, pk_mul, if_neg (nI_ge (by omega) (by omega)), if_neg (nI_ge (by omega) (by omega)), X_bitOf hn (by omega) c1.1, bd_some, X_bitOf hn (by omega) c1.2, bd_some, a1, bd_some, ck_t (bn_nI (show i < 16384 by omega) (by decide)), ck_t (bn_nI (show i < 16384 by omega) (by decide)), clampN (by omega), c3.1, c3.2, if_cg (b10_eq (W i) (N i)), if_cg (b10_eq (N i) (W i)), nI_1]
    by_cases c : W i = N i
    · rw [if_pos c, if_pos c.symm]
      exact ih (i + 1) x2 fX fM (by omega) (by omega) (by omega) ⟨a2.1.1, fun y hy => by have := a2.1.2 y hy; omega⟩
    · rw [if_neg c, if_neg (fun z => c z.symm)]
      exact Or.inr ⟨i, x2, by omega, rfl, rfl, a2⟩
theorem ok_judge {fu : Nat} (hf : 20000 ≤ fu) : OK_judge fu (Rel BKd) := by
  intro nn X M hR
  obtain ⟨h1, hn, hmn, hP, hRR, hB⟩ := id hR
  suffices h : ∃ r : Int32, F_X8_judge fu nn (xth_ X) (xbs_ X) (xwr_ X) (xno_ X) (xst_ X) = some r ∧ F_X9_judge fu (mth_ M) (mib_ M) (msz_ M) (mn_ M) (mbe_ M) (mbi_ M) (mwr_ M) = some (r, 0) by
    obtain ⟨r, a, b⟩ := h
    unfold SX_judge SM_judge
    rw [a, b, bd_some, bd_some]
    exact ⟨_, _, _, rfl, rfl, h1, hn, hmn, hP, hRR, hB⟩
  unfold F_X8_judge F_X9_judge F_X1_firstSpoiled F_X0_firstTurned
  rw [hmn]
  rcases hB with ⟨t1, t2, t3⟩ | ⟨t1, t2, t4, t5, t6, t7⟩
  · rw [t1, t2, isThere0, bd_some, if_pos rfl, if_pos rfl]
    exact ⟨_, rfl, rfl⟩
  · obtain ⟨K, D, E, φ, N, W, s, T, b1, b2, b3, b4, b5, b6, b7, ⟨b8, b8'⟩, b9, b0⟩ := id t7
    have hS : ∀ y, y ≤ nn → bts φ (als (xpr_ X) K D y) < 100000 := fun y hy => by
      have := als_mono (φ := φ) (ro := xpr_ X) (K := K) (D := D) hy
      omega
    rw [t1, t2, isThere1, bd_some, if_neg n10, if_neg n10, b8, b8']
    have J := judge2 (fu := fu) (th := 0) (S := fun y => bts φ (als (xpr_ X) K D y)) (by omega) hn b5 (fun y hy => ⟨(b9 y hy).2, hS y hy⟩) b0 (8 * ((T + 7) / 8)) 0 0 fu fu (by omega) (by omega) (by omega) ⟨by omega, fun y hy => absurd hy (by omega)⟩
    rcases J with ⟨j1, j2⟩ | ⟨i0, x0, j0, j1, j2, j3⟩
    · rw [show F_X0_firstTurned_L2 nn (nI T) (xwr_ X) (xno_ X) fu 0 = _ from j1, show F_X9_judge_L19 fu (nI T) (nI nn) (mbe_ M) (mbi_ M) (mwr_ M) 0 fu 0 0 = _ from j2, bd_some, if_pos rfl, bd_some]
      exact ⟨_, rfl, rfl⟩
    · obtain ⟨x2, l1, l2⟩ := X_L17 (i := i0) (S := fun y => bts φ (als (xpr_ X) K D y)) (st := xst_ X) hn j0 (fun y hy => ⟨(b9 y hy).1, hS y hy⟩) nn 0 fu (by omega) (by omega) ⟨by omega, fun y hy => absurd hy (by omega)⟩
      have e := FX_uniq l2 j3
      subst e
      rw [show F_X0_firstTurned_L2 nn (nI T) (xwr_ X) (xno_ X) fu 0 = _ from j1, show F_X9_judge_L19 fu (nI T) (nI nn) (mbe_ M) (mbi_ M) (mwr_ M) 0 fu 0 0 = _ from j2, bd_some, if_neg (nI_m1 (by omega)), show F_X1_firstSpoiled_L17 nn (nI i0) (xst_ X) fu 0 = _ from l1, bd_some]
      exact ⟨_, rfl, rfl⟩
/-! count -/
theorem cnt1 {fu nn : Nat} {ro : AJ} {no : AI} (hf : 1000 ≤ fu) (hn : nn ≤ 48) (hP : RP nn ro no) : ∀ (r j fX fM : Nat) (acc : Int32), j + r = nn → r < fX → r < fM → ∃ v : Int32, F_X4_countAll_L4 nn ro fX acc (nI j) = some v ∧ F_X9_count_L59 fu (nI nn) no fM acc (nI j) = some v := by
  intro r
  induction r with
  | zero =>
    intro j fX fM acc e1 e2 e3
    obtain ⟨fX, rfl⟩ : ∃ g, fX = g + 1 := ⟨fX - 1, by omega⟩
    obtain ⟨fM, rfl⟩ : ∃ g, fM = g + 1 := ⟨fM - 1, by omega⟩
    rw [F_X4_countAll_L4, F_X9_count_L59, if_pos (nI_le (by omega) (by omega)), if_pos (nI_le (by omega) (by omega))]
    exact ⟨_, rfl, rfl⟩
  | succ r ih =>
    intro j fX fM acc e1 e2 e3
    obtain ⟨fX, rfl⟩ : ∃ g, fX = g + 1 := ⟨fX - 1, by omega⟩
    obtain ⟨fM, rfl⟩ : ∃ g, fM = g + 1 := ⟨fM - 1, by omega⟩
    rw [F_X4_countAll_L4, F_X9_count_L59, if_neg (nI_ge (by omega) (by omega)), if_neg (nI_ge (by omega) (by omega)), ck_t (bn_nI (show j < nn by omega) (by omega)), clampN (by omega), X_bitCount, bd_some, M_rowSize (by omega) (show j < nn by omega) hn hP, bd_some, nI_1]
    exact ih (j + 1) fX fM _ (by omega) (by omega) (by omega)
theorem cnt5 {nn : Nat} {pr : AJ} {K D E : NN} {ki di de mki mfr mde : AI} (hn : nn ≤ 48) (hCR : CR nn K D E ki di de mki mfr mde) (hVR : VR nn pr K D E) : ∀ (r j fX fM : Nat) (acc : Int32), j + r = nn → r < fX → r < fM → ∃ v : Int32, F_X1_copiedRows_L4 nn 1 ki fX acc (nI j) = some v ∧ F_X9_count_L131 (nI nn) 1 mfr fM acc (nI j) = some v := by
  intro r
  induction r with
  | zero =>
    intro j fX fM acc e1 e2 e3
    obtain ⟨fX, rfl⟩ : ∃ g, fX = g + 1 := ⟨fX - 1, by omega⟩
    obtain ⟨fM, rfl⟩ : ∃ g, fM = g + 1 := ⟨fM - 1, by omega⟩
    rw [F_X1_copiedRows_L4, F_X9_count_L131, if_neg n10, if_pos (nI_le (by omega) (by omega)), if_pos (nI_le (by omega) (by omega))]
    exact ⟨_, rfl, rfl⟩
  | succ r ih =>
    intro j fX fM acc e1 e2 e3
    obtain ⟨fX, rfl⟩ : ∃ g, fX = g + 1 := ⟨fX - 1, by omega⟩
    obtain ⟨fM, rfl⟩ : ∃ g, fM = g + 1 := ⟨fM - 1, by omega⟩
    obtain ⟨c1, c2, c3⟩ := hCR j (by omega)
    have v := hVR j (by omega)
    rw [F_X1_copiedRows_L4, F_X9_count_L131, if_neg n10, if_neg (nI_ge (by omega) (by omega)), if_neg (nI_ge (by omega) (by omega)), if_neg n10, ck_t (bn_nI (show j < nn by omega) (by omega)), ck_t (bn_nI (show j < 48 by omega) (by decide)), clampN (by omega), c1.1, c2.2, X_isCopy v.1, bd_some, if10', nI_1, i_add0]
    by_cases c : K j = 2 ∨ K j = 3
    · have := v.2.2.1 c
      rw [if_pos c, if_neg (nI_nle (by omega) (by omega))]
      exact ih (j + 1) fX fM _ (by omega) (by omega) (by omega)
    · have := v.2.2.2.1 c
      rw [if_neg c, this.1, if_pos (show nI 0 ≤ (0 : Int32) by decide)]
      exact ih (j + 1) fX fM _ (by omega) (by omega) (by omega)
theorem cnt6 {nn : Nat} {K D E : NN} {ki di de mki mfr mde : AI} (hn : nn ≤ 48) (hCR : CR nn K D E ki di de mki mfr mde) : ∀ (r j fX fM : Nat) (acc : Int32), j + r = nn → r < fX → r < fM → ∃ v : Int32, F_X1_greatestDepth_L4 nn 1 de fX acc (nI j) = some v ∧ F_X9_count_L173 (nI nn) 1 mde fM acc (nI j) = some v := by
  intro r
  induction r with
  | zero =>
    intro j fX fM acc e1 e2 e3
    obtain ⟨fX, rfl⟩ : ∃ g, fX = g + 1 := ⟨fX - 1, by omega⟩
    obtain ⟨fM, rfl⟩ : ∃ g, fM = g + 1 := ⟨fM - 1, by omega⟩
    rw [F_X1_greatestDepth_L4, F_X9_count_L173, if_neg n10, if_pos (nI_le (by omega) (by omega)), if_pos (nI_le (by omega) (by omega))]
    exact ⟨_, rfl, rfl⟩
  | succ r ih =>
    intro j fX fM acc e1 e2 e3
    obtain ⟨fX, rfl⟩ : ∃ g, fX = g + 1 := ⟨fX - 1, by omega⟩
    obtain ⟨fM, rfl⟩ : ∃ g, fM = g + 1 := ⟨fM - 1, by omega⟩
    obtain ⟨c1, c2, c3⟩ := hCR j (by omega)
    unfold F_J9_max_7cf53 at *
    rw [F_X1_greatestDepth_L4, F_X9_count_L173, if_neg n10, if_neg (nI_ge (by omega) (by omega)), if_neg (nI_ge (by omega) (by omega)), if_neg n10, ck_t (bn_nI (show j < nn by omega) (by omega)), ck_t (bn_nI (show j < 48 by omega) (by decide)), ck_t (bn_nI (show j < 48 by omega) (by decide)), clampN (by omega), c3.1, c3.2, nI_1]
    unfold F_J9_max_7cf53
    by_cases c : nI (E j) ≤ acc
    · rw [if_pos c, if_neg (fun z => by rw [i_le] at c; rw [i_lt] at z; omega), bd_some]
      exact ih (j + 1) fX fM _ (by omega) (by omega) (by omega)
    · rw [if_neg c, if_pos (by rw [i_le] at c; rw [i_lt]; omega), bd_some]
      exact ih (j + 1) fX fM _ (by omega) (by omega) (by omega)
theorem ok_count {fu : Nat} (hf : 20000 ≤ fu) : OK_count fu (Rel BKd) := by
  intro nn X M x1 hR
  obtain ⟨h1, hn, hmn, hP, hRR, hB⟩ := id hR
  suffices h : ∃ r : Int32, F_X8_count fu nn x1 (xro_ X) (xth_ X) (xpr_ X) (xbs_ X) (xsp_ X) (xki_ X) (xde_ X) = some r ∧ F_X9_count fu x1 (mth_ M) (mn_ M) (mno_ M) (mpa_ M) (mib_ M) (msz_ M) (mps_ M) (mfr_ M) (mde_ M) = some (r, 0) by
    obtain ⟨r, a, b⟩ := h
    unfold SX_count SM_count
    rw [a, b, bd_some, bd_some]
    exact ⟨_, _, _, rfl, rfl, h1, hn, hmn, hP, hRR, hB⟩
  unfold F_X8_count F_X9_count
  rw [hmn]
  obtain ⟨fu, rfl⟩ : ∃ g, fu = g + 1 := ⟨fu - 1, by omega⟩
  by_cases z0 : x1 = 0
  · rw [if_pos z0, if_pos z0]
    exact ⟨_, rfl, rfl⟩
  · rw [if_neg z0, if_neg z0]
    by_cases z1 : x1 = 1
    · rw [if_pos z1, if_pos z1]
      obtain ⟨v, a1, a2⟩ := cnt1 (fu := fu + 1) (by omega) hn hP nn 0 (fu + 1) (fu + 1) 0 (by omega) (by omega) (by omega)
      unfold F_X4_countAll
      rw [show F_X4_countAll_L4 nn (xro_ X) (fu + 1) 0 0 = _ from a1, show F_X9_count_L59 (fu + 1) (nI nn) (mno_ M) (fu + 1) 0 0 = _ from a2, bd_some, bd_some, bd_some]
      exact ⟨_, rfl, rfl⟩
    · rw [if_neg z1, if_neg z1]
      rcases hB with ⟨t1, t2, t3⟩ | ⟨t1, t2, t4, t5, t6, t7⟩
      · unfold F_X1_patchesTo F_X1_placeCount F_X1_copiedRows F_X1_greatestDepth
        rw [t1, t2, t3, isThere0]
        by_cases z2 : x1 = 2
        · rw [if_pos z2, if_pos z2]
          exact ⟨_, rfl, rfl⟩
        · rw [if_neg z2, if_neg z2]
          by_cases z3 : x1 = 3
          · rw [if_pos z3, if_pos z3]
            exact ⟨_, rfl, rfl⟩
          · rw [if_neg z3, if_neg z3]
            by_cases z4 : x1 = 4
            · rw [if_pos z4, if_pos z4]
              exact ⟨_, rfl, rfl⟩
            · rw [if_neg z4, if_neg z4]
              have g0 : ¬ nI nn ≤ (0 : Int32) := nI_nle (by omega) (by omega)
              by_cases z5 : x1 = 5
              · rw [if_pos z5, if_pos z5, F_X1_copiedRows_L4, F_X9_count_L131, if_pos rfl, if_neg g0, if_pos rfl]
                exact ⟨_, rfl, rfl⟩
              · rw [if_neg z5, if_neg z5]
                by_cases z6 : x1 = 6
                · rw [if_pos z6, if_pos z6, F_X1_greatestDepth_L4, F_X9_count_L173, if_pos rfl, if_neg g0, if_pos rfl]
                  exact ⟨_, rfl, rfl⟩
                · rw [if_neg z6, if_neg z6]
                  exact ⟨_, rfl, rfl⟩
      · obtain ⟨K, D, E, φ, N, W, s, T, b1, b2, b3, b4, b5, b6, ⟨s1, s2, s3, s4⟩, ⟨b8, b8'⟩, b9, b0⟩ := id t7
        obtain ⟨p1, p2, p3⟩ := plcs nn (by omega) h1 s (by omega) s1
        rw [t1, t2, t5, s3, s4, b8, b8', isThere1, X_placeCount h1 hn s1 s2]
        by_cases z2 : x1 = 2
        · unfold F_X1_patchesTo
          rw [if_pos z2, if_pos z2, if_neg n10, X4_countOther (by omega) hn]
          exact ⟨_, rfl, rfl⟩
        · rw [if_neg z2, if_neg z2]
          by_cases z3 : x1 = 3
          · rw [if_pos z3, if_pos z3]
            exact ⟨_, rfl, rfl⟩
          · rw [if_neg z3, if_neg z3]
            by_cases z4 : x1 = 4
            · rw [if_pos z4, if_pos z4, if_neg n10, ck_t p3, p2, nI_1]
              exact ⟨_, rfl, rfl⟩
            · rw [if_neg z4, if_neg z4]
              by_cases z5 : x1 = 5
              · obtain ⟨v, a1, a2⟩ := cnt5 hn b1 b2 nn 0 (fu + 1) (fu + 1) 0 (by omega) (by omega) (by omega)
                unfold F_X1_copiedRows
                rw [if_pos z5, if_pos z5, show F_X1_copiedRows_L4 nn 1 (xki_ X) (fu + 1) 0 0 = _ from a1, show F_X9_count_L131 (nI nn) 1 (mfr_ M) (fu + 1) 0 0 = _ from a2]
                exact ⟨_, rfl, rfl⟩
              · rw [if_neg z5, if_neg z5]
                by_cases z6 : x1 = 6
                · obtain ⟨v, a1, a2⟩ := cnt6 hn b1 nn 0 (fu + 1) (fu + 1) 0 (by omega) (by omega) (by omega)
                  unfold F_X1_greatestDepth
                  rw [if_pos z6, if_pos z6, show F_X1_greatestDepth_L4 nn 1 (xde_ X) (fu + 1) 0 0 = _ from a1, show F_X9_count_L173 (nI nn) 1 (mde_ M) (fu + 1) 0 0 = _ from a2]
                  exact ⟨_, rfl, rfl⟩
                · rw [if_neg z6, if_neg z6]
                  exact ⟨_, rfl, rfl⟩

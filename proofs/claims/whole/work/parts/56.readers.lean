/-! ===== pure: told, looked, place ===== -/
theorem isThere0 : F_X1_isThere 0 = some 0 := rfl
theorem isThere1 : F_X1_isThere 1 = some 1 := rfl
theorem n10 : ¬ (1 : Int32) = 0 := by decide
theorem ok_told {fu : Nat} (hf : 20000 ≤ fu) : OK_told fu (Rel BKd) := by
  intro nn X M x1 x2 hR
  obtain ⟨h1, hn, hmn, hP, hRR, hB⟩ := id hR
  suffices h : ∃ r : Int32, F_X8_told nn x1 x2 (xth_ X) (xki_ X) (xdi_ X) (xde_ X) (xst_ X) = some r ∧ F_X9_told x1 x2 (mth_ M) (mn_ M) (mib_ M) (mbe_ M) (mde_ M) (mfr_ M) (mki_ M) = some (r, 0) by
    obtain ⟨r, a, b⟩ := h
    unfold SX_told SM_told
    rw [a, b, bd_some, bd_some]
    exact ⟨_, _, _, rfl, rfl, h1, hn, hmn, hP, hRR, hB⟩
  unfold F_X8_told F_X9_told
  rw [hmn, X9_isThing h1 hn, X4_isThing hn, show (5 : Int32) = nI 5 from rfl, X8_isBelow (by decide), X9_in0 (k := 5) x2 (by decide)]
  simp only [bd_some, if10']
  by_cases e1 : tg nn x1 = true
  · by_cases e2 : tg 5 x2 = true
    · simp only [if_pos e1, if_pos e2]
      rcases hB with ⟨t1, t2, t3⟩ | ⟨t1, t2, t4, t5, t6, t7⟩
      · rw [t1, t2, isThere0, bd_some, if_pos rfl, if_pos rfl]
        exact ⟨_, rfl, rfl⟩
      · obtain ⟨K, D, E, φ, N, W, s, T, b1, b2, b3, b4, b5, b6, b7, b8, b9, b10⟩ := id t7
        obtain ⟨a, ha, rfl⟩ := tg_of e1
        obtain ⟨j, hj, rfl⟩ := tg_of e2
        obtain ⟨c1, c2, c3⟩ := b1 a ha
        have d1 := b9 a (by omega)
        have d2 := b9 (a + 1) (by omega)
        rw [t1, t2, isThere1, bd_some, if_neg n10, if_neg n10, X_kindOf hn ha, X_distOf hn ha, X_depthOf hn ha, X_startOf hn (show a ≤ nn by omega), nI_1, X_startOf hn (show a + 1 ≤ nn by omega)]
        simp only [bd_some, ck_t (bn_nI (show a < 48 by omega) (show 48 < 2 ^ 31 by decide)), ck_t (bn_nI (show a < 49 by omega) (show 49 < 2 ^ 31 by decide)), ck_t (bn_nI (show a + 1 < 49 by omega) (show 49 < 2 ^ 31 by decide)), clampN (show a < 2 ^ 31 by omega), clampN (show a + 1 < 2 ^ 31 by omega), c1.1, c1.2, c2.1, c2.2, c3.1, c3.2, d1.1, d1.2, d2.1, d2.2]
        have hR2 : Rel BKd nn X M := hR
        by_cases z0 : nI j = (0 : Int32)
        · simp only [if_pos z0]
          exact ⟨_, rfl, rfl⟩
        · simp only [if_neg z0]
          by_cases z1 : nI j = (1 : Int32)
          · simp only [if_pos z1]
            exact ⟨_, rfl, rfl⟩
          · simp only [if_neg z1]
            by_cases z2 : nI j = (2 : Int32)
            · simp only [if_pos z2]
              exact ⟨_, rfl, rfl⟩
            · simp only [if_neg z2]
              by_cases z3 : nI j = (3 : Int32)
              · simp only [if_pos z3]
                exact ⟨_, rfl, rfl⟩
              · simp only [if_neg z3]
                exact ⟨_, rfl, rfl⟩
    · simp only [if_pos e1, if_neg e2]
      exact ⟨_, rfl, rfl⟩
  · simp only [if_neg e1]
    exact ⟨_, rfl, rfl⟩
theorem fmods : ∀ a, a < 48 → ∀ s, s < 10 → 1 ≤ s → F_J9_floorMod_7cf53 (nI a) (nI s) = some (nI (a % s)) ∧ nz (nI s) = true ∧ nI a - (nI a - nI a / nI s * nI s) = nI (a - a % s) := by decide +kernel
theorem look2 {nn s : Nat} {K D E : NN} {pr : AJ} {st be ki di de mki mfr mde : AI} {S : NN} (hn : nn ≤ 48) (hs1 : 1 ≤ s) (hs2 : s ≤ 9) (hCR : CR nn K D E ki di de mki mfr mde) (hVR : VR nn pr K D E) (hst : ∀ y, y ≤ nn → st y = nI (S y) ∧ be y = nI (S y)) : ∀ (d a hops fX fM : Nat) (acc : Int32), E a = d → hops + d ≤ 5 → a < nn → d + 1 < fX → d + 1 < fM → ∃ v : Int32, F_X1_bitsToRead_L7 nn st (nI s) ki di fX acc (nI a) (nI hops) = some v ∧ F_X9_looked_L33 be (nI s) mfr fM acc (nI a) 1 = some v := by
  intro d
  induction d with
  | zero =>
    intro a hops fX fM acc e1 e2 e3 e4 e5
    obtain ⟨fX, rfl⟩ : ∃ g, fX = g + 1 := ⟨fX - 1, by omega⟩
    obtain ⟨fM, rfl⟩ : ∃ g, fM = g + 1 + 1 := ⟨fM - 2, by omega⟩
    obtain ⟨f1, f2, f3⟩ := fmods a (by omega) s (by omega) hs1
    obtain ⟨c1, c2, c3⟩ := hCR a e3
    have v := hVR a e3
    have nk : ¬ (K a = 2 ∨ K a = 3) := fun q => by have := (v.2.2.1 q).2.2; omega
    have hm : a % s ≤ a := Nat.mod_le _ _
    have hD : D a = 0 := (v.2.2.2.1 nk).1
    rw [F_X1_bitsToRead_L7, F_X9_looked_L33, if_neg (show ¬ (5 : Int32) < nI hops from fun z => by have := (nI_ltI (a := 5) (b := hops) (by decide) (by omega)).mp z; omega), nI_1, X_startOf hn (show a + 1 ≤ nn by omega), bd_some, fmaxN hs1 (by omega), bd_some, f1, bd_some, sub_all hm, X_startOf hn (show a - a % s ≤ nn by omega), bd_some, X_kindOf hn e3, bd_some, c1.1, X_isCopy v.1, bd_some, if10', if_neg nk, if_neg n10, f3, ck_t (bn_nI (show a + 1 < 49 by omega) (by decide)), ck_t f2, ck_t (bn_nI (show a - a % s < 49 by omega) (by decide)), clampN (show a + 1 < 2 ^ 31 by omega), clampN (show a - a % s < 2 ^ 31 by omega)]
    dsimp only [nm]
    rw [ck_t (bn_nI (show a < 48 by omega) (by decide)), clampN (show a < 2 ^ 31 by omega), c2.2, hD, if_pos (show nI 0 ≤ (0 : Int32) by decide), ck_t (bn_nI (show a < 48 by omega) (by decide)), F_X9_looked_L33, if_pos rfl, (hst (a + 1) (by omega)).1, (hst (a + 1) (by omega)).2, (hst (a - a % s) (by omega)).1, (hst (a - a % s) (by omega)).2]
    exact ⟨_, rfl, rfl⟩
  | succ d ih =>
    intro a hops fX fM acc e1 e2 e3 e4 e5
    obtain ⟨fX, rfl⟩ : ∃ g, fX = g + 1 := ⟨fX - 1, by omega⟩
    obtain ⟨fM, rfl⟩ : ∃ g, fM = g + 1 := ⟨fM - 1, by omega⟩
    obtain ⟨f1, f2, f3⟩ := fmods a (by omega) s (by omega) hs1
    obtain ⟨c1, c2, c3⟩ := hCR a e3
    have v := hVR a e3
    have nk : K a = 2 ∨ K a = 3 := by
      by_cases q : K a = 2 ∨ K a = 3
      · exact q
      · have := (v.2.2.2.1 q).2; omega
    obtain ⟨k1, k2, k3⟩ := v.2.2.1 nk
    have hm : a % s ≤ a := Nat.mod_le _ _
    rw [F_X1_bitsToRead_L7, F_X9_looked_L33, if_neg (show ¬ (5 : Int32) < nI hops from fun z => by have := (nI_ltI (a := 5) (b := hops) (by decide) (by omega)).mp z; omega), nI_1, X_startOf hn (show a + 1 ≤ nn by omega), bd_some, fmaxN hs1 (by omega), bd_some, f1, bd_some, sub_all hm, X_startOf hn (show a - a % s ≤ nn by omega), bd_some, X_kindOf hn e3, bd_some, c1.1, X_isCopy v.1, bd_some, if10', if_pos nk, if_neg n10, f3, ck_t (bn_nI (show a + 1 < 49 by omega) (by decide)), ck_t f2, ck_t (bn_nI (show a - a % s < 49 by omega) (by decide)), clampN (show a + 1 < 2 ^ 31 by omega), clampN (show a - a % s < 2 ^ 31 by omega), X_distOf hn e3, bd_some]
    dsimp only [nm]
    rw [ck_t (bn_nI (show a < 48 by omega) (by decide)), clampN (show a < 2 ^ 31 by omega), c2.1, c2.2, if_neg (nI_nle (by omega) (by omega)), ck_t (bn_nI (show a < 48 by omega) (by decide)), (hst (a + 1) (by omega)).1, (hst (a + 1) (by omega)).2, (hst (a - a % s) (by omega)).1, (hst (a - a % s) (by omega)).2, sub_all k2, nI_1]
    exact ih (a - D a) (hops + 1) fX fM _ (by omega) (by omega) (by omega) (by omega) (by omega)
theorem ok_looked {fu : Nat} (hf : 20000 ≤ fu) : OK_looked fu (Rel BKd) := by
  intro nn X M x1 hR
  obtain ⟨h1, hn, hmn, hP, hRR, hB⟩ := id hR
  suffices h : ∃ r : Int32, F_X8_looked fu nn x1 (xth_ X) (xst_ X) (xsp_ X) (xki_ X) (xdi_ X) = some r ∧ F_X9_looked fu x1 (mth_ M) (mn_ M) (mib_ M) (mbe_ M) (mps_ M) (mfr_ M) = some (r, 0) by
    obtain ⟨r, a, b⟩ := h
    unfold SX_looked SM_looked
    rw [a, b, bd_some, bd_some]
    exact ⟨_, _, _, rfl, rfl, h1, hn, hmn, hP, hRR, hB⟩
  unfold F_X8_looked F_X9_looked
  rw [hmn, X9_isThing h1 hn, X4_isThing hn]
  simp only [bd_some, if10']
  by_cases e1 : tg nn x1 = true
  · simp only [if_pos e1]
    rcases hB with ⟨t1, t2, t3⟩ | ⟨t1, t2, t4, t5, t6, t7⟩
    · rw [t1, t2, isThere0, bd_some, if_pos rfl, if_pos rfl]
      exact ⟨_, rfl, rfl⟩
    · obtain ⟨K, D, E, φ, N, W, s, T, b1, b2, b3, b4, b5, b6, ⟨s1, s2, s3, s4⟩, b8, b9, b10⟩ := id t7
      obtain ⟨a, ha, rfl⟩ := tg_of e1
      have hE := (b2 a ha).2.1
      obtain ⟨v, l1, l2⟩ := look2 (S := fun y => bts φ (als (xpr_ X) K D y)) hn s1 s2 b1 b2 b9 (E a) a 0 fu fu 0 rfl (by omega) ha (by omega) (by omega)
      have l1 : F_X1_bitsToRead_L7 nn (xst_ X) (nI s) (xki_ X) (xdi_ X) fu 0 (nI a) 0 = some v := l1
      unfold F_X1_bitsToRead
      rw [t1, t2, isThere1, bd_some, if_neg n10, if_neg n10, s3, s4, l1, l2, bd_some, bd_some, bd_some]
      exact ⟨_, rfl, rfl⟩
  · simp only [if_neg e1]
    exact ⟨_, rfl, rfl⟩
theorem plcs : ∀ n, n < 49 → 1 ≤ n → ∀ s, s < 10 → 1 ≤ s → (nI n + nI s - 1) / nI s = nI ((n - 1) / s + 1) ∧ (nI n - 1) / nI s = nI ((n - 1) / s) ∧ nz (nI s) = true := by decide +kernel
theorem X_placeCount {nn s : Nat} (h1 : 1 ≤ nn) (hn : nn ≤ 48) (hs1 : 1 ≤ s) (hs2 : s ≤ 9) : F_X1_placeCount nn 1 (nI s) = some (nI ((nn - 1) / s + 1)) := by
  unfold F_X1_placeCount
  obtain ⟨p1, p2, p3⟩ := plcs nn (by omega) h1 s (by omega) hs1
  rw [if_neg n10, fmaxN hs1 (by omega), bd_some, ck_t p3, p1]
theorem ok_place {fu : Nat} (hf : 20000 ≤ fu) : OK_place fu (Rel BKd) := by
  intro nn X M x1 hR
  obtain ⟨h1, hn, hmn, hP, hRR, hB⟩ := id hR
  suffices h : ∃ r : Int32, F_X8_place nn x1 (xth_ X) (xsp_ X) (xst_ X) = some r ∧ F_X9_place x1 (mth_ M) (mib_ M) (mn_ M) (mps_ M) (mbe_ M) = some (r, 0) by
    obtain ⟨r, a, b⟩ := h
    unfold SX_place SM_place
    rw [a, b, bd_some, bd_some]
    exact ⟨_, _, _, rfl, rfl, h1, hn, hmn, hP, hRR, hB⟩
  unfold F_X8_place F_X9_place
  rw [hmn]
  rcases hB with ⟨t1, t2, t3⟩ | ⟨t1, t2, t4, t5, t6, t7⟩
  · have z : ¬ tg 0 x1 = true := fun h => by have h2 := of_decide_eq_true h; omega
    rw [t1, t2, show F_X1_placeCount nn 0 (xsp_ X) = some (nI 0) from rfl, bd_some, X8_isBelow (by decide), bd_some, if10', if_neg z, if_pos rfl]
    exact ⟨_, rfl, rfl⟩
  · obtain ⟨K, D, E, φ, N, W, s, T, b1, b2, b3, b4, b5, b6, ⟨s1, s2, s3, s4⟩, b8, b9, b10⟩ := id t7
    obtain ⟨p1, p2, p3⟩ := plcs nn (by omega) h1 s (by omega) s1
    have hq : (nn - 1) / s ≤ nn - 1 := Nat.div_le_self _ _
    rw [t1, t2, s3, s4, X_placeCount h1 hn s1 s2, bd_some, X8_isBelow (by omega), bd_some, if10', if_neg n10, ck_t p3, p2]
    by_cases e : tg ((nn - 1) / s + 1) x1 = true
    · obtain ⟨i, hi, rfl⟩ := tg_of e
      have hm : i * s ≤ nn - 1 := (Nat.le_div_iff_mul_le (by omega)).mp (by omega)
      unfold F_X1_placeStart
      rw [if_pos e, if_neg (nI_pos (by omega)), if_neg (fun z => by have := (nI_ltI (show (nn - 1) / s < 2 ^ 31 by omega) (show i < 2 ^ 31 by omega)).mp z; omega), pk_mul, ck_t (bn_nI (show i * s < 49 by omega) (by decide)), clampN (by omega), X_startOf hn (by omega), bd_some, bd_some, (b9 (i * s) (by omega)).1, (b9 (i * s) (by omega)).2]
      exact ⟨_, rfl, rfl⟩
    · rw [if_neg e]
      have h2 := of_decide_eq_false (Bool.eq_false_iff.mpr e)
      by_cases z : x1 < 0
      · rw [if_pos z]
        exact ⟨_, rfl, rfl⟩
      · rw [if_neg z, if_pos]
        · exact ⟨_, rfl, rfl⟩
        · rw [i_lt, Int32.toInt_zero] at z
          rw [i_lt, nI_toInt (by omega)]
          omega

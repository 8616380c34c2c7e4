/-! ===== pure: degree, meet, back, form, setting (ends) ===== -/
theorem pc_col {nn b : Nat} {ro : AJ} {col : Int64} (hn : nn ≤ 48) (h : ∀ i, bt col i = (decide (i < nn) && bt (ro i) b)) : pc col = ct (fun i => bt (ro i) b) nn := by
  unfold pc
  rw [ct_ext (m := nn) (by omega) (fun k hk _ => by rw [h k]; simp; omega)]
  exact ct_cong (fun k hk => by rw [h k]; simp [hk])
theorem ok_degree (BK : BKT) {fu : Nat} (hf : 20000 ≤ fu) : OK_degree fu (Rel BK) := by
  intro nn X M x1 x2 hR
  obtain ⟨h1, hn, hmn, hP, hRR, hB⟩ := id hR
  unfold SX_degree SM_degree F_X8_degree F_X9_degree
  rw [hmn, X9_isThing h1 hn, X4_isThing hn, bd_some, if10', bd_some, if10', show (2 : Int32) = nI 2 from rfl, X8_isBelow (by decide), X9_in0 (k := 2) x2 (by decide), bd_some, if10', bd_some, if10']
  by_cases e1 : tg nn x1 = true
  · rw [if_pos e1, if_pos e1]
    obtain ⟨a, ha, rfl⟩ := tg_of e1
    by_cases e2 : tg 2 x2 = true
    · rw [if_pos e2, if_pos e2]
      have hM := M_degree_L (b := a) (nn := nn) (no := mno_ M) (p := fun i => bt (xro_ X i) a) (y := x2) (by omega) hn (fun i hi => hP.1 i hi a ha) nn fu 0 (by omega) (by omega)
      have hM : F_X9_degree_L31 (nI a) x2 (nI nn) (mno_ M) fu 0 0 = _ := hM
      rw [hM, bd_some, M_rowSize (by omega) ha hn hP]
      by_cases e3 : x2 = 0
      · rw [if_pos e3, if_pos e3, X4_rowOf ha hn, bd_some, X_bitCount]
        exact ⟨_, _, _, rfl, rfl, h1, hn, rfl, hP, hRR, hB⟩
      · rw [if_neg e3, if_neg e3]
        obtain ⟨col, c1, c2⟩ := X4_columnOf (fu := fu) (nn := nn) (b := a) (by omega) (by omega) hn (xro_ X)
        rw [c1, bd_some, X_bitCount, pc_col hn c2]
        exact ⟨_, _, _, rfl, rfl, h1, hn, rfl, hP, hRR, hB⟩
    · rw [if_neg e2, if_neg e2]
      exact ⟨_, _, _, rfl, rfl, h1, hn, rfl, hP, hRR, hB⟩
  · rw [if_neg e1, if_neg e1]
    exact ⟨_, _, _, rfl, rfl, h1, hn, rfl, hP, hRR, hB⟩
theorem ok_meet (BK : BKT) {fu : Nat} (hf : 20000 ≤ fu) : OK_meet fu (Rel BK) := by
  intro nn X M x1 x2 hR
  obtain ⟨h1, hn, hmn, hP, hRR, hB⟩ := id hR
  unfold SX_meet SM_meet F_X8_meet F_X9_meet
  rw [hmn, X9_isThing h1 hn, X9_isThing h1 hn, X4_isThing hn, X4_isThing hn, bd_some, if10', bd_some, if10', bd_some, if10', bd_some, if10']
  by_cases e1 : tg nn x1 = true
  · rw [if_pos e1, if_pos e1]
    obtain ⟨a, ha, rfl⟩ := tg_of e1
    by_cases e2 : tg nn x2 = true
    · rw [if_pos e2, if_pos e2]
      obtain ⟨b, hb, rfl⟩ := tg_of e2
      have hM := M_meet_L (a := a) (b := b) (nn := nn) (no := mno_ M) (p := bt (xro_ X a)) (q := bt (xro_ X b)) (by omega) (by omega) hn (fun i hi => hP.1 a ha i hi) (fun i hi => hP.1 b hb i hi) nn fu 0 (by omega) (by omega)
      have hM : F_X9_meet_L29 (nI a) (nI b) (nI nn) (mno_ M) fu 0 0 = _ := hM
      rw [hM, X4_rowOf ha hn, X4_rowOf hb hn, bd_some, bd_some, X_bitCount, pc_nn (nn := nn) hn (fun k hk => by rw [bt_and, hP.2 a ha k hk]; rfl), ct_cong (fun k _ => bt_and _ _ k)]
      exact ⟨_, _, _, rfl, rfl, h1, hn, rfl, hP, hRR, hB⟩
    · rw [if_neg e2, if_neg e2]
      exact ⟨_, _, _, rfl, rfl, h1, hn, rfl, hP, hRR, hB⟩
  · rw [if_neg e1, if_neg e1]
    exact ⟨_, _, _, rfl, rfl, h1, hn, rfl, hP, hRR, hB⟩
theorem ktr_cong {p q : Nat → Bool} {k : Int32} : ∀ {r j c : Nat}, (∀ i, j ≤ i → i < j + r → p i = q i) → ktr p k r j c = ktr q k r j c
  | 0, _, _, _ => rfl
  | r + 1, j, c, h => by
    rw [ktr, ktr, h j (Nat.le_refl _) (by omega), ktr_cong (fun i h1 h2 => h i (by omega) (by omega)), ktr_cong (fun i h1 h2 => h i (by omega) (by omega))]
theorem ok_back (BK : BKT) {fu : Nat} (hf : 20000 ≤ fu) : OK_back fu (Rel BK) := by
  intro nn X M x1 x2 hR
  obtain ⟨h1, hn, hmn, hP, hRR, hB⟩ := id hR
  unfold SX_back SM_back F_X8_back F_X9_back
  rw [hmn, X9_isThing h1 hn, X4_isThing hn, bd_some, if10', bd_some, if10']
  by_cases e1 : tg nn x1 = true
  · rw [if_pos e1, if_pos e1]
    obtain ⟨a, ha, rfl⟩ := tg_of e1
    have hM := M_back_L (b := a) (nn := nn) (no := mno_ M) (p := fun i => bt (xro_ X i) a) (k := x2) (mth := 0) (by omega) hn (fun i hi => hP.1 i hi a ha) nn fu 0 0 (by omega) (by omega)
    rw [show x2 - nI 0 = x2 from Int32.sub_zero x2] at hM
    have hM : F_X9_back_L21 (nI a) (nI nn) (mno_ M) 0 fu x2 0 = _ := hM
    obtain ⟨col, c1, c2⟩ := X4_columnOf (fu := fu) (nn := nn) (b := a) (by omega) (by omega) hn (xro_ X)
    have hX := X8_thingAt_L (x := col) (k := x2) 48 fu 0 0 (by omega) (by omega)
    have hX : F_X8_thingAt_L5 col x2 fu 0 0 = _ := hX
    rw [c1, bd_some, F_X8_thingAt, hX, hM, ktr_ext (r := nn) (s := 48) (fun i hi => by rw [c2 i]; simp; omega) (by omega), ktr_cong (q := fun i => bt (xro_ X i) a) (fun i _ hi => by rw [c2 i]; simp; omega)]
    exact ⟨_, _, _, rfl, rfl, h1, hn, rfl, hP, hRR, hB⟩
  · rw [if_neg e1, if_neg e1]
    exact ⟨_, _, _, rfl, rfl, h1, hn, rfl, hP, hRR, hB⟩
theorem ok_form (BK : BKT) {fu : Nat} (hf : 20000 ≤ fu) : OK_form fu (Rel BK) := by
  intro nn X M x1 x2 hR
  obtain ⟨h1, hn, hmn, hP, hRR, hB⟩ := id hR
  unfold SX_form SM_form F_X8_form F_X9_form F_X5_formOf F_X5_setForm
  rw [show (8 : Int32) = nI 8 from rfl, show (10 : Int32) = nI 10 from rfl, X8_isBelow (by decide), X8_isBelow (by decide), X9_in0 (k := 8) x1 (by decide), X9_in0 (k := 10) x2 (by decide)]
  simp only [bd_some, if10']
  by_cases e1 : tg 8 x1 = true
  · rw [if_pos e1, if_pos e1]
    obtain ⟨u, hu, rfl⟩ := tg_of e1
    by_cases e2 : tg 10 x2 = true
    · rw [if_pos e2, if_pos e2]
      obtain ⟨f, hf, rfl⟩ := tg_of e2
      rw [el_nI hu (by decide), if_neg (nI_pos (by omega)), if_neg (nI_ge hu (by decide))]
      simp only [ck_t (bn_nI hu (show 8 < 2 ^ 31 by decide)), clampN (show u < 2 ^ 31 by omega)]
      rw [(hRR.1 u hu).1]
      refine ⟨_, _, _, rfl, rfl, h1, hn, hmn, hP, ⟨fun v hv => ?_, hRR.2⟩, hB⟩
      show upd (xfo_ X) u (nI f) v = upd (mfo_ M) u (nI f) v ∧ ∃ g : Nat, g < 10 ∧ upd (xfo_ X) u (nI f) v = nI g
      rw [upd_if, upd_if]
      by_cases e : v = u
      · rw [if_pos e, if_pos e]
        exact ⟨rfl, f, hf, rfl⟩
      · rw [if_neg e, if_neg e]
        exact hRR.1 v hv
    · rw [if_neg e2, if_neg e2]
      exact ⟨_, _, _, rfl, rfl, h1, hn, hmn, hP, hRR, hB⟩
  · rw [if_neg e1, if_neg e1]
    exact ⟨_, _, _, rfl, rfl, h1, hn, hmn, hP, hRR, hB⟩
theorem X5_allows (x1 x2 : Int32) : F_X5_allows x1 x2 = some (if (x1 = 0 ∧ 0 ≤ x2.toInt ∧ x2.toInt ≤ 7) ∨ (x1 = 1 ∧ 0 ≤ x2.toInt ∧ x2.toInt ≤ 5) ∨ (x1 = 2 ∧ 1 ≤ x2.toInt ∧ x2.toInt ≤ 9) then 1 else 0) := by
  unfold F_X5_allows
  rw [X8_isBelow (by decide), bd_some, if10']
  by_cases e1 : tg 3 x1 = true
  · rw [if_pos e1]
    obtain ⟨u, hu, rfl⟩ := tg_of e1
    have key : ∀ (lo hi : Nat) (c : Prop) [Decidable c], lo < 100 → hi < 100 → (c ↔ ((lo : Int) ≤ x2.toInt ∧ x2.toInt ≤ (hi : Int))) → (if x2 < nI lo then some (0 : Int32) else if nI hi < x2 then some 0 else some 1) = some (if c then 1 else 0) := by
      intro lo hi c _ hl hh hc
      by_cases a : x2 < nI lo
      · rw [if_pos a, if_neg]
        rw [i_lt, nI_toInt (by omega)] at a
        rw [hc]; omega
      · rw [if_neg a]
        by_cases b : nI hi < x2
        · rw [if_pos b, if_neg]
          rw [i_lt, nI_toInt (by omega)] at b
          rw [hc]; omega
        · rw [if_neg b, if_pos]
          rw [i_lt, nI_toInt (by omega)] at a b
          rw [hc]; omega
    rcases (show u = 0 ∨ u = 1 ∨ u = 2 by omega) with rfl | rfl | rfl
    · exact key 0 7 _ (by decide) (by decide) ⟨fun h => by rcases h with h | h | h; exact h.2; exact absurd h.1 (by decide); exact absurd h.1 (by decide), fun h => Or.inl ⟨rfl, h⟩⟩
    · exact key 0 5 _ (by decide) (by decide) ⟨fun h => by rcases h with h | h | h; exact absurd h.1 (by decide); exact h.2; exact absurd h.1 (by decide), fun h => Or.inr (Or.inl ⟨rfl, h⟩)⟩
    · exact key 1 9 _ (by decide) (by decide) ⟨fun h => by rcases h with h | h | h; exact absurd h.1 (by decide); exact absurd h.1 (by decide); exact h.2, fun h => Or.inr (Or.inr ⟨rfl, h⟩)⟩
  · rw [if_neg e1, if_neg]
    intro h
    apply e1
    rcases h with h | h | h <;> (rw [h.1]; decide)
theorem M_setting (x1 x2 mth mst mch mwi : Int32) : F_X9_setting x1 x2 mth mst mch mwi = some (if x1 = 0 ∧ 0 ≤ x2.toInt ∧ x2.toInt ≤ 7 then (mwi, 0, mst, mch, x2) else if x1 = 1 ∧ 0 ≤ x2.toInt ∧ x2.toInt ≤ 5 then (mch, 0, mst, x2, mwi) else if x1 = 2 ∧ 1 ≤ x2.toInt ∧ x2.toInt ≤ 9 then (mst, 0, x2, mch, mwi) else (-2, 0, mst, mch, mwi)) := by
  unfold F_X9_setting
  simp only [X9_in, bd_some, if10', Int32.toInt_toInt64]
  have c0 : (0 : Int64).toInt = 0 := by decide
  have c1 : (1 : Int64).toInt = 1 := by decide
  have c5 : (5 : Int64).toInt = 5 := by decide
  have c7 : (7 : Int64).toInt = 7 := by decide
  have c9 : (9 : Int64).toInt = 9 := by decide
  simp only [c0, c1, c5, c7, c9]
  by_cases a0 : x1 = 0
  · subst a0
    have n1 : ¬ (0 : Int32) = 1 := by decide
    have n2 : ¬ (0 : Int32) = 2 := by decide
    simp only [n1, n2, false_and, if_false, true_and, if_true]
    split <;> rfl
  · by_cases a1 : x1 = 1
    · subst a1
      have n0 : ¬ (1 : Int32) = 0 := by decide
      have n2 : ¬ (1 : Int32) = 2 := by decide
      simp only [n0, n2, false_and, if_false, true_and, if_true]
      split <;> rfl
    · by_cases a2 : x1 = 2
      · subst a2
        have n0 : ¬ (2 : Int32) = 0 := by decide
        have n1 : ¬ (2 : Int32) = 1 := by decide
        simp only [n0, n1, false_and, if_false, true_and, if_true]
        split <;> rfl
      · simp only [a0, a1, a2, false_and, if_false]
theorem nI_ofT {x : Int32} {lo hi : Nat} (h1 : (lo : Int) ≤ x.toInt) (h2 : x.toInt ≤ (hi : Int)) : ∃ k : Nat, lo ≤ k ∧ k ≤ hi ∧ x = nI k := by
  have := i_rng x
  refine ⟨x.toInt.toNat, by omega, by omega, ?_⟩
  rw [i_eq, nI_toInt (by omega)]
  omega
theorem ok_setting (BK : BKT) {fu : Nat} (hf : 20000 ≤ fu) : OK_setting fu (Rel BK) := by
  intro nn X M x1 x2 hR
  obtain ⟨h1, hn, hmn, hP, hRR, hB⟩ := id hR
  obtain ⟨hF, ⟨w, hw, w1, w2⟩, ⟨r, hr, r1, r2⟩, ⟨s, hs1, hs2, s1, s2⟩⟩ := id hRR
  unfold SX_setting SM_setting F_X8_setting F_X5_valueOf F_X5_setValue
  rw [X5_allows, bd_some, if10', M_setting]
  have U : ∀ (k : Nat) (x : Int32) (hx : x = nI k) (hk : k < 3) (v : Int32), (if x < 0 then some (xva_ X) else if nI 3 ≤ x then some (xva_ X) else ck (bn x 3) (some (upd (xva_ X) x.toNatClampNeg v))) = some (upd (xva_ X) k v) := fun k x hx hk v => by
    rw [hx, if_neg (nI_pos (by omega)), if_neg (nI_ge hk (by decide)), ck_t (bn_nI hk (by decide)), clampN (by omega)]
  by_cases e0 : x1 = 0 ∧ 0 ≤ x2.toInt ∧ x2.toInt ≤ 7
  · rw [if_pos (Or.inl e0), if_pos e0]
    obtain ⟨rfl, a, b⟩ := e0
    obtain ⟨k, k1, k2, rfl⟩ := nI_ofT (lo := 0) (hi := 7) a b
    rw [show el 3 (xva_ X) 0 = xva_ X 0 from el_nI (k := 0) (by decide) (by decide), bd_some, U 0 0 rfl (by decide), w1, w2]
    exact ⟨_, _, _, rfl, rfl, h1, hn, hmn, hP, ⟨hF, ⟨k, k2, rfl, rfl⟩, ⟨r, hr, r1, r2⟩, ⟨s, hs1, hs2, s1, s2⟩⟩, hB⟩
  · rw [if_neg e0]
    by_cases e1 : x1 = 1 ∧ 0 ≤ x2.toInt ∧ x2.toInt ≤ 5
    · rw [if_pos (Or.inr (Or.inl e1)), if_pos e1]
      obtain ⟨rfl, a, b⟩ := e1
      obtain ⟨k, k1, k2, rfl⟩ := nI_ofT (lo := 0) (hi := 5) a b
      rw [show el 3 (xva_ X) 1 = xva_ X 1 from el_nI (k := 1) (by decide) (by decide), bd_some, U 1 1 rfl (by decide), r1, r2]
      exact ⟨_, _, _, rfl, rfl, h1, hn, hmn, hP, ⟨hF, ⟨w, hw, w1, w2⟩, ⟨k, k2, rfl, rfl⟩, ⟨s, hs1, hs2, s1, s2⟩⟩, hB⟩
    · rw [if_neg e1]
      by_cases e2 : x1 = 2 ∧ 1 ≤ x2.toInt ∧ x2.toInt ≤ 9
      · rw [if_pos (Or.inr (Or.inr e2)), if_pos e2]
        obtain ⟨rfl, a, b⟩ := e2
        obtain ⟨k, k1, k2, rfl⟩ := nI_ofT (lo := 1) (hi := 9) a b
        rw [show el 3 (xva_ X) 2 = xva_ X 2 from el_nI (k := 2) (by decide) (by decide), bd_some, U 2 2 rfl (by decide), s1, s2]
        exact ⟨_, _, _, rfl, rfl, h1, hn, hmn, hP, ⟨hF, ⟨w, hw, w1, w2⟩, ⟨r, hr, r1, r2⟩, ⟨k, k1, k2, rfl, rfl⟩⟩, hB⟩
      · rw [if_neg e2, if_neg (by rintro (h | h | h); exact e0 h; exact e1 h; exact e2 h)]
        exact ⟨_, _, _, rfl, rfl, h1, hn, hmn, hP, hRR, hB⟩

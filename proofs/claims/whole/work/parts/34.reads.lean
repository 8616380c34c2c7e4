/-! ===== pure: next, degree, meet, back, form, setting ===== -/
def ffr (p : Nat → Bool) : Nat → Nat → Int32
  | 0, _ => -1
  | r + 1, j => if p j = true then nI j else ffr p r (j + 1)
theorem ffr_none {p : Nat → Bool} : ∀ {r j : Nat}, (∀ k, j ≤ k → p k = false) → ffr p r j = -1
  | 0, _, _ => rfl
  | r + 1, j, h => by rw [ffr, h j (Nat.le_refl _)]; exact ffr_none (fun k hk => h k (by omega))
theorem ffr_ext {p : Nat → Bool} : ∀ {r s j : Nat}, (∀ k, j + r ≤ k → p k = false) → r ≤ s → ffr p s j = ffr p r j
  | 0, s, j, h, _ => by rw [ffr_none (fun k hk => h k (by omega))]; rfl
  | r + 1, 0, j, h, hs => absurd hs (by omega)
  | r + 1, s + 1, j, h, hs => by
    rw [ffr, ffr]
    split
    · rfl
    · exact ffr_ext (fun k hk => h k (by omega)) (by omega)
theorem X8_firstFrom_L {x : Int64} : ∀ (r fuel j : Nat), j + r = 48 → r < fuel → F_X8_firstFrom_L6 x fuel (nI j) = some (ffr (bt x) r j) := by
  intro r
  induction r with
  | zero =>
    intro fuel j h1 h2
    refine fu_s (P := fun q => F_X8_firstFrom_L6 x q _ = _) h2 (fun f _ _ => ?_)
    rw [F_X8_firstFrom_L6, if_pos (by rw [show (48 : Int32) = nI 48 from rfl]; exact nI_le (by omega) (by omega))]
    rfl
  | succ r ih =>
    intro fuel j h1 h2
    refine fu_s (P := fun q => F_X8_firstFrom_L6 x q _ = _) h2 (fun f _ hf => ?_)
    rw [F_X8_firstFrom_L6, if_neg (by rw [show (48 : Int32) = nI 48 from rfl]; exact nI_ge (by omega) (by decide)), if_cg (bt_test (by omega) x), ffr]
    cases e : bt x j
    · rw [if_pos rfl, if_neg (by decide), nI_1]
      exact ih f (j + 1) (by omega) (by omega)
    · rw [if_neg (by decide), if_pos rfl]
theorem X8_firstFrom {fu j : Nat} (hf : 100 ≤ fu) (hj : j < 2 ^ 31) (x : Int64) : F_X8_firstFrom fu x (nI j) = some (ffr (bt x) (48 - j) j) := by
  unfold F_X8_firstFrom
  rw [fmax_0 hj, bd_some]
  rcases Nat.lt_or_ge j 48 with h | h
  · exact X8_firstFrom_L (48 - j) fu j (by omega) (by omega)
  · rw [show 48 - j = 0 by omega]
    refine fu_s (P := fun q => F_X8_firstFrom_L6 x q _ = _) (show 0 < fu by omega) (fun f _ _ => ?_)
    rw [F_X8_firstFrom_L6, if_pos (by rw [show (48 : Int32) = nI 48 from rfl]; exact nI_le (by omega) hj)]
    rfl
theorem M_next_L {a nn : Nat} {no : AI} {p : Nat → Bool} {mth : Int32} (ha : a < 48) (hn : nn ≤ 48) (hp : ∀ b, b < nn → no (48 * a + b) = if p b = true then 1 else 0) : ∀ (r fuel j : Nat), (j + r = nn ∨ (r = 0 ∧ nn ≤ j ∧ j < 2 ^ 31)) → r < fuel → F_X9_next_L22 (nI a) (nI nn) no mth fuel (nI j) = some (ffr p r j, mth) := by
  intro r
  induction r with
  | zero =>
    intro fuel j h1 h2
    refine fu_s (P := fun q => F_X9_next_L22 (nI a) (nI nn) no mth q _ = _) h2 (fun f _ _ => ?_)
    rw [F_X9_next_L22, if_pos (nI_le (by omega) (by omega))]
    rfl
  | succ r ih =>
    intro fuel j h1 h2
    refine fu_s (P := fun q => F_X9_next_L22 (nI a) (nI nn) no mth q _ = _) h2 (fun f _ hf => ?_)
    rw [F_X9_next_L22, if_neg (nI_ge (by omega) (by omega)), ix48, ck_t (bn_nI (by omega) (by decide)), clampN (by omega), hp j (by omega), if10', ffr]
    cases e : p j
    · rw [if_neg (by decide), if_neg (by decide), nI_1]
      exact ih f (j + 1) (by omega) (by omega)
    · rw [if_pos rfl, if_pos rfl]
theorem ok_next (BK : BKT) {fu : Nat} (hf : 20000 ≤ fu) : OK_next fu (Rel BK) := by
  intro nn X M x1 x2 hR
  obtain ⟨h1, hn, hmn, hP, hRR, hB⟩ := id hR
  unfold SX_next SM_next F_X8_next F_X9_next
  rw [hmn, X9_isThing h1 hn, X4_isThing hn, bd_some, if10', bd_some, if10']
  by_cases e1 : tg nn x1 = true
  · rw [if_pos e1, if_pos e1]
    obtain ⟨a, ha, rfl⟩ := tg_of e1
    by_cases e2 : 0 ≤ x2
    · rw [if_pos e2, if_pos e2, X4_rowOf ha hn, bd_some]
      obtain ⟨b, hb, rfl⟩ := nI_of (x := x2) (by rw [i_lt, Int32.toInt_zero]; rw [i_le, Int32.toInt_zero] at e2; omega)
      have hM := M_next_L (a := a) (nn := nn) (no := mno_ M) (p := bt (xro_ X a)) (mth := 0) (by omega) hn (fun i hi => hP.1 a ha i hi) (nn - b) fu b (by omega) (by omega)
      rw [X8_firstFrom (by omega) hb, hM, ffr_ext (r := nn - b) (s := 48 - b) (fun k hk => hP.2 a ha k (by omega)) (by omega)]
      exact ⟨_, _, _, rfl, rfl, h1, hn, rfl, hP, hRR, hB⟩
    · rw [if_neg e2, if_neg e2]
      exact ⟨_, _, _, rfl, rfl, h1, hn, rfl, hP, hRR, hB⟩
  · rw [if_neg e1, if_neg e1]
    exact ⟨_, _, _, rfl, rfl, h1, hn, rfl, hP, hRR, hB⟩
/-! columns -/
theorem X4_columnOf {fu nn b : Nat} (hf : 100 ≤ fu) (hb : b < 48) (hn : nn ≤ 48) (ro : AJ) : ∃ col : Int64, F_X4_columnOf fu nn (nI b) ro = some col ∧ ∀ i, bt col i = (decide (i < nn) && bt (ro i) b) := by
  have L : ∀ (r fuel j : Nat) (acc : Int64), j + r = nn → r < fuel → (∀ i, bt acc i = (decide (i < j) && bt (ro i) b)) → ∃ col : Int64, F_X4_columnOf_L5 nn (nI b) ro fuel acc (nI j) = some col ∧ ∀ i, bt col i = (decide (i < nn) && bt (ro i) b) := by
    intro r
    induction r with
    | zero =>
      intro fuel j acc h1 h2 h3
      obtain ⟨f, rfl⟩ : ∃ f, fuel = f + 1 := ⟨fuel - 1, by omega⟩
      have : j = nn := by omega
      subst this
      rw [F_X4_columnOf_L5, if_pos (nI_le (Nat.le_refl _) (by omega))]
      exact ⟨acc, rfl, h3⟩
    | succ r ih =>
      intro fuel j acc h1 h2 h3
      obtain ⟨f, rfl⟩ : ∃ f, fuel = f + 1 := ⟨fuel - 1, by omega⟩
      rw [F_X4_columnOf_L5, if_neg (nI_ge (by omega) (by omega)), ck_t (bn_nI (by omega) (by omega)), clampN (by omega), X8_isIn _ _ (by omega), bd_some, if10', nI_1]
      by_cases e : b < 48 ∧ bt (ro j) b = true
      · rw [if_pos e]
        refine ih f (j + 1) _ (by omega) (by omega) (fun i => ?_)
        rw [bt_or, bt_bit (by omega), h3]
        by_cases z : i = j
        · subst z; simp [e.2]
        · have : (i < j + 1) ↔ i < j := by omega
          simp [z, this]
      · rw [if_neg e]
        refine ih f (j + 1) _ (by omega) (by omega) (fun i => ?_)
        rw [h3]
        by_cases z : i = j
        · subst z
          have : bt (ro i) b = false := by cases q : bt (ro i) b; rfl; exact absurd ⟨hb, q⟩ e
          simp [this]
        · have : (i < j + 1) ↔ i < j := by omega
          simp [this]
  obtain ⟨col, h1, h2⟩ := L nn fu 0 0 (by omega) (by omega) (fun i => by rw [bt_zero]; simp)
  refine ⟨col, ?_, h2⟩
  unfold F_X4_columnOf
  rw [show F_X4_columnOf_L5 nn (nI b) ro fu 0 0 = some col from h1]
  rfl
theorem M_degree_L {b nn : Nat} {no : AI} {p : Nat → Bool} {y : Int32} (hb : b < 48) (hn : nn ≤ 48) (hp : ∀ a, a < nn → no (48 * a + b) = if p a = true then 1 else 0) : ∀ (r fuel j : Nat), j + r = nn → r < fuel → F_X9_degree_L31 (nI b) y (nI nn) no fuel (nI (ct p j)) (nI j) = some (nI (ct p nn)) := by
  intro r
  induction r with
  | zero =>
    intro fuel j h1 h2
    refine fu_s (P := fun q => F_X9_degree_L31 (nI b) y (nI nn) no q _ _ = _) h2 (fun f _ _ => ?_)
    have : j = nn := by omega
    subst this
    rw [F_X9_degree_L31, if_pos (nI_le (Nat.le_refl _) (by omega))]
  | succ r ih =>
    intro fuel j h1 h2
    refine fu_s (P := fun q => F_X9_degree_L31 (nI b) y (nI nn) no q _ _ = _) h2 (fun f _ hf => ?_)
    rw [F_X9_degree_L31, if_neg (nI_ge (by omega) (by omega)), ix48, ck_t (bn_nI (by omega) (by decide)), clampN (by omega), hp j (by omega), if10', i_add0]
    have := ih f (j + 1) (by omega) (by omega)
    rw [ct_succ] at this
    by_cases e : p j = true
    · rw [if_pos e] at this ⊢
      simp only [nI_1]
      exact this
    · rw [if_neg e] at this ⊢
      simp only [nI_1]
      exact this
theorem M_meet_L {a b nn : Nat} {no : AI} {p q : Nat → Bool} (ha : a < 48) (hb : b < 48) (hn : nn ≤ 48) (hp : ∀ k, k < nn → no (48 * a + k) = if p k = true then 1 else 0) (hq : ∀ k, k < nn → no (48 * b + k) = if q k = true then 1 else 0) : ∀ (r fuel j : Nat), j + r = nn → r < fuel → F_X9_meet_L29 (nI a) (nI b) (nI nn) no fuel (nI (ct (fun k => p k && q k) j)) (nI j) = some (nI (ct (fun k => p k && q k) nn)) := by
  intro r
  induction r with
  | zero =>
    intro fuel j h1 h2
    refine fu_s (P := fun w => F_X9_meet_L29 (nI a) (nI b) (nI nn) no w _ _ = _) h2 (fun f _ _ => ?_)
    have : j = nn := by omega
    subst this
    rw [F_X9_meet_L29, if_pos (nI_le (Nat.le_refl _) (by omega))]
  | succ r ih =>
    intro fuel j h1 h2
    refine fu_s (P := fun w => F_X9_meet_L29 (nI a) (nI b) (nI nn) no w _ _ = _) h2 (fun f _ hf => ?_)
    rw [F_X9_meet_L29, if_neg (nI_ge (by omega) (by omega)), ix48, ck_t (bn_nI (by omega) (by decide)), clampN (by omega), hp j (by omega), if10', ix48, ck_t (bn_nI (by omega) (by decide)), clampN (by omega), hq j (by omega), if10', i_add0]
    have := ih f (j + 1) (by omega) (by omega)
    rw [ct_succ] at this
    cases e : p j <;> cases e2 : q j <;> simp only [e, e2, nI_1] at this ⊢ <;> simpa using this
def ktr (p : Nat → Bool) (k : Int32) : Nat → Nat → Nat → Int32
  | 0, _, _ => -1
  | r + 1, j, c => if p j = true then (if nI c = k then nI j else ktr p k r (j + 1) (c + 1)) else ktr p k r (j + 1) c
theorem ktr_none {p : Nat → Bool} {k : Int32} : ∀ {r j c : Nat}, (∀ i, j ≤ i → p i = false) → ktr p k r j c = -1
  | 0, _, _, _ => rfl
  | r + 1, j, c, h => by rw [ktr, h j (Nat.le_refl _)]; exact ktr_none (fun i hi => h i (by omega))
theorem ktr_ext {p : Nat → Bool} {k : Int32} : ∀ {r s j c : Nat}, (∀ i, j + r ≤ i → p i = false) → r ≤ s → ktr p k s j c = ktr p k r j c
  | 0, s, j, c, h, _ => by rw [ktr_none (fun i hi => h i (by omega))]; rfl
  | r + 1, 0, j, c, h, hs => absurd hs (by omega)
  | r + 1, s + 1, j, c, h, hs => by
    rw [ktr, ktr, ktr_ext (r := r) (s := s) (fun i hi => h i (by omega)) (by omega), ktr_ext (r := r) (s := s) (fun i hi => h i (by omega)) (by omega)]
theorem X8_thingAt_L {x : Int64} {k : Int32} : ∀ (r fuel j c : Nat), j + r = 48 → r < fuel → F_X8_thingAt_L5 x k fuel (nI c) (nI j) = some (ktr (bt x) k r j c) := by
  intro r
  induction r with
  | zero =>
    intro fuel j c h1 h2
    refine fu_s (P := fun q => F_X8_thingAt_L5 x k q _ _ = _) h2 (fun f _ _ => ?_)
    rw [F_X8_thingAt_L5, if_pos (by rw [show (48 : Int32) = nI 48 from rfl]; exact nI_le (by omega) (by omega))]
    rfl
  | succ r ih =>
    intro fuel j c h1 h2
    refine fu_s (P := fun q => F_X8_thingAt_L5 x k q _ _ = _) h2 (fun f _ hf => ?_)
    rw [F_X8_thingAt_L5, if_neg (by rw [show (48 : Int32) = nI 48 from rfl]; exact nI_ge (by omega) (by decide)), X8_isIn _ _ (by omega), bd_some, if10', ktr, nI_1, nI_1]
    cases e : bt x j
    · rw [if_neg (by simp), if_neg (by decide)]
      exact ih f (j + 1) c (by omega) (by omega)
    · rw [if_pos ⟨by omega, rfl⟩, if_pos rfl]
      split
      · rfl
      · exact ih f (j + 1) (c + 1) (by omega) (by omega)
theorem M_back_L {b nn : Nat} {no : AI} {p : Nat → Bool} {k mth : Int32} (hb : b < 48) (hn : nn ≤ 48) (hp : ∀ a, a < nn → no (48 * a + b) = if p a = true then 1 else 0) : ∀ (r fuel j c : Nat), j + r = nn → r < fuel → F_X9_back_L21 (nI b) (nI nn) no mth fuel (k - nI c) (nI j) = some (ktr p k r j c, mth) := by
  intro r
  induction r with
  | zero =>
    intro fuel j c h1 h2
    refine fu_s (P := fun q => F_X9_back_L21 (nI b) (nI nn) no mth q _ _ = _) h2 (fun f _ _ => ?_)
    rw [F_X9_back_L21, if_pos (nI_le (by omega) (by omega))]
    rfl
  | succ r ih =>
    intro fuel j c h1 h2
    refine fu_s (P := fun q => F_X9_back_L21 (nI b) (nI nn) no mth q _ _ = _) h2 (fun f _ hf => ?_)
    rw [F_X9_back_L21, if_neg (nI_ge (by omega) (by omega)), ix48, ck_t (bn_nI (by omega) (by decide)), clampN (by omega), hp j (by omega), if10', ktr, nI_1]
    have hz : (k - nI c = 0) ↔ nI c = k := by rw [Int32.sub_eq_iff_eq_add, Int32.zero_add]; exact eq_comm
    have hs : k - nI c + (-1) = k - nI (c + 1) := by
      rw [nI_succ, ← Int32.sub_eq_add_neg, Int32.sub_sub]
    cases e : p j
    · rw [if_neg (by decide), if_neg (by decide)]
      exact ih f (j + 1) c (by omega) (by omega)
    · rw [if_pos rfl, if_pos rfl, if_cg hz, hs]
      split
      · rfl
      · exact ih f (j + 1) (c + 1) (by omega) (by omega)

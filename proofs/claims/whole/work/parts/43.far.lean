/-! ===== pure: far, parts ===== -/
theorem X_grow {fu nn : Nat} {x2 x5 : Int64} {x4 : Int32} {ne : AJ} (hf : 1000 ≤ fu) (hn : nn ≤ 48) : ∃ o : Int64, F_X7_partOf_L23 nn x2 x4 ne fu x5 0 = some o ∧ ∀ c, bt o c = true ↔ (bt x5 c = true ∨ ∃ x, x < nn ∧ bt x2 x = true ∧ bt (ne x) c = true) := by
  refine fwd nn (fun f j (s : Int64) => F_X7_partOf_L23 nn x2 x4 ne f s (nI j)) (fun j s => ∀ c, bt s c = true ↔ (bt x5 c = true ∨ ∃ x, x < j ∧ bt x2 x = true ∧ bt (ne x) c = true)) (fun s => ∀ c, bt s c = true ↔ (bt x5 c = true ∨ ∃ x, x < nn ∧ bt x2 x = true ∧ bt (ne x) c = true)) (fun f s hs => ?_) (fun f j s hj hs => Or.inl ?_) nn 0 fu x5 (by omega) (by omega) (fun c => ⟨Or.inl, fun h => h.elim id (fun ⟨x, a, _⟩ => absurd a (by omega))⟩)
  · exact ⟨s, by rw [F_X7_partOf_L23, if_pos (nI_le (by omega) (by omega))], hs⟩
  · rw [F_X7_partOf_L23, if_neg (nI_ge hj (by omega)), X8_isIn _ _ (by omega), bd_some, if10', ck_t (bn_nI hj (by omega)), clampN (by omega), nI_1]
    by_cases c : bt x2 j = true
    · rw [if_pos ⟨by omega, c⟩]
      refine ⟨_, rfl, fun k => ?_⟩
      rw [bt_or, Bool.or_eq_true, hs k]
      constructor
      · rintro ((q | ⟨x, a, b⟩) | q)
        · exact Or.inl q
        · exact Or.inr ⟨x, by omega, b⟩
        · exact Or.inr ⟨j, by omega, c, q⟩
      · rintro (q | ⟨x, a, b, d⟩)
        · exact Or.inl (Or.inl q)
        · by_cases r : x = j
          · rw [r] at d
            exact Or.inr d
          · exact Or.inl (Or.inr ⟨x, by omega, b, d⟩)
    · rw [if_neg (fun z => c z.2)]
      refine ⟨_, rfl, fun k => ?_⟩
      rw [hs k]
      constructor
      · rintro (q | ⟨x, a, b⟩)
        · exact Or.inl q
        · exact Or.inr ⟨x, by omega, b⟩
      · rintro (q | ⟨x, a, b, d⟩)
        · exact Or.inl q
        · by_cases r : x = j
          · rw [r] at b
            exact absurd b c
          · exact Or.inr ⟨x, by omega, b, d⟩
theorem X_grow2 {fu nn : Nat} {x4 x7 : Int64} {x3 x6 : Int32} {ro : AJ} (hf : 1000 ≤ fu) (hn : nn ≤ 48) : ∃ o : Int64, F_X7_stepsBetween_L36 nn x3 x4 x6 ro fu x7 0 = some o ∧ ∀ c, bt o c = true ↔ (bt x7 c = true ∨ ∃ x, x < nn ∧ bt x4 x = true ∧ bt (ro x) c = true) := by
  refine fwd nn (fun f j (s : Int64) => F_X7_stepsBetween_L36 nn x3 x4 x6 ro f s (nI j)) (fun j s => ∀ c, bt s c = true ↔ (bt x7 c = true ∨ ∃ x, x < j ∧ bt x4 x = true ∧ bt (ro x) c = true)) (fun s => ∀ c, bt s c = true ↔ (bt x7 c = true ∨ ∃ x, x < nn ∧ bt x4 x = true ∧ bt (ro x) c = true)) (fun f s hs => ?_) (fun f j s hj hs => Or.inl ?_) nn 0 fu x7 (by omega) (by omega) (fun c => ⟨Or.inl, fun h => h.elim id (fun ⟨x, a, _⟩ => absurd a (by omega))⟩)
  · refine ⟨s, ?_, hs⟩
    rw [F_X7_stepsBetween_L36]
    unfold F_X4_things
    rw [bd_some, if_pos (nI_le (by omega) (by omega))]
  · rw [F_X7_stepsBetween_L36]
    unfold F_X4_things
    rw [bd_some, if_neg (nI_ge hj (by omega)), X8_isIn _ _ (by omega), bd_some, if10', X4_rowOf hj hn, bd_some, nI_1]
    by_cases c : bt x4 j = true
    · rw [if_pos ⟨by omega, c⟩]
      refine ⟨_, rfl, fun k => ?_⟩
      rw [bt_or, Bool.or_eq_true, hs k]
      constructor
      · rintro ((q | ⟨x, a, b⟩) | q)
        · exact Or.inl q
        · exact Or.inr ⟨x, by omega, b⟩
        · exact Or.inr ⟨j, by omega, c, q⟩
      · rintro (q | ⟨x, a, b, d⟩)
        · exact Or.inl (Or.inl q)
        · by_cases r : x = j
          · rw [r] at d
            exact Or.inr d
          · exact Or.inl (Or.inr ⟨x, by omega, b, d⟩)
    · rw [if_neg (fun z => c z.2)]
      refine ⟨_, rfl, fun k => ?_⟩
      rw [hs k]
      constructor
      · rintro (q | ⟨x, a, b⟩)
        · exact Or.inl q
        · exact Or.inr ⟨x, by omega, b⟩
      · rintro (q | ⟨x, a, b, d⟩)
        · exact Or.inl q
        · by_cases r : x = j
          · rw [r] at b
            exact absurd b c
          · exact Or.inr ⟨x, by omega, b, d⟩
/-- those at most s steps away -/
def wl (nn : Nat) (D : Nat → Nat) (v : Nat → Bool) (s : Nat) (T : Int64) : Prop := ∀ c, bt T c = true ↔ (c < nn ∧ v c = true ∧ D c ≤ s)
theorem wl_0 {nn : Nat} {A : Nat → Nat → Bool} {a m : Nat} {e D : Nat → Nat} {v : Nat → Bool} {maw mro : AI} (ha : a < nn) (hn : nn ≤ 48) (h : WD nn A a m e D v maw mro) : wl nn D v 0 ((1 : Int64) <<< ((nI a).toInt64 &&& 63)) := by
  intro c
  rw [bt_bit (by omega)]
  obtain ⟨h1, h2, h3, h4, h5, h6, h7⟩ := h
  constructor
  · intro q
    rw [of_decide_eq_true q]
    exact ⟨ha, h5.1, by rw [h5.2]; exact Nat.le_refl _⟩
  · rintro ⟨q1, q2, q3⟩
    rcases h6 c q1 q2 with r | ⟨x, _, _, _, b⟩
    · exact decide_eq_true r
    · omega
theorem wl_s {nn : Nat} {A : Nat → Nat → Bool} {a m s : Nat} {e D : Nat → Nat} {v : Nat → Bool} {maw mro : AI} {T U : Int64} {ne : AJ} (h : WD nn A a m e D v maw mro) (hn1 : ∀ x, x < nn → ∀ c, bt (ne x) c = true → c < nn ∧ A x c = true) (hn2 : ∀ x, x < nn → ∀ c, c < nn → A x c = true → c = x ∨ bt (ne x) c = true) (hT : wl nn D v s T) (hU : ∀ c, bt U c = true ↔ (bt T c = true ∨ ∃ x, x < nn ∧ bt T x = true ∧ bt (ne x) c = true)) : wl nn D v (s + 1) U := by
  intro c
  obtain ⟨h1, h2, h3, h4, h5, h6, h7⟩ := h
  rw [hU c]
  constructor
  · rintro (q | ⟨x, a1, a2, a3⟩)
    · have := (hT c).mp q
      exact ⟨this.1, this.2.1, by omega⟩
    · obtain ⟨b1, b2, b3⟩ := (hT x).mp a2
      obtain ⟨d1, d2⟩ := hn1 x a1 c a3
      obtain ⟨f1, f2⟩ := h7 x a1 b2 c d1 d2
      exact ⟨d1, f1, by omega⟩
  · rintro ⟨q1, q2, q3⟩
    by_cases r : D c ≤ s
    · exact Or.inl ((hT c).mpr ⟨q1, q2, r⟩)
    · rcases h6 c q1 q2 with w | ⟨x, b1, b2, b3, b4⟩
      · rw [w, h5.2] at r
        omega
      · rcases hn2 x b1 c q1 b3 with y | y
        · rw [y] at b4
          omega
        · exact Or.inr ⟨x, b1, (hT x).mpr ⟨b1, b2, by omega⟩, y⟩
theorem X_steps {fu nn a b m : Nat} {e D : Nat → Nat} {v : Nat → Bool} {maw mro : AI} {ro : AJ} {A : Nat → Nat → Bool} (hf : 1000 ≤ fu) (ha : a < nn) (hb : b < nn) (hn : nn ≤ 48) (hz : ∀ a, a < nn → ∀ b, nn ≤ b → bt (ro a) b = false) (hA : ∀ x b, A x b = bt (ro x) b) (h : WD nn A a m e D v maw mro) : F_X7_stepsBetween fu nn (nI a) (nI b) ro = some (maw b) := by
  have A1 : ∃ o : Int32, F_X7_stepsBetween_L8 fu nn (nI b) ro fu ((1 : Int64) <<< ((nI a).toInt64 &&& 63)) 0 = some o ∧ o = maw b := by
    refine fwd nn (fun f j (s : Int64) => F_X7_stepsBetween_L8 fu nn (nI b) ro f s (nI j)) (fun j s => wl nn D v j s ∧ ¬ (v b = true ∧ D b < j)) (fun o => o = maw b) (fun f s hs => ?_) (fun f j s hj hs => ?_) nn 0 fu _ (by omega) (by omega) ⟨wl_0 ha hn h, fun z => absurd z.2 (by omega)⟩
    · rw [F_X7_stepsBetween_L8]
      unfold F_X4_things
      rw [bd_some, if_pos (nI_le (by omega) (by omega)), h.2.1 b hb, if_neg (fun z => hs.2 ⟨z, (h.2.2.2.1 b hb z).2⟩)]
      exact ⟨_, rfl, rfl⟩
    · rw [F_X7_stepsBetween_L8]
      unfold F_X4_things
      rw [bd_some, if_neg (nI_ge hj (by omega)), X8_isIn _ _ (by omega), bd_some, if10', nI_1]
      by_cases c : bt s b = true
      · rw [if_pos ⟨by omega, c⟩]
        right
        obtain ⟨q1, q2, q3⟩ := (hs.1 b).mp c
        refine ⟨_, rfl, ?_⟩
        rw [h.2.1 b hb, if_pos q2]
        have : D b = j := by
          have := hs.2
          rcases Nat.lt_or_ge (D b) j with r | r
          · exact absurd ⟨q2, r⟩ this
          · omega
        rw [this]
      · rw [if_neg (fun z => c z.2)]
        left
        obtain ⟨o, g1, g2⟩ := X_grow2 (fu := fu) (nn := nn) (x4 := s) (x7 := s) (x3 := nI b) (x6 := nI j) (ro := ro) hf hn
        rw [g1, bd_some]
        refine ⟨o, rfl, wl_s h (fun x hx c hc => ?_) (fun x hx c _ hc => Or.inr (by rw [← hA]; exact hc)) hs.1 g2, fun z => ?_⟩
        · refine ⟨?_, by rw [hA]; exact hc⟩
          rcases Nat.lt_or_ge c nn with r | r
          · exact r
          · rw [hz x hx c r] at hc; cases hc
        · exact c ((hs.1 b).mpr ⟨hb, z.1, by omega⟩)
  obtain ⟨o, a1, rfl⟩ := A1
  unfold F_X7_stepsBetween
  exact a1
theorem ok_far (BK : BKT) {fu : Nat} (hf : 20000 ≤ fu) : OK_far fu (Rel BK) := by
  intro nn X M x1 x2 hR
  obtain ⟨h1, hn, hmn, hP, hRR, hB⟩ := id hR
  unfold SX_far SM_far F_X8_far F_X9_far
  rw [hmn, X9_isThing h1 hn, X9_isThing h1 hn, X4_isThing hn, X4_isThing hn, bd_some, if10', bd_some, if10', bd_some, if10', bd_some, if10']
  by_cases e1 : tg nn x1 = true
  · by_cases e2 : tg nn x2 = true
    · rw [if_pos e1, if_pos e1, if_pos e2, if_pos e2]
      obtain ⟨a, ha, rfl⟩ := tg_of e1
      obtain ⟨b, hb, rfl⟩ := tg_of e2
      obtain ⟨m2, e2, D2, v2, maw2, mro2, b1, b2⟩ := M_walk (fu := fu) (x2 := 0) (maw := maw_ M) (mro := mro_ M) (A := fun x b => bt (xro_ X x) b) (by omega) ha hn hP (fun x b => by simp)
      rw [b1, bd_some, ck_t (bn_nI (show b < 48 by omega) (by decide)), clampN (by omega), X_steps (by omega) ha hb hn hP.2 (fun _ _ => rfl) b2, bd_some]
      exact ⟨_, _, _, rfl, rfl, h1, hn, rfl, hP, hRR, hB⟩
    · rw [if_pos e1, if_pos e1, if_neg e2, if_neg e2]
      exact ⟨_, _, _, rfl, rfl, h1, hn, rfl, hP, hRR, hB⟩
  · rw [if_neg e1, if_neg e1]
    exact ⟨_, _, _, rfl, rfl, h1, hn, rfl, hP, hRR, hB⟩
theorem X_partOf {fu nn a m : Nat} {e D : Nat → Nat} {v : Nat → Bool} {maw mro : AI} {ro ne : AJ} {A : Nat → Nat → Bool} (hf : 1000 ≤ fu) (ha : a < nn) (hn : nn ≤ 48) (hA : ∀ x b, A x b = jn ro x b) (hne : ∀ a, a < nn → ∀ b, bt (ne a) b = (decide (b < nn) && (!decide (b = a) && jn ro a b))) (h : WD nn A a m e D v maw mro) : ∃ o : Int64, F_X7_partOf fu nn (nI a) ne = some o ∧ ∀ c, bt o c = (decide (c < nn) && v c) := by
  have fin : ∀ s : Int64, (∀ c, bt s c = true ↔ (c < nn ∧ v c = true)) → ∀ c, bt s c = (decide (c < nn) && v c) := by
    intro s hs c
    rw [Bool.eq_iff_iff, hs c]
    simp
  have hn1 : ∀ x, x < nn → ∀ c, bt (ne x) c = true → c < nn ∧ A x c = true := by
    intro x hx c hc
    rw [hne x hx c] at hc
    rw [hA]
    simp at hc
    exact ⟨hc.1, hc.2.2⟩
  have hn2 : ∀ x, x < nn → ∀ c, c < nn → A x c = true → c = x ∨ bt (ne x) c = true := by
    intro x hx c hcn hc
    rw [hA] at hc
    by_cases q : c = x
    · exact Or.inl q
    · right
      rw [hne x hx c, hc]
      simp [q, hcn]
  have A1 : ∃ o : Int64, F_X7_partOf_L7 fu nn ne fu ((1 : Int64) <<< ((nI a).toInt64 &&& 63)) 0 = some o ∧ ∀ c, bt o c = (decide (c < nn) && v c) := by
    refine fwd nn (fun f j (s : Int64) => F_X7_partOf_L7 fu nn ne f s (nI j)) (fun j s => wl nn D v j s) (fun o => ∀ c, bt o c = (decide (c < nn) && v c)) (fun f s hs => ?_) (fun f j s hj hs => ?_) nn 0 fu _ (by omega) (by omega) (wl_0 ha hn h)
    · rw [F_X7_partOf_L7, if_pos (nI_le (by omega) (by omega))]
      refine ⟨_, rfl, fin s (fun c => ?_)⟩
      rw [hs c]
      exact ⟨fun z => ⟨z.1, z.2.1⟩, fun z => ⟨z.1, z.2, Nat.le_of_lt (h.2.2.2.1 c z.1 z.2).2⟩⟩
    · obtain ⟨o, g1, g2⟩ := X_grow (fu := fu) (nn := nn) (x2 := s) (x5 := s) (x4 := nI j) (ne := ne) hf hn
      have hw := wl_s h hn1 hn2 hs g2
      rw [F_X7_partOf_L7, if_neg (nI_ge hj (by omega)), g1, bd_some, nI_1]
      by_cases c : o = s
      · right
        rw [if_pos ((lg_cmp_eq o s).mpr c)]
        refine ⟨_, rfl, fin s (fun k => ?_)⟩
        rw [c] at hw
        have all : ∀ d k, D k = d → k < nn → v k = true → D k ≤ j := by
          intro d
          induction d with
          | zero => intro k q _ _; omega
          | succ d ih =>
            intro k q q2 q3
            rcases h.2.2.2.2.2.1 k q2 q3 with r | ⟨x, b1, b2, b3, b4⟩
            · rw [r, h.2.2.2.2.1.2]; omega
            · have i1 := ih x (by omega) b1 b2
              have i2 := (hs k).mp ((hw k).mpr ⟨q2, q3, by omega⟩)
              exact i2.2.2
        rw [hs k]
        exact ⟨fun z => ⟨z.1, z.2.1⟩, fun z => ⟨z.1, z.2, all _ k rfl z.1 z.2⟩⟩
      · left
        rw [if_neg (fun z => c ((lg_cmp_eq o s).mp z))]
        exact ⟨o, rfl, hw⟩
  obtain ⟨o, a1, a2⟩ := A1
  unfold F_X7_partOf
  rw [a1]
  exact ⟨o, rfl, a2⟩
theorem mark {fu nn m : Nat} {e : Nat → Nat} {mro mit : AI} {t : Nat → Bool} {y2 y3 : Int32} (hf : 1000 ≤ fu) (hn : nn ≤ 48) (hm : m ≤ nn) (he : ∀ k, k < m → mro k = nI (e k) ∧ e k < nn) (ht : ∀ b, b < nn → mit b = if t b = true then 1 else 0) : ∃ mit2 : AI, F_X9_parts_L91 y2 y3 (nI m) mro fu 0 mit = some mit2 ∧ ∀ b, b < nn → ∀ w : Bool, (w = true ↔ (t b = true ∨ ∃ k, k < m ∧ e k = b)) → mit2 b = if w = true then 1 else 0 := by
  refine fwd m (fun f j (s : AI) => F_X9_parts_L91 y2 y3 (nI m) mro f (nI j) s) (fun j s => ∀ b, b < nn → ∀ w : Bool, (w = true ↔ (t b = true ∨ ∃ k, k < j ∧ e k = b)) → s b = if w = true then 1 else 0) (fun s => ∀ b, b < nn → ∀ w : Bool, (w = true ↔ (t b = true ∨ ∃ k, k < m ∧ e k = b)) → s b = if w = true then 1 else 0) (fun f s hs => ?_) (fun f j s hj hs => Or.inl ?_) m 0 fu mit (by omega) (by omega) (fun b hb w hw => ?_)
  · exact ⟨s, by rw [F_X9_parts_L91, if_pos (nI_le (by omega) (by omega))], hs⟩
  · have hk := he j hj
    rw [F_X9_parts_L91, if_neg (nI_ge hj (by omega)), ck_t (bn_nI (show j < 48 by omega) (by decide)), clampN (show j < 2 ^ 31 by omega), hk.1, ck_t (bn_nI (show e j < 48 by omega) (by decide)), clampN (show e j < 2 ^ 31 by omega), nI_1]
    refine ⟨_, rfl, fun b hb w hw => ?_⟩
    rw [upd_if]
    by_cases q : b = e j
    · rw [if_pos q, if_pos (hw.mpr (Or.inr ⟨j, by omega, q.symm⟩))]
      rfl
    · rw [if_neg q]
      refine hs b hb w (hw.trans ⟨?_, ?_⟩)
      · rintro (r | ⟨k, a, b⟩)
        · exact Or.inl r
        · by_cases z : k = j
          · rw [z] at b; exact absurd b.symm q
          · exact Or.inr ⟨k, by omega, b⟩
      · rintro (r | ⟨k, a, b⟩)
        · exact Or.inl r
        · exact Or.inr ⟨k, by omega, b⟩
  · rw [ht b hb]
    refine if_cg ?_ _ _
    rw [hw]
    exact ⟨Or.inl, fun z => z.elim id (fun ⟨k, a, _⟩ => absurd a (by omega))⟩
theorem parts_all {fu nn : Nat} {ro ne : AJ} {no : AI} (hf : 1000 ≤ fu) (hn : nn ≤ 48) (hP : RP nn ro no) (hne : ∀ a, a < nn → ∀ b, bt (ne a) b = (decide (b < nn) && (!decide (b = a) && jn ro a b))) : ∀ (r j fX fM k : Nat) (T : Int64) (maw mro mit : AI), j + r = nn → r < fX → r < fM → (∀ b, b < nn → mit b = if bt T b = true then 1 else 0) → ∃ (z : Int32) (maw2 mro2 mit2 : AI), F_X7_countParts_L13 fu nn ne fX T (nI k) (nI j) = some z ∧ F_X9_parts_L60 fu (nI nn) no fM (nI k) (nI j) maw mro mit = some (z, maw2, mro2, mit2) := by
  intro r
  induction r with
  | zero =>
    intro j fX fM k T maw mro mit e1 e2 e3 e4
    obtain ⟨f, rfl⟩ : ∃ f, fX = f + 1 := ⟨fX - 1, by omega⟩
    obtain ⟨g, rfl⟩ : ∃ g, fM = g + 1 := ⟨fM - 1, by omega⟩
    rw [F_X7_countParts_L13, if_pos (nI_le (by omega) (by omega)), F_X9_parts_L60, if_pos (nI_le (by omega) (by omega))]
    exact ⟨_, _, _, _, rfl, rfl⟩
  | succ r ih =>
    intro j fX fM k T maw mro mit e1 e2 e3 e4
    obtain ⟨f, rfl⟩ : ∃ f, fX = f + 1 := ⟨fX - 1, by omega⟩
    obtain ⟨g, rfl⟩ : ∃ g, fM = g + 1 := ⟨fM - 1, by omega⟩
    have hj : j < nn := by omega
    rw [F_X7_countParts_L13, if_neg (nI_ge hj (by omega)), F_X9_parts_L60, if_neg (nI_ge hj (by omega)), X8_isIn _ _ (by omega), bd_some, if10', ck_t (bn_nI (show j < 48 by omega) (by decide)), clampN (show j < 2 ^ 31 by omega), e4 j hj, if10']
    by_cases c : bt T j = true
    · rw [if_pos ⟨by omega, c⟩, if_pos c, nI_1]
      exact ih (j + 1) f g k T maw mro mit (by omega) (by omega) (by omega) e4
    · rw [if_neg (fun z => c z.2), if_neg c]
      obtain ⟨m2, e2, D2, v2, maw2, mro2, b1, b2⟩ := M_walk (fu := fu) (x2 := 1) (maw := maw) (mro := mro) (A := jn ro) hf hj hn hP (fun x b => by unfold jn; simp)
      obtain ⟨o, d1, d2⟩ := X_partOf (fu := fu) hf hj hn (fun _ _ => rfl) hne b2
      have hm : m2 ≤ nn := by have := ct_le v2 nn; have := b2.2.2.1; omega
      obtain ⟨mit2, f1, f2⟩ := mark (fu := fu) (e := e2) (mro := mro2) (mit := mit) (y2 := nI k + 1) (y3 := nI j) hf hn hm (fun k hk => ⟨(b2.1 k hk).1, (b2.1 k hk).2.1⟩) e4
      rw [d1, bd_some, b1, bd_some, f1, bd_some, nI_1, nI_1]
      refine ih (j + 1) f g (k + 1) _ maw2 mro2 mit2 (by omega) (by omega) (by omega) (fun b hb => f2 b hb _ ?_)
      rw [bt_or, d2 b, Bool.or_eq_true, show decide (b < nn) = true from decide_eq_true hb, Bool.true_and]
      refine or_congr Iff.rfl ⟨fun q => (b2.2.2.2.1 b hb q).1, ?_⟩
      rintro ⟨k, q1, q2⟩
      rw [← q2]
      exact (b2.1 k q1).2.2
theorem ok_parts (BK : BKT) {fu : Nat} (hf : 20000 ≤ fu) : OK_parts fu (Rel BK) := by
  intro nn X M x1 hR
  obtain ⟨h1, hn, hmn, hP, hRR, hB⟩ := id hR
  obtain ⟨ne2, g1, g2⟩ := X7_findNear (fu := fu) (nn := nn) (ro := xro_ X) (by omega) hn hP.2 (xne_ X)
  unfold SX_parts SM_parts F_X8_parts F_X9_parts
  rw [hmn]
  by_cases e0 : x1 = -1
  · rw [if_pos e0, if_pos e0, if_pos e0, if_pos e0]
    have z : ∃ mit0 : AI, F_X9_parts_L35 (nI nn) fu 0 (mit_ M) = some mit0 ∧ ∀ b, b < nn → mit0 b = 0 := by
      refine fwd nn (fun f j (s : AI) => F_X9_parts_L35 (nI nn) f (nI j) s) (fun j s => ∀ b, b < j → s b = 0) (fun s => ∀ b, b < nn → s b = 0) (fun f s hs => ?_) (fun f j s hj hs => Or.inl ?_) nn 0 fu _ (by omega) (by omega) (fun b hb => absurd hb (by omega))
      · exact ⟨s, by rw [F_X9_parts_L35, if_pos (nI_le (by omega) (by omega))], hs⟩
      · refine ⟨_, by rw [F_X9_parts_L35, if_neg (nI_ge hj (by omega)), ck_t (bn_nI (show j < 48 by omega) (by decide)), clampN (by omega), nI_1], fun b hb => ?_⟩
        rw [upd_if]
        by_cases e : b = j
        · rw [if_pos e]; rfl
        · rw [if_neg e]
          exact hs b (by omega)
    obtain ⟨mit0, z1, z2⟩ := z
    obtain ⟨zz, maw2, mro2, mit2, a1, a2⟩ := parts_all (fu := fu) (by omega) hn hP g2 nn 0 fu fu 0 0 (maw_ M) (mro_ M) mit0 (by omega) (by omega) (by omega) (fun b hb => by rw [z2 b hb, bt_zero]; rfl)
    unfold F_X7_countParts
    simp only [g1, bd_some, show F_X7_countParts_L13 fu nn ne2 fu 0 0 0 = some zz from a1, z1, show F_X9_parts_L60 fu (nI nn) (mno_ M) fu 0 0 (maw_ M) (mro_ M) mit0 = _ from a2]
    exact ⟨_, _, _, rfl, rfl, h1, hn, rfl, hP, hRR, hB⟩
  · rw [if_neg e0, if_neg e0, if_neg e0, if_neg e0, X4_isThing hn, X9_isThing h1 hn, bd_some, bd_some, if10', if10']
    by_cases e1 : tg nn x1 = true
    · rw [if_pos e1, if_pos e1]
      obtain ⟨a, ha, rfl⟩ := tg_of e1
      obtain ⟨m2, e2, D2, v2, maw2, mro2, b1, b2⟩ := M_walk (fu := fu) (x2 := 1) (maw := maw_ M) (mro := mro_ M) (A := jn (xro_ X)) (by omega) ha hn hP (fun x b => by unfold jn; simp)
      obtain ⟨o, d1, d2⟩ := X_partOf (fu := fu) (by omega) ha hn (fun _ _ => rfl) g2 b2
      have hpc : pc o = m2 := by
        rw [pc_nn hn (fun b hb => by rw [d2 b, show decide (b < nn) = false from decide_eq_false (by omega), Bool.false_and]), ← b2.2.2.1]
        exact ct_cong (fun k hk => by rw [d2 k, show decide (k < nn) = true from decide_eq_true hk, Bool.true_and])
      unfold F_X7_sizeOfPart
      rw [g1, bd_some, d1, bd_some, X_bitCount, bd_some, bd_some, b1, bd_some, hpc]
      exact ⟨_, _, _, rfl, rfl, h1, hn, rfl, hP, hRR, hB⟩
    · rw [if_neg e1, if_neg e1]
      exact ⟨_, _, _, rfl, rfl, h1, hn, rfl, hP, hRR, hB⟩

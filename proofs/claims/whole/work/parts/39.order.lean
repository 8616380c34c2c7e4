/-! ===== pure: keys, an order by keys on both sides ===== -/
def kv (b : Nat) : Int32 := ((nI b * (40503 : Int32)) &&& (65535 : Int32)) >>> ((6 : Int32) &&& 31)
theorem kv_eq : ∀ b, b < 48 → ((nI b * (40503 : Int32)) - (nI b * (40503 : Int32)) / (65536 : Int32) * (65536 : Int32)) / (64 : Int32) = kv b := by decide +kernel
def kf (p : Nat → Bool) : Nat → Nat → Int32 → Int32
  | 0, _, acc => acc
  | r + 1, j, acc => kf p r (j + 1) (if p j = true then (if kv j < acc then kv j else acc) else acc)
theorem kf_none {p : Nat → Bool} : ∀ {r j : Nat} {acc : Int32}, (∀ k, j ≤ k → p k = false) → kf p r j acc = acc
  | 0, _, _, _ => rfl
  | r + 1, j, acc, h => by
    rw [kf, h j (Nat.le_refl _)]
    exact kf_none (fun k hk => h k (by omega))
theorem kf_ext {p : Nat → Bool} : ∀ {r s j : Nat} {acc : Int32}, (∀ k, j + r ≤ k → p k = false) → r ≤ s → kf p s j acc = kf p r j acc
  | 0, s, j, acc, h, _ => by rw [kf_none (fun k hk => h k (by omega))]; rfl
  | r + 1, 0, j, acc, h, hs => absurd hs (by omega)
  | r + 1, s + 1, j, acc, h, hs => by
    rw [kf, kf]
    exact kf_ext (fun k hk => h k (by omega)) (by omega)
theorem X_leastKey {fu : Nat} (hf : 100 ≤ fu) (x : Int64) : F_X3_leastKey fu x = some (kf (bt x) 48 0 1024) := by
  have L : ∀ (r j fuel : Nat) (acc : Int32), j + r = 48 → r < fuel → F_X3_leastKey_L6 x fuel acc (nI j) = some (kf (bt x) r j acc) := by
    intro r
    induction r with
    | zero =>
      intro j fuel acc e1 e2
      obtain ⟨f, rfl⟩ : ∃ f, fuel = f + 1 := ⟨fuel - 1, by omega⟩
      rw [F_X3_leastKey_L6, if_pos (by rw [show (48 : Int32) = nI 48 from rfl]; exact nI_le (by omega) (by omega))]
      rfl
    | succ r ih =>
      intro j fuel acc e1 e2
      obtain ⟨f, rfl⟩ : ∃ f, fuel = f + 1 := ⟨fuel - 1, by omega⟩
      rw [F_X3_leastKey_L6, if_neg (by rw [show (48 : Int32) = nI 48 from rfl]; exact nI_ge (by omega) (by decide)), X8_isIn _ _ (by omega), bd_some, if10', nI_1, kf]
      cases e : bt x j
      · rw [if_neg (by simp), if_neg (by decide)]
        exact ih (j + 1) f acc (by omega) (by omega)
      · rw [if_pos ⟨by omega, rfl⟩, if_pos rfl]
        show (F_J9_min_7cf53 acc (kv j)).bind _ = _
        unfold F_J9_min_7cf53
        by_cases c : kv j < acc
        · rw [if_pos c, if_pos c, bd_some]
          exact ih (j + 1) f _ (by omega) (by omega)
        · rw [if_neg c, if_neg c, bd_some]
          exact ih (j + 1) f _ (by omega) (by omega)
  unfold F_X3_leastKey
  rw [show F_X3_leastKey_L6 x fu 1024 0 = _ from L 48 0 fu 1024 (by omega) (by omega)]
  rfl
theorem M_keyOf {fu nn a : Nat} {ro : AJ} {no : AI} (hf : 100 ≤ fu) (h : RP nn ro no) (ha : a < nn) (hn : nn ≤ 48) : F_X9_keyOf fu (nI a) (nI nn) no = some (kf (bt (ro a)) 48 0 1024) := by
  have L : ∀ (r j fuel : Nat) (acc : Int32), j + r = nn → r < fuel → F_X9_keyOf_L6 (nI a) (nI nn) no fuel acc (nI j) = some (kf (bt (ro a)) r j acc) := by
    intro r
    induction r with
    | zero =>
      intro j fuel acc e1 e2
      obtain ⟨f, rfl⟩ : ∃ f, fuel = f + 1 := ⟨fuel - 1, by omega⟩
      rw [F_X9_keyOf_L6, if_pos (nI_le (by omega) (by omega))]
      rfl
    | succ r ih =>
      intro j fuel acc e1 e2
      obtain ⟨f, rfl⟩ : ∃ f, fuel = f + 1 := ⟨fuel - 1, by omega⟩
      rw [F_X9_keyOf_L6, if_neg (nI_ge (by omega) (by omega)), kf]
      dsimp only [nm]
      rw [kv_eq j (by omega), ix48, ck_t (bn_nI (by omega) (by decide)), clampN (by omega), h.1 a ha j (by omega), if10', nI_1]
      cases e : bt (ro a) j
      · rw [if_neg (by decide), if_neg (by decide)]
        exact ih (j + 1) f acc (by omega) (by omega)
      · rw [if_pos rfl, if_pos rfl]
        by_cases c : kv j < acc
        · rw [if_pos c, if_neg (by rw [i_le]; rw [i_lt] at c; omega)]
          exact ih (j + 1) f _ (by omega) (by omega)
        · rw [if_neg c, if_pos (by rw [i_le]; rw [i_lt] at c; omega)]
          exact ih (j + 1) f _ (by omega) (by omega)
  unfold F_X9_keyOf
  rw [show F_X9_keyOf_L6 (nI a) (nI nn) no fu 1024 0 = _ from L nn 0 fu 1024 (by omega) (by omega), kf_ext (r := nn) (s := 48) (fun k hk => h.2 a ha k (by omega)) hn]
  rfl
/-- the keys of an order that is not that by layers -/
def ko (o : Nat) (ro : AJ) (x : Nat) : Int32 := if o = 0 then -(nI (pc (ro x))) else kf (bt (ro x)) 48 0 1024
theorem M_rank {fu nn o x : Nat} {ro : AJ} {no : AI} {ky : AI} (hf : 1000 ≤ fu) (h : RP nn ro no) (hx : x < nn) (hn : nn ≤ 48) (ho : o < 3) (hky : ∀ a, a < nn → ky a = ko o ro a) : F_X9_orderBy_L35 fu (nI o) (nI x) (ky x) (nI nn) no fu 0 0 = some (nI (rk ky nn x)) := by
  have L : ∀ (r j fuel : Nat), j + r = nn → r < fuel → F_X9_orderBy_L35 fu (nI o) (nI x) (ky x) (nI nn) no fuel (nI (rk ky j x)) (nI j) = some (nI (rk ky nn x)) := by
    intro r
    induction r with
    | zero =>
      intro j fuel e1 e2
      obtain ⟨f, rfl⟩ : ∃ f, fuel = f + 1 := ⟨fuel - 1, by omega⟩
      have : j = nn := by omega
      subst this
      rw [F_X9_orderBy_L35, if_pos (nI_le (Nat.le_refl _) (by omega))]
    | succ r ih =>
      intro j fuel e1 e2
      obtain ⟨f, rfl⟩ : ∃ f, fuel = f + 1 := ⟨fuel - 1, by omega⟩
      have i1 := ih (j + 1) f (by omega) (by omega)
      have er : rk ky (j + 1) x = rk ky j x + (if ltb ky j x = true then 1 else 0) := rfl
      rw [er] at i1
      have key : ∀ (t : Option Int32), t = (if ky j < ky x then F_X9_orderBy_L35 fu (nI o) (nI x) (ky x) (nI nn) no f (nI (rk ky j x) + 1) (nI j + 1) else if ky j = ky x then (if nI x ≤ nI j then F_X9_orderBy_L35 fu (nI o) (nI x) (ky x) (nI nn) no f (nI (rk ky j x) + 0) (nI j + 1) else F_X9_orderBy_L35 fu (nI o) (nI x) (ky x) (nI nn) no f (nI (rk ky j x) + 1) (nI j + 1)) else F_X9_orderBy_L35 fu (nI o) (nI x) (ky x) (nI nn) no f (nI (rk ky j x) + 0) (nI j + 1)) → t = some (nI (rk ky nn x)) := by
        intro t ht
        rw [ht, i_add0, nI_1, nI_1]
        have hb := ltb_iff ky j x
        unfold ltk at hb
        by_cases c1 : ky j < ky x
        · rw [if_pos c1]
          rw [i_lt] at c1
          rw [if_pos (hb.mpr (Or.inl c1))] at i1
          exact i1
        · rw [if_neg c1]
          rw [i_lt] at c1
          by_cases c2 : ky j = ky x
          · rw [if_pos c2]
            by_cases c3 : nI x ≤ nI j
            · rw [if_pos c3]
              rw [nI_leI (by omega) (by omega)] at c3
              rw [if_neg (fun z => by have := hb.mp z; omega)] at i1
              exact i1
            · rw [if_neg c3]
              rw [nI_leI (by omega) (by omega)] at c3
              rw [if_pos (hb.mpr (Or.inr ⟨by rw [c2], by omega⟩))] at i1
              exact i1
          · rw [if_neg c2]
            rw [i_eq] at c2
            rw [if_neg (fun z => by have := hb.mp z; omega)] at i1
            exact i1
      rw [F_X9_orderBy_L35, if_neg (nI_ge (by omega) (by omega))]
      have hj := hky j (by omega)
      unfold ko at hj
      by_cases o0 : o = 0
      · subst o0
        rw [if_pos rfl] at hj
        rw [if_pos (show nI 0 = (0 : Int32) from rfl), M_rowSize (by omega) (by omega) hn h, bd_some, ← hj]
        exact key _ rfl
      · rw [if_neg o0] at hj
        rw [if_neg (show ¬ nI o = (0 : Int32) from nI_k (k := 0) (by omega) (by decide) o0), M_keyOf (by omega) h (by omega) hn, bd_some, ← hj]
        exact key _ rfl
  exact L nn 0 fu (by omega) (by omega)
theorem rk_ne {ky : AI} {n x y : Nat} (hx : x < n) (hy : y < n) (h : x ≠ y) : rk ky n x ≠ rk ky n y := by
  rcases (show ltk ky x y ∨ ltk ky y x by unfold ltk; omega) with e | e
  · have := rk_lt hx e; omega
  · have := rk_lt hy e; omega
theorem M_orderBy {fu nn o : Nat} {ro : AJ} {no : AI} {ky pl : AI} (hf : 1000 ≤ fu) (h : RP nn ro no) (hn : nn ≤ 48) (ho : o < 3) (hky : ∀ a, a < nn → ky a = ko o ro a) : ∃ pl2 : AI, F_X9_orderBy fu (nI o) (nI nn) no pl = some pl2 ∧ ∀ x, x < nn → pl2 (rk ky nn x) = nI x := by
  have L : ∀ (r j fuel : Nat) (pl : AI), j + r = nn → r < fuel → (∀ x, x < j → pl (rk ky nn x) = nI x) → ∃ pl2 : AI, F_X9_orderBy_L2 fu (nI o) (nI nn) no fuel (nI j) pl = some pl2 ∧ ∀ x, x < nn → pl2 (rk ky nn x) = nI x := by
    intro r
    induction r with
    | zero =>
      intro j fuel pl e1 e2 e3
      obtain ⟨f, rfl⟩ : ∃ f, fuel = f + 1 := ⟨fuel - 1, by omega⟩
      rw [F_X9_orderBy_L2, if_pos (nI_le (by omega) (by omega))]
      exact ⟨pl, rfl, fun x hx => e3 x (by omega)⟩
    | succ r ih =>
      intro j fuel pl e1 e2 e3
      obtain ⟨f, rfl⟩ : ∃ f, fuel = f + 1 := ⟨fuel - 1, by omega⟩
      have hb := rk_bound (ky := ky) (n := nn) (x := j) (by omega)
      have go := ih (j + 1) f (upd pl (rk ky nn j) (nI j)) (by omega) (by omega) (fun x hx => by
        rw [upd_if]
        by_cases c : x = j
        · rw [if_pos (by rw [c]), c]
        · rw [if_neg (rk_ne (by omega) (by omega) c)]
          exact e3 x (by omega))
      have hr := M_rank (fu := fu) hf h (show j < nn by omega) hn ho hky
      have hj := hky j (by omega)
      unfold ko at hj
      rw [F_X9_orderBy_L2, if_neg (nI_ge (by omega) (by omega))]
      by_cases o0 : o = 0
      · subst o0
        rw [if_pos rfl] at hj
        rw [if_pos (show nI 0 = (0 : Int32) from rfl), M_rowSize (by omega) (by omega) hn h, bd_some, ← hj, hr, bd_some, ck_t (bn_nI (show rk ky nn j < 48 by omega) (by decide)), clampN (by omega), nI_1]
        exact go
      · rw [if_neg o0] at hj
        rw [if_neg (show ¬ nI o = (0 : Int32) from nI_k (k := 0) (by omega) (by decide) o0), M_keyOf (by omega) h (by omega) hn, bd_some, ← hj, hr, bd_some, ck_t (bn_nI (show rk ky nn j < 48 by omega) (by decide)), clampN (by omega), nI_1]
        exact go
  unfold F_X9_orderBy
  obtain ⟨pl2, h1, h2⟩ := L nn 0 fu pl (by omega) (by omega) (fun x hx => absurd hx (by omega))
  exact ⟨pl2, by rw [show F_X9_orderBy_L2 fu (nI o) (nI nn) no fu 0 pl = some pl2 from h1]; rfl, h2⟩
theorem X_keys {fu nn o : Nat} {ro : AJ} {ke : AI} (hf : 1000 ≤ fu) (hn : nn ≤ 48) (ho : o < 3) : ∃ ke2 : AI, F_X3_arrange_L13 fu nn (nI o) ro fu 0 ke = some ke2 ∧ ∀ a, a < nn → ke2 a = ko o ro a := by
  have L : ∀ (r j fuel : Nat) (ke : AI), j + r = nn → r < fuel → (∀ a, a < j → ke a = ko o ro a) → ∃ ke2 : AI, F_X3_arrange_L13 fu nn (nI o) ro fuel (nI j) ke = some ke2 ∧ ∀ a, a < nn → ke2 a = ko o ro a := by
    intro r
    induction r with
    | zero =>
      intro j fuel ke e1 e2 e3
      obtain ⟨f, rfl⟩ : ∃ f, fuel = f + 1 := ⟨fuel - 1, by omega⟩
      rw [F_X3_arrange_L13, if_pos (nI_le (by omega) (by omega))]
      exact ⟨ke, rfl, fun x hx => e3 x (by omega)⟩
    | succ r ih =>
      intro j fuel ke e1 e2 e3
      obtain ⟨f, rfl⟩ : ∃ f, fuel = f + 1 := ⟨fuel - 1, by omega⟩
      have go := ih (j + 1) f (upd ke j (ko o ro j)) (by omega) (by omega) (fun x hx => by
        rw [upd_if]
        by_cases c : x = j
        · rw [if_pos c, c]
        · rw [if_neg c]
          exact e3 x (by omega))
      rw [F_X3_arrange_L13, if_neg (nI_ge (by omega) (by omega)), X4_rowOf (by omega) hn, bd_some]
      by_cases o0 : o = 0
      · subst o0
        rw [if_pos (show nI 0 = (0 : Int32) from rfl), X_bitCount, bd_some, ck_t (bn_nI (by omega) (by omega)), clampN (by omega), nI_1]
        exact go
      · have : ko o ro j = kf (bt (ro j)) 48 0 1024 := if_neg o0
        rw [this] at go
        rw [if_neg (show ¬ nI o = (0 : Int32) from nI_k (k := 0) (by omega) (by decide) o0), X_leastKey (by omega), bd_some, ck_t (bn_nI (by omega) (by omega)), clampN (by omega), nI_1]
        exact go
  exact L nn 0 fu ke (by omega) (by omega) (fun x hx => absurd hx (by omega))

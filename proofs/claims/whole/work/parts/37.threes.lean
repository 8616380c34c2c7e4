/-! ===== pure: near, threes ===== -/
def sf (g : Nat → Nat) : Nat → Nat → Nat
  | 0, _ => 0
  | r + 1, j => g j + sf g r (j + 1)
theorem sf_cong {g h : Nat → Nat} : ∀ {r j : Nat}, (∀ k, j ≤ k → k < j + r → g k = h k) → sf g r j = sf h r j
  | 0, _, _ => rfl
  | r + 1, j, e => by rw [sf, sf, e j (Nat.le_refl _) (by omega), sf_cong (fun k h1 h2 => e k (by omega) (by omega))]
theorem sf_last (g : Nat → Nat) : ∀ r j : Nat, sf g (r + 1) j = sf g r j + g (j + r)
  | 0, j => by show g j + 0 = 0 + g j; omega
  | r + 1, j => by
    have h := sf_last g r (j + 1)
    show g j + sf g (r + 1) (j + 1) = g j + sf g r (j + 1) + g (j + (r + 1))
    rw [h, show j + 1 + r = j + (r + 1) by omega]
    omega
theorem ct_sf (p : Nat → Bool) : ∀ n : Nat, ct p n = sf (fun k => if p k = true then 1 else 0) n 0
  | 0 => rfl
  | n + 1 => by rw [ct_succ, ct_sf p n, sf_last, Nat.zero_add]
theorem sf_split (g : Nat → Nat) : ∀ r s j : Nat, sf g (r + s) j = sf g r j + sf g s (j + r)
  | 0, s, j => by rw [Nat.zero_add, Nat.add_zero]; exact (Nat.zero_add _).symm
  | r + 1, s, j => by
    have h := sf_split g r s (j + 1)
    rw [show r + 1 + s = (r + s) + 1 by omega]
    show g j + sf g (r + s) (j + 1) = g j + sf g r (j + 1) + sf g s (j + (r + 1))
    rw [h, show j + 1 + r = j + (r + 1) by omega]
    omega
theorem sf_zero {g : Nat → Nat} : ∀ {r j : Nat}, (∀ k, j ≤ k → k < j + r → g k = 0) → sf g r j = 0
  | 0, _, _ => rfl
  | r + 1, j, e => by rw [sf, e j (Nat.le_refl _) (by omega), sf_zero (fun k h1 h2 => e k (by omega) (by omega))]
/-- joined, either way -/
def jn (ro : AJ) (a b : Nat) : Bool := bt (ro a) b || bt (ro b) a
theorem bt_notbit {a i : Nat} (ha : a < 64) (hi : i < 64) : bt (((1 : Int64) <<< ((nI a).toInt64 &&& 63)) ^^^ (-1 : Int64)) i = !decide (i = a) := by
  rw [bt_xor, bt_bit ha, bt_m1 hi]
  cases decide (i = a) <;> rfl
theorem X7_findNear {fu nn : Nat} {ro : AJ} (hf : 1000 ≤ fu) (hn : nn ≤ 48) (hz : ∀ a, a < nn → ∀ b, nn ≤ b → bt (ro a) b = false) (ne : AJ) : ∃ ne2 : AJ, F_X7_findNear fu nn ro ne = some ne2 ∧ ∀ a, a < nn → ∀ b, bt (ne2 a) b = (decide (b < nn) && (!decide (b = a) && jn ro a b)) := by
  have L : ∀ (r j fuel : Nat) (w : AJ), j + r = nn → r < fuel → (∀ a, a < j → ∀ b, bt (w a) b = (decide (b < nn) && (!decide (b = a) && jn ro a b))) → ∃ ne2 : AJ, F_X7_findNear_L2 fu nn ro fuel (nI j) w = some ne2 ∧ ∀ a, a < nn → ∀ b, bt (ne2 a) b = (decide (b < nn) && (!decide (b = a) && jn ro a b)) := by
    intro r
    induction r with
    | zero =>
      intro j fuel w e1 e2 e3
      obtain ⟨f, rfl⟩ : ∃ f, fuel = f + 1 := ⟨fuel - 1, by omega⟩
      rw [F_X7_findNear_L2, if_pos (nI_le (by omega) (by omega))]
      exact ⟨w, rfl, fun a ha => e3 a (by omega)⟩
    | succ r ih =>
      intro j fuel w e1 e2 e3
      obtain ⟨f, rfl⟩ : ∃ f, fuel = f + 1 := ⟨fuel - 1, by omega⟩
      obtain ⟨col, c1, c2⟩ := X4_columnOf (fu := fu) (nn := nn) (b := j) (by omega) (by omega) hn ro
      rw [F_X7_findNear_L2, if_neg (nI_ge (by omega) (by omega)), X4_rowOf (by omega) hn, bd_some, c1, bd_some, ck_t (bn_nI (by omega) (by omega)), clampN (by omega), nI_1]
      refine ih (j + 1) f _ (by omega) (by omega) (fun a ha b => ?_)
      rw [updL_if]
      by_cases ea : a = j
      · subst ea
        rw [if_pos rfl]
        rcases Nat.lt_or_ge b 64 with hb | hb
        · rw [bt_and, bt_or, bt_notbit (by omega) hb, c2]
          unfold jn
          rcases Nat.lt_or_ge b nn with hb2 | hb2
          · simp only [hb2, decide_true, Bool.true_and]
            exact Bool.and_comm _ _
          · rw [hz a (by omega) b hb2]
            simp [show ¬ b < nn by omega]
        · rw [bt_ge hb]
          simp [show ¬ b < nn by omega]
      · rw [if_neg ea]
        exact e3 a (by omega) b
  unfold F_X7_findNear
  obtain ⟨ne2, h1, h2⟩ := L nn 0 fu ne (by omega) (by omega) (fun a ha => absurd ha (by omega))
  exact ⟨ne2, by rw [show F_X7_findNear_L2 fu nn ro fu 0 ne = some ne2 from h1]; rfl, h2⟩
theorem beh : ∀ b, b < 48 → ∀ i, i < 64 → bt (((-1 : Int64) <<< ((nI b).toInt64 &&& 63)) <<< ((1 : Int32).toInt64 &&& 63)) i = decide (b < i) := by decide +kernel
def g3 (nn : Nat) (ro : AJ) (a b : Nat) : Nat := if jn ro a b = true then sf (fun c => if (jn ro a c && jn ro b c) = true then 1 else 0) (nn - (b + 1)) (b + 1) else 0
theorem g3_le (nn : Nat) (ro : AJ) (a b : Nat) : g3 nn ro a b ≤ nn := by
  have : ∀ (q : Nat → Bool) (r j : Nat), sf (fun c => if q c = true then 1 else 0) r j ≤ r := by
    intro q r
    induction r with
    | zero => intro j; exact Nat.le_refl _
    | succ r ih =>
      intro j
      have := ih (j + 1)
      rw [sf]
      split <;> omega
  unfold g3
  split
  · have := this (fun c => jn ro a c && jn ro b c) (nn - (b + 1)) (b + 1)
    omega
  · omega
theorem X_three {nn a b : Nat} {ro ne : AJ} (ha : a < b) (hb : b < nn) (hn : nn ≤ 48) (hne : ∀ a, a < nn → ∀ b, bt (ne a) b = (decide (b < nn) && (!decide (b = a) && jn ro a b))) : pc ((ne a &&& ne b) &&& (((-1 : Int64) <<< ((nI b).toInt64 &&& 63)) <<< ((1 : Int32).toInt64 &&& 63))) = sf (fun c => if (jn ro a c && jn ro b c) = true then 1 else 0) (nn - (b + 1)) (b + 1) := by
  unfold pc
  rw [ct_ext (m := nn) (by omega) (fun k hk hk2 => by rw [bt_and, bt_and, hne a (by omega)]; simp [show ¬ k < nn by omega]), ct_sf, show nn = (b + 1) + (nn - (b + 1)) by omega, sf_split, sf_zero (r := b + 1), Nat.zero_add, Nat.zero_add, show (b + 1) + (nn - (b + 1)) - (b + 1) = nn - (b + 1) by omega]
  · refine sf_cong (fun k h1 h2 => ?_)
    rw [bt_and, bt_and, hne a (by omega), hne b (by omega), beh b (by omega) k (by omega)]
    simp [show k < nn by omega, show ¬ k = a by omega, show ¬ k = b by omega, show b < k by omega]
  · intro k h1 h2
    rw [bt_and, beh b (by omega) k (by omega)]
    simp [show ¬ b < k by omega]
theorem X_threes {fu nn : Nat} {ro ne : AJ} (hf : 1000 ≤ fu) (hn : nn ≤ 48) (hne : ∀ a, a < nn → ∀ b, bt (ne a) b = (decide (b < nn) && (!decide (b = a) && jn ro a b))) : F_X7_countThrees_L9 fu nn ne fu 0 0 = some (nI (sf (fun a => sf (g3 nn ro a) (nn - (a + 1)) (a + 1)) nn 0)) := by
  have I : ∀ (a : Nat), a < nn → ∀ (r b fuel d : Nat), b + r = nn → a < b → r < fuel → F_X7_countThrees_L23 nn (nI a) ne fuel (nI d) (nI b) = some (nI (d + sf (g3 nn ro a) r b)) := by
    intro a ha r
    induction r with
    | zero =>
      intro b fuel d e1 e2 e3
      obtain ⟨f, rfl⟩ : ∃ f, fuel = f + 1 := ⟨fuel - 1, by omega⟩
      rw [F_X7_countThrees_L23, if_pos (nI_le (by omega) (by omega))]
      rfl
    | succ r ih =>
      intro b fuel d e1 e2 e3
      obtain ⟨f, rfl⟩ : ∃ f, fuel = f + 1 := ⟨fuel - 1, by omega⟩
      rw [F_X7_countThrees_L23, if_neg (nI_ge (by omega) (by omega))]
      simp only [ck_t (bn_nI ha (show nn < 2 ^ 31 by omega)), ck_t (bn_nI (show b < nn by omega) (show nn < 2 ^ 31 by omega)), clampN (show a < 2 ^ 31 by omega), clampN (show b < 2 ^ 31 by omega), X8_isIn _ _ (show b < 2 ^ 31 by omega), bd_some, if10', nm, X_bitCount, X_three e2 (show b < nn by omega) hn hne, nI_1, nI_add]
      have hj : (b < 48 ∧ bt (ne a) b = true) ↔ jn ro a b = true := by
        rw [hne a ha]
        simp [show b < nn by omega, show ¬ b = a by omega, show b < 48 by omega]
      rw [if_cg hj, sf]
      unfold g3
      by_cases e : jn ro a b = true
      · rw [if_pos e, if_pos e, ih (b + 1) f _ (by omega) (by omega) (by omega)]
        unfold g3
        congr 2
        omega
      · rw [if_neg e, if_neg e, ih (b + 1) f _ (by omega) (by omega) (by omega)]
        unfold g3
        congr 2
        omega
  have O : ∀ (r a fuel d : Nat), a + r = nn → r < fuel → F_X7_countThrees_L9 fu nn ne fuel (nI d) (nI a) = some (nI (d + sf (fun a => sf (g3 nn ro a) (nn - (a + 1)) (a + 1)) r a)) := by
    intro r
    induction r with
    | zero =>
      intro a fuel d e1 e2
      obtain ⟨f, rfl⟩ : ∃ f, fuel = f + 1 := ⟨fuel - 1, by omega⟩
      rw [F_X7_countThrees_L9, if_pos (nI_le (by omega) (by omega))]
      rfl
    | succ r ih =>
      intro a fuel d e1 e2
      obtain ⟨f, rfl⟩ : ∃ f, fuel = f + 1 := ⟨fuel - 1, by omega⟩
      rw [F_X7_countThrees_L9, if_neg (nI_ge (by omega) (by omega)), nI_1, I a (by omega) (nn - (a + 1)) (a + 1) fu d (by omega) (by omega) (by omega), bd_some, ih (a + 1) f _ (by omega) (by omega), sf]
      congr 2
      omega
  have := O nn 0 fu 0 (by omega) (by omega)
  rw [Nat.zero_add] at this
  exact this
theorem M_isJoined {nn a b : Nat} {ro : AJ} {no : AI} (h : RP nn ro no) (ha : a < nn) (hb : b < nn) (hn : nn ≤ 48) : F_X9_isJoined (nI a) (nI b) no = some (if jn ro a b = true then 1 else 0) := by
  unfold F_X9_isJoined jn
  simp only [ix48, ck_t (bn_nI (show 48 * a + b < 2304 by omega) (by decide)), ck_t (bn_nI (show 48 * b + a < 2304 by omega) (by decide)), clampN (show 48 * a + b < 2 ^ 31 by omega), clampN (show 48 * b + a < 2 ^ 31 by omega), h.1 a ha b hb, h.1 b hb a ha, if10']
  cases bt (ro a) b <;> cases bt (ro b) a <;> rfl
theorem M_threes {fu nn : Nat} {ro : AJ} {no : AI} (hf : 1000 ≤ fu) (hn : nn ≤ 48) (h : RP nn ro no) : F_X9_threes_L9 fu (nI nn) no fu 0 0 = some (nI (sf (fun a => sf (g3 nn ro a) (nn - (a + 1)) (a + 1)) nn 0)) := by
  have J : ∀ (a b : Nat), a < b → b < nn → ∀ (r c fuel d : Nat), c + r = nn → r < fuel → F_X9_threes_L34 (nI a) (nI b) (nI nn) no fuel (nI d) (nI c) = some (nI (d + if jn ro a b = true then sf (fun c => if (jn ro a c && jn ro b c) = true then 1 else 0) r c else 0)) := by
    intro a b hab hb r
    induction r with
    | zero =>
      intro c fuel d e1 e2
      obtain ⟨f, rfl⟩ : ∃ f, fuel = f + 1 := ⟨fuel - 1, by omega⟩
      rw [F_X9_threes_L34, if_pos (nI_le (by omega) (by omega))]
      congr 2
      split <;> rfl
    | succ r ih =>
      intro c fuel d e1 e2
      obtain ⟨f, rfl⟩ : ∃ f, fuel = f + 1 := ⟨fuel - 1, by omega⟩
      rw [F_X9_threes_L34, if_neg (nI_ge (by omega) (by omega)), M_isJoined h (by omega) hb hn, M_isJoined h (by omega) (by omega) hn, M_isJoined h hb (by omega) hn]
      simp only [bd_some, if10', i_add0, nI_1]
      by_cases e : jn ro a b = true
      · have i0 := ih (c + 1) f d (by omega) (by omega)
        have i1 := ih (c + 1) f (d + 1) (by omega) (by omega)
        rw [if_pos e] at i0 i1 ⊢
        rw [if_pos e, i0, i1, sf]
        cases jn ro a c <;> cases jn ro b c <;> simp <;> congr 1 <;> omega
      · rw [if_neg e, if_neg e]
        rfl
  have I : ∀ (a : Nat), a < nn → ∀ (r b fuel d : Nat), b + r = nn → a < b → r < fuel → F_X9_threes_L21 fu (nI a) (nI nn) no fuel (nI d) (nI b) = some (nI (d + sf (g3 nn ro a) r b)) := by
    intro a ha r
    induction r with
    | zero =>
      intro b fuel d e1 e2 e3
      obtain ⟨f, rfl⟩ : ∃ f, fuel = f + 1 := ⟨fuel - 1, by omega⟩
      rw [F_X9_threes_L21, if_pos (nI_le (by omega) (by omega))]
      rfl
    | succ r ih =>
      intro b fuel d e1 e2 e3
      obtain ⟨f, rfl⟩ : ∃ f, fuel = f + 1 := ⟨fuel - 1, by omega⟩
      rw [F_X9_threes_L21, if_neg (nI_ge (by omega) (by omega)), nI_1, J a b e2 (by omega) (nn - (b + 1)) (b + 1) fu d (by omega) (by omega), bd_some, ih (b + 1) f _ (by omega) (by omega) (by omega), sf]
      unfold g3
      congr 2
      omega
  have O : ∀ (r a fuel d : Nat), a + r = nn → r < fuel → F_X9_threes_L9 fu (nI nn) no fuel (nI d) (nI a) = some (nI (d + sf (fun a => sf (g3 nn ro a) (nn - (a + 1)) (a + 1)) r a)) := by
    intro r
    induction r with
    | zero =>
      intro a fuel d e1 e2
      obtain ⟨f, rfl⟩ : ∃ f, fuel = f + 1 := ⟨fuel - 1, by omega⟩
      rw [F_X9_threes_L9, if_pos (nI_le (by omega) (by omega))]
      rfl
    | succ r ih =>
      intro a fuel d e1 e2
      obtain ⟨f, rfl⟩ : ∃ f, fuel = f + 1 := ⟨fuel - 1, by omega⟩
      rw [F_X9_threes_L9, if_neg (nI_ge (by omega) (by omega)), nI_1, I a (by omega) (nn - (a + 1)) (a + 1) fu d (by omega) (by omega) (by omega), bd_some, ih (a + 1) f _ (by omega) (by omega), sf]
      congr 2
      omega
  have := O nn 0 fu 0 (by omega) (by omega)
  rw [Nat.zero_add] at this
  exact this
theorem ok_threes (BK : BKT) {fu : Nat} (hf : 20000 ≤ fu) : OK_threes fu (Rel BK) := by
  intro nn X M hR
  obtain ⟨h1, hn, hmn, hP, hRR, hB⟩ := id hR
  unfold SX_threes SM_threes F_X8_threes F_X9_threes F_X7_countThrees
  obtain ⟨ne2, c1, c2⟩ := X7_findNear (fu := fu) (nn := nn) (ro := xro_ X) (by omega) hn hP.2 (xne_ X)
  rw [hmn, c1, bd_some, X_threes (by omega) hn c2, M_threes (by omega) hn hP]
  exact ⟨_, _, _, rfl, rfl, h1, hn, rfl, hP, hRR, hB⟩

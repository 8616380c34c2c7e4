/-! ===== pure: an order by keys: by laying in, and by counting those ahead ===== -/
def ltk (ky : AI) (a b : Nat) : Prop := (ky a).toInt < (ky b).toInt ∨ ((ky a).toInt = (ky b).toInt ∧ a < b)
theorem ltk_dec (ky : AI) (a b : Nat) : (decide ((ky a).toInt < (ky b).toInt) || (decide ((ky a).toInt = (ky b).toInt) && decide (a < b))) = true ↔ ltk ky a b := by
  unfold ltk
  simp
def ltb (ky : AI) (a b : Nat) : Bool := decide ((ky a).toInt < (ky b).toInt) || (decide ((ky a).toInt = (ky b).toInt) && decide (a < b))
theorem ltb_iff (ky : AI) (a b : Nat) : ltb ky a b = true ↔ ltk ky a b := ltk_dec ky a b
/-- how many stand ahead -/
def rk (ky : AI) (n x : Nat) : Nat := ct (fun o => ltb ky o x) n
theorem ct_sub {p q : Nat → Bool} : ∀ {n : Nat}, (∀ k, k < n → p k = true → q k = true) → ct p n ≤ ct q n
  | 0, _ => Nat.le_refl _
  | n + 1, h => by
    have h1 := ct_sub (n := n) (fun k hk => h k (by omega))
    have h2 := h n (by omega)
    rw [ct_succ, ct_succ]
    by_cases e : p n = true
    · rw [if_pos e, if_pos (h2 e)]; omega
    · rw [if_neg e]; omega
theorem ct_sub1 {p q : Nat → Bool} {x : Nat} : ∀ {n : Nat}, (∀ k, k < n → p k = true → q k = true) → x < n → q x = true → p x = false → ct p n + 1 ≤ ct q n
  | 0, _, hx, _, _ => absurd hx (Nat.not_lt_zero x)
  | n + 1, h, hx, h2, h3 => by
    rw [ct_succ, ct_succ]
    rcases Nat.lt_or_ge x n with e | e
    · have h1 := ct_sub1 (n := n) (fun k hk => h k (by omega)) e h2 h3
      have h4 := h n (by omega)
      by_cases e2 : p n = true
      · rw [if_pos e2, if_pos (h4 e2)]; omega
      · rw [if_neg e2]; omega
    · have : x = n := by omega
      subst this
      have h1 := ct_sub (n := x) (fun k hk => h k (by omega))
      rw [h2, h3, if_pos rfl, if_neg (by decide)]
      omega
theorem rk_lt {ky : AI} {n x y : Nat} (hx : x < n) (h : ltk ky x y) : rk ky n x < rk ky n y := by
  refine ct_sub1 (x := x) (fun k hk e => ?_) hx ((ltb_iff ky x y).mpr h) ?_
  · rw [ltb_iff] at e ⊢
    unfold ltk at *
    omega
  · cases e : ltb ky x x
    · rfl
    · rw [ltb_iff] at e
      unfold ltk at e
      omega
theorem rk_bound {ky : AI} {n x : Nat} (hx : x < n) : rk ky n x < n := by
  have h := ct_sub1 (p := fun o => ltb ky o x) (q := fun _ => true) (x := x) (n := n) (fun _ _ _ => rfl) hx rfl (by
    cases e : ltb ky x x
    · rfl
    · rw [ltb_iff] at e
      unfold ltk at e
      omega)
  have := ct_le (fun _ => true) n
  unfold rk
  omega
/-- a row that rises and stays below n is 0, 1, 2 .. -/
theorem rise_id {n : Nat} {h : Nat → Nat} (hb : ∀ i, i < n → h i < n) (hr : ∀ i j, i < j → j < n → h i < h j) : ∀ i, i < n → h i = i := by
  have h1 : ∀ i, i < n → i ≤ h i := by
    intro i
    induction i with
    | zero => intro _; omega
    | succ i ih =>
      intro hi
      have := ih (by omega)
      have := hr i (i + 1) (by omega) hi
      omega
  have h2 : ∀ d i, i + d + 1 = n → h i ≤ i := by
    intro d
    induction d with
    | zero =>
      intro i hi
      have := hb i (by omega)
      omega
    | succ d ih =>
      intro i hi
      have a := ih (i + 1) (by omega)
      have := hr i (i + 1) (by omega) (by omega)
      omega
  intro i hi
  have a := h1 i hi
  have b := h2 (n - 1 - i) i (by omega)
  omega
def Srt (ky : AI) (m : Nat) (li : AI) : Prop := ∃ e : Nat → Nat, (∀ j, j < m → li j = nI (e j) ∧ e j < m) ∧ ∀ i j, i < j → j < m → ltk ky (e i) (e j)
theorem Srt.place {ky : AI} {n : Nat} {li : AI} (h : Srt ky n li) : ∃ e : Nat → Nat, (∀ j, j < n → li j = nI (e j) ∧ e j < n) ∧ ∀ j, j < n → rk ky n (e j) = j := by
  obtain ⟨e, h1, h2⟩ := h
  exact ⟨e, h1, rise_id (h := fun j => rk ky n (e j)) (fun i hi => rk_bound (h1 i hi).2) (fun i j hij hj => rk_lt (h1 i (by omega)).2 (h2 i j hij hj))⟩
theorem X_layIn {nn m : Nat} {ky : AI} {e : Nat → Nat} (hm : m < nn) (hn : nn ≤ 48) (he : ∀ j, j < m → e j < m) : ∀ (at_ fuel : Nat) (li : AI), at_ ≤ m → at_ < fuel → (∀ j, j < at_ → li j = nI (e j)) → (∀ j, at_ ≤ j → j < m → li (j + 1) = nI (e j) ∧ (ky m).toInt < (ky (e j)).toInt) → ∃ (P : Nat) (li2 : AI), F_X3_layByKeys_L13 nn (nI m) ky fuel (nI at_) li = some (nI P, li2) ∧ P ≤ m ∧ (∀ j, j < P → li2 j = nI (e j)) ∧ (∀ j, P ≤ j → j < m → li2 (j + 1) = nI (e j) ∧ (ky m).toInt < (ky (e j)).toInt) ∧ (P = 0 ∨ (ky (e (P - 1))).toInt ≤ (ky m).toInt) := by
  intro at_
  induction at_ with
  | zero =>
    intro fuel li h1 h2 h3 h4
    obtain ⟨f, rfl⟩ : ∃ f, fuel = f + 1 := ⟨fuel - 1, by omega⟩
    rw [F_X3_layByKeys_L13, if_pos (show nI 0 ≤ 0 from by decide)]
    exact ⟨0, li, rfl, by omega, h3, h4, Or.inl rfl⟩
  | succ k ih =>
    intro fuel li h1 h2 h3 h4
    obtain ⟨f, rfl⟩ : ∃ f, fuel = f + 1 := ⟨fuel - 1, by omega⟩
    have hk := he k (by omega)
    rw [F_X3_layByKeys_L13, if_neg (nI_nle (by omega) (by omega)), if_neg (nI_ge (by omega) (by omega)), nI_pred]
    simp only [ck_t (bn_nI (show k < nn by omega) (show nn < 2 ^ 31 by omega)), ck_t (bn_nI (show k + 1 < nn by omega) (show nn < 2 ^ 31 by omega)), ck_t (show Nat.ble nn 48 = true from Nat.ble_eq_true_of_le hn), clampN (show k < 2 ^ 31 by omega), clampN (show k + 1 < 2 ^ 31 by omega), h3 k (by omega), el_nI (show e k < nn by omega) (show nn < 2 ^ 31 by omega), el_nI hm (show nn < 2 ^ 31 by omega), pk_m1]
    by_cases c : ky (e k) ≤ ky m
    · rw [if_pos c]
      rw [i_le] at c
      exact ⟨k + 1, li, rfl, h1, h3, h4, Or.inr c⟩
    · rw [if_neg c]
      rw [i_le] at c
      refine ih f _ (by omega) (by omega) (fun j hj => ?_) (fun j hj hjm => ?_)
      · rw [upd_n (by omega)]
        exact h3 j (by omega)
      · by_cases ej : j = k
        · subst ej
          rw [upd_s]
          exact ⟨rfl, by omega⟩
        · rw [upd_n (by omega)]
          exact h4 j (by omega) hjm
theorem X_layByKeys {fu nn : Nat} {ky li : AI} (hf : 1000 ≤ fu) (hn : nn ≤ 48) : ∃ li2 : AI, F_X3_layByKeys fu nn li ky = some li2 ∧ Srt ky nn li2 := by
  have L : ∀ (r m fuel : Nat) (li : AI), m + r = nn → r < fuel → Srt ky m li → ∃ li2 : AI, F_X3_layByKeys_L2 fu nn ky fuel (nI m) li = some li2 ∧ Srt ky nn li2 := by
    intro r
    induction r with
    | zero =>
      intro m fuel li e1 e2 e3
      obtain ⟨f, rfl⟩ : ∃ f, fuel = f + 1 := ⟨fuel - 1, by omega⟩
      have : m = nn := by omega
      subst this
      rw [F_X3_layByKeys_L2, if_pos (nI_le (Nat.le_refl _) (by omega))]
      exact ⟨li, rfl, e3⟩
    | succ r ih =>
      intro m fuel li e1 e2 e3
      obtain ⟨f, rfl⟩ : ∃ f, fuel = f + 1 := ⟨fuel - 1, by omega⟩
      obtain ⟨e, a1, a2⟩ := e3
      obtain ⟨P, li2, b1, b2, b3, b4, b5⟩ := X_layIn (nn := nn) (m := m) (ky := ky) (e := e) (by omega) hn (fun j hj => (a1 j hj).2) m fu li (Nat.le_refl _) (by omega) (fun j hj => (a1 j hj).1) (fun j h1 h2 => absurd h1 (by omega))
      rw [F_X3_layByKeys_L2, if_neg (nI_ge (by omega) (by omega)), b1, bd_some, ck_t (bn_nI (show P < nn by omega) (by omega)), clampN (show P < 2 ^ 31 by omega), nI_1]
      refine ih (m + 1) f _ (by omega) (by omega) ⟨fun j => if j < P then e j else if j = P then m else e (j - 1), fun j hj => ?_, fun i j hij hj => ?_⟩
      · show upd li2 P (nI m) j = nI (if j < P then e j else if j = P then m else e (j - 1)) ∧ (if j < P then e j else if j = P then m else e (j - 1)) < m + 1
        rw [upd_if]
        by_cases c1 : j = P
        · rw [if_pos c1, if_neg (show ¬ j < P by omega), if_pos c1]
          exact ⟨rfl, by omega⟩
        · rw [if_neg c1]
          by_cases c2 : j < P
          · rw [if_pos c2]
            have := (a1 j (by omega)).2
            exact ⟨b3 j c2, by omega⟩
          · rw [if_neg c2, if_neg c1]
            have h3 := (b4 (j - 1) (by omega) (by omega)).1
            rw [show j - 1 + 1 = j by omega] at h3
            have := (a1 (j - 1) (by omega)).2
            exact ⟨h3, by omega⟩
      · have low : ∀ i, i < P → ltk ky (e i) m := by
          intro i hi
          have h0 := (a1 i (by omega)).2
          rcases b5 with b5 | b5
          · omega
          · have h1 : (ky (e i)).toInt ≤ (ky (e (P - 1))).toInt := by
              rcases Nat.lt_or_ge i (P - 1) with q | q
              · have := a2 i (P - 1) q (by omega)
                unfold ltk at this
                omega
              · rw [show i = P - 1 by omega]
                exact Int.le_refl _
            unfold ltk
            omega
        have high : ∀ j, P ≤ j → j < m → ltk ky m (e j) := fun j h1 h2 => Or.inl (b4 j h1 h2).2
        show ltk ky (if i < P then e i else if i = P then m else e (i - 1)) (if j < P then e j else if j = P then m else e (j - 1))
        by_cases i1 : i < P
        · rw [if_pos i1]
          by_cases j1 : j < P
          · rw [if_pos j1]
            exact a2 i j hij (by omega)
          · rw [if_neg j1]
            by_cases j2 : j = P
            · rw [if_pos j2]
              exact low i i1
            · rw [if_neg j2]
              exact a2 i (j - 1) (by omega) (by omega)
        · rw [if_neg i1, if_neg (show ¬ j < P by omega), if_neg (show ¬ j = P by omega)]
          by_cases i2 : i = P
          · rw [if_pos i2]
            exact high (j - 1) (by omega) (by omega)
          · rw [if_neg i2]
            exact a2 (i - 1) (j - 1) (by omega) (by omega)
  unfold F_X3_layByKeys
  obtain ⟨li2, h1, h2⟩ := L nn 0 fu li (by omega) (by omega) ⟨fun _ => 0, fun j hj => absurd hj (by omega), fun i j _ hj => absurd hj (by omega)⟩
  exact ⟨li2, by rw [show F_X3_layByKeys_L2 fu nn ky fu 0 li = some li2 from h1]; rfl, h2⟩

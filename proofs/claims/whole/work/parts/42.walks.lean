/-! ===== pure: walks ===== -/
theorem nI_m1 {k : Nat} (h : k < 2 ^ 31) : ¬ nI k = (-1 : Int32) := by
  rw [i_eq, nI_toInt h]
  show ¬ (k : Int) = -1
  omega
/-- a walk under way: those come to (v), their row e, how far they are (D); the i-th is being looked at, up to j -/
def WI (nn : Nat) (A : Nat → Nat → Bool) (a i j m : Nat) (e D : Nat → Nat) (v : Nat → Bool) (maw mro : AI) : Prop :=
  (∀ k, k < m → mro k = nI (e k) ∧ e k < nn ∧ v (e k) = true ∧ D (e k) ≤ k) ∧
  (∀ c, c < nn → maw c = if v c = true then nI (D c) else -1) ∧
  (ct v nn = m) ∧
  (∀ c, c < nn → v c = true → ∃ k, k < m ∧ e k = c) ∧
  (v a = true ∧ D a = 0) ∧
  (∀ c, c < nn → v c = true → c = a ∨ ∃ x, x < nn ∧ v x = true ∧ A x c = true ∧ D c = D x + 1) ∧
  (∀ k, k < i → k < m → ∀ c, c < nn → A (e k) c = true → v c = true ∧ D c ≤ D (e k) + 1) ∧
  (i < m → ∀ c, c < j → c < nn → A (e i) c = true → v c = true ∧ D c ≤ D (e i) + 1) ∧
  (∀ k l, k ≤ l → l < m → D (e k) ≤ D (e l)) ∧
  (i < m → ∀ k, k < m → D (e k) ≤ D (e i) + 1)
theorem WI_add {nn : Nat} {A : Nat → Nat → Bool} {a i j m : Nat} {e D : Nat → Nat} {v : Nat → Bool} {maw mro : AI} (h : WI nn A a i j m e D v maw mro) (hi : i < m) (hj : j < nn) (hv : v j = false) (hA : A (e i) j = true) : m < nn ∧ WI nn A a i (j + 1) (m + 1) (fun k => if k = m then j else e k) (fun c => if c = j then D (e i) + 1 else D c) (fun c => v c || decide (c = j)) (upd maw j (nI (D (e i) + 1))) (upd mro m (nI j)) := by
  obtain ⟨h1, h2, h3, h4, h5, h6, h7, h8, h9, h10⟩ := h
  have hne : ∀ c, v c = true → c ≠ j := fun c hc q => by rw [q, hv] at hc; cases hc
  have hek : ∀ k, k < m → e k ≠ j := fun k hk => hne _ (h1 k hk).2.2.1
  have hml := ct_lt hj hv
  have hv2 : ∀ c, (v c || decide (c = j)) = true ↔ (v c = true ∨ c = j) := fun c => by simp
  have hi1 := h1 i hi
  have ei : ∀ k, k < m → (if k = m then j else e k) = e k := fun k hk => if_neg (by omega)
  have di : ∀ c, v c = true → (if c = j then D (e i) + 1 else D c) = D c := fun c hc => if_neg (hne c hc)
  refine ⟨by omega, ?_, ?_, ?_, ?_, ?_, ?_, ?_, ?_, ?_, ?_⟩
  · intro k hk
    dsimp only
    by_cases q : k = m
    · rw [q, if_pos rfl, upd_s, if_pos rfl]
      exact ⟨rfl, hj, by simp, by omega⟩
    · have hk1 := h1 k (by omega)
      rw [if_neg q, upd_n q, di _ hk1.2.2.1]
      exact ⟨hk1.1, hk1.2.1, (hv2 _).mpr (Or.inl hk1.2.2.1), hk1.2.2.2⟩
  · intro c hc
    dsimp only
    rw [upd_if]
    by_cases q : c = j
    · rw [if_pos q, if_pos ((hv2 c).mpr (Or.inr q)), if_pos q]
    · rw [if_neg q, if_neg q, h2 c hc]
      simp [q]
  · rw [ct_set hj hv, h3]
  · intro c hc hvc
    dsimp only
    rcases (hv2 c).mp hvc with q | q
    · obtain ⟨k, a1, a2⟩ := h4 c hc q
      exact ⟨k, by omega, by rw [ei k a1, a2]⟩
    · exact ⟨m, by omega, by rw [if_pos rfl, q]⟩
  · dsimp only
    exact ⟨(hv2 a).mpr (Or.inl h5.1), by rw [di a h5.1]; exact h5.2⟩
  · intro c hc hvc
    dsimp only
    rcases (hv2 c).mp hvc with q | q
    · rcases h6 c hc q with r | ⟨x, b1, b2, b3, b4⟩
      · exact Or.inl r
      · exact Or.inr ⟨x, b1, (hv2 x).mpr (Or.inl b2), b3, by rw [di c q, di x b2]; exact b4⟩
    · refine Or.inr ⟨e i, hi1.2.1, (hv2 _).mpr (Or.inl hi1.2.2.1), by rw [q]; exact hA, ?_⟩
      rw [if_pos q, di _ hi1.2.2.1]
  · intro k hk hkm c hc hAc
    have hkm2 : k < m := by omega
    dsimp only at hAc ⊢
    rw [ei k hkm2] at hAc ⊢
    obtain ⟨b1, b2⟩ := h7 k hk hkm2 c hc hAc
    rw [di c b1, di _ (h1 k hkm2).2.2.1]
    exact ⟨(hv2 c).mpr (Or.inl b1), b2⟩
  · intro _ c hcj hc hAc
    dsimp only at hAc ⊢
    rw [ei i hi] at hAc ⊢
    rw [di _ hi1.2.2.1]
    by_cases q : c = j
    · rw [if_pos q]
      exact ⟨(hv2 c).mpr (Or.inr q), Nat.le_refl _⟩
    · obtain ⟨b1, b2⟩ := h8 hi c (by omega) hc hAc
      rw [if_neg q]
      exact ⟨(hv2 c).mpr (Or.inl b1), b2⟩
  · intro k l hkl hl
    dsimp only
    by_cases q : l = m
    · rw [if_pos q, if_pos rfl]
      by_cases r : k = m
      · rw [if_pos r, if_pos rfl]
        exact Nat.le_refl _
      · rw [if_neg r, di _ (h1 k (by omega)).2.2.1]
        exact h10 hi k (by omega)
    · rw [if_neg q, if_neg (show ¬ k = m by omega), di _ (h1 k (by omega)).2.2.1, di _ (h1 l (by omega)).2.2.1]
      exact h9 k l hkl (by omega)
  · intro _ k hk
    dsimp only
    rw [ei i hi, di _ hi1.2.2.1]
    by_cases r : k = m
    · rw [if_pos r, if_pos rfl]
      exact Nat.le_refl _
    · rw [if_neg r, di _ (h1 k (by omega)).2.2.1]
      exact h10 hi k (by omega)
theorem WI_skip {nn : Nat} {A : Nat → Nat → Bool} {a i j m : Nat} {e D : Nat → Nat} {v : Nat → Bool} {maw mro : AI} (h : WI nn A a i j m e D v maw mro) (hi : i < m) (hj : j < nn) (hs : v j = true ∨ A (e i) j = false) : WI nn A a i (j + 1) m e D v maw mro := by
  obtain ⟨h1, h2, h3, h4, h5, h6, h7, h8, h9, h10⟩ := h
  refine ⟨h1, h2, h3, h4, h5, h6, h7, fun hi c hcj hc hAc => ?_, h9, h10⟩
  by_cases q : c = j
  · rcases hs with r | r
    · obtain ⟨k, a1, a2⟩ := h4 c hc (by rw [q]; exact r)
      refine ⟨by rw [q]; exact r, ?_⟩
      rw [← a2]
      exact h10 hi k a1
    · rw [q, r] at hAc
      cases hAc
  · exact h8 hi c (by omega) hc hAc
theorem WI_next {nn : Nat} {A : Nat → Nat → Bool} {a i m : Nat} {e D : Nat → Nat} {v : Nat → Bool} {maw mro : AI} (h : WI nn A a i nn m e D v maw mro) (hi : i < m) : WI nn A a (i + 1) 0 m e D v maw mro := by
  obtain ⟨h1, h2, h3, h4, h5, h6, h7, h8, h9, h10⟩ := h
  refine ⟨h1, h2, h3, h4, h5, h6, fun k hk hkm c hc hAc => ?_, fun _ c hc => absurd hc (by omega), h9, fun hi2 k hk => ?_⟩
  · by_cases q : k = i
    · rw [q] at hAc ⊢
      exact h8 hi c hc hc hAc
    · exact h7 k (by omega) hkm c hc hAc
  · have a1 := h10 hi k hk
    have a2 := h9 i (i + 1) (by omega) hi2
    omega
theorem M_walk_in {fu nn a i : Nat} {x2 : Int32} {ro : AJ} {no : AI} {A : Nat → Nat → Bool} (hn : nn ≤ 48) (h : RP nn ro no) (hA : ∀ x b, A x b = (bt (ro x) b || (decide (x2 ≠ 0) && bt (ro b) x))) : ∀ (r j f m : Nat) (e D : Nat → Nat) (v : Nat → Bool) (maw mro : AI), j + r = nn → r < f → i < m → WI nn A a i j m e D v maw mro → ∃ (m2 : Nat) (e2 D2 : Nat → Nat) (v2 : Nat → Bool) (maw2 mro2 : AI), F_X9_walk_L51 x2 (nI i) (nI nn) no f (nI m) (nI j) maw mro = some (nI m2, maw2, mro2) ∧ m ≤ m2 ∧ WI nn A a i nn m2 e2 D2 v2 maw2 mro2 := by
  intro r
  induction r with
  | zero =>
    intro j f m e D v maw mro e1 e2 hi hW
    obtain ⟨f, rfl⟩ : ∃ g, f = g + 1 := ⟨f - 1, by omega⟩
    rw [F_X9_walk_L51, if_pos (nI_le (by omega) (by omega))]
    rw [show j = nn by omega] at hW
    exact ⟨m, e, D, v, maw, mro, rfl, Nat.le_refl _, hW⟩
  | succ r ih =>
    intro j f m e D v maw mro e1 e2 hi hW
    obtain ⟨f, rfl⟩ : ∃ g, f = g + 1 := ⟨f - 1, by omega⟩
    have hj : j < nn := by omega
    have hm : m ≤ nn := by have := ct_le v nn; have := hW.2.2.1; omega
    obtain ⟨q1, q2, q3, q4⟩ := hW.1 i hi
    have skip := fun hs => ih (j + 1) f m e D v maw mro (by omega) (by omega) hi (WI_skip hW hi hj hs)
    have stp : (v j = true ∨ A (e i) j = false) → ∃ (m2 : Nat) (e2 D2 : Nat → Nat) (v2 : Nat → Bool) (maw2 mro2 : AI), F_X9_walk_L51 x2 (nI i) (nI nn) no f (nI m) (nI j + 1) maw mro = some (nI m2, maw2, mro2) ∧ m ≤ m2 ∧ WI nn A a i nn m2 e2 D2 v2 maw2 mro2 := by
      intro hs
      rw [nI_1]
      exact skip hs
    rw [F_X9_walk_L51, if_neg (nI_ge hj (by omega)), ck_t (bn_nI (show j < 48 by omega) (by decide)), clampN (show j < 2 ^ 31 by omega)]
    cases hv : v j
    · have hml := ct_lt hj hv
      have hm2 : m < nn := by have := hW.2.2.1; omega
      have add : A (e i) j = true → ∃ (m2 : Nat) (e2 D2 : Nat → Nat) (v2 : Nat → Bool) (maw2 mro2 : AI), F_X9_walk_L51 x2 (nI i) (nI nn) no f (nI m + 1) (nI j + 1) (upd maw j (maw (e i) + 1)) (upd mro m (nI j)) = some (nI m2, maw2, mro2) ∧ m ≤ m2 ∧ WI nn A a i nn m2 e2 D2 v2 maw2 mro2 := by
        intro hAt
        have W2 := (WI_add hW hi hj hv hAt).2
        rw [nI_1, nI_1, hW.2.1 (e i) q2, if_pos q3, nI_1]
        obtain ⟨m2, e2, D2, v2, maw2, mro2, b1, b2, b3⟩ := ih (j + 1) f (m + 1) _ _ _ _ _ (by omega) (by omega) (by omega) W2
        exact ⟨m2, e2, D2, v2, maw2, mro2, b1, by omega, b3⟩
      rw [if_pos (by rw [hW.2.1 j hj, hv]; rfl)]
      simp only [ck_t (bn_nI (show i < 48 by omega) (show 48 < 2 ^ 31 by decide)), ck_t (bn_nI (show j < 48 by omega) (show 48 < 2 ^ 31 by decide)), ck_t (bn_nI (show m < 48 by omega) (show 48 < 2 ^ 31 by decide)), clampN (show i < 2 ^ 31 by omega), clampN (show m < 2 ^ 31 by omega), q1, ix48, ck_t (bn_nI (show 48 * e i + j < 2304 by omega) (show 2304 < 2 ^ 31 by decide)), ck_t (bn_nI (show 48 * j + e i < 2304 by omega) (show 2304 < 2 ^ 31 by decide)), ck_t (bn_nI (show e i < 48 by omega) (show 48 < 2 ^ 31 by decide)), clampN (show 48 * e i + j < 2 ^ 31 by omega), clampN (show 48 * j + e i < 2 ^ 31 by omega), clampN (show e i < 2 ^ 31 by omega), h.1 (e i) q2 j hj, h.1 j hj (e i) q2, if10']
      have hAij := hA (e i) j
      cases c1 : bt (ro (e i)) j
      · rw [if_neg (by decide)]
        by_cases c2 : x2 = 0
        · rw [if_pos c2]
          exact stp (Or.inr (by rw [hAij, c1, c2]; rfl))
        · rw [if_neg c2]
          cases c3 : bt (ro j) (e i)
          · rw [if_neg (by decide)]
            exact stp (Or.inr (by rw [hAij, c1, c3]; simp))
          · rw [if_pos rfl]
            exact add (by rw [hAij, c1, c3]; simp [c2])
      · rw [if_pos rfl]
        exact add (by rw [hAij, c1]; rfl)
    · rw [if_neg (by rw [hW.2.1 j hj, if_pos hv]; exact nI_m1 (by
        obtain ⟨k, a1, a2⟩ := hW.2.2.2.1 j hj hv
        have := (hW.1 k a1).2.2.2
        rw [a2] at this
        omega))]
      exact stp (Or.inl hv)
/-- a walk that is done -/
def WD (nn : Nat) (A : Nat → Nat → Bool) (a m : Nat) (e D : Nat → Nat) (v : Nat → Bool) (maw mro : AI) : Prop :=
  (∀ k, k < m → mro k = nI (e k) ∧ e k < nn ∧ v (e k) = true) ∧
  (∀ c, c < nn → maw c = if v c = true then nI (D c) else -1) ∧
  (ct v nn = m) ∧
  (∀ c, c < nn → v c = true → (∃ k, k < m ∧ e k = c) ∧ D c < nn) ∧
  (v a = true ∧ D a = 0) ∧
  (∀ c, c < nn → v c = true → c = a ∨ ∃ x, x < nn ∧ v x = true ∧ A x c = true ∧ D c = D x + 1) ∧
  (∀ x, x < nn → v x = true → ∀ c, c < nn → A x c = true → v c = true ∧ D c ≤ D x + 1)
theorem M_walk_out {fu nn a : Nat} {x2 : Int32} {ro : AJ} {no : AI} {A : Nat → Nat → Bool} (hf : 1000 ≤ fu) (hn : nn ≤ 48) (h : RP nn ro no) (hA : ∀ x b, A x b = (bt (ro x) b || (decide (x2 ≠ 0) && bt (ro b) x))) : ∀ (r i f m : Nat) (e D : Nat → Nat) (v : Nat → Bool) (maw mro : AI), i + r = nn → r < f → i ≤ m → WI nn A a i 0 m e D v maw mro → ∃ (m2 : Nat) (e2 D2 : Nat → Nat) (v2 : Nat → Bool) (maw2 mro2 : AI), F_X9_walk_L42 fu x2 (nI nn) no f (nI m) (nI i) maw mro = some (nI m2, maw2, mro2) ∧ WD nn A a m2 e2 D2 v2 maw2 mro2 := by
  intro r
  induction r with
  | zero =>
    intro i f m e D v maw mro e1 e2 hi hW
    obtain ⟨f, rfl⟩ : ∃ g, f = g + 1 := ⟨f - 1, by omega⟩
    obtain ⟨h1, h2, h3, h4, h5, h6, h7, h8, h9, h10⟩ := hW
    have hm : m ≤ nn := by have := ct_le v nn; omega
    rw [F_X9_walk_L42, if_pos (nI_le (by omega) (by omega))]
    refine ⟨m, e, D, v, maw, mro, rfl, fun k hk => ⟨(h1 k hk).1, (h1 k hk).2.1, (h1 k hk).2.2.1⟩, h2, h3, fun c hc hv => ?_, h5, h6, fun x hx hv c hc hAc => ?_⟩
    · obtain ⟨k, a1, a2⟩ := h4 c hc hv
      have := (h1 k a1).2.2.2
      rw [a2] at this
      exact ⟨⟨k, a1, a2⟩, by omega⟩
    · obtain ⟨k, a1, a2⟩ := h4 x hx hv
      rw [← a2] at hAc ⊢
      exact h7 k (by omega) a1 c hc hAc
  | succ r ih =>
    intro i f m e D v maw mro e1 e2 hi hW
    obtain ⟨f, rfl⟩ : ∃ g, f = g + 1 := ⟨f - 1, by omega⟩
    have hm : m ≤ nn := by have := ct_le v nn; have := hW.2.2.1; omega
    by_cases c : m ≤ i
    · obtain ⟨h1, h2, h3, h4, h5, h6, h7, h8, h9, h10⟩ := hW
      rw [F_X9_walk_L42, if_pos (nI_le c (by omega))]
      refine ⟨m, e, D, v, maw, mro, rfl, fun k hk => ⟨(h1 k hk).1, (h1 k hk).2.1, (h1 k hk).2.2.1⟩, h2, h3, fun c hc hv => ?_, h5, h6, fun x hx hv c hc hAc => ?_⟩
      · obtain ⟨k, a1, a2⟩ := h4 c hc hv
        have := (h1 k a1).2.2.2
        rw [a2] at this
        exact ⟨⟨k, a1, a2⟩, by omega⟩
      · obtain ⟨k, a1, a2⟩ := h4 x hx hv
        rw [← a2] at hAc ⊢
        exact h7 k (by omega) a1 c hc hAc
    · obtain ⟨m2, e2, D2, v2, maw2, mro2, b1, b2, b3⟩ := M_walk_in (fu := fu) hn h hA nn 0 fu m e D v maw mro (by omega) (by omega) (show i < m by omega) hW
      rw [F_X9_walk_L42, if_neg (nI_ge (by omega) (by omega)), show (0 : Int32) = nI 0 from rfl, b1, bd_some, nI_1]
      exact ih (i + 1) f m2 e2 D2 v2 maw2 mro2 (by omega) (by omega) (by omega) (WI_next b3 (by omega))
theorem M_walk {fu nn a : Nat} {x2 : Int32} {ro : AJ} {no : AI} {A : Nat → Nat → Bool} {maw mro : AI} (hf : 1000 ≤ fu) (ha : a < nn) (hn : nn ≤ 48) (h : RP nn ro no) (hA : ∀ x b, A x b = (bt (ro x) b || (decide (x2 ≠ 0) && bt (ro b) x))) : ∃ (m2 : Nat) (e2 D2 : Nat → Nat) (v2 : Nat → Bool) (maw2 mro2 : AI), F_X9_walk fu (nI a) x2 (nI nn) maw mro no = some (nI m2, maw2, mro2) ∧ WD nn A a m2 e2 D2 v2 maw2 mro2 := by
  have z : ∃ aw0 : AI, F_X9_walk_L2 (nI a) x2 (nI nn) fu 0 maw = some aw0 ∧ ∀ b, b < nn → aw0 b = -1 := by
    refine fwd nn (fun f j (s : AI) => F_X9_walk_L2 (nI a) x2 (nI nn) f (nI j) s) (fun j s => ∀ b, b < j → s b = -1) (fun s => ∀ b, b < nn → s b = -1) (fun f s hs => ?_) (fun f j s hj hs => Or.inl ?_) nn 0 fu maw (by omega) (by omega) (fun b hb => absurd hb (by omega))
    · exact ⟨s, by rw [F_X9_walk_L2, if_pos (nI_le (by omega) (by omega))], hs⟩
    · refine ⟨_, by rw [F_X9_walk_L2, if_neg (nI_ge hj (by omega)), ck_t (bn_nI (show j < 48 by omega) (by decide)), clampN (by omega), nI_1], fun b hb => ?_⟩
      rw [upd_if]
      by_cases e : b = j
      · rw [if_pos e]
      · rw [if_neg e]
        exact hs b (by omega)
  obtain ⟨aw0, z1, z2⟩ := z
  have W0 : WI nn A a 0 0 1 (fun _ => a) (fun _ => 0) (fun c => decide (c = a)) (upd aw0 a 0) (upd mro 0 (nI a)) := by
    refine ⟨fun k hk => ?_, fun c hc => ?_, ?_, fun c hc hv => ?_, ⟨by simp, rfl⟩, fun c hc hv => ?_, fun k hk => absurd hk (by omega), fun _ c hc => absurd hc (by omega), fun _ _ _ _ => Nat.le_refl _, fun _ _ _ => Nat.zero_le _⟩
    · rw [show k = 0 by omega, upd_s]
      exact ⟨rfl, ha, by simp, Nat.le_refl _⟩
    · rw [upd_if]
      by_cases q : c = a
      · rw [if_pos q, if_pos (by simp [q])]
        rfl
      · rw [if_neg q, if_neg (by simp [q]), z2 c hc]
    · have := ct_set (p := fun _ => false) ha rfl
      rw [ct_none (fun _ _ => rfl)] at this
      simpa using this
    · exact ⟨0, by omega, (of_decide_eq_true hv).symm⟩
    · exact Or.inl (by simpa using hv)
  obtain ⟨m2, e2, D2, v2, maw2, mro2, b1, b2⟩ := M_walk_out (fu := fu) hf hn h hA nn 0 fu 1 _ _ _ _ _ (by omega) (by omega) (by omega) W0
  unfold F_X9_walk
  rw [z1, bd_some, ck_t (show bn (0 : Int32) 48 = true from bn_nI (k := 0) (by decide) (by decide)), ck_t (bn_nI (show a < 48 by omega) (by decide)), clampN (show a < 2 ^ 31 by omega)]
  rw [show (0 : Int32).toNatClampNeg = 0 from rfl, show F_X9_walk_L42 fu x2 (nI nn) no fu 1 0 (upd aw0 a 0) (upd mro 0 (nI a)) = _ from b1, bd_some]
  exact ⟨m2, e2, D2, v2, maw2, mro2, rfl, b2⟩

/-! ===== pure: loops that go up; the order by layers ===== -/
theorem fwd {α β : Type} (nn : Nat) (L : Nat → Nat → α → Option β) (I : Nat → α → Prop) (Q : β → Prop) (he : ∀ f s, I nn s → ∃ o, L (f + 1) nn s = some o ∧ Q o) (hs : ∀ f j s, j < nn → I j s → (∃ s2, L (f + 1) j s = L f (j + 1) s2 ∧ I (j + 1) s2) ∨ ∃ o, L (f + 1) j s = some o ∧ Q o) : ∀ (r j fuel : Nat) (s : α), j + r = nn → r < fuel → I j s → ∃ o, L fuel j s = some o ∧ Q o := by
  intro r
  induction r with
  | zero =>
    intro j fuel s e1 e2 e3
    obtain ⟨f, rfl⟩ : ∃ f, fuel = f + 1 := ⟨fuel - 1, by omega⟩
    have : j = nn := by omega
    subst this
    exact he f s e3
  | succ r ih =>
    intro j fuel s e1 e2 e3
    obtain ⟨f, rfl⟩ : ∃ f, fuel = f + 1 := ⟨fuel - 1, by omega⟩
    rcases hs f j s (by omega) e3 with ⟨s2, a, b⟩ | h
    · rw [a]
      exact ih (j + 1) f s2 (by omega) (by omega) b
    · exact h
theorem ct_lt {p : Nat → Bool} {n x : Nat} (hx : x < n) (h : p x = false) : ct p n < n := by
  have h1 := ct_sub1 (p := p) (q := fun _ => true) (x := x) (n := n) (fun _ _ _ => rfl) hx rfl h
  have := ct_le (fun _ => true) n
  omega
theorem ct_set {p : Nat → Bool} {n x : Nat} (hx : x < n) (h : p x = false) : ct (fun c => p c || decide (c = x)) n = ct p n + 1 := by
  have := ct_flip (p := fun c => p c || decide (c = x)) (q := p) (i := x) (by simp [h]) (fun k hk => by simp [hk]) hx
  simp [h] at this
  omega
/-- what both have laid: m of them, those in t -/
def LI (nn m : Nat) (li pl mit : AI) (t : Nat → Bool) : Prop := (∀ k, k < m → li k = pl k ∧ ∃ e, e < nn ∧ li k = nI e) ∧ (∀ b, b < nn → mit b = if t b = true then 1 else 0) ∧ ct t nn = m
theorem LI_add {nn m b : Nat} {li pl mit : AI} {t : Nat → Bool} (h : LI nn m li pl mit t) (hb : b < nn) (ht : t b = false) : m < nn ∧ LI nn (m + 1) (upd li m (nI b)) (upd pl m (nI b)) (upd mit b (vp_nar .boolean (1 : Int32))) (fun c => t c || decide (c = b)) := by
  obtain ⟨h1, h2, h3⟩ := h
  refine ⟨by have := ct_lt hb ht; omega, fun k hk => ?_, fun c hc => ?_, ?_⟩
  · rw [upd_if, upd_if]
    by_cases e : k = m
    · rw [if_pos e, if_pos e]
      exact ⟨rfl, b, hb, rfl⟩
    · rw [if_neg e, if_neg e]
      exact h1 k (by omega)
  · rw [upd_if]
    by_cases e : c = b
    · rw [if_pos e, if_pos (by simp [e])]
      rfl
    · rw [if_neg e, h2 c hc]
      simp [e]
  · rw [ct_set hb ht, h3]
theorem X_idle {nn m : Nat} {x2 come : Int64} {x5 : Int32} (hn : nn ≤ 48) (hm : m < 100) : ∀ (r j fuel : Nat) (li : AI), j + r = 48 → r < fuel → (∀ c, j ≤ c → m < nn → bt come c = false) → F_X3_layLayers_L78 nn x2 x5 come fuel (nI m) (nI j) li = some (nI m, li) := by
  intro r
  induction r with
  | zero =>
    intro j fuel li e1 e2 e3
    obtain ⟨f, rfl⟩ : ∃ f, fuel = f + 1 := ⟨fuel - 1, by omega⟩
    rw [F_X3_layLayers_L78, if_pos (by rw [show (48 : Int32) = nI 48 from rfl]; exact nI_le (by omega) (by omega))]
  | succ r ih =>
    intro j fuel li e1 e2 e3
    obtain ⟨f, rfl⟩ : ∃ f, fuel = f + 1 := ⟨fuel - 1, by omega⟩
    rw [F_X3_layLayers_L78, if_neg (by rw [show (48 : Int32) = nI 48 from rfl]; exact nI_ge (by omega) (by decide))]
    by_cases c : nn ≤ m
    · rw [if_pos (nI_le c (by omega))]
    · rw [if_neg (nI_ge (by omega) (by omega)), X8_isIn _ _ (by omega), bd_some, if10', e3 j (Nat.le_refl _) (by omega), if_neg (by simp), nI_1]
      exact ih (j + 1) f li (by omega) (by omega) (fun c hc => e3 c (by omega))
theorem lay_in {nn x i : Nat} {row come x2 : Int64} {no : AI} (hn : nn ≤ 48) (hx : x < nn) (hi : i < nn) (hrow : ∀ b, b < nn → no (48 * x + b) = if bt row b = true then 1 else 0) (hc0 : ∀ b, nn ≤ b → bt come b = false) : ∀ (r j fX fM m : Nat) (li pl mit : AI) (t : Nat → Bool), j + r = nn → 48 < fX + j → nn < fM + j → i < m → pl i = nI x → LI nn m li pl mit t → (∀ c, j ≤ c → c < nn → bt come c = (bt row c && !t c)) → ∃ (m' : Nat) (li' pl' mit' : AI) (t' : Nat → Bool), F_X3_layLayers_L78 nn x2 (nI i) come fX (nI m) (nI j) li = some (nI m', li') ∧ F_X9_orderLayers_L76 (nI i) (nI nn) no fM (nI m) (nI j) pl mit = some (nI m', pl', mit') ∧ LI nn m' li' pl' mit' t' ∧ m ≤ m' ∧ ∀ c, c < nn → t' c = (t c || (decide (j ≤ c) && bt row c)) := by
  intro r
  induction r with
  | zero =>
    intro j fX fM m li pl mit t e1 e2 e3 e4 e5 e6 e7
    have hm : m ≤ nn := by have := ct_le t nn; have := e6.2.2; omega
    refine ⟨m, li, pl, mit, t, X_idle hn (by omega) (48 - j) j fX li (by omega) (by omega) (fun c hc _ => hc0 c (by omega)), ?_, e6, Nat.le_refl _, fun c hc => by rw [show decide (j ≤ c) = false from decide_eq_false (by omega)]; simp⟩
    obtain ⟨f, rfl⟩ : ∃ f, fM = f + 1 := ⟨fM - 1, by omega⟩
    rw [F_X9_orderLayers_L76, if_pos (nI_le (by omega) (by omega))]
  | succ r ih =>
    intro j fX fM m li pl mit t e1 e2 e3 e4 e5 e6 e7
    have hm : m ≤ nn := by have := ct_le t nn; have := e6.2.2; omega
    have eM : ∀ f, F_X9_orderLayers_L76 (nI i) (nI nn) no (f + 1) (nI m) (nI j) pl mit = (if bt row j = true then (if t j = true then F_X9_orderLayers_L76 (nI i) (nI nn) no f (nI m) (nI (j + 1)) pl mit else ck (bn (nI m) 48) (F_X9_orderLayers_L76 (nI i) (nI nn) no f (nI (m + 1)) (nI (j + 1)) (upd pl m (nI j)) (upd mit j (vp_nar .boolean (1 : Int32))))) else F_X9_orderLayers_L76 (nI i) (nI nn) no f (nI m) (nI (j + 1)) pl mit) := by
      intro f
      rw [F_X9_orderLayers_L76, if_neg (nI_ge (by omega) (by omega)), ck_t (bn_nI (by omega) (by decide)), clampN (show i < 2 ^ 31 by omega), e5, ix48, ck_t (bn_nI (by omega) (by decide)), clampN (show 48 * x + j < 2 ^ 31 by omega), hrow j (by omega), if10', ck_t (bn_nI (by omega) (by decide)), clampN (show j < 2 ^ 31 by omega), e6.2.1 j (by omega), if10', ck_t (bn_nI (show j < 48 by omega) (by decide)), nI_1, nI_1, clampN (show m < 2 ^ 31 by omega)]
    obtain ⟨g, rfl⟩ : ∃ g, fM = g + 1 := ⟨fM - 1, by omega⟩
    rw [eM]
    by_cases full : m = nn
    · have ht : ∀ c, c < nn → t c = true := by
        intro c hc
        cases e : t c
        · have := ct_lt hc e; have := e6.2.2; omega
        · rfl
      have idle : ∀ (r j f : Nat), j + r = nn → r < f → F_X9_orderLayers_L76 (nI i) (nI nn) no f (nI m) (nI j) pl mit = some (nI m, pl, mit) := by
        intro r
        induction r with
        | zero =>
          intro j f a1 a2
          obtain ⟨f, rfl⟩ : ∃ g, f = g + 1 := ⟨f - 1, by omega⟩
          rw [F_X9_orderLayers_L76, if_pos (nI_le (by omega) (by omega))]
        | succ r ih =>
          intro j f a1 a2
          obtain ⟨f, rfl⟩ : ∃ g, f = g + 1 := ⟨f - 1, by omega⟩
          rw [F_X9_orderLayers_L76, if_neg (nI_ge (by omega) (by omega)), ck_t (bn_nI (by omega) (by decide)), clampN (show i < 2 ^ 31 by omega), e5, ix48, ck_t (bn_nI (by omega) (by decide)), clampN (show 48 * x + j < 2 ^ 31 by omega), hrow j (by omega), if10', ck_t (bn_nI (by omega) (by decide)), clampN (show j < 2 ^ 31 by omega), e6.2.1 j (by omega), if10', if_pos (ht j (by omega)), nI_1, ih (j + 1) f (by omega) (by omega), ite_self]
      refine ⟨m, li, pl, mit, t, X_idle hn (by omega) (48 - j) j fX li (by omega) (by omega) (fun c hc h => absurd h (by omega)), ?_, e6, Nat.le_refl _, fun c hc => by rw [ht c hc]; rfl⟩
      rw [if_pos (ht j (by omega)), idle r (j + 1) g (by omega) (by omega), ite_self]
    · obtain ⟨f, rfl⟩ : ∃ f, fX = f + 1 := ⟨fX - 1, by omega⟩
      rw [F_X3_layLayers_L78, if_neg (by rw [show (48 : Int32) = nI 48 from rfl]; exact nI_ge (by omega) (by decide)), if_neg (nI_ge (by omega) (by omega)), X8_isIn _ _ (by omega), bd_some, if10', ck_t (bn_nI (by omega) (by omega)), ck_t (bn_nI (show m < 48 by omega) (by decide)), nI_1, nI_1, clampN (show m < 2 ^ 31 by omega), e7 j (Nat.le_refl _) (by omega)]
      cases er : bt row j
      · rw [if_neg (by simp), if_neg (by decide)]
        obtain ⟨m', li', pl', mit', t', a1, a2, a3, a4, a5⟩ := ih (j + 1) f g m li pl mit t (by omega) (by omega) (by omega) e4 e5 e6 (fun c hc hcn => e7 c (by omega) hcn)
        refine ⟨m', li', pl', mit', t', a1, a2, a3, a4, fun c hc => ?_⟩
        rw [a5 c hc]
        by_cases q : c = j
        · rw [q, er]; simp
        · rw [show decide (j + 1 ≤ c) = decide (j ≤ c) from by apply decide_eq_decide.mpr; omega]
      · cases et : t j
        · obtain ⟨b1, b2⟩ := LI_add e6 (show j < nn by omega) et
          rw [if_pos ⟨by omega, rfl⟩, if_pos rfl, if_neg (by decide)]
          obtain ⟨m', li', pl', mit', t', a1, a2, a3, a4, a5⟩ := ih (j + 1) f g (m + 1) _ (upd pl m (nI j)) _ _ (by omega) (by omega) (by omega) (by omega) (by rw [upd_n (by omega)]; exact e5) b2 (fun c hc hcn => by rw [e7 c (by omega) hcn, show decide (c = j) = false from decide_eq_false (by omega), Bool.or_false])
          refine ⟨m', li', pl', mit', t', a1, a2, a3, by omega, fun c hc => ?_⟩
          rw [a5 c hc]
          by_cases q : c = j
          · rw [q, er]; simp
          · rw [show decide (j + 1 ≤ c) = decide (j ≤ c) from by apply decide_eq_decide.mpr; omega, show decide (c = j) = false from decide_eq_false q, Bool.or_false]
        · rw [if_neg (by simp), if_pos rfl, if_pos rfl]
          obtain ⟨m', li', pl', mit', t', a1, a2, a3, a4, a5⟩ := ih (j + 1) f g m li pl mit t (by omega) (by omega) (by omega) e4 e5 e6 (fun c hc hcn => e7 c (by omega) hcn)
          refine ⟨m', li', pl', mit', t', a1, a2, a3, a4, fun c hc => ?_⟩
          rw [a5 c hc]
          by_cases q : c = j
          · rw [q, et]; simp
          · rw [show decide (j + 1 ≤ c) = decide (j ≤ c) from by apply decide_eq_decide.mpr; omega]
theorem ffr_first {p : Nat → Bool} : ∀ {r j k : Nat}, j ≤ k → k < j + r → p k = true → (∀ c, j ≤ c → c < k → p c = false) → ffr p r j = nI k
  | 0, j, k, h1, h2, _, _ => absurd h2 (by omega)
  | r + 1, j, k, h1, h2, h3, h4 => by
    rw [ffr]
    by_cases e : j = k
    · subst e
      rw [if_pos h3]
    · rw [if_neg (by rw [h4 j (Nat.le_refl _) (by omega)]; decide)]
      exact ffr_first (by omega) (by omega) h3 (fun c hc hk => h4 c (by omega) hk)
theorem least_not {t : Nat → Bool} : ∀ n : Nat, ct t n < n → ∃ k, k < n ∧ t k = false ∧ ∀ c, c < k → t c = true
  | 0, h => absurd h (by omega)
  | n + 1, h => by
    by_cases e : ct t n < n
    · obtain ⟨k, a, b, c⟩ := least_not n e
      exact ⟨k, by omega, b, c⟩
    · have hall : ∀ c, c < n → t c = true := by
        intro c hc
        cases q : t c
        · have := ct_lt hc q; omega
        · rfl
      refine ⟨n, by omega, ?_, hall⟩
      cases q : t n
      · rfl
      · rw [ct_succ, q, if_pos rfl] at h
        omega
theorem M_least {x1 x2 : Int32} {nn k : Nat} {mit : AI} {t : Nat → Bool} (hn : nn ≤ 48) (hk : k < nn) (h : ∀ b, b < nn → mit b = if t b = true then 1 else 0) (h1 : t k = false) (h2 : ∀ c, c < k → t c = true) : ∀ (r j fuel : Nat), j + r = k → r < fuel → F_X9_orderLayers_L42 x1 x2 mit fuel (nI j) = some (nI k) := by
  intro r
  induction r with
  | zero =>
    intro j fuel e1 e2
    obtain ⟨f, rfl⟩ : ∃ f, fuel = f + 1 := ⟨fuel - 1, by omega⟩
    have : j = k := by omega
    subst this
    rw [F_X9_orderLayers_L42, ck_t (bn_nI (by omega) (by decide)), clampN (by omega), h j hk, if10', h1, if_neg (by decide)]
  | succ r ih =>
    intro j fuel e1 e2
    obtain ⟨f, rfl⟩ : ∃ f, fuel = f + 1 := ⟨fuel - 1, by omega⟩
    rw [F_X9_orderLayers_L42, ck_t (bn_nI (by omega) (by decide)), clampN (by omega), h j (by omega), if10', h2 j (by omega), if_pos rfl, nI_1]
    exact ih (j + 1) f (by omega) (by omega)
theorem bt_not (x : Int64) {i : Nat} (h : i < 64) : bt (x ^^^ (-1 : Int64)) i = !bt x i := by
  rw [bt_xor, bt_m1 h]
  simp
theorem lay_out {fu nn : Nat} {ro : AJ} {no : AI} (hf : 1000 ≤ fu) (hn : nn ≤ 48) (h : RP nn ro no) : ∀ (r i fX fM m : Nat) (li pl mit : AI) (t : Nat → Bool) (T : Int64), i + r = nn → r < fX → r < fM → i ≤ m → LI nn m li pl mit t → (∀ c, c < nn → t c = bt T c) → (∀ c, nn ≤ c → c < 64 → bt T c = false) → ∃ (li' pl' mit' : AI), F_X3_layLayers_L8 fu nn ro fX T (nI m) (nI i) li = some li' ∧ F_X9_orderLayers_L27 fu (nI nn) no fM (nI m) (nI i) pl mit = some (pl', mit') ∧ ∀ k, k < nn → li' k = pl' k ∧ ∃ e, e < nn ∧ li' k = nI e := by
  intro r
  induction r with
  | zero =>
    intro i fX fM m li pl mit t T e1 e2 e3 e4 e5 e6 e7
    obtain ⟨f, rfl⟩ : ∃ f, fX = f + 1 := ⟨fX - 1, by omega⟩
    obtain ⟨g, rfl⟩ : ∃ g, fM = g + 1 := ⟨fM - 1, by omega⟩
    rw [F_X3_layLayers_L8, if_pos (nI_le (by omega) (by omega)), F_X9_orderLayers_L27, if_pos (nI_le (by omega) (by omega))]
    exact ⟨li, pl, mit, rfl, rfl, fun k hk => e5.1 k (by omega)⟩
  | succ r ih =>
    intro i fX fM m li pl mit t T e1 e2 e3 e4 e5 e6 e7
    have hm : m ≤ nn := by have := ct_le t nn; have := e5.2.2; omega
    obtain ⟨f, rfl⟩ : ∃ f, fX = f + 1 := ⟨fX - 1, by omega⟩
    obtain ⟨g, rfl⟩ : ∃ g, fM = g + 1 := ⟨fM - 1, by omega⟩
    have core : ∀ (m : Nat) (li pl mit : AI) (t : Nat → Bool) (T : Int64) (x : Nat), i < m → LI nn m li pl mit t → (∀ c, c < nn → t c = bt T c) → (∀ c, nn ≤ c → c < 64 → bt T c = false) → x < nn → li i = nI x → ∃ (li' pl' mit' : AI), ((F_X4_rowOf nn (nI x) ro).bind fun o2 => (F_X3_layLayers_L78 nn T (nI i) (o2 &&& (T ^^^ (-1 : Int64))) fu (nI m) (0 : Int32) li).bind fun o4 => F_X3_layLayers_L8 fu nn ro f (T ||| (o2 &&& (T ^^^ (-1 : Int64)))) o4.1 (nI i + 1) o4.2) = some li' ∧ ((F_X9_orderLayers_L76 (nI i) (nI nn) no fu (nI m) (0 : Int32) pl mit).bind fun o4 => F_X9_orderLayers_L27 fu (nI nn) no g o4.1 (nI i + 1) o4.2.1 o4.2.2) = some (pl', mit') ∧ ∀ k, k < nn → li' k = pl' k ∧ ∃ e, e < nn ∧ li' k = nI e := by
      intro m li pl mit t T x c1 c2 c3 c4 c5 c6
      have hpl : pl i = nI x := by rw [← (c2.1 i c1).1]; exact c6
      obtain ⟨m', li', pl', mit', t', a1, a2, a3, a4, a5⟩ := lay_in (x2 := T) (row := ro x) (come := ro x &&& (T ^^^ (-1 : Int64))) hn c5 (show i < nn by omega) (fun b hb => h.1 x c5 b hb) (fun b hb => by rw [bt_and, h.2 x c5 b hb]; rfl) nn 0 fu fu m li pl mit t (by omega) (by omega) (by omega) c1 hpl c2 (fun c _ hc => by rw [bt_and, bt_not _ (by omega), c3 c hc])
      rw [X4_rowOf c5 hn, bd_some, show (0 : Int32) = nI 0 from rfl, a1, bd_some, a2, bd_some, nI_1]
      refine ih (i + 1) f g m' li' pl' mit' t' _ (by omega) (by omega) (by omega) (by omega) a3 (fun c hc => ?_) (fun c hc hc2 => ?_)
      · rw [a5 c hc, bt_or, bt_and, bt_not _ (by omega), c3 c hc]
        cases bt T c <;> simp
      · rw [bt_or, bt_and, c4 c hc hc2, h.2 x c5 c hc]
        rfl
    rw [F_X3_layLayers_L8, if_neg (nI_ge (by omega) (by omega)), F_X9_orderLayers_L27, if_neg (nI_ge (by omega) (by omega))]
    by_cases c : i = m
    · subst c
      obtain ⟨k, b1, b2, b3⟩ := least_not (t := t) nn (by have := e5.2.2; omega)
      obtain ⟨d1, d2⟩ := LI_add e5 b1 b2
      have q1 := core (i + 1) _ _ _ _ (T ||| ((1 : Int64) <<< ((nI k).toInt64 &&& 63))) k (by omega) d2 (fun c hc => by rw [bt_or, bt_bit (by omega), e6 c hc]) (fun c hc h64 => by rw [bt_or, bt_bit (by omega), e7 c hc h64, show decide (c = k) = false from decide_eq_false (by omega)]; rfl) b1 (upd_s _ _ _)
      rw [if_pos rfl, if_pos rfl, show (0 : Int32) = nI 0 from rfl, X8_firstFrom (by omega) (by decide), bd_some, ffr_first (k := k) (by omega) (by omega) (by rw [bt_not _ (by omega), ← e6 k b1, b2]; rfl) (fun c _ hc => by rw [bt_not _ (by omega), ← e6 c (by omega), b3 c hc]; rfl), M_least hn b1 e5.2.1 b2 b3 k 0 fu (by omega) (by omega), bd_some]
      simp only [nm, clampN (show i < 2 ^ 31 by omega), clampN (show k < 2 ^ 31 by omega), upd_s, ck_t (bn_nI (show i < nn by omega) (show nn < 2 ^ 31 by omega)), ck_t (bn_nI (show i < 48 by omega) (show 48 < 2 ^ 31 by decide)), ck_t (bn_nI (show k < 48 by omega) (show 48 < 2 ^ 31 by decide))]
      simp only [nI_1] at q1 ⊢
      exact q1
    · have q0 : ¬ nI i = nI m := nI_k (by omega) (by omega) c
      obtain ⟨x, b1, b2⟩ := (e5.1 i (by omega)).2
      have q1 := core m li pl mit t T x (by omega) e5 e6 e7 b1 b2
      rw [if_neg q0, if_neg q0]
      simp only [clampN (show i < 2 ^ 31 by omega), b2, ck_t (bn_nI (show i < nn by omega) (show nn < 2 ^ 31 by omega))]
      exact q1
theorem arr {fu nn o : Nat} {ro : AJ} {no ke li pl mit : AI} (hf : 1000 ≤ fu) (hn : nn ≤ 48) (h : RP nn ro no) (ho : o < 3) : ∃ ke2 li2 pl2 mit2 : AI, F_X3_arrange fu nn (nI o) ro ke li = some (ke2, li2) ∧ F_X9_toOrder fu (nI o) (nI nn) no pl mit = some (pl2, mit2) ∧ ∀ k, k < nn → li2 k = pl2 k ∧ ∃ e, e < nn ∧ li2 k = nI e := by
  unfold F_X3_arrange F_X9_toOrder
  by_cases c : o = 1
  · subst c
    rw [if_pos (show nI 1 = (1 : Int32) from rfl), if_pos (show nI 1 = (1 : Int32) from rfl)]
    unfold F_X3_layLayers F_X9_orderLayers
    have z : ∃ mit0 : AI, F_X9_orderLayers_L2 (nI nn) fu 0 mit = some mit0 ∧ ∀ b, b < nn → mit0 b = 0 := by
      refine fwd nn (fun f j (s : AI) => F_X9_orderLayers_L2 (nI nn) f (nI j) s) (fun j s => ∀ b, b < j → s b = 0) (fun s => ∀ b, b < nn → s b = 0) (fun f s hs => ?_) (fun f j s hj hs => Or.inl ?_) nn 0 fu mit (by omega) (by omega) (fun b hb => absurd hb (by omega))
      · exact ⟨s, by rw [F_X9_orderLayers_L2, if_pos (nI_le (by omega) (by omega))], hs⟩
      · refine ⟨_, by rw [F_X9_orderLayers_L2, if_neg (nI_ge hj (by omega)), ck_t (bn_nI (show j < 48 by omega) (by decide)), clampN (by omega), nI_1], fun b hb => ?_⟩
        rw [upd_if]
        by_cases e : b = j
        · rw [if_pos e]; rfl
        · rw [if_neg e]
          exact hs b (by omega)
    obtain ⟨mit0, z1, z2⟩ := z
    obtain ⟨li2, pl2, mit2, a1, a2, a3⟩ := lay_out (fu := fu) hf hn h nn 0 fu fu 0 li pl mit0 (fun _ => false) 0 (by omega) (by omega) (by omega) (by omega) ⟨fun k hk => absurd hk (by omega), fun b hb => by rw [z2 b hb]; rfl, ct_none (fun _ _ => rfl)⟩ (fun c _ => (bt_zero c).symm) (fun c _ _ => bt_zero c)
    rw [show (0 : Int32) = nI 0 from rfl] at z1 ⊢
    rw [a1, z1, bd_some, bd_some, bd_some, a2, bd_some, bd_some]
    exact ⟨_, _, _, _, rfl, rfl, a3⟩
  · have c0 : ¬ nI o = (1 : Int32) := nI_k (k := 1) (by omega) (by decide) c
    rw [if_neg c0, if_neg c0]
    obtain ⟨ke2, a1, a2⟩ := X_keys (fu := fu) (ro := ro) (ke := ke) hf hn ho
    obtain ⟨li2, b1, b2⟩ := X_layByKeys (fu := fu) (ky := ke2) (li := li) hf hn
    obtain ⟨pl2, d1, d2⟩ := M_orderBy (fu := fu) (pl := pl) hf h hn ho a2
    rw [a1, bd_some, b1, bd_some, d1, bd_some]
    obtain ⟨e, f1, f2⟩ := b2.place
    refine ⟨_, _, _, _, rfl, rfl, fun k hk => ?_⟩
    have g := d2 (e k) (f1 k hk).2
    rw [f2 k hk] at g
    exact ⟨(f1 k hk).1.trans g.symm, e k, (f1 k hk).2, (f1 k hk).1⟩
theorem ok_order (BK : BKT) {fu : Nat} (hf : 20000 ≤ fu) : OK_order fu (Rel BK) := by
  intro nn X M x1 x2 hR
  obtain ⟨h1, hn, hmn, hP, hRR, hB⟩ := id hR
  unfold SX_order SM_order F_X8_order F_X9_order
  rw [show (3 : Int32) = nI 3 from rfl, X8_isBelow (by decide), X9_in0 (k := 3) x1 rfl, bd_some, bd_some, if10', if10', hmn]
  by_cases e1 : tg 3 x1 = true
  · rw [if_pos e1, if_pos e1]
    obtain ⟨o, ho, rfl⟩ := tg_of e1
    obtain ⟨ke2, li2, pl2, mit2, a1, a2, a3⟩ := arr (fu := fu) (ke := xke_ X) (li := xli_ X) (pl := mpl_ M) (mit := mit_ M) (by omega) hn hP ho
    rw [X4_isThing hn, a2, bd_some, bd_some, X9_isThing h1 hn, bd_some, if10', if10']
    by_cases e2 : tg nn x2 = true
    · rw [if_pos e2, if_pos e2, a1, bd_some]
      obtain ⟨i, hi, rfl⟩ := tg_of e2
      unfold F_X3_thingAtPlace
      rw [ck_t (Nat.ble_eq_true_of_le hn), bd_some, el_nI hi (by omega), ck_t (bn_nI (by omega) (by decide)), clampN (by omega), show (ke2, li2).snd i = pl2 i from (a3 i hi).1]
      exact ⟨_, _, _, rfl, rfl, h1, hn, rfl, hP, hRR, hB⟩
    · rw [if_neg e2, if_neg e2]
      exact ⟨_, _, _, rfl, rfl, h1, hn, rfl, hP, hRR, hB⟩
  · rw [if_neg e1, if_neg e1]
    exact ⟨_, _, _, rfl, rfl, h1, hn, rfl, hP, hRR, hB⟩

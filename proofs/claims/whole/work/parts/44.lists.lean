/-! ===== pure: lists of numbers with their uses; elements of a row ===== -/
abbrev LUN : Type := List (Nat × Nat)
/-- the rows us, nu hold a list from o on -/
def Hd (us nu : AI) : Nat → LUN → Prop
  | _, [] => True
  | o, e :: t => us o = nI e.1 ∧ nu o = nI e.2 ∧ Hd us nu (o + 1) t
def Hl (li : AI) : Nat → List Nat → Prop
  | _, [] => True
  | o, e :: t => li o = nI e ∧ Hl li (o + 1) t
theorem Hd_app {us nu : AI} : ∀ {L T : LUN} {o : Nat}, Hd us nu o (L ++ T) ↔ (Hd us nu o L ∧ Hd us nu (o + L.length) T)
  | [], T, o => ⟨fun h => ⟨trivial, h⟩, fun h => h.2⟩
  | e :: L, T, o => by
    show (us o = nI e.1 ∧ nu o = nI e.2 ∧ Hd us nu (o + 1) (L ++ T)) ↔ ((us o = nI e.1 ∧ nu o = nI e.2 ∧ Hd us nu (o + 1) L) ∧ Hd us nu (o + (L.length + 1)) T)
    rw [Hd_app, show o + (L.length + 1) = o + 1 + L.length by omega]
    constructor
    · rintro ⟨a, b, c, d⟩; exact ⟨⟨a, b, c⟩, d⟩
    · rintro ⟨⟨a, b, c⟩, d⟩; exact ⟨a, b, c, d⟩
theorem Hl_app {li : AI} : ∀ {L T : List Nat} {o : Nat}, Hl li o (L ++ T) ↔ (Hl li o L ∧ Hl li (o + L.length) T)
  | [], T, o => ⟨fun h => ⟨trivial, h⟩, fun h => h.2⟩
  | e :: L, T, o => by
    show (li o = nI e ∧ Hl li (o + 1) (L ++ T)) ↔ ((li o = nI e ∧ Hl li (o + 1) L) ∧ Hl li (o + (L.length + 1)) T)
    rw [Hl_app, show o + (L.length + 1) = o + 1 + L.length by omega]
    constructor
    · rintro ⟨a, b, d⟩; exact ⟨⟨a, b⟩, d⟩
    · rintro ⟨⟨a, b⟩, d⟩; exact ⟨a, b, d⟩
theorem Hd_cg {us nu us2 nu2 : AI} : ∀ {L : LUN} {o : Nat}, (∀ i, o ≤ i → i < o + L.length → us2 i = us i ∧ nu2 i = nu i) → Hd us nu o L → Hd us2 nu2 o L
  | [], _, _, _ => trivial
  | e :: L, o, h, hh => by
    have h0 := h o (Nat.le_refl _) (by simp)
    refine ⟨h0.1.trans hh.1, h0.2.trans hh.2.1, Hd_cg (fun i h1 h2 => h i (by omega) ?_) hh.2.2⟩
    have : (e :: L).length = L.length + 1 := rfl
    omega
theorem Hl_cg {li li2 : AI} : ∀ {L : List Nat} {o : Nat}, (∀ i, o ≤ i → i < o + L.length → li2 i = li i) → Hl li o L → Hl li2 o L
  | [], _, _, _ => trivial
  | e :: L, o, h, hh => by
    refine ⟨(h o (Nat.le_refl _) (by simp)).trans hh.1, Hl_cg (fun i h1 h2 => h i (by omega) ?_) hh.2⟩
    have : (e :: L).length = L.length + 1 := rfl
    omega
theorem Hd_add {us nu : AI} {L : LUN} {u v : Nat} {x y : Int32} (hx : x = nI u) (hy : y = nI v) (h : Hd us nu 0 L) : Hd (upd us L.length x) (upd nu L.length y) 0 (L ++ [(u, v)]) := by
  rw [Hd_app]
  refine ⟨Hd_cg (fun i _ h2 => ?_) h, ?_⟩
  · rw [upd_n (by omega), upd_n (by omega)]
    exact ⟨rfl, rfl⟩
  · rw [Nat.zero_add]
    exact ⟨by rw [upd_s]; exact hx, by rw [upd_s]; exact hy, trivial⟩
theorem Hl_add {li : AI} {L : List Nat} {u : Nat} {x : Int32} (hx : x = nI u) (h : Hl li 0 L) : Hl (upd li L.length x) 0 (L ++ [u]) := by
  rw [Hl_app]
  refine ⟨Hl_cg (fun i _ h2 => ?_) h, ?_⟩
  · rw [upd_n (by omega)]
  · rw [Nat.zero_add]
    exact ⟨by rw [upd_s]; exact hx, trivial⟩
theorem len1 {α : Type} (L : List α) (e : α) : (L ++ [e]).length = L.length + 1 := by simp
theorem X_add {us nu : AI} {L : LUN} {u v : Nat} {x y : Int32} (hx : x = nI u) (hy : y = nI v) (h : Hd us nu 0 L) (hl : L.length < 160) : ∃ us2 nu2 : AI, F_X6_add x y (nI L.length) us nu = some (us2, nu2, nI (L ++ [(u, v)]).length) ∧ Hd us2 nu2 0 (L ++ [(u, v)]) := by
  unfold F_X6_add
  rw [if_neg (nI_pos (by omega)), if_neg (nI_ge hl (by decide)), if_neg (nI_ge hl (by decide)), ck_t (bn_nI hl (by decide)), ck_t (bn_nI hl (by decide)), clampN (by omega), nI_1, len1]
  exact ⟨_, _, rfl, Hd_add hx hy h⟩
theorem M_say {us nu : AI} {L : LUN} {u v : Nat} {x y : Int32} (hx : x = nI u) (hy : y = nI v) (h : Hd us nu 0 L) (hl : L.length < 400) : ∃ us2 nu2 : AI, F_X9_say x y (nI L.length) us nu = some (us2, nu2, nI (L ++ [(u, v)]).length) ∧ Hd us2 nu2 0 (L ++ [(u, v)]) := by
  unfold F_X9_say
  rw [ck_t (bn_nI hl (by decide)), ck_t (bn_nI hl (by decide)), clampN (by omega), nI_1, len1]
  exact ⟨_, _, rfl, Hd_add hx hy h⟩
/-- folded -/
def fd (b x : Nat) : Nat := if x ≤ b then 2 * (b - x) else 2 * (x - b) - 1
theorem fd_all : ∀ b, b < 48 → ∀ x, x < 48 → F_X9_folded (nI b - nI x) = some (nI (fd b x)) ∧ F_X8_folded (nI b - nI x) = some (nI (fd b x)) ∧ fd b x < 96 := by decide +kernel
theorem sub_all {a b : Nat} (h : b ≤ a) : nI a - nI b = nI (a - b) := by
  have : nI (a - b) + nI b = nI a := by rw [nI_add, show a - b + b = a by omega]
  rw [← this]
  exact Int32.add_sub_cancel _ _
/-- the elements from j on, r places -/
def en (p : Nat → Bool) : Nat → Nat → List Nat
  | 0, _ => []
  | r + 1, j => if p j = true then j :: en p r (j + 1) else en p r (j + 1)
theorem en_t {p : Nat → Bool} {r j : Nat} (h : p j = true) : en p (r + 1) j = j :: en p r (j + 1) := if_pos h
theorem en_f {p : Nat → Bool} {r j : Nat} (h : ¬ p j = true) : en p (r + 1) j = en p r (j + 1) := if_neg h
theorem en_split (p : Nat → Bool) : ∀ r s j : Nat, en p (r + s) j = en p r j ++ en p s (j + r)
  | 0, s, j => by rw [Nat.zero_add]; rfl
  | r + 1, s, j => by
    rw [show r + 1 + s = (r + s) + 1 by omega]
    by_cases h : p j = true
    · rw [en_t h, en_t h, en_split p r s (j + 1), show j + 1 + r = j + (r + 1) by omega]; rfl
    · rw [en_f h, en_f h, en_split p r s (j + 1), show j + 1 + r = j + (r + 1) by omega]
theorem en_none {p : Nat → Bool} : ∀ {r j : Nat}, (∀ k, j ≤ k → k < j + r → p k = false) → en p r j = []
  | 0, _, _ => rfl
  | r + 1, j, h => by rw [en_f (by rw [h j (Nat.le_refl _) (by omega)]; decide), en_none (fun k h1 h2 => h k (by omega) (by omega))]
theorem en_ext {p : Nat → Bool} {r s j : Nat} (h : ∀ k, j + r ≤ k → k < j + s → p k = false) (hs : r ≤ s) : en p s j = en p r j := by
  obtain ⟨d, rfl⟩ : ∃ d, s = r + d := ⟨s - r, by omega⟩
  rw [en_split, en_none (j := j + r) (fun k h1 h2 => h k h1 (by omega)), List.append_nil]
theorem en_cong {p q : Nat → Bool} : ∀ {r j : Nat}, (∀ k, j ≤ k → k < j + r → p k = q k) → en p r j = en q r j
  | 0, _, _ => rfl
  | r + 1, j, h => by
    have ih := en_cong (r := r) (j := j + 1) (fun k h1 h2 => h k (by omega) (by omega))
    have h0 := h j (Nat.le_refl _) (by omega)
    by_cases c : p j = true
    · rw [en_t c, en_t (by rw [← h0]; exact c), ih]
    · rw [en_f c, en_f (by rw [← h0]; exact c), ih]
theorem en_len (p : Nat → Bool) : ∀ r j : Nat, (en p r j).length ≤ r
  | 0, _ => Nat.le_refl _
  | r + 1, j => by
    have := en_len p r (j + 1)
    by_cases c : p j = true
    · rw [en_t c]
      show (en p r (j + 1)).length + 1 ≤ r + 1
      omega
    · rw [en_f c]; omega
theorem en_ct (p : Nat → Bool) : ∀ n : Nat, ct p n = (en p n 0).length
  | 0 => rfl
  | n + 1 => by
    rw [en_split p n 1 0, ct_succ, en_ct p n, List.length_append]
    congr 1
    rw [Nat.zero_add]
    by_cases c : p n = true
    · rw [if_pos c, en_t c]; rfl
    · rw [if_neg c, en_f c]; rfl
/-- strictly rising, from j on, below 48 -/
def ic : Nat → List Nat → Prop
  | _, [] => True
  | j, b :: t => j ≤ b ∧ b < 48 ∧ ic (b + 1) t
theorem ic_le {j k : Nat} (h : j ≤ k) : ∀ {l : List Nat}, ic k l → ic j l
  | [], _ => trivial
  | b :: t, hh => ⟨by have := hh.1; omega, hh.2⟩
theorem en_ic (p : Nat → Bool) : ∀ r j : Nat, j + r ≤ 48 → ic j (en p r j)
  | 0, _, _ => trivial
  | r + 1, j, h => by
    have ih := en_ic p r (j + 1) (by omega)
    by_cases c : p j = true
    · rw [en_t c]; exact ⟨Nat.le_refl _, by omega, ih⟩
    · rw [en_f c]; exact ic_le (by omega) ih
/-- gaps; plain -/
def gp : Nat → List Nat → LUN
  | _, [] => []
  | h, b :: t => (3, b - h - 1) :: gp b t
def ps (x : Nat) : List Nat → LUN
  | [] => []
  | b :: t => (2, fd b x) :: gp b t
def pls (x : Nat) (l : List Nat) : LUN := (1, l.length) :: ps x l
theorem gp_len : ∀ (h : Nat) (l : List Nat), (gp h l).length = l.length
  | _, [] => rfl
  | h, b :: t => by
    show (gp b t).length + 1 = t.length + 1
    rw [gp_len b t]
theorem ps_len (x : Nat) : ∀ l : List Nat, (ps x l).length = l.length
  | [] => rfl
  | b :: t => by
    show (gp b t).length + 1 = t.length + 1
    rw [gp_len b t]
theorem gap_eq {a b : Nat} (h : a < b) : nI b - nI a - 1 = nI (b - a - 1) := by
  rw [sub_all (by omega), show (1 : Int32) = nI 1 from rfl, sub_all (by omega)]
theorem app1 {α : Type} (L T : List α) (e : α) : L ++ [e] ++ T = L ++ e :: T := by simp
theorem X_plain_G {x : Nat} {row : Int64} : ∀ (r j f : Nat) (L : LUN) (h : Nat) (us nu : AI), j + r = 48 → r < f → Hd us nu 0 L → L.length + r ≤ 160 → h < j → ∃ us2 nu2 : AI, F_X6_tellPlain_L15 (nI x) row f (nI h) (nI j) us nu (nI L.length) = some (us2, nu2, nI (L ++ gp h (en (bt row) r j)).length) ∧ Hd us2 nu2 0 (L ++ gp h (en (bt row) r j)) := by
  intro r
  induction r with
  | zero =>
    intro j f L h us nu e1 e2 e3 e4 e5
    obtain ⟨f, rfl⟩ : ∃ g, f = g + 1 := ⟨f - 1, by omega⟩
    rw [F_X6_tellPlain_L15, if_pos (by rw [show (48 : Int32) = nI 48 from rfl]; exact nI_le (by omega) (by omega))]
    show ∃ us2 nu2 : AI, _ = some (us2, nu2, nI (L ++ []).length) ∧ Hd us2 nu2 0 (L ++ [])
    rw [List.append_nil]
    exact ⟨_, _, rfl, e3⟩
  | succ r ih =>
    intro j f L h us nu e1 e2 e3 e4 e5
    obtain ⟨f, rfl⟩ : ∃ g, f = g + 1 := ⟨f - 1, by omega⟩
    rw [F_X6_tellPlain_L15, if_neg (by rw [show (48 : Int32) = nI 48 from rfl]; exact nI_ge (by omega) (by decide)), X8_isIn _ _ (by omega), bd_some, if10']
    by_cases c : bt row j = true
    · obtain ⟨us2, nu2, a1, a2⟩ := X_add (x := 3) (u := 3) rfl (gap_eq e5) e3 (by omega)
      rw [if_pos ⟨by omega, c⟩, if_neg (nI_m1 (by omega)), a1, bd_some, nI_1, en_t c]
      obtain ⟨us3, nu3, b1, b2⟩ := ih (j + 1) f _ j us2 nu2 (by omega) (by omega) a2 (by rw [len1]; omega) (by omega)
      rw [app1] at b1 b2
      exact ⟨us3, nu3, b1, b2⟩
    · rw [if_neg (fun z => c z.2), nI_1, en_f c]
      exact ih (j + 1) f L h us nu (by omega) (by omega) e3 (by omega) (by omega)
theorem X_plain_P {x : Nat} {row : Int64} (hx : x < 48) : ∀ (r j f : Nat) (L : LUN) (us nu : AI), j + r = 48 → r < f → Hd us nu 0 L → L.length + r ≤ 160 → ∃ us2 nu2 : AI, F_X6_tellPlain_L15 (nI x) row f (-1) (nI j) us nu (nI L.length) = some (us2, nu2, nI (L ++ ps x (en (bt row) r j)).length) ∧ Hd us2 nu2 0 (L ++ ps x (en (bt row) r j)) := by
  intro r
  induction r with
  | zero =>
    intro j f L us nu e1 e2 e3 e4
    obtain ⟨f, rfl⟩ : ∃ g, f = g + 1 := ⟨f - 1, by omega⟩
    rw [F_X6_tellPlain_L15, if_pos (by rw [show (48 : Int32) = nI 48 from rfl]; exact nI_le (by omega) (by omega))]
    show ∃ us2 nu2 : AI, _ = some (us2, nu2, nI (L ++ []).length) ∧ Hd us2 nu2 0 (L ++ [])
    rw [List.append_nil]
    exact ⟨_, _, rfl, e3⟩
  | succ r ih =>
    intro j f L us nu e1 e2 e3 e4
    obtain ⟨f, rfl⟩ : ∃ g, f = g + 1 := ⟨f - 1, by omega⟩
    rw [F_X6_tellPlain_L15, if_neg (by rw [show (48 : Int32) = nI 48 from rfl]; exact nI_ge (by omega) (by decide)), X8_isIn _ _ (by omega), bd_some, if10']
    by_cases c : bt row j = true
    · obtain ⟨us2, nu2, a1, a2⟩ := X_add (x := 2) (u := 2) (v := fd j x) rfl rfl e3 (by omega)
      rw [if_pos ⟨by omega, c⟩, if_pos rfl, (fd_all j (by omega) x hx).2.1, bd_some, a1, bd_some, nI_1, en_t c]
      obtain ⟨us3, nu3, b1, b2⟩ := X_plain_G (x := x) (row := row) r (j + 1) f _ j us2 nu2 (by omega) (by omega) a2 (by rw [len1]; omega) (by omega)
      rw [app1] at b1 b2
      exact ⟨us3, nu3, b1, b2⟩
    · rw [if_neg (fun z => c z.2), nI_1, en_f c]
      exact ih (j + 1) f L us nu (by omega) (by omega) e3 (by omega)
theorem pc48 {x : Int64} (h : ∀ b, 48 ≤ b → bt x b = false) : pc x = (en (bt x) 48 0).length := by
  rw [pc_nn (nn := 48) (Nat.le_refl _) h, en_ct]
theorem X_plain {fu x : Nat} {row : Int64} {L : LUN} {us nu : AI} (hf : 1000 ≤ fu) (hx : x < 48) (hr : ∀ b, 48 ≤ b → bt row b = false) (h : Hd us nu 0 L) (hl : L.length ≤ 110) : ∃ us2 nu2 : AI, F_X6_tellPlain fu (nI x) row (nI L.length) us nu = some (us2, nu2, nI (L ++ pls x (en (bt row) 48 0)).length) ∧ Hd us2 nu2 0 (L ++ pls x (en (bt row) 48 0)) := by
  unfold F_X6_tellPlain
  obtain ⟨us2, nu2, a1, a2⟩ := X_add (x := 1) (u := 1) (v := (en (bt row) 48 0).length) rfl rfl h (by omega)
  obtain ⟨us3, nu3, b1, b2⟩ := X_plain_P (x := x) (row := row) hx 48 0 fu _ us2 nu2 (by omega) (by omega) a2 (by rw [len1]; omega)
  rw [app1] at b1 b2
  rw [X_bitCount, bd_some, pc48 hr, a1, bd_some, show (0 : Int32) = nI 0 from rfl, b1, bd_some]
  exact ⟨us3, nu3, rfl, b2⟩
/-! the reference's list -/
theorem M_take {fu x y nn : Nat} {p q : Nat → Bool} {no li : AI} {ld : Int32} (hf : 1000 ≤ fu) (hx : x < nn) (hy : y < nn) (hn : nn ≤ 48) (hp : ∀ b, b < nn → no (48 * x + b) = if p b = true then 1 else 0) (hq : ∀ b, b < nn → no (48 * y + b) = if q b = true then 1 else 0) : ∃ li2 : AI, F_X9_take fu (nI x) (nI y) ld (nI nn) no li = some (nI (en (fun b => p b && (decide (y = x) || !q b)) nn 0).length, li2) ∧ Hl li2 0 (en (fun b => p b && (decide (y = x) || !q b)) nn 0) := by
  have A : ∃ o : AI × Int32, F_X9_take_L8 (nI x) (nI y) (nI nn) no fu 0 li 0 = some o ∧ o.2 = nI (en (fun b => p b && (decide (y = x) || !q b)) nn 0).length ∧ Hl o.1 0 (en (fun b => p b && (decide (y = x) || !q b)) nn 0) := by
    refine fwd nn (fun f j (s : AI × Int32) => F_X9_take_L8 (nI x) (nI y) (nI nn) no f (nI j) s.1 s.2) (fun j s => s.2 = nI (en (fun b => p b && (decide (y = x) || !q b)) j 0).length ∧ Hl s.1 0 (en (fun b => p b && (decide (y = x) || !q b)) j 0)) _ (fun f s hs => ?_) (fun f j s hj hs => Or.inl ?_) nn 0 fu (li, 0) (by omega) (by omega) ⟨rfl, trivial⟩
    · exact ⟨s, by rw [F_X9_take_L8, if_pos (nI_le (by omega) (by omega))], hs⟩
    · have hln := en_len (fun b => p b && (decide (y = x) || !q b)) j 0
      have e1 : en (fun b => p b && (decide (y = x) || !q b)) (j + 1) 0 = en (fun b => p b && (decide (y = x) || !q b)) j 0 ++ en (fun b => p b && (decide (y = x) || !q b)) 1 j := by rw [en_split, Nat.zero_add]
      rw [F_X9_take_L8, if_neg (nI_ge hj (by omega)), ix48, ix48, ck_t (bn_nI (show 48 * x + j < 2304 by omega) (by decide)), ck_t (bn_nI (show 48 * y + j < 2304 by omega) (by decide)), clampN (show 48 * x + j < 2 ^ 31 by omega), clampN (show 48 * y + j < 2 ^ 31 by omega), hp j hj, hq j hj, if10', if10', nI_1, hs.1, ck_t (bn_nI (show (en (fun b => p b && (decide (y = x) || !q b)) j 0).length < 48 by omega) (by decide)), clampN (show (en (fun b => p b && (decide (y = x) || !q b)) j 0).length < 2 ^ 31 by omega), nI_1, if_cg (nI_eq (show y < 2 ^ 31 by omega) (show x < 2 ^ 31 by omega))]
      have skip : (p j && (decide (y = x) || !q j)) = false → ∃ s2 : AI × Int32, F_X9_take_L8 (nI x) (nI y) (nI nn) no f (nI (j + 1)) s.1 (nI (en (fun b => p b && (decide (y = x) || !q b)) j 0).length) = F_X9_take_L8 (nI x) (nI y) (nI nn) no f (nI (j + 1)) s2.1 s2.2 ∧ s2.2 = nI (en (fun b => p b && (decide (y = x) || !q b)) (j + 1) 0).length ∧ Hl s2.1 0 (en (fun b => p b && (decide (y = x) || !q b)) (j + 1) 0) := by
        intro c
        rw [e1, en_f (by rw [c]; decide), en, List.append_nil]
        exact ⟨(s.1, nI _), rfl, rfl, hs.2⟩
      have take : (p j && (decide (y = x) || !q j)) = true → ∃ s2 : AI × Int32, F_X9_take_L8 (nI x) (nI y) (nI nn) no f (nI (j + 1)) (upd s.1 (en (fun b => p b && (decide (y = x) || !q b)) j 0).length (nI j)) (nI ((en (fun b => p b && (decide (y = x) || !q b)) j 0).length + 1)) = F_X9_take_L8 (nI x) (nI y) (nI nn) no f (nI (j + 1)) s2.1 s2.2 ∧ s2.2 = nI (en (fun b => p b && (decide (y = x) || !q b)) (j + 1) 0).length ∧ Hl s2.1 0 (en (fun b => p b && (decide (y = x) || !q b)) (j + 1) 0) := by
        intro c
        rw [e1, en_t c, en, len1]
        exact ⟨(upd s.1 _ (nI j), nI _), rfl, rfl, Hl_add rfl hs.2⟩
      cases c1 : p j
      · rw [if_neg (by decide)]
        exact skip (by rw [c1]; rfl)
      · rw [if_pos rfl]
        by_cases c2 : y = x
        · rw [if_pos c2]
          exact take (by rw [c1, c2]; simp)
        · rw [if_neg c2]
          cases c3 : q j
          · rw [if_neg (by decide)]
            exact take (by rw [c1, c3]; simp)
          · rw [if_pos rfl]
            exact skip (by rw [c3]; simp [c2])
  obtain ⟨o, a1, a2, a3⟩ := A
  unfold F_X9_take
  rw [a1, bd_some, a2]
  exact ⟨_, rfl, a3⟩
theorem M_plain_G {x ld : Nat} {li : AI} (hld : ld ≤ 48) : ∀ (t : List Nat) (i f h : Nat) (L : LUN) (us nu : AI), i + 1 + t.length = ld → t.length < f → Hl li i (h :: t) → ic (h + 1) t → Hd us nu 0 L → L.length + t.length ≤ 400 → ∃ us2 nu2 : AI, F_X9_tellPlain_L11 (nI x) (nI ld) li f (nI (i + 1)) us nu (nI L.length) = some (us2, nu2, nI (L ++ gp h t).length) ∧ Hd us2 nu2 0 (L ++ gp h t) := by
  intro t
  induction t with
  | nil =>
    intro i f h L us nu e1 e2 e3 e4 e5 e6
    obtain ⟨f, rfl⟩ : ∃ g, f = g + 1 := ⟨f - 1, by omega⟩
    have e1 : i + 1 = ld := e1
    rw [F_X9_tellPlain_L11, if_pos (nI_le (by omega) (by omega))]
    show ∃ us2 nu2 : AI, _ = some (us2, nu2, nI (L ++ []).length) ∧ Hd us2 nu2 0 (L ++ [])
    rw [List.append_nil]
    exact ⟨_, _, rfl, e5⟩
  | cons b t ih =>
    intro i f h L us nu e1 e2 e3 e4 e5 e6
    obtain ⟨f, rfl⟩ : ∃ g, f = g + 1 := ⟨f - 1, by omega⟩
    have e1 : i + 1 + (t.length + 1) = ld := e1
    have e2 : t.length + 1 < f + 1 := e2
    have e6 : L.length + (t.length + 1) ≤ 400 := e6
    have q1 : li i = nI h := e3.1
    have q2 : li (i + 1) = nI b := e3.2.1
    obtain ⟨us2, nu2, a1, a2⟩ := M_say (x := 3) (u := 3) rfl (gap_eq (show h < b by have := e4.1; omega)) e5 (by omega)
    rw [F_X9_tellPlain_L11, if_neg (nI_ge (by omega) (by omega)), if_neg (show ¬ nI (i + 1) = (0 : Int32) from nI_k (k := 0) (by omega) (by decide) (by omega)), ck_t (bn_nI (show i + 1 < 48 by omega) (by decide)), nI_pred, ck_t (bn_nI (show i < 48 by omega) (by decide)), clampN (show i + 1 < 2 ^ 31 by omega), clampN (show i < 2 ^ 31 by omega), q1, q2, a1, bd_some, nI_1]
    obtain ⟨us3, nu3, b1, b2⟩ := ih (i + 1) f b _ us2 nu2 (by omega) (by omega) e3.2 e4.2.2 a2 (by rw [len1]; omega)
    rw [app1] at b1 b2
    exact ⟨us3, nu3, b1, b2⟩
theorem M_plain {fu x : Nat} {l : List Nat} {li us nu : AI} {L : LUN} (hf : 1000 ≤ fu) (hx : x < 48) (hll : l.length ≤ 48) (hl : Hl li 0 l) (hi : ic 0 l) (h : Hd us nu 0 L) (hL : L.length ≤ 300) : ∃ us2 nu2 : AI, F_X9_tellPlain fu (nI x) (nI l.length) (nI L.length) us nu li = some (us2, nu2, nI (L ++ pls x l).length) ∧ Hd us2 nu2 0 (L ++ pls x l) := by
  unfold F_X9_tellPlain
  obtain ⟨us2, nu2, a1, a2⟩ := M_say (x := 1) (u := 1) (v := l.length) rfl rfl h (by omega)
  rw [a1, bd_some]
  unfold pls
  rw [← app1 L (ps x l) (1, l.length)]
  cases l with
  | nil =>
    obtain ⟨f, rfl⟩ : ∃ g, fu = g + 1 := ⟨fu - 1, by omega⟩
    rw [F_X9_tellPlain_L11, if_pos (show nI ([] : List Nat).length ≤ 0 from by decide), bd_some]
    show ∃ us2 nu2 : AI, _ = some (us2, nu2, nI (L ++ [(1, ([] : List Nat).length)] ++ []).length) ∧ Hd us2 nu2 0 (L ++ [(1, ([] : List Nat).length)] ++ [])
    rw [List.append_nil]
    exact ⟨_, _, rfl, a2⟩
  | cons b t =>
    have hll : t.length + 1 ≤ 48 := hll
    obtain ⟨f, rfl⟩ : ∃ g, fu = g + 1 := ⟨fu - 1, by omega⟩
    have q1 : li 0 = nI b := hl.1
    obtain ⟨us3, nu3, b1, b2⟩ := M_say (x := 2) (u := 2) (v := fd b x) rfl rfl a2 (by rw [len1]; omega)
    obtain ⟨us4, nu4, d1, d2⟩ := M_plain_G (x := x) (ld := (b :: t).length) (li := li) hll t 0 f b _ us3 nu3 (by show 0 + 1 + t.length = t.length + 1; omega) (by omega) hl hi.2.2 b2 (by rw [len1, len1]; omega)
    rw [app1 (L ++ [(1, (b :: t).length)])] at d1 d2
    rw [F_X9_tellPlain_L11, if_neg (show ¬ nI (b :: t).length ≤ (0 : Int32) from nI_nle (by show 0 < t.length + 1; omega) (by show t.length + 1 < 2 ^ 31; omega)), if_pos rfl, ck_t (show bn (0 : Int32) 48 = true from bn_nI (k := 0) (by decide) (by decide)), show (0 : Int32).toNatClampNeg = 0 from rfl, q1, (fd_all b hi.2.1 x hx).1, bd_some]
    rw [b1, bd_some, show (0 : Int32) + 1 = nI (0 + 1) from rfl, d1, bd_some]
    exact ⟨us4, nu4, rfl, d2⟩

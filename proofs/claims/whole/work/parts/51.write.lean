/-! ===== pure: bits written ===== -/
def gb : List Bool → Nat → Bool
  | [], _ => false
  | b :: _, 0 => b
  | _ :: t, i + 1 => gb t i
theorem gb_ge : ∀ {B : List Bool} {i : Nat}, B.length ≤ i → gb B i = false
  | [], _, _ => rfl
  | _ :: t, 0, h => absurd h (by show ¬ t.length + 1 ≤ 0; omega)
  | _ :: t, i + 1, h => gb_ge (B := t) (by have h : t.length + 1 ≤ i + 1 := h; omega)
theorem gb_app1 (b : Bool) : ∀ (B : List Bool) (i : Nat), gb (B ++ [b]) i = if i = B.length then b else gb B i
  | [], 0 => rfl
  | [], i + 1 => by
    rw [if_neg (by show ¬ i + 1 = 0; omega)]
    rfl
  | c :: t, 0 => by
    rw [if_neg (by show ¬ 0 = t.length + 1; omega)]
    rfl
  | c :: t, i + 1 => by
    show gb (t ++ [b]) i = _
    rw [gb_app1 b t i]
    by_cases h : i = t.length
    · rw [if_pos h, if_pos (by show i + 1 = t.length + 1; omega)]
    · rw [if_neg h, if_neg (by show ¬ i + 1 = t.length + 1; omega)]
      rfl
/-- a byte: its first k bits -/
def byv (g : Nat → Bool) (i : Nat) : Nat → Nat
  | 0 => 0
  | k + 1 => 2 * byv g i k + (if g (8 * i + k) = true then 1 else 0)
theorem byv_lt (g : Nat → Bool) (i : Nat) : ∀ k, byv g i k < 2 ^ k
  | 0 => by show 0 < 1; decide
  | k + 1 => by
    have := byv_lt g i k
    rw [byv, Nat.pow_succ]
    split <;> omega
theorem byv_cong {g h : Nat → Bool} {i : Nat} : ∀ {k : Nat}, (∀ j, j < k → g (8 * i + j) = h (8 * i + j)) → byv g i k = byv h i k
  | 0, _ => rfl
  | k + 1, hh => by rw [byv, byv, byv_cong (fun j hj => hh j (by omega)), hh k (by omega)]
theorem byv_tail {g : Nat → Bool} {i r : Nat} : ∀ (d : Nat), (∀ j, r ≤ j → j < r + d → g (8 * i + j) = false) → byv g i (r + d) = byv g i r * 2 ^ d
  | 0, _ => by rw [Nat.pow_zero, Nat.mul_one]; rfl
  | d + 1, h => by
    show 2 * byv g i (r + d) + (if g (8 * i + (r + d)) = true then 1 else 0) = _
    rw [byv_tail d (fun j h1 h2 => h j h1 (by omega)), h (r + d) (by omega) (by omega), if_neg (by decide), Nat.pow_succ]
    rw [Nat.add_zero, Nat.mul_comm 2, Nat.mul_assoc]
theorem byv_put {g h : Nat → Bool} {i r : Nat} {b : Bool} (hr : r < 8) (h1 : ∀ j, j < r → h (8 * i + j) = g (8 * i + j)) (h2 : h (8 * i + r) = b) (h3 : ∀ j, r ≤ j → j < 8 → g (8 * i + j) = false) (h4 : ∀ j, r < j → j < 8 → h (8 * i + j) = false) : byv h i 8 = byv g i 8 + (if b = true then 2 ^ (7 - r) else 0) ∧ byv g i 8 % 2 ^ (8 - r) = 0 := by
  have e1 := byv_tail (g := g) (i := i) (r := r) (8 - r) (fun j a1 a2 => h3 j a1 (by omega))
  have e2 := byv_tail (g := h) (i := i) (r := r + 1) (7 - r) (fun j a1 a2 => h4 j (by omega) (by omega))
  rw [show r + (8 - r) = 8 by omega] at e1
  rw [show r + 1 + (7 - r) = 8 by omega, show byv h i (r + 1) = 2 * byv h i r + (if h (8 * i + r) = true then 1 else 0) from rfl, h2, byv_cong (g := h) (h := g) h1] at e2
  refine ⟨?_, by rw [e1]; exact Nat.mul_mod_left _ _⟩
  rw [e2, e1, show 8 - r = (7 - r) + 1 by omega, Nat.pow_succ]
  generalize 2 ^ (7 - r) = p
  generalize byv g i r = w
  cases b
  · rw [if_neg (by decide), if_neg (by decide), Nat.add_zero, Nat.add_zero, Nat.mul_comm 2 w, Nat.mul_assoc, Nat.mul_comm 2 p]
  · rw [if_pos rfl, if_pos rfl, Nat.add_mul, Nat.one_mul, Nat.mul_comm 2 w, Nat.mul_assoc, Nat.mul_comm 2 p]
theorem por : ∀ r, r < 8 → ∀ v, v < 256 → v % 2 ^ (8 - r) = 0 → nI v ||| ((1 : Int32) <<< (nI (7 - r) &&& 31)) = nI (v + 2 ^ (7 - r)) := by decide +kernel
theorem por0 : ∀ r, r < 8 → ((0 : Int32) <<< (nI (7 - r) &&& 31)) = 0 := by decide +kernel
def XW (nn : Nat) (B : List Bool) (wr no : AI) : Prop := ∀ i, i < 64 * nn → wr i = nI (byv (gb B) i 8) ∧ no i = nI (byv (gb B) i 8)
def MW (B : List Bool) (bi : AI) : Prop := ∀ i, i < B.length → bi i = b10 (gb B i)
theorem M_put {B : List Bool} {bi : AI} (b : Bool) (h : MW B bi) (hl : B.length < 16384) : ∃ bi2 : AI, F_X9_putBit (b10 b) (nI B.length) bi = some (bi2, nI (B ++ [b]).length) ∧ MW (B ++ [b]) bi2 := by
  unfold F_X9_putBit
  rw [ck_t (bn_nI hl (by decide)), clampN (by omega), nI_1, len1]
  refine ⟨_, rfl, fun i hi => ?_⟩
  rw [len1] at hi
  rw [gb_app1, upd_if]
  by_cases e : i = B.length
  · rw [if_pos e, if_pos e]
  · rw [if_neg e, if_neg e]
    exact h i (by omega)
theorem X_put {nn : Nat} {B : List Bool} {wr no : AI} (b : Bool) (hn : nn ≤ 48) (h : XW nn B wr no) (hl : B.length < 512 * nn) : ∃ wr2 no2 : AI, F_X0_put nn (b10 b) (nI B.length) wr no = some (wr2, no2, nI (B ++ [b]).length) ∧ XW nn (B ++ [b]) wr2 no2 := by
  unfold F_X0_put
  have q1 : nI B.length >>> ((3 : Int32) &&& 31) = nI (B.length / 8) := shrN (n := B.length) (j := 3) (by omega) (by decide)
  have q2 : nI B.length &&& (7 : Int32) = nI (B.length % 8) := pk_andN (n := B.length) (by omega) 3 (by decide)
  have q3 : (7 : Int32) - nI (B.length % 8) = nI (7 - B.length % 8) := by rw [show (7 : Int32) = nI 7 from rfl]; exact sub_all (by omega)
  have hi : B.length / 8 < 64 * nn := by omega
  have e8 : B.length = 8 * (B.length / 8) + B.length % 8 := by omega
  obtain ⟨p1, p2⟩ := byv_put (g := gb B) (h := gb (B ++ [b])) (i := B.length / 8) (r := B.length % 8) (b := b) (Nat.mod_lt _ (by decide)) (fun j hj => by rw [gb_app1, if_neg (by omega)]) (by rw [gb_app1, if_pos e8.symm]) (fun j h1 h2 => gb_ge (by omega)) (fun j h1 h2 => by rw [gb_app1, if_neg (by omega)]; exact gb_ge (by omega))
  have p3 := byv_lt (gb B) (B.length / 8) 8
  have q4 : nI (byv (gb B) (B.length / 8) 8) ||| (b10 b <<< (nI (7 - B.length % 8) &&& 31)) = nI (byv (gb (B ++ [b])) (B.length / 8) 8) := by
    rw [p1]
    cases b
    · rw [show b10 false = (0 : Int32) from rfl, por0 _ (Nat.mod_lt _ (by decide)), Int32.or_zero, if_neg (by decide)]
      rfl
    · rw [show b10 true = (1 : Int32) from rfl, por _ (Nat.mod_lt _ (by decide)) _ (by omega) p2, if_pos rfl]
  rw [q1, q2, q3, if_neg (nI_pos (by omega)), if_neg (nI_ge hi (by omega)), if_neg (nI_ge hi (by omega)), ck_t (bn_nI hi (by omega)), ck_t (bn_nI hi (by omega)), ck_t (bn_nI hi (by omega)), ck_t (bn_nI hi (by omega)), clampN (by omega), (h _ hi).1, (h _ hi).2, q4, nI_1, len1]
  refine ⟨_, _, rfl, fun i hi2 => ?_⟩
  rw [upd_if, upd_if]
  by_cases e : i = B.length / 8
  · rw [if_pos e, if_pos e, e]
    exact ⟨rfl, rfl⟩
  · rw [if_neg e, if_neg e, ← byv_cong (g := gb B) (h := gb (B ++ [b])) (fun j hj => by rw [gb_app1, if_neg (by omega)])]
    exact h i hi2
def zs : Nat → List Bool
  | 0 => []
  | n + 1 => false :: zs n
theorem zs_len : ∀ n, (zs n).length = n
  | 0 => rfl
  | n + 1 => by
    show (zs n).length + 1 = n + 1
    rw [zs_len]
def low (v : Nat) : Nat → List Bool
  | 0 => []
  | d + 1 => decide (v / 2 ^ d % 2 = 1) :: low v d
theorem low_len (v : Nat) : ∀ d, (low v d).length = d
  | 0 => rfl
  | d + 1 => by
    show (low v d).length + 1 = d + 1
    rw [low_len]
theorem bit_of {v d : Nat} (hv : v < 2 ^ 31) (hd : d < 32) : (nI v >>> (nI d &&& 31)) &&& (1 : Int32) = b10 (decide (v / 2 ^ d % 2 = 1)) := by
  have h3 : v / 2 ^ d ≤ v := Nat.div_le_self _ _
  rw [shrN hv hd, pk_andN (n := v / 2 ^ d) (by omega) 1 (by decide), Nat.pow_one]
  have := Nat.mod_lt (v / 2 ^ d) (show 0 < 2 by decide)
  have hc : v / 2 ^ d % 2 = 0 ∨ v / 2 ^ d % 2 = 1 := by omega
  rcases hc with e | e
  · rw [e]; rfl
  · rw [e]; rfl
def un (v : Nat) : List Bool := zs v ++ [true]
def db (v : Nat) : List Bool := zs (dg (v + 1) - 1) ++ low (v + 1) (dg (v + 1))
def nb (f v : Nat) : List Bool := if f = 0 then un v else if f = 1 then db v else if f = 2 then db (dg (v + 1) - 1) ++ low (v + 1) (dg (v + 1) - 1) else un (v / 2 ^ (f - 3)) ++ low v (f - 3)
theorem un_len (v : Nat) : (un v).length = v + 1 := by
  unfold un
  rw [len1, zs_len]
theorem db_len (v : Nat) : (db v).length = 2 * dg (v + 1) - 1 := by
  unfold db
  have := dg_pos (v + 1)
  rw [List.length_append, zs_len, low_len]
  omega
theorem nb_len (f v : Nat) : (nb f v).length = ln f v := by
  unfold nb ln
  by_cases e0 : f = 0
  · rw [if_pos e0, if_pos e0, un_len]
  · rw [if_neg e0, if_neg e0]
    by_cases e1 : f = 1
    · rw [if_pos e1, if_pos e1, db_len]
    · rw [if_neg e1, if_neg e1]
      by_cases e2 : f = 2
      · have := dg_pos (v + 1)
        rw [if_pos e2, if_pos e2, List.length_append, db_len, low_len, show dg (v + 1) - 1 + 1 = dg (v + 1) by omega]
      · rw [if_neg e2, if_neg e2, List.length_append, un_len, low_len]
def wb (φ : Nat → Nat) : LUN → List Bool
  | [] => []
  | e :: t => (if e.1 = 8 then [decide (e.2 = 1)] else nb (φ e.1) e.2) ++ wb φ t
theorem wb_len (φ : Nat → Nat) : ∀ T : LUN, (wb φ T).length = bts φ T
  | [] => rfl
  | e :: t => by
    show ((if e.1 = 8 then [decide (e.2 = 1)] else nb (φ e.1) e.2) ++ wb φ t).length = (if e.1 = 8 then 1 else ln (φ e.1) e.2) + bts φ t
    rw [List.length_append, wb_len φ t]
    by_cases c : e.1 = 8
    · rw [if_pos c, if_pos c]; rfl
    · rw [if_neg c, if_neg c, nb_len]
theorem X_zer {nn : Nat} {v : Nat} (hv : v < 2 ^ 31) (hn : nn ≤ 48) : ∀ (r j f : Nat) (B : List Bool) (wr no : AI), j + r = v → r < f → XW nn B wr no → B.length + r ≤ 512 * nn → ∃ wr2 no2 : AI, F_X0_putUnary_L2 nn (nI v) f (nI j) wr no (nI B.length) = some (wr2, no2, nI (B ++ zs r).length) ∧ XW nn (B ++ zs r) wr2 no2 := by
  intro r
  induction r with
  | zero =>
    intro j f B wr no e1 e2 e3 e4
    obtain ⟨f, rfl⟩ : ∃ g, f = g + 1 := ⟨f - 1, by omega⟩
    rw [F_X0_putUnary_L2, if_pos (nI_le (by omega) (by omega)), zs, List.append_nil]
    exact ⟨_, _, rfl, e3⟩
  | succ r ih =>
    intro j f B wr no e1 e2 e3 e4
    obtain ⟨f, rfl⟩ : ∃ g, f = g + 1 := ⟨f - 1, by omega⟩
    obtain ⟨wr2, no2, a1, a2⟩ := X_put false hn e3 (by omega)
    have a1 : F_X0_put nn (0 : Int32) (nI B.length) wr no = some (wr2, no2, nI (B ++ [false]).length) := a1
    obtain ⟨wr3, no3, b1, b2⟩ := ih (j + 1) f (B ++ [false]) wr2 no2 (by omega) (by omega) a2 (by rw [len1]; omega)
    rw [app1] at b1 b2
    rw [F_X0_putUnary_L2, if_neg (nI_ge (by omega) (by omega)), a1, bd_some, nI_1]
    exact ⟨wr3, no3, b1, b2⟩
theorem X_zerD {nn : Nat} {v : Nat} {x1 : Int32} (hv : v < 2 ^ 31) (hn : nn ≤ 48) : ∀ (r j f : Nat) (B : List Bool) (wr no : AI), j + r = v → r < f → XW nn B wr no → B.length + r ≤ 512 * nn → ∃ wr2 no2 : AI, F_X0_putDoubled_L9 nn x1 (nI v) f (nI j) wr no (nI B.length) = some (wr2, no2, nI (B ++ zs r).length) ∧ XW nn (B ++ zs r) wr2 no2 := by
  intro r
  induction r with
  | zero =>
    intro j f B wr no e1 e2 e3 e4
    obtain ⟨f, rfl⟩ : ∃ g, f = g + 1 := ⟨f - 1, by omega⟩
    rw [F_X0_putDoubled_L9, if_pos (nI_le (by omega) (by omega)), zs, List.append_nil]
    exact ⟨_, _, rfl, e3⟩
  | succ r ih =>
    intro j f B wr no e1 e2 e3 e4
    obtain ⟨f, rfl⟩ : ∃ g, f = g + 1 := ⟨f - 1, by omega⟩
    obtain ⟨wr2, no2, a1, a2⟩ := X_put false hn e3 (by omega)
    have a1 : F_X0_put nn (0 : Int32) (nI B.length) wr no = some (wr2, no2, nI (B ++ [false]).length) := a1
    obtain ⟨wr3, no3, b1, b2⟩ := ih (j + 1) f (B ++ [false]) wr2 no2 (by omega) (by omega) a2 (by rw [len1]; omega)
    rw [app1] at b1 b2
    rw [F_X0_putDoubled_L9, if_neg (nI_ge (by omega) (by omega)), a1, bd_some, nI_1]
    exact ⟨wr3, no3, b1, b2⟩
theorem X_un {fu : Nat} {nn : Nat} {v : Nat} {B : List Bool} {wr no : AI} (hf : v < fu) (hv : v < 2 ^ 31) (hn : nn ≤ 48) (h : XW nn B wr no) (hl : B.length + (v + 1) ≤ 512 * nn) : ∃ wr2 no2 : AI, F_X0_putUnary fu nn (nI v) (nI B.length) wr no = some (wr2, no2, nI (B ++ un v).length) ∧ XW nn (B ++ un v) wr2 no2 := by
  obtain ⟨wr2, no2, a1, a2⟩ := X_zer (v := v) hv hn v 0 fu B wr no (by omega) (by omega) h (by omega)
  obtain ⟨wr3, no3, b1, b2⟩ := X_put true hn a2 (by rw [List.length_append, zs_len]; omega)
  have b1 : F_X0_put nn (1 : Int32) (nI (B ++ zs v).length) wr2 no2 = some (wr3, no3, nI (B ++ zs v ++ [true]).length) := b1
  rw [List.append_assoc] at b1 b2
  unfold F_X0_putUnary
  rw [show (0 : Int32) = nI 0 from rfl, a1, bd_some, b1, bd_some]
  exact ⟨wr3, no3, rfl, b2⟩
theorem X_lowL {nn : Nat} {v : Nat} (hv : v < 2 ^ 31) (hn : nn ≤ 48) : ∀ (d f : Nat) (B : List Bool) (wr no : AI), d < 32 → d < f → XW nn B wr no → B.length + d ≤ 512 * nn → ∃ wr2 no2 : AI, F_X0_putLowest_L4 nn (nI v) f (nI d - 1) wr no (nI B.length) = some (wr2, no2, nI (B ++ low v d).length) ∧ XW nn (B ++ low v d) wr2 no2 := by
  intro d
  induction d with
  | zero =>
    intro f B wr no e1 e2 e3 e4
    obtain ⟨f, rfl⟩ : ∃ g, f = g + 1 := ⟨f - 1, by omega⟩
    rw [F_X0_putLowest_L4, if_pos (by decide), low, List.append_nil]
    exact ⟨_, _, rfl, e3⟩
  | succ d ih =>
    intro f B wr no e1 e2 e3 e4
    obtain ⟨f, rfl⟩ : ∃ g, f = g + 1 := ⟨f - 1, by omega⟩
    obtain ⟨wr2, no2, a1, a2⟩ := X_put (decide (v / 2 ^ d % 2 = 1)) hn e3 (by omega)
    obtain ⟨wr3, no3, b1, b2⟩ := ih f (B ++ [decide (v / 2 ^ d % 2 = 1)]) wr2 no2 (by omega) (by omega) a2 (by rw [len1]; omega)
    rw [app1] at b1 b2
    rw [nI_pred, F_X0_putLowest_L4, if_neg (nI_pos (by omega)), bit_of hv (by omega), a1, bd_some, ← Int32.sub_eq_add_neg]
    exact ⟨wr3, no3, b1, b2⟩
theorem X_low {fu : Nat} {nn : Nat} {v d : Nat} {B : List Bool} {wr no : AI} (hf : 100 ≤ fu) (hv : v < 2 ^ 31) (hd : d < 32) (hn : nn ≤ 48) (h : XW nn B wr no) (hl : B.length + d ≤ 512 * nn) : ∃ wr2 no2 : AI, F_X0_putLowest fu nn (nI v) (nI d) (nI B.length) wr no = some (wr2, no2, nI (B ++ low v d).length) ∧ XW nn (B ++ low v d) wr2 no2 := by
  obtain ⟨wr2, no2, a1, a2⟩ := X_lowL (v := v) hv hn d fu B wr no hd (by omega) h hl
  unfold F_X0_putLowest
  rw [a1, bd_some]
  exact ⟨wr2, no2, rfl, a2⟩
theorem X_db {fu : Nat} {nn : Nat} {v : Nat} {B : List Bool} {wr no : AI} (hf : 1000 ≤ fu) (hv : v < 2 ^ 20) (hn : nn ≤ 48) (h : XW nn B wr no) (hl : B.length + (db v).length ≤ 512 * nn) : ∃ wr2 no2 : AI, F_X0_putDoubled fu nn (nI v) (nI B.length) wr no = some (wr2, no2, nI (B ++ db v).length) ∧ XW nn (B ++ db v) wr2 no2 := by
  have d1 := dg_pos (v + 1)
  have d2 : dg (v + 1) ≤ 21 := dg_30 (by omega) (by omega)
  rw [db_len] at hl
  obtain ⟨wr2, no2, a1, a2⟩ := X_zerD (v := dg (v + 1)) (x1 := nI v) (by omega) hn (dg (v + 1) - 1) 1 fu B wr no (by omega) (by omega) h (by omega)
  obtain ⟨wr3, no3, b1, b2⟩ := X_low (fu := fu) (v := v + 1) (d := dg (v + 1)) (by omega) (by omega) (by omega) hn a2 (by rw [List.length_append, zs_len]; omega)
  rw [List.append_assoc] at b1 b2
  have a1 : F_X0_putDoubled_L9 nn (nI v) (nI (dg (v + 1))) fu (1 : Int32) wr no (nI B.length) = some (wr2, no2, nI (B ++ zs (dg (v + 1) - 1)).length) := a1
  unfold F_X0_putDoubled
  rw [nI_1, X_digitsOf (by omega) (by omega) (by omega), bd_some, a1, bd_some, b1, bd_some]
  exact ⟨wr3, no3, rfl, b2⟩
theorem X_num {fu : Nat} {nn : Nat} {f v : Nat} {B : List Bool} {wr no : AI} (hf : 1000 ≤ fu) (h10 : f < 10) (hv : v < 96) (hn : nn ≤ 48) (h : XW nn B wr no) (hl : B.length + (nb f v).length ≤ 512 * nn) : ∃ wr2 no2 : AI, F_X0_putNumber fu nn (nI f) (nI v) (nI B.length) wr no = some (wr2, no2, nI (B ++ nb f v).length) ∧ XW nn (B ++ nb f v) wr2 no2 := by
  unfold F_X0_putNumber
  unfold nb at hl ⊢
  by_cases e0 : f = 0
  · subst e0
    rw [if_pos rfl, un_len] at hl
    obtain ⟨wr2, no2, a1, a2⟩ := X_un (fu := fu) (v := v) (by omega) (by omega) hn h hl
    rw [if_pos (show nI 0 = (0 : Int32) from rfl), if_pos rfl, a1, bd_some]
    exact ⟨wr2, no2, rfl, a2⟩
  · rw [if_neg (show ¬ nI f = (0 : Int32) from nI_k (k := 0) (by omega) (by decide) e0)]
    rw [if_neg e0] at hl ⊢
    by_cases e1 : f = 1
    · subst e1
      rw [if_pos rfl] at hl
      obtain ⟨wr2, no2, a1, a2⟩ := X_db (fu := fu) (v := v) hf (by omega) hn h hl
      rw [if_pos (show nI 1 = (1 : Int32) from rfl), if_pos rfl, a1, bd_some]
      exact ⟨wr2, no2, rfl, a2⟩
    · rw [if_neg (show ¬ nI f = (1 : Int32) from nI_k (k := 1) (by omega) (by decide) e1)]
      rw [if_neg e1] at hl ⊢
      by_cases e2 : f = 2
      · subst e2
        have d1 := dg_pos (v + 1)
        have d2 : dg (v + 1) ≤ 7 := dg_30 (by omega) (by omega)
        rw [if_pos rfl, List.length_append, low_len] at hl
        obtain ⟨wr2, no2, a1, a2⟩ := X_db (fu := fu) (v := dg (v + 1) - 1) hf (by omega) hn h (by omega)
        obtain ⟨wr3, no3, b1, b2⟩ := X_low (fu := fu) (v := v + 1) (d := dg (v + 1) - 1) (by omega) (by omega) (by omega) hn a2 (by rw [List.length_append]; omega)
        rw [List.append_assoc] at b1 b2
        have e3 : nI (dg (v + 1)) - 1 = nI (dg (v + 1) - 1) := by rw [show (1 : Int32) = nI 1 from rfl, pk_sub d1]
        rw [if_pos (show nI 2 = (2 : Int32) from rfl), if_pos rfl, nI_1, X_digitsOf (by omega) (by omega) (by omega), bd_some, e3, a1, bd_some, b1, bd_some]
        exact ⟨wr3, no3, rfl, b2⟩
      · rw [if_neg (show ¬ nI f = (2 : Int32) from nI_k (k := 2) (by omega) (by decide) e2)]
        rw [if_neg e2] at hl ⊢
        rw [List.length_append, un_len, low_len] at hl
        have e3 : nI f - 3 = nI (f - 3) := by rw [show (3 : Int32) = nI 3 from rfl, pk_sub (by omega)]
        have h3 : v / 2 ^ (f - 3) ≤ v := Nat.div_le_self _ _
        obtain ⟨wr2, no2, a1, a2⟩ := X_un (fu := fu) (v := v / 2 ^ (f - 3)) (by omega) (by omega) hn h (by omega)
        obtain ⟨wr3, no3, b1, b2⟩ := X_low (fu := fu) (v := v) (d := f - 3) (by omega) (by omega) (by omega) hn a2 (by rw [List.length_append, un_len]; omega)
        rw [List.append_assoc] at b1 b2
        rw [e3, shrN (by omega) (by omega), a1, bd_some, b1, bd_some]
        exact ⟨wr3, no3, rfl, b2⟩
theorem X_wrL {fu n : Nat} {nn : Nat} {us nu fo : AI} {φ : Nat → Nat} (hf : 1000 ≤ fu) (hn16 : n ≤ 160) (hφ : fok φ fo) (hn : nn ≤ 48) : ∀ (T : LUN) (i f : Nat) (B : List Bool) (wr no : AI), i + T.length = n → T.length < f → Hd us nu i T → ok9 T → XW nn B wr no → B.length + bts φ T ≤ 512 * nn → ∃ wr2 no2 : AI, F_X0_write_L2 fu nn (nI n) us fo nu f (nI i) wr no (nI B.length) = some (wr2, no2, nI (B ++ wb φ T).length) ∧ XW nn (B ++ wb φ T) wr2 no2 := by
  intro T
  induction T with
  | nil =>
    intro i f B wr no e1 e2 e3 e4 e5 e6
    obtain ⟨f, rfl⟩ : ∃ g, f = g + 1 := ⟨f - 1, by omega⟩
    have e1 : i + 0 = n := e1
    rw [F_X0_write_L2, show F_X6_size (nI n) = some (nI n) from rfl, bd_some, if_pos (nI_le (by omega) (by omega)), wb, List.append_nil]
    exact ⟨_, _, rfl, e5⟩
  | cons e T ih =>
    intro i f B wr no e1 e2 e3 e4 e5 e6
    obtain ⟨f, rfl⟩ : ∃ g, f = g + 1 := ⟨f - 1, by omega⟩
    have e1 : i + (T.length + 1) = n := e1
    have e2 : T.length + 1 < f + 1 := e2
    obtain ⟨g1, g2, g3⟩ := e3
    obtain ⟨k1, k2⟩ := e4
    have e6 : B.length + ((if e.1 = 8 then 1 else ln (φ e.1) e.2) + bts φ T) ≤ 512 * nn := e6
    rw [F_X0_write_L2, show F_X6_size (nI n) = some (nI n) from rfl, bd_some, if_neg (nI_ge (by omega) (by omega)), useAt (by omega), bd_some, g1, wb]
    by_cases c : e.1 = 8
    · rw [if_pos c] at e6
      have k3 : e.2 ≤ 1 := by omega
      have k4 : nI e.2 = b10 (decide (e.2 = 1)) := by
        have hc : e.2 = 0 ∨ e.2 = 1 := by omega
        rcases hc with q | q
        · rw [q]; rfl
        · rw [q]; rfl
      obtain ⟨wr2, no2, a1, a2⟩ := X_put (decide (e.2 = 1)) hn e5 (by omega)
      obtain ⟨wr3, no3, b1, b2⟩ := ih (i + 1) f (B ++ [decide (e.2 = 1)]) wr2 no2 (by omega) (by omega) g3 k2 a2 (by rw [len1]; omega)
      rw [List.append_assoc] at b1 b2
      rw [if_pos (show nI e.1 = (8 : Int32) by rw [c]; rfl), if_pos c, numAt (by omega), bd_some, g2, k4, a1, bd_some, nI_1]
      exact ⟨wr3, no3, b1, b2⟩
    · rw [if_neg c] at e6
      have k3 : e.1 < 8 ∧ e.2 < 96 := by omega
      obtain ⟨wr2, no2, a1, a2⟩ := X_num (fu := fu) (f := φ e.1) (v := e.2) hf (hφ e.1 k3.1).2 k3.2 hn e5 (by rw [nb_len]; omega)
      obtain ⟨wr3, no3, b1, b2⟩ := ih (i + 1) f (B ++ nb (φ e.1) e.2) wr2 no2 (by omega) (by omega) g3 k2 a2 (by rw [List.length_append, nb_len]; omega)
      rw [List.append_assoc] at b1 b2
      rw [if_neg (show ¬ nI e.1 = (8 : Int32) from nI_k (k := 8) (by omega) (by decide) c), if_neg c, formOf k3.1, bd_some, numAt (by omega), bd_some, g2, (hφ e.1 k3.1).1, a1, bd_some, nI_1]
      exact ⟨wr3, no3, b1, b2⟩
theorem M_zer {v : Nat} (hv : v < 2 ^ 31) : ∀ (r j f : Nat) (B : List Bool) (bi : AI), j + r = v → r < f → MW B bi → B.length + r ≤ 16384 → ∃ bi2 : AI, F_X9_putUnary_L2 (nI v) f (nI j) bi (nI B.length) = some (bi2, nI (B ++ zs r).length) ∧ MW (B ++ zs r) bi2 := by
  intro r
  induction r with
  | zero =>
    intro j f B bi e1 e2 e3 e4
    obtain ⟨f, rfl⟩ : ∃ g, f = g + 1 := ⟨f - 1, by omega⟩
    rw [F_X9_putUnary_L2, if_pos (nI_le (by omega) (by omega)), zs, List.append_nil]
    exact ⟨_, rfl, e3⟩
  | succ r ih =>
    intro j f B bi e1 e2 e3 e4
    obtain ⟨f, rfl⟩ : ∃ g, f = g + 1 := ⟨f - 1, by omega⟩
    obtain ⟨bi2, a1, a2⟩ := M_put false  e3 (by omega)
    have a1 : F_X9_putBit (0 : Int32) (nI B.length) bi = some (bi2, nI (B ++ [false]).length) := a1
    obtain ⟨bi3, b1, b2⟩ := ih (j + 1) f (B ++ [false]) bi2 (by omega) (by omega) a2 (by rw [len1]; omega)
    rw [app1] at b1 b2
    rw [F_X9_putUnary_L2, if_neg (nI_ge (by omega) (by omega)), a1, bd_some, nI_1]
    exact ⟨bi3, b1, b2⟩
theorem M_zerD {v : Nat} {x1 : Int32} (hv : v < 2 ^ 31) : ∀ (r j f : Nat) (B : List Bool) (bi : AI), j + r = v → r < f → MW B bi → B.length + r ≤ 16384 → ∃ bi2 : AI, F_X9_putDoubled_L9 x1 (nI v) f (nI j) bi (nI B.length) = some (bi2, nI (B ++ zs r).length) ∧ MW (B ++ zs r) bi2 := by
  intro r
  induction r with
  | zero =>
    intro j f B bi e1 e2 e3 e4
    obtain ⟨f, rfl⟩ : ∃ g, f = g + 1 := ⟨f - 1, by omega⟩
    rw [F_X9_putDoubled_L9, if_pos (nI_le (by omega) (by omega)), zs, List.append_nil]
    exact ⟨_, rfl, e3⟩
  | succ r ih =>
    intro j f B bi e1 e2 e3 e4
    obtain ⟨f, rfl⟩ : ∃ g, f = g + 1 := ⟨f - 1, by omega⟩
    obtain ⟨bi2, a1, a2⟩ := M_put false  e3 (by omega)
    have a1 : F_X9_putBit (0 : Int32) (nI B.length) bi = some (bi2, nI (B ++ [false]).length) := a1
    obtain ⟨bi3, b1, b2⟩ := ih (j + 1) f (B ++ [false]) bi2 (by omega) (by omega) a2 (by rw [len1]; omega)
    rw [app1] at b1 b2
    rw [F_X9_putDoubled_L9, if_neg (nI_ge (by omega) (by omega)), a1, bd_some, nI_1]
    exact ⟨bi3, b1, b2⟩
theorem M_un {fu : Nat} {v : Nat} {B : List Bool} {bi : AI} (hf : v < fu) (hv : v < 2 ^ 31) (h : MW B bi) (hl : B.length + (v + 1) ≤ 16384) : ∃ bi2 : AI, F_X9_putUnary fu (nI v) (nI B.length) bi = some (bi2, nI (B ++ un v).length) ∧ MW (B ++ un v) bi2 := by
  obtain ⟨bi2, a1, a2⟩ := M_zer (v := v) hv  v 0 fu B bi (by omega) (by omega) h (by omega)
  obtain ⟨bi3, b1, b2⟩ := M_put true  a2 (by rw [List.length_append, zs_len]; omega)
  have b1 : F_X9_putBit (1 : Int32) (nI (B ++ zs v).length) bi2 = some (bi3, nI (B ++ zs v ++ [true]).length) := b1
  rw [List.append_assoc] at b1 b2
  unfold F_X9_putUnary
  rw [show (0 : Int32) = nI 0 from rfl, a1, bd_some, b1, bd_some]
  exact ⟨bi3, rfl, b2⟩
theorem M_lowL {v : Nat} (hv : v < 2 ^ 31) : ∀ (d f : Nat) (B : List Bool) (bi : AI), d < 32 → d < f → MW B bi → B.length + d ≤ 16384 → ∃ bi2 : AI, F_X9_putBits_L4 (nI v) f (nI d - 1) bi (nI B.length) = some (bi2, nI (B ++ low v d).length) ∧ MW (B ++ low v d) bi2 := by
  intro d
  induction d with
  | zero =>
    intro f B bi e1 e2 e3 e4
    obtain ⟨f, rfl⟩ : ∃ g, f = g + 1 := ⟨f - 1, by omega⟩
    rw [F_X9_putBits_L4, if_pos (by decide), low, List.append_nil]
    exact ⟨_, rfl, e3⟩
  | succ d ih =>
    intro f B bi e1 e2 e3 e4
    obtain ⟨f, rfl⟩ : ∃ g, f = g + 1 := ⟨f - 1, by omega⟩
    obtain ⟨bi2, a1, a2⟩ := M_put (decide (v / 2 ^ d % 2 = 1))  e3 (by omega)
    obtain ⟨bi3, b1, b2⟩ := ih f (B ++ [decide (v / 2 ^ d % 2 = 1)]) bi2 (by omega) (by omega) a2 (by rw [len1]; omega)
    rw [app1] at b1 b2
    rw [nI_pred, F_X9_putBits_L4, if_neg (nI_pos (by omega)), bit_of hv (by omega), a1, bd_some, ← Int32.sub_eq_add_neg]
    exact ⟨bi3, b1, b2⟩
theorem M_low {fu : Nat} {v d : Nat} {B : List Bool} {bi : AI} (hf : 100 ≤ fu) (hv : v < 2 ^ 31) (hd : d < 32) (h : MW B bi) (hl : B.length + d ≤ 16384) : ∃ bi2 : AI, F_X9_putBits fu (nI v) (nI d) (nI B.length) bi = some (bi2, nI (B ++ low v d).length) ∧ MW (B ++ low v d) bi2 := by
  obtain ⟨bi2, a1, a2⟩ := M_lowL (v := v) hv  d fu B bi hd (by omega) h hl
  unfold F_X9_putBits
  rw [a1, bd_some]
  exact ⟨bi2, rfl, a2⟩
theorem M_db {fu : Nat} {v : Nat} {B : List Bool} {bi : AI} (hf : 1000 ≤ fu) (hv : v < 2 ^ 20) (h : MW B bi) (hl : B.length + (db v).length ≤ 16384) : ∃ bi2 : AI, F_X9_putDoubled fu (nI v) (nI B.length) bi = some (bi2, nI (B ++ db v).length) ∧ MW (B ++ db v) bi2 := by
  have d1 := dg_pos (v + 1)
  have d2 : dg (v + 1) ≤ 21 := dg_30 (by omega) (by omega)
  rw [db_len] at hl
  obtain ⟨bi2, a1, a2⟩ := M_zerD (v := dg (v + 1)) (x1 := nI v) (by omega)  (dg (v + 1) - 1) 1 fu B bi (by omega) (by omega) h (by omega)
  obtain ⟨bi3, b1, b2⟩ := M_low (fu := fu) (v := v + 1) (d := dg (v + 1)) (by omega) (by omega) (by omega)  a2 (by rw [List.length_append, zs_len]; omega)
  rw [List.append_assoc] at b1 b2
  have a1 : F_X9_putDoubled_L9 (nI v) (nI (dg (v + 1))) fu (1 : Int32) bi (nI B.length) = some (bi2, nI (B ++ zs (dg (v + 1) - 1)).length) := a1
  unfold F_X9_putDoubled
  rw [nI_1, M_bitsOf (by omega) (by omega) (by omega), bd_some, a1, bd_some, b1, bd_some]
  exact ⟨bi3, rfl, b2⟩
theorem M_num {fu : Nat} {f v : Nat} {B : List Bool} {bi : AI} (hf : 1000 ≤ fu) (h10 : f < 10) (hv : v < 96) (h : MW B bi) (hl : B.length + (nb f v).length ≤ 16384) : ∃ bi2 : AI, F_X9_putNumber fu (nI f) (nI v) (nI B.length) bi = some (bi2, nI (B ++ nb f v).length) ∧ MW (B ++ nb f v) bi2 := by
  unfold F_X9_putNumber
  unfold nb at hl ⊢
  by_cases e0 : f = 0
  · subst e0
    rw [if_pos rfl, un_len] at hl
    obtain ⟨bi2, a1, a2⟩ := M_un (fu := fu) (v := v) (by omega) (by omega)  h hl
    rw [if_pos (show nI 0 = (0 : Int32) from rfl), if_pos rfl, a1, bd_some]
    exact ⟨bi2, rfl, a2⟩
  · rw [if_neg (show ¬ nI f = (0 : Int32) from nI_k (k := 0) (by omega) (by decide) e0)]
    rw [if_neg e0] at hl ⊢
    by_cases e1 : f = 1
    · subst e1
      rw [if_pos rfl] at hl
      obtain ⟨bi2, a1, a2⟩ := M_db (fu := fu) (v := v) hf (by omega)  h hl
      rw [if_pos (show nI 1 = (1 : Int32) from rfl), if_pos rfl, a1, bd_some]
      exact ⟨bi2, rfl, a2⟩
    · rw [if_neg (show ¬ nI f = (1 : Int32) from nI_k (k := 1) (by omega) (by decide) e1)]
      rw [if_neg e1] at hl ⊢
      by_cases e2 : f = 2
      · subst e2
        have d1 := dg_pos (v + 1)
        have d2 : dg (v + 1) ≤ 7 := dg_30 (by omega) (by omega)
        rw [if_pos rfl, List.length_append, low_len] at hl
        obtain ⟨bi2, a1, a2⟩ := M_db (fu := fu) (v := dg (v + 1) - 1) hf (by omega)  h (by omega)
        obtain ⟨bi3, b1, b2⟩ := M_low (fu := fu) (v := v + 1) (d := dg (v + 1) - 1) (by omega) (by omega) (by omega)  a2 (by rw [List.length_append]; omega)
        rw [List.append_assoc] at b1 b2
        have e3 : nI (dg (v + 1)) - 1 = nI (dg (v + 1) - 1) := by rw [show (1 : Int32) = nI 1 from rfl, pk_sub d1]
        rw [if_pos (show nI 2 = (2 : Int32) from rfl), if_pos rfl, nI_1, M_bitsOf (by omega) (by omega) (by omega), bd_some, e3, a1, bd_some, b1, bd_some]
        exact ⟨bi3, rfl, b2⟩
      · rw [if_neg (show ¬ nI f = (2 : Int32) from nI_k (k := 2) (by omega) (by decide) e2)]
        rw [if_neg e2] at hl ⊢
        rw [List.length_append, un_len, low_len] at hl
        have e3 : nI f - 3 = nI (f - 3) := by rw [show (3 : Int32) = nI 3 from rfl, pk_sub (by omega)]
        have h3 : v / 2 ^ (f - 3) ≤ v := Nat.div_le_self _ _
        obtain ⟨bi2, a1, a2⟩ := M_un (fu := fu) (v := v / 2 ^ (f - 3)) (by omega) (by omega)  h (by omega)
        obtain ⟨bi3, b1, b2⟩ := M_low (fu := fu) (v := v) (d := f - 3) (by omega) (by omega) (by omega)  a2 (by rw [List.length_append, un_len]; omega)
        rw [List.append_assoc] at b1 b2
        rw [e3, shrN (by omega) (by omega), a1, bd_some, b1, bd_some]
        exact ⟨bi3, rfl, b2⟩
theorem M_wrL {fu n : Nat} {us nu fo : AI} {φ : Nat → Nat} (hf : 1000 ≤ fu) (hn16 : n ≤ 160) (hφ : fok φ fo) : ∀ (T : LUN) (i f : Nat) (B : List Bool) (bi : AI), i + T.length = n → T.length < f → Hd us nu i T → ok9 T → MW B bi → B.length + bts φ T ≤ 16384 → ∃ bi2 : AI, F_X9_writeRow_L12 fu (nI n) us fo nu f (nI i) bi (nI B.length) = some (bi2, nI (B ++ wb φ T).length) ∧ MW (B ++ wb φ T) bi2 := by
  intro T
  induction T with
  | nil =>
    intro i f B bi e1 e2 e3 e4 e5 e6
    obtain ⟨f, rfl⟩ : ∃ g, f = g + 1 := ⟨f - 1, by omega⟩
    have e1 : i + 0 = n := e1
    rw [F_X9_writeRow_L12,  if_pos (nI_le (by omega) (by omega)), wb, List.append_nil]
    exact ⟨_, rfl, e5⟩
  | cons e T ih =>
    intro i f B bi e1 e2 e3 e4 e5 e6
    obtain ⟨f, rfl⟩ : ∃ g, f = g + 1 := ⟨f - 1, by omega⟩
    have e1 : i + (T.length + 1) = n := e1
    have e2 : T.length + 1 < f + 1 := e2
    obtain ⟨g1, g2, g3⟩ := e3
    obtain ⟨k1, k2⟩ := e4
    have e6 : B.length + ((if e.1 = 8 then 1 else ln (φ e.1) e.2) + bts φ T) ≤ 16384 := e6
    rw [F_X9_writeRow_L12,  if_neg (nI_ge (by omega) (by omega)), ck_t (bn_nI (show i < 400 by omega) (by decide)), clampN (show i < 2 ^ 31 by omega), g1, wb]
    by_cases c : e.1 = 8
    · rw [if_pos c] at e6
      have k3 : e.2 ≤ 1 := by omega
      have k4 : nI e.2 = b10 (decide (e.2 = 1)) := by
        have hc : e.2 = 0 ∨ e.2 = 1 := by omega
        rcases hc with q | q
        · rw [q]; rfl
        · rw [q]; rfl
      obtain ⟨bi2, a1, a2⟩ := M_put (decide (e.2 = 1))  e5 (by omega)
      obtain ⟨bi3, b1, b2⟩ := ih (i + 1) f (B ++ [decide (e.2 = 1)]) bi2 (by omega) (by omega) g3 k2 a2 (by rw [len1]; omega)
      rw [List.append_assoc] at b1 b2
      rw [if_pos (show nI e.1 = (8 : Int32) by rw [c]; rfl), if_pos c, ck_t (bn_nI (show i < 400 by omega) (by decide)), g2, k4, a1, bd_some, nI_1]
      exact ⟨bi3, b1, b2⟩
    · rw [if_neg c] at e6
      have k3 : e.1 < 8 ∧ e.2 < 96 := by omega
      obtain ⟨bi2, a1, a2⟩ := M_num (fu := fu) (f := φ e.1) (v := e.2) hf (hφ e.1 k3.1).2 k3.2  e5 (by rw [nb_len]; omega)
      obtain ⟨bi3, b1, b2⟩ := ih (i + 1) f (B ++ nb (φ e.1) e.2) bi2 (by omega) (by omega) g3 k2 a2 (by rw [List.length_append, nb_len]; omega)
      rw [List.append_assoc] at b1 b2
      rw [if_neg (show ¬ nI e.1 = (8 : Int32) from nI_k (k := 8) (by omega) (by decide) c), if_neg c, ck_t (bn_nI (show i < 400 by omega) (by decide)), ck_t (bn_nI k3.1 (by decide)), ck_t (bn_nI (show i < 400 by omega) (by decide)), clampN (show e.1 < 2 ^ 31 by omega), g2, (hφ e.1 k3.1).1, a1, bd_some, nI_1]
      exact ⟨bi3, b1, b2⟩

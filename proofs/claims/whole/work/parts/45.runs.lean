/-! ===== pure: runs; spans ===== -/
def rg : Nat → Nat → List Nat
  | _, 0 => []
  | b, n + 1 => b :: rg (b + 1) n
theorem rg_len : ∀ n b : Nat, (rg b n).length = n
  | 0, _ => rfl
  | n + 1, b => by
    show (rg (b + 1) n).length + 1 = n + 1
    rw [rg_len n]
theorem en_all {p : Nat → Bool} : ∀ {r j : Nat}, (∀ k, j ≤ k → k < j + r → p k = true) → en p r j = rg j r
  | 0, _, _ => rfl
  | r + 1, j, h => by
    rw [en_t (h j (Nat.le_refl _) (by omega)), en_all (fun k h1 h2 => h k (by omega) (by omega))]
    rfl
theorem Hl_rg {li : AI} : ∀ {n b i : Nat}, Hl li i (rg b n) → ∀ m, m < n → li (i + m) = nI (b + m)
  | 0, _, _, _, m, hm => absurd hm (by omega)
  | n + 1, b, i, h, 0, _ => h.1
  | n + 1, b, i, h, m + 1, hm => by
    have := Hl_rg (n := n) h.2 m (by omega)
    rw [show i + (m + 1) = i + 1 + m by omega, show b + (m + 1) = b + 1 + m by omega]
    exact this
/-- the runs of a row from j on: where each begins, how long it is -/
def RN (p : Nat → Bool) : Nat → LUN → Prop
  | j, [] => ∀ c, j ≤ c → p c = false
  | j, e :: R => j ≤ e.1 ∧ 1 ≤ e.2 ∧ e.1 + e.2 ≤ 48 ∧ (e.1 = 0 ∨ p (e.1 - 1) = false) ∧ (∀ c, j ≤ c → c < e.1 → p c = false) ∧ (∀ c, e.1 ≤ c → c < e.1 + e.2 → p c = true) ∧ p (e.1 + e.2) = false ∧ RN p (e.1 + e.2) R
def rns (p : Nat → Bool) : Nat → Nat → Nat → LUN
  | 0, j, c => if c = 0 then [] else [(j - c, c)]
  | r + 1, j, c => if p j = true then rns p r (j + 1) (c + 1) else if c = 0 then rns p r (j + 1) 0 else (j - c, c) :: rns p r (j + 1) 0
theorem RN_gap {p : Nat → Bool} {j k : Nat} (hjk : k ≤ j) (h : ∀ c, k ≤ c → c < j → p c = false) : ∀ {R : LUN}, RN p j R → RN p k R
  | [], hR => fun c hc => by
    rcases Nat.lt_or_ge c j with q | q
    · exact h c hc q
    · exact hR c q
  | e :: R, hR => by
    obtain ⟨h1, h2, h3, h4, h5, h6, h7, h8⟩ := hR
    refine ⟨by omega, h2, h3, h4, fun c hc hce => ?_, h6, h7, h8⟩
    rcases Nat.lt_or_ge c j with q | q
    · exact h c hc q
    · exact h5 c q hce
theorem rns_RN {p : Nat → Bool} (hp : ∀ b, 48 ≤ b → p b = false) : ∀ r j c : Nat, j + r = 48 → c ≤ j → (∀ k, j - c ≤ k → k < j → p k = true) → (j - c = 0 ∨ p (j - c - 1) = false) → RN p (j - c) (rns p r j c)
  | 0, j, c, e1, e2, e3, e4 => by
    rw [rns]
    by_cases q : c = 0
    · rw [if_pos q]
      intro k hk
      exact hp k (by omega)
    · rw [if_neg q]
      refine ⟨Nat.le_refl _, by show 1 ≤ c; omega, by show j - c + c ≤ 48; omega, e4, fun k h1 h2 => absurd h2 (by show ¬ k < j - c; omega), fun k h1 h2 => e3 k h1 (by have : k < j - c + c := h2; omega), hp _ (by show 48 ≤ j - c + c; omega), fun k hk => hp k (by have : j - c + c ≤ k := hk; omega)⟩
  | r + 1, j, c, e1, e2, e3, e4 => by
    rw [rns]
    by_cases q0 : p j = true
    · rw [if_pos q0]
      have := rns_RN hp r (j + 1) (c + 1) (by omega) (by omega) (fun k h1 h2 => by
        by_cases q : k = j
        · rw [q]; exact q0
        · exact e3 k (by omega) (by omega)) (by rw [show j + 1 - (c + 1) = j - c by omega]; exact e4)
      rw [show j + 1 - (c + 1) = j - c by omega] at this
      exact this
    · rw [if_neg q0]
      have q1 : p j = false := by simpa using q0
      have ih := rns_RN hp r (j + 1) 0 (by omega) (by omega) (fun k h1 h2 => absurd h2 (by omega)) (Or.inr (by rw [show j + 1 - 0 - 1 = j by omega]; exact q1))
      rw [Nat.sub_zero] at ih
      have ih2 : RN p j (rns p r (j + 1) 0) := RN_gap (j := j + 1) (by omega) (fun k h1 h2 => by rw [show k = j by omega]; exact q1) ih
      by_cases q : c = 0
      · rw [if_pos q, q, Nat.sub_zero]
        exact ih2
      · rw [if_neg q]
        have ej : j - c + c = j := by omega
        refine ⟨Nat.le_refl _, by show 1 ≤ c; omega, by show j - c + c ≤ 48; omega, e4, fun k h1 h2 => absurd h2 (by show ¬ k < j - c; omega), fun k h1 h2 => e3 k h1 (by have : k < j - c + c := h2; omega), ?_, ?_⟩
        · show p (j - c + c) = false
          rw [ej]; exact q1
        · show RN p (j - c + c) _
          rw [ej]; exact ih2
/-- all runs; long ones; what is in no long one -/
def ell : LUN → List Nat
  | [] => []
  | e :: R => rg e.1 e.2 ++ ell R
def oth : LUN → List Nat
  | [] => []
  | e :: R => if 3 ≤ e.2 then oth R else rg e.1 e.2 ++ oth R
def nsp : LUN → Nat
  | [] => 0
  | e :: R => (if 3 ≤ e.2 then 1 else 0) + nsp R
def s1 (x b : Nat) : Option Nat → Nat × Nat
  | none => (6, fd b x)
  | some z => (3, b - z - 2)
def spl (x : Nat) : Option Nat → LUN → LUN
  | _, [] => []
  | l, e :: R => if 3 ≤ e.2 then s1 x e.1 l :: (7, e.2 - 3) :: spl x (some (e.1 + e.2 - 1)) R else spl x l R
theorem en_ell {p : Nat → Bool} : ∀ {R : LUN} {j : Nat}, RN p j R → j ≤ 48 → en p (48 - j) j = ell R
  | [], j, h, hj => by
    rw [en_none (fun k h1 _ => h k h1)]; rfl
  | e :: R, j, h, hj => by
    obtain ⟨h1, h2, h3, h4, h5, h6, h7, h8⟩ := h
    have ih := en_ell h8 h3
    rw [show 48 - j = (e.1 - j) + (e.2 + (48 - (e.1 + e.2))) by omega, en_split, en_none (fun k q1 q2 => h5 k q1 (by omega)), show j + (e.1 - j) = e.1 by omega, en_split, en_all h6, ih]
    rfl
/-- middles, spans, begins, ends -/
def md (p : Nat → Bool) (c : Nat) : Bool := p c && (decide (0 < c) && p (c - 1)) && p (c + 1)
def sq (p : Nat → Bool) (c : Nat) : Bool := md p c || (decide (0 < c) && md p (c - 1)) || md p (c + 1)
def bg (p : Nat → Bool) (c : Nat) : Bool := sq p c && !(decide (0 < c) && sq p (c - 1))
def eg (p : Nat → Bool) (c : Nat) : Bool := sq p c && !sq p (c + 1)
theorem md_iff0 (p : Nat → Bool) (c : Nat) : md p c = true ↔ (p c = true ∧ 0 < c ∧ p (c - 1) = true ∧ p (c + 1) = true) := by
  unfold md
  simp only [Bool.and_eq_true, decide_eq_true_eq]
  constructor
  · rintro ⟨⟨a, b, c⟩, d⟩; exact ⟨a, b, c, d⟩
  · rintro ⟨a, b, c, d⟩; exact ⟨⟨a, b, c⟩, d⟩
theorem sq_iff0 (p : Nat → Bool) (c : Nat) : sq p c = true ↔ (md p c = true ∨ (0 < c ∧ md p (c - 1) = true) ∨ md p (c + 1) = true) := by
  unfold sq
  simp only [Bool.or_eq_true, Bool.and_eq_true, decide_eq_true_eq, or_assoc]
theorem sq_p {p : Nat → Bool} {c : Nat} (h : sq p c = true) : p c = true := by
  rcases (sq_iff0 p c).mp h with a | ⟨b, a⟩ | a
  · exact ((md_iff0 p c).mp a).1
  · have := ((md_iff0 p (c - 1)).mp a).2.2.2
    rw [show c - 1 + 1 = c by omega] at this
    exact this
  · exact ((md_iff0 p (c + 1)).mp a).2.2.1
theorem sq_np {p : Nat → Bool} {c : Nat} (h : p c = false) : sq p c = false := by
  cases e : sq p c
  · rfl
  · rw [sq_p e] at h; cases h
theorem md_run {p : Nat → Bool} {b L : Nat} (h4 : b = 0 ∨ p (b - 1) = false) (h6 : ∀ c, b ≤ c → c < b + L → p c = true) (h7 : p (b + L) = false) {c : Nat} (c1 : b ≤ c + 1) (c2 : c ≤ b + L) : md p c = true ↔ (b < c ∧ c + 1 < b + L) := by
  rw [md_iff0]
  constructor
  · rintro ⟨a1, a2, a3, a4⟩
    have n1 : c ≠ b + L := fun q => by rw [q, h7] at a1; cases a1
    have n2 : c + 1 ≠ b + L := fun q => by rw [q, h7] at a4; cases a4
    have n3 : ¬ (c + 1 = b) := fun q => by
      rcases h4 with z | z
      · omega
      · rw [show b - 1 = c by omega, a1] at z; cases z
    have n4 : c ≠ b := fun q => by
      rcases h4 with z | z
      · omega
      · rw [← q, a3] at z; cases z
    omega
  · rintro ⟨a1, a2⟩
    exact ⟨h6 c (by omega) (by omega), by omega, h6 _ (by omega) (by omega), h6 _ (by omega) (by omega)⟩
theorem sq_run {p : Nat → Bool} {b L : Nat} (h4 : b = 0 ∨ p (b - 1) = false) (h6 : ∀ c, b ≤ c → c < b + L → p c = true) (h7 : p (b + L) = false) {c : Nat} (c1 : b ≤ c) (c2 : c < b + L) : sq p c = decide (3 ≤ L) := by
  rw [Bool.eq_iff_iff, sq_iff0, md_run h4 h6 h7 (by omega) (by omega), md_run h4 h6 h7 (c := c + 1) (by omega) (by omega), decide_eq_true_eq]
  constructor
  · rintro (a | ⟨b0, a⟩ | a)
    · omega
    · have := (md_run h4 h6 h7 (c := c - 1) (by omega) (by omega)).mp a
      omega
    · omega
  · intro h
    by_cases q1 : c = b
    · exact Or.inr (Or.inr (by omega))
    · by_cases q2 : c + 1 = b + L
      · exact Or.inr (Or.inl ⟨by omega, (md_run h4 h6 h7 (c := c - 1) (by omega) (by omega)).mpr (by omega)⟩)
      · exact Or.inl (by omega)
theorem bg_f {p : Nat → Bool} {c : Nat} (h : sq p c = false) : bg p c = false ∧ eg p c = false := by
  unfold bg eg
  rw [h]
  exact ⟨rfl, rfl⟩
theorem run_bits {p : Nat → Bool} {b L : Nat} (h4 : b = 0 ∨ p (b - 1) = false) (h6 : ∀ c, b ≤ c → c < b + L → p c = true) (h7 : p (b + L) = false) (h3 : 3 ≤ L) : (bg p b = true ∧ eg p b = false) ∧ (∀ c, b < c → c + 1 < b + L → bg p c = false ∧ eg p c = false) ∧ (bg p (b + L - 1) = false ∧ eg p (b + L - 1) = true) := by
  have s : ∀ c, b ≤ c → c < b + L → sq p c = true := fun c c1 c2 => by rw [sq_run h4 h6 h7 c1 c2]; exact decide_eq_true h3
  have nb : ∀ c, b < c → c < b + L → bg p c = false := fun c c1 c2 => by
    unfold bg
    rw [s (c - 1) (by omega) (by omega), show decide (0 < c) = true from decide_eq_true (by omega)]
    simp
  have ne : ∀ c, b ≤ c → c + 1 < b + L → eg p c = false := fun c c1 c2 => by
    unfold eg
    rw [s (c + 1) (by omega) (by omega)]
    simp
  refine ⟨⟨?_, ne b (Nat.le_refl _) (by omega)⟩, fun c c1 c2 => ⟨nb c c1 (by omega), ne c (by omega) c2⟩, nb _ (by omega) (by omega), ?_⟩
  · unfold bg
    rw [s b (Nat.le_refl _) (by omega)]
    rcases h4 with z | z
    · rw [z]; rfl
    · rw [sq_np z]; simp
  · unfold eg
    rw [s _ (by omega) (by omega), show b + L - 1 + 1 = b + L by omega, sq_np h7]
    rfl
theorem en_oth {p : Nat → Bool} : ∀ {R : LUN} {j : Nat}, RN p j R → j ≤ 48 → en (fun c => p c && !sq p c) (48 - j) j = oth R
  | [], j, h, hj => by
    rw [en_none (fun k h1 _ => by rw [h k h1]; rfl)]; rfl
  | e :: R, j, h, hj => by
    obtain ⟨h1, h2, h3, h4, h5, h6, h7, h8⟩ := h
    have ih := en_oth h8 h3
    rw [show 48 - j = (e.1 - j) + (e.2 + (48 - (e.1 + e.2))) by omega, en_split, en_none (fun k q1 q2 => by rw [h5 k q1 (by omega)]; rfl), show j + (e.1 - j) = e.1 by omega, en_split, ih, oth]
    by_cases c : 3 ≤ e.2
    · rw [if_pos c, en_none (fun k q1 q2 => by rw [sq_run h4 h6 h7 q1 q2, decide_eq_true c]; simp)]
      rfl
    · rw [if_neg c, en_all (fun k q1 q2 => by rw [sq_run h4 h6 h7 q1 q2, decide_eq_false c, h6 k q1 q2]; rfl)]
      rfl
theorem en_bg {p : Nat → Bool} : ∀ {R : LUN} {j : Nat}, RN p j R → j ≤ 48 → (en (bg p) (48 - j) j).length = nsp R
  | [], j, h, hj => by
    rw [en_none (fun k h1 _ => (bg_f (sq_np (h k h1))).1)]; rfl
  | e :: R, j, h, hj => by
    obtain ⟨h1, h2, h3, h4, h5, h6, h7, h8⟩ := h
    have ih := en_bg h8 h3
    rw [show 48 - j = (e.1 - j) + (e.2 + (48 - (e.1 + e.2))) by omega, en_split, en_none (fun k q1 q2 => (bg_f (sq_np (h5 k q1 (by omega)))).1), show j + (e.1 - j) = e.1 by omega, en_split, nsp, List.nil_append, List.length_append, ih]
    by_cases c : 3 ≤ e.2
    · obtain ⟨b1, b2, b3⟩ := run_bits h4 h6 h7 c
      rw [if_pos c, show e.2 = (e.2 - 1) + 1 by omega, en_t b1.1, en_none (fun k q1 q2 => ?_)]
      · rfl
      · by_cases z : k = e.1 + e.2 - 1
        · rw [z]; exact b3.1
        · exact (b2 k (by omega) (by omega)).1
    · rw [if_neg c, en_none (fun k q1 q2 => (bg_f (by rw [sq_run h4 h6 h7 q1 q2]; exact decide_eq_false c)).1)]
      rfl
theorem spl_len {p : Nat → Bool} (x : Nat) : ∀ {R : LUN} {j : Nat} {l : Option Nat}, RN p j R → j ≤ 48 → (spl x l R).length ≤ 48 - j
  | [], j, l, h, hj => by
    show ([] : LUN).length ≤ 48 - j
    exact Nat.zero_le _
  | e :: R, j, l, h, hj => by
    obtain ⟨h1, h2, h3, h4, h5, h6, h7, h8⟩ := h
    rw [spl]
    by_cases c : 3 ≤ e.2
    · rw [if_pos c]
      have := spl_len x (l := some (e.1 + e.2 - 1)) h8 h3
      show (spl x (some (e.1 + e.2 - 1)) R).length + 1 + 1 ≤ 48 - j
      omega
    · rw [if_neg c]
      have := spl_len x (l := l) h8 h3
      omega
/-- the last end, as both keep it -/
def lst : Option Nat → Int32
  | none => -1
  | some z => nI z
theorem bt_shl1 : ∀ (x : Int64) (i : Nat), i < 64 → bt (x <<< ((1 : Int32).toInt64 &&& 63)) i = (decide (0 < i) && bt x (i - 1)) := by
  intro x i hi
  unfold bt
  have e : (x <<< ((1 : Int32).toInt64 &&& 63)).toBitVec = x.toBitVec <<< 1 := by
    show x.toBitVec <<< (((1 : Int32).toInt64 &&& 63).toBitVec.smod 64) = _
    have : ((1 : Int32).toInt64 &&& 63).toBitVec.smod 64 = 1#64 := by decide
    rw [this]
    rfl
  rw [e, BitVec.getLsbD_shiftLeft]
  have h1 : decide (i < 64) = true := decide_eq_true hi
  rw [h1, Bool.true_and]
  congr 1
  by_cases c : i = 0
  · rw [c]; rfl
  · rw [decide_eq_true (show 0 < i by omega), decide_eq_false (show ¬ i < 1 by omega)]
    rfl
theorem bt_shr1 (x : Int64) (i : Nat) : bt (xb_ushr x (1 : Int32)) i = bt x (i + 1) := by
  rw [show (1 : Int32) = nI 1 from rfl, bt_ushr (by decide), Nat.add_comm]
theorem X_idle_sp {x : Nat} {row sp be ed : Int64} {p : Nat → Bool} (hb : ∀ c, c < 48 → bt be c = bg p c) (he : ∀ c, c < 48 → bt ed c = eg p c) {y1 y2 : Int32} {us nu : AI} {sz : Int32} : ∀ (d j f : Nat), j + d ≤ 48 → (∀ c, j ≤ c → c < j + d → bg p c = false ∧ eg p c = false) → F_X6_tellSpans_L70 (nI x) row sp be ed (f + d) y1 y2 (nI j) us nu sz = F_X6_tellSpans_L70 (nI x) row sp be ed f y1 y2 (nI (j + d)) us nu sz := by
  intro d
  induction d with
  | zero => intro j f _ _; rfl
  | succ d ih =>
    intro j f e1 e2
    have h0 := e2 j (Nat.le_refl _) (by omega)
    rw [show f + (d + 1) = (f + d) + 1 by omega, F_X6_tellSpans_L70, if_neg (by rw [show (48 : Int32) = nI 48 from rfl]; exact nI_ge (by omega) (by decide)), X8_isIn _ _ (by omega), bd_some, if10', hb j (by omega), h0.1, if_neg (by simp), X8_isIn _ _ (by omega), bd_some, if10', he j (by omega), h0.2, if_neg (by simp), nI_1, ih (j + 1) f (by omega) (fun c c1 c2 => e2 c (by omega) (by omega)), show j + 1 + d = j + (d + 1) by omega]
theorem s1_X {x b : Nat} {l : Option Nat} {us nu : AI} {L : LUN} (hx : x < 48) (hb : b < 48) (hl : ∀ z, l = some z → z + 1 < b) (h : Hd us nu 0 L) (hL : L.length < 160) : ∃ us2 nu2 : AI, (lst l = (-1 : Int32) → F_X6_add (6 : Int32) (nI (fd b x)) (nI L.length) us nu = some (us2, nu2, nI (L ++ [s1 x b l]).length)) ∧ (¬ lst l = (-1 : Int32) → F_X6_add (3 : Int32) ((nI b - lst l) - (2 : Int32)) (nI L.length) us nu = some (us2, nu2, nI (L ++ [s1 x b l]).length)) ∧ Hd us2 nu2 0 (L ++ [s1 x b l]) := by
  cases l with
  | none =>
    obtain ⟨us2, nu2, a1, a2⟩ := X_add (x := 6) (u := 6) (v := fd b x) rfl rfl h hL
    exact ⟨us2, nu2, fun _ => a1, fun z => absurd rfl z, a2⟩
  | some z =>
    have hz := hl z rfl
    have e : nI b - nI z - 2 = nI (b - z - 2) := by rw [sub_all (by omega), show (2 : Int32) = nI 2 from rfl, sub_all (by omega)]
    obtain ⟨us2, nu2, a1, a2⟩ := X_add (x := 3) (u := 3) rfl e h hL
    exact ⟨us2, nu2, fun q => absurd q (nI_m1 (by omega)), fun _ => a1, a2⟩
theorem s1_M {x b : Nat} {l : Option Nat} {us nu : AI} {L : LUN} (hx : x < 48) (hb : b < 48) (hl : ∀ z, l = some z → z + 1 < b) (h : Hd us nu 0 L) (hL : L.length < 400) : ∃ us2 nu2 : AI, (lst l = (-1 : Int32) → F_X9_say (6 : Int32) (nI (fd b x)) (nI L.length) us nu = some (us2, nu2, nI (L ++ [s1 x b l]).length)) ∧ (¬ lst l = (-1 : Int32) → F_X9_say (3 : Int32) ((nI b - lst l) - (2 : Int32)) (nI L.length) us nu = some (us2, nu2, nI (L ++ [s1 x b l]).length)) ∧ Hd us2 nu2 0 (L ++ [s1 x b l]) := by
  cases l with
  | none =>
    obtain ⟨us2, nu2, a1, a2⟩ := M_say (x := 6) (u := 6) (v := fd b x) rfl rfl h hL
    exact ⟨us2, nu2, fun _ => a1, fun z => absurd rfl z, a2⟩
  | some z =>
    have hz := hl z rfl
    have e : nI b - nI z - 2 = nI (b - z - 2) := by rw [sub_all (by omega), show (2 : Int32) = nI 2 from rfl, sub_all (by omega)]
    obtain ⟨us2, nu2, a1, a2⟩ := M_say (x := 3) (u := 3) rfl e h hL
    exact ⟨us2, nu2, fun q => absurd q (nI_m1 (by omega)), fun _ => a1, a2⟩
theorem X_spans_L {x : Nat} {row sp be ed : Int64} {p : Nat → Bool} (hx : x < 48) (hb : ∀ c, c < 48 → bt be c = bg p c) (he : ∀ c, c < 48 → bt ed c = eg p c) : ∀ (R : LUN) (j f : Nat) (l : Option Nat) (y1 : Int32) (L : LUN) (us nu : AI), RN p j R → j ≤ 48 → 48 < f + j → (∀ z, l = some z → z + 1 = j ∨ z + 1 < j ∧ (j = 0 ∨ True)) → (∀ z, l = some z → p (z + 1) = false) → Hd us nu 0 L → L.length + (48 - j) ≤ 160 → ∃ us2 nu2 : AI, F_X6_tellSpans_L70 (nI x) row sp be ed f y1 (lst l) (nI j) us nu (nI L.length) = some (us2, nu2, nI (L ++ spl x l R).length) ∧ Hd us2 nu2 0 (L ++ spl x l R) := by
  intro R
  induction R with
  | nil =>
    intro j f l y1 L us nu e1 e2 e3 e4 e5 e6 e7
    obtain ⟨g, rfl⟩ : ∃ g, f = (g + 1) + (48 - j) := ⟨f - (48 - j) - 1, by omega⟩
    rw [X_idle_sp hb he (48 - j) j (g + 1) (by omega) (fun c c1 _ => bg_f (sq_np (e1 c c1))), F_X6_tellSpans_L70, if_pos (by rw [show (48 : Int32) = nI 48 from rfl]; exact nI_le (by omega) (by omega))]
    show ∃ us2 nu2 : AI, _ = some (us2, nu2, nI (L ++ []).length) ∧ Hd us2 nu2 0 (L ++ [])
    rw [List.append_nil]
    exact ⟨_, _, rfl, e6⟩
  | cons e R ih =>
    intro j f l y1 L us nu e1 e2 e3 e4 e5 e6 e7
    obtain ⟨h1, h2, h3, h4, h5, h6, h7, h8⟩ := e1
    obtain ⟨g, rfl⟩ : ∃ g, f = g + (e.1 - j) := ⟨f - (e.1 - j), by omega⟩
    rw [X_idle_sp hb he (e.1 - j) j g (by omega) (fun c c1 c2 => bg_f (sq_np (h5 c c1 (by omega)))), show j + (e.1 - j) = e.1 by omega, spl]
    by_cases c : 3 ≤ e.2
    · rw [if_pos c]
      obtain ⟨b1, b2, b3⟩ := run_bits h4 h6 h7 c
      have hz : ∀ z, l = some z → z + 1 < e.1 := by
        intro z hz
        have q := e5 z hz
        have q2 : z + 1 ≠ e.1 := fun w => by rw [w, h6 e.1 (Nat.le_refl _) (by omega)] at q; cases q
        have q3 : z + 1 ≤ j := by rcases e4 z hz with w | w <;> omega
        omega
      obtain ⟨us2, nu2, a1, a2, a3⟩ := s1_X hx (show e.1 < 48 by omega) hz e6 (by omega)
      obtain ⟨us3, nu3, d1, d2⟩ := X_add (x := 7) (u := 7) (y := (nI (e.1 + e.2 - 1) - nI e.1 + 1) - 3) (v := e.2 - 3) rfl (by rw [sub_all (by omega), nI_1, show (3 : Int32) = nI 3 from rfl, sub_all (by omega)]; congr 1; omega) a3 (by rw [len1]; omega)
      obtain ⟨us4, nu4, f1, f2⟩ := ih (e.1 + e.2) (g - e.2) (some (e.1 + e.2 - 1)) (nI e.1) _ us3 nu3 h8 h3 (by omega) (fun z hz => by cases hz; exact Or.inl (by omega)) (fun z hz => by cases hz; rw [show e.1 + e.2 - 1 + 1 = e.1 + e.2 by omega]; exact h7) d2 (by rw [len1, len1]; omega)
      have ea : L ++ [s1 x e.1 l] ++ [(7, e.2 - 3)] ++ spl x (some (e.1 + e.2 - 1)) R = L ++ s1 x e.1 l :: (7, e.2 - 3) :: spl x (some (e.1 + e.2 - 1)) R := by simp
      rw [ea] at f1 f2
      refine ⟨us4, nu4, ?_, f2⟩
      rw [← f1]
      obtain ⟨k, rfl⟩ : ∃ k, g = ((k + 1) + (e.2 - 2)) + 1 := ⟨g - e.2, by omega⟩
      have last : F_X6_tellSpans_L70 (nI x) row sp be ed (k + 1) (nI e.1) (lst l) (nI (e.1 + e.2 - 1)) us2 nu2 (nI (L ++ [s1 x e.1 l]).length) = F_X6_tellSpans_L70 (nI x) row sp be ed k (nI e.1) (lst (some (e.1 + e.2 - 1))) (nI (e.1 + e.2)) us3 nu3 (nI (L ++ [s1 x e.1 l] ++ [(7, e.2 - 3)]).length) := by
        rw [F_X6_tellSpans_L70, if_neg (by rw [show (48 : Int32) = nI 48 from rfl]; exact nI_ge (by omega) (by decide)), X8_isIn _ _ (by omega), bd_some, if10', hb _ (by omega), b3.1, if_neg (by simp), X8_isIn _ _ (by omega), bd_some, if10', he _ (by omega), b3.2, if_pos ⟨by omega, rfl⟩, d1, bd_some, nI_1, show e.1 + e.2 - 1 + 1 = e.1 + e.2 by omega]
        rfl
      have mid : F_X6_tellSpans_L70 (nI x) row sp be ed ((k + 1) + (e.2 - 2)) (nI e.1) (lst l) (nI (e.1 + 1)) us2 nu2 (nI (L ++ [s1 x e.1 l]).length) = F_X6_tellSpans_L70 (nI x) row sp be ed k (nI e.1) (lst (some (e.1 + e.2 - 1))) (nI (e.1 + e.2)) us3 nu3 (nI (L ++ [s1 x e.1 l] ++ [(7, e.2 - 3)]).length) := by
        rw [X_idle_sp hb he (e.2 - 2) (e.1 + 1) (k + 1) (by omega) (fun c c1 c2 => b2 c (by omega) (by omega)), show e.1 + 1 + (e.2 - 2) = e.1 + e.2 - 1 by omega, last]
      rw [show k + 1 + (e.2 - 2) + 1 - e.2 = k by omega, ← mid, F_X6_tellSpans_L70, if_neg (by rw [show (48 : Int32) = nI 48 from rfl]; exact nI_ge (by omega) (by decide)), X8_isIn _ _ (by omega), bd_some, if10', hb _ (by omega), b1.1, if_pos ⟨by omega, rfl⟩]
      by_cases ql : lst l = (-1 : Int32)
      · rw [if_pos ql, (fd_all e.1 (by omega) x hx).2.1, bd_some, a1 ql, bd_some, X8_isIn _ _ (by omega), bd_some, if10', he _ (by omega), b1.2, if_neg (by simp), nI_1]
      · rw [if_neg ql, a2 ql, bd_some, X8_isIn _ _ (by omega), bd_some, if10', he _ (by omega), b1.2, if_neg (by simp), nI_1]
    · rw [if_neg c]
      obtain ⟨k, rfl⟩ : ∃ k, g = k + e.2 := ⟨g - e.2, by omega⟩
      rw [X_idle_sp hb he e.2 e.1 k (by omega) (fun c2 c3 c4 => bg_f (by rw [sq_run h4 h6 h7 c3 c4]; exact decide_eq_false c))]
      exact ih (e.1 + e.2) k l y1 L us nu h8 h3 (by omega) (fun z hz => by rcases e4 z hz with w | w <;> exact Or.inr ⟨by omega, Or.inr trivial⟩) e5 e6 (by omega)

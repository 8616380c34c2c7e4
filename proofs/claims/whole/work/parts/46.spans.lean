/-! ===== pure: spans, both ===== -/
theorem bt_mid (row : Int64) (i : Nat) : bt ((row &&& (row <<< ((1 : Int32).toInt64 &&& 63))) &&& (xb_ushr row (1 : Int32))) i = md (bt row) i := by
  rcases Nat.lt_or_ge i 64 with h | h
  · rw [bt_and, bt_and, bt_shl1 _ _ h, bt_shr1]
    rfl
  · rw [bt_ge h]
    unfold md
    rw [bt_ge h]
    rfl
theorem bt_spn {row v : Int64} (hv : ∀ i, bt v i = md (bt row) i) {i : Nat} (h : i < 64) : bt ((v ||| (v <<< ((1 : Int32).toInt64 &&& 63))) ||| (xb_ushr v (1 : Int32))) i = sq (bt row) i := by
  rw [bt_or, bt_or, bt_shl1 _ _ h, bt_shr1, hv, hv, hv]
  rfl
theorem X_spans {fu x : Nat} {row : Int64} {L : LUN} {us nu : AI} {R : LUN} (hf : 1000 ≤ fu) (hx : x < 48) (hr : ∀ b, 48 ≤ b → bt row b = false) (hR : RN (bt row) 0 R) (h : Hd us nu 0 L) (hl : L.length ≤ 100) : ∃ (row2 : Int64) (us2 nu2 : AI), F_X6_tellSpans fu (nI x) row (nI L.length) us nu = some (row2, us2, nu2, nI (L ++ (1, nsp R) :: spl x none R).length) ∧ Hd us2 nu2 0 (L ++ (1, nsp R) :: spl x none R) ∧ (∀ b, 48 ≤ b → bt row2 b = false) ∧ en (bt row2) 48 0 = oth R := by
  unfold F_X6_tellSpans
  dsimp only [nm]
  generalize ev : (row &&& (row <<< ((1 : Int32).toInt64 &&& 63))) &&& (xb_ushr row (1 : Int32)) = v1
  have h1 : ∀ i, bt v1 i = md (bt row) i := fun i => by rw [← ev]; exact bt_mid row i
  generalize ew : (v1 ||| (v1 <<< ((1 : Int32).toInt64 &&& 63))) ||| (xb_ushr v1 (1 : Int32)) = v3
  have h3 : ∀ i, i < 64 → bt v3 i = sq (bt row) i := fun i hi => by rw [← ew]; exact bt_spn h1 hi
  have h5 : ∀ i, i < 64 → bt (v3 &&& ((v3 <<< ((1 : Int32).toInt64 &&& 63)) ^^^ (-1 : Int64))) i = bg (bt row) i := by
    intro i hi
    rw [bt_and, bt_not _ hi, bt_shl1 _ _ hi, h3 i hi, h3 (i - 1) (by omega)]
    rfl
  have h6 : ∀ i, i < 48 → bt (v3 &&& ((xb_ushr v3 (1 : Int32)) ^^^ (-1 : Int64))) i = eg (bt row) i := by
    intro i hi
    rw [bt_and, bt_not _ (by omega), bt_shr1, h3 i (by omega), h3 (i + 1) (by omega)]
    rfl
  have hs0 : ∀ b, 48 ≤ b → sq (bt row) b = false := fun b hb => sq_np (hr b hb)
  have hpc : pc (v3 &&& ((v3 <<< ((1 : Int32).toInt64 &&& 63)) ^^^ (-1 : Int64))) = nsp R := by
    rw [pc48 (fun b hb => by
      rcases Nat.lt_or_ge b 64 with q | q
      · rw [h5 b q]; exact (bg_f (hs0 b hb)).1
      · exact bt_ge q), ← en_bg hR (by omega)]
    rw [en_cong (q := bg (bt row)) (fun k _ hk => h5 k (by omega))]
  obtain ⟨us2, nu2, a1, a2⟩ := X_add (x := 1) (u := 1) (v := nsp R) rfl rfl h (by omega)
  obtain ⟨us3, nu3, b1, b2⟩ := X_spans_L (x := x) (row := row) (sp := v3) hx (fun c hc => h5 c (by omega)) h6 R 0 fu none 0 _ us2 nu2 hR (by omega) (by omega) (fun z hz => by cases hz) (fun z hz => by cases hz) a2 (by rw [len1]; omega)
  rw [app1] at b1 b2
  rw [X_bitCount, bd_some, hpc, a1, bd_some]
  have b1' : F_X6_tellSpans_L70 (nI x) row v3 (v3 &&& ((v3 <<< ((1 : Int32).toInt64 &&& 63)) ^^^ (-1 : Int64))) (v3 &&& ((xb_ushr v3 (1 : Int32)) ^^^ (-1 : Int64))) fu 0 (-1) 0 us2 nu2 (nI (L ++ [(1, nsp R)]).length) = _ := b1
  rw [b1', bd_some]
  refine ⟨_, us3, nu3, rfl, b2, fun b hb => by rw [bt_and, hr b hb]; rfl, ?_⟩
  rw [← en_oth hR (by omega)]
  exact en_cong (fun k _ hk => by rw [bt_and, bt_not _ (by omega), h3 k (by omega)])
/-! the reference's -/
theorem oth_len : ∀ R : LUN, (oth R).length ≤ (ell R).length
  | [] => Nat.le_refl _
  | e :: R => by
    have := oth_len R
    rw [oth, ell, List.length_append]
    by_cases c : 3 ≤ e.2
    · rw [if_pos c]; omega
    · rw [if_neg c, List.length_append]; omega
theorem M_runEnd {fu ld : Nat} {li : AI} {p : Nat → Bool} {e : Nat × Nat} {R : LUN} {i j : Nat} (hf : 1000 ≤ fu) (hld : ld ≤ 48) (hR : RN p j (e :: R)) (hl : Hl li i (ell (e :: R))) (hi : i + (ell (e :: R)).length = ld) : F_X9_runEnd fu (nI i) (nI ld) li = some (nI (i + e.2)) := by
  obtain ⟨h1, h2, h3, h4, h5, h6, h7, h8⟩ := hR
  rw [ell, List.length_append, rg_len] at hi
  rw [ell, Hl_app, rg_len] at hl
  have hm := Hl_rg hl.1
  have K : ∀ (d m f : Nat), 1 ≤ m → m + d = e.2 → d < f → F_X9_runEnd_L4 (nI ld) li f (nI (i + m)) = some (nI (i + e.2)) := by
    intro d
    induction d with
    | zero =>
      intro m f m1 m2 m3
      obtain ⟨f, rfl⟩ : ∃ g, f = g + 1 := ⟨f - 1, by omega⟩
      have m2 : m = e.2 := by omega
      subst m2
      rw [F_X9_runEnd_L4]
      cases R with
      | nil =>
        have hi : i + (e.2 + 0) = ld := hi
        rw [if_pos (nI_le (by omega) (by omega))]
      | cons e2 R =>
        obtain ⟨g1, g2, g3, g4, g5, g6, g7, g8⟩ := h8
        rw [ell, List.length_append, rg_len] at hi
        have q1 : li (i + e.2) = nI e2.1 := by
          have := hl.2
          rw [ell, Hl_app, rg_len] at this
          exact Hl_rg this.1 0 (by omega)
        have q2 : e2.1 ≠ e.1 + e.2 := fun z => by
          have := g6 e2.1 (Nat.le_refl _) (by omega)
          rw [z, h7] at this
          cases this
        have q3 := hm (e.2 - 1) (by omega)
        rw [if_neg (nI_ge (by omega) (by omega)), ck_t (bn_nI (show i + e.2 < 48 by omega) (by decide)), show nI (i + e.2) - 1 = nI (i + (e.2 - 1)) by rw [show i + e.2 = (i + (e.2 - 1)) + 1 by omega, nI_pred], ck_t (bn_nI (show i + (e.2 - 1) < 48 by omega) (by decide)), clampN (show i + e.2 < 2 ^ 31 by omega), clampN (show i + (e.2 - 1) < 2 ^ 31 by omega), q1, q3, nI_1, if_neg (nI_k (by omega) (by omega) (by omega))]
    | succ d ih =>
      intro m f m1 m2 m3
      obtain ⟨f, rfl⟩ : ∃ g, f = g + 1 := ⟨f - 1, by omega⟩
      have q1 := hm m (by omega)
      have q3 := hm (m - 1) (by omega)
      rw [F_X9_runEnd_L4, if_neg (nI_ge (by omega) (by omega)), ck_t (bn_nI (show i + m < 48 by omega) (by decide)), show nI (i + m) - 1 = nI (i + (m - 1)) by rw [show i + m = (i + (m - 1)) + 1 by omega, nI_pred], ck_t (bn_nI (show i + (m - 1) < 48 by omega) (by decide)), clampN (show i + m < 2 ^ 31 by omega), clampN (show i + (m - 1) < 2 ^ 31 by omega), q1, q3, nI_1, nI_1, if_pos (by congr 1; omega), show i + m + 1 = i + (m + 1) by omega]
      exact ih (m + 1) f (by omega) (by omega) (by omega)
  unfold F_X9_runEnd
  rw [nI_1, K (e.2 - 1) 1 fu (Nat.le_refl _) (by omega) (by omega)]
  rfl
theorem M_count {fu x ld : Nat} {li : AI} {p : Nat → Bool} (hf : 1000 ≤ fu) (hld : ld ≤ 48) : ∀ (R : LUN) (j i k f : Nat), RN p j R → Hl li i (ell R) → i + (ell R).length = ld → R.length < f → F_X9_tellSpans_L4 fu (nI x) (nI ld) li f (nI k) (nI i) = some (nI (k + nsp R)) := by
  intro R
  induction R with
  | nil =>
    intro j i k f h1 h2 h3 h4
    obtain ⟨f, rfl⟩ : ∃ g, f = g + 1 := ⟨f - 1, by omega⟩
    have h3 : i + 0 = ld := h3
    rw [F_X9_tellSpans_L4, if_pos (nI_le (by omega) (by omega))]
    rfl
  | cons e R ih =>
    intro j i k f h1 h2 h3 h4
    obtain ⟨f, rfl⟩ : ∃ g, f = g + 1 := ⟨f - 1, by omega⟩
    have h4 : R.length + 1 < f + 1 := h4
    have hr := M_runEnd (fu := fu) hf hld h1 h2 h3
    have e2 := h1.2.1
    have e8 := h1.2.2.2.2.2.2.2
    rw [ell, List.length_append, rg_len] at h3
    rw [ell, Hl_app, rg_len] at h2
    have go : ∀ k, F_X9_tellSpans_L4 fu (nI x) (nI ld) li f (nI k) (nI (i + e.2)) = some (nI (k + nsp R)) := fun k => ih (e.1 + e.2) (i + e.2) k f e8 h2.2 (by omega) (by omega)
    rw [F_X9_tellSpans_L4, if_neg (nI_ge (by omega) (by omega)), hr, bd_some, bd_some, sub_all (by omega), show i + e.2 - i = e.2 by omega, show (3 : Int32) = nI 3 from rfl, if_cg (nI_ltI (show e.2 < 2 ^ 31 by omega) (show 3 < 2 ^ 31 by decide)), bd_some, i_add0, nI_1, go, go, nsp]
    by_cases c : 3 ≤ e.2
    · rw [if_pos c, if_neg (by omega)]
      congr 2; omega
    · rw [if_neg c, if_pos (by omega), Nat.zero_add]
theorem M_copyL {x ld : Nat} {y3 : Int32} {li : AI} (hld : ld ≤ 48) : ∀ (t : List Nat) (i f : Nat) (o : List Nat) (mot : AI), Hl li i t → i + t.length ≤ ld → o.length + t.length ≤ 48 → t.length < f → Hl mot 0 o → ∃ mot2 : AI, F_X9_tellSpans_L155 (nI x) y3 (nI (i + t.length)) li f (nI o.length) (nI i) mot = some (nI (o ++ t).length, nI (i + t.length), mot2) ∧ Hl mot2 0 (o ++ t) := by
  intro t
  induction t with
  | nil =>
    intro i f o mot h1 h2 h3 h4 h5
    obtain ⟨f, rfl⟩ : ∃ g, f = g + 1 := ⟨f - 1, by omega⟩
    rw [show i + ([] : List Nat).length = i from rfl] at h2 ⊢
    rw [F_X9_tellSpans_L155, if_pos (nI_le (Nat.le_refl _) (by omega)), List.append_nil]
    exact ⟨_, rfl, h5⟩
  | cons b t ih =>
    intro i f o mot h1 h2 h3 h4 h5
    obtain ⟨f, rfl⟩ : ∃ g, f = g + 1 := ⟨f - 1, by omega⟩
    have el : (b :: t).length = t.length + 1 := rfl
    rw [el] at h2 h3 h4 ⊢
    have q1 : li i = nI b := h1.1
    rw [F_X9_tellSpans_L155, if_neg (nI_ge (by omega) (by omega)), ck_t (bn_nI (show i < 48 by omega) (by decide)), ck_t (bn_nI (show o.length < 48 by omega) (by decide)), clampN (show i < 2 ^ 31 by omega), clampN (show o.length < 2 ^ 31 by omega), q1, nI_1, nI_1]
    obtain ⟨mot2, a1, a2⟩ := ih (i + 1) f (o ++ [b]) _ h1.2 (by omega) (by rw [len1]; omega) (by omega) (Hl_add rfl h5)
    rw [app1] at a1 a2
    rw [len1, show i + 1 + t.length = i + (t.length + 1) by omega] at a1
    exact ⟨mot2, a1, a2⟩
theorem M_spans_L {fu x ld : Nat} {li : AI} {p : Nat → Bool} (hf : 1000 ≤ fu) (hx : x < 48) (hld : ld ≤ 48) : ∀ (R : LUN) (j i f : Nat) (l : Option Nat) (o : List Nat) (mot : AI) (L : LUN) (us nu : AI), RN p j R → Hl li i (ell R) → i + (ell R).length = ld → R.length < f → (∀ z, l = some z → z + 1 ≤ j ∧ p (z + 1) = false) → Hl mot 0 o → o.length + (ell R).length ≤ 48 → Hd us nu 0 L → j ≤ 48 → L.length + (48 - j) ≤ 400 → ∃ mot2 us2 nu2 : AI, F_X9_tellSpans_L54 fu (nI x) (nI ld) li f (lst l) (nI o.length) (nI i) mot us nu (nI L.length) = some (nI (o ++ oth R).length, mot2, us2, nu2, nI (L ++ spl x l R).length) ∧ Hl mot2 0 (o ++ oth R) ∧ Hd us2 nu2 0 (L ++ spl x l R) := by
  intro R
  induction R with
  | nil =>
    intro j i f l o mot L us nu h1 h2 h3 h4 h5 h6 h7 h8 h9 h10
    obtain ⟨f, rfl⟩ : ∃ g, f = g + 1 := ⟨f - 1, by omega⟩
    have h3 : i + 0 = ld := h3
    rw [F_X9_tellSpans_L54, if_pos (nI_le (by omega) (by omega))]
    show ∃ mot2 us2 nu2 : AI, _ = some (nI (o ++ []).length, mot2, us2, nu2, nI (L ++ []).length) ∧ Hl mot2 0 (o ++ []) ∧ Hd us2 nu2 0 (L ++ [])
    rw [List.append_nil, List.append_nil]
    exact ⟨_, _, _, rfl, h6, h8⟩
  | cons e R ih =>
    intro j i f l o mot L us nu h1 h2 h3 h4 h5 h6 h7 h8 h9 h10
    obtain ⟨f, rfl⟩ : ∃ g, f = g + 1 := ⟨f - 1, by omega⟩
    have h4 : R.length + 1 < f + 1 := h4
    have hr := M_runEnd (fu := fu) hf hld h1 h2 h3
    obtain ⟨k1, k2, k3, k4, k5, k6, k7, k8⟩ := h1
    rw [ell, List.length_append, rg_len] at h3 h7
    rw [ell, Hl_app, rg_len] at h2
    have hm := Hl_rg h2.1
    rw [F_X9_tellSpans_L54, if_neg (nI_ge (by omega) (by omega)), hr, bd_some, sub_all (by omega), show i + e.2 - i = e.2 by omega, show (3 : Int32) = nI 3 from rfl, if_cg (nI_ltI (show e.2 < 2 ^ 31 by omega) (show 3 < 2 ^ 31 by decide)), oth, spl]
    by_cases c : 3 ≤ e.2
    · rw [if_neg (by omega), if_pos c, if_pos c]
      have hz : ∀ z, l = some z → z + 1 < e.1 := by
        intro z hz
        obtain ⟨q0, q⟩ := h5 z hz
        have q2 : z + 1 ≠ e.1 := fun w => by rw [w, k6 e.1 (Nat.le_refl _) (by omega)] at q; cases q
        omega
      have q1 : li i = nI e.1 := hm 0 (by omega)
      have q2 : li (i + (e.2 - 1)) = nI (e.1 + (e.2 - 1)) := hm (e.2 - 1) (by omega)
      obtain ⟨us2, nu2, a1, a2, a3⟩ := s1_M (x := x) hx (show e.1 < 48 by omega) hz h8 (by omega)
      obtain ⟨us3, nu3, d1, d2⟩ := M_say (x := 7) (u := 7) (y := nI e.2 - nI 3) (v := e.2 - 3) rfl (sub_all c) a3 (by rw [len1]; omega)
      obtain ⟨mot2, us4, nu4, f1, f2, f3⟩ := ih (e.1 + e.2) (i + e.2) f (some (e.1 + e.2 - 1)) o mot _ us3 nu3 k8 h2.2 (by omega) (by omega) (fun z hz => by cases hz; exact ⟨by omega, by rw [show e.1 + e.2 - 1 + 1 = e.1 + e.2 by omega]; exact k7⟩) h6 (by omega) d2 k3 (by rw [len1, len1]; omega)
      have ea : L ++ [s1 x e.1 l] ++ [(7, e.2 - 3)] ++ spl x (some (e.1 + e.2 - 1)) R = L ++ s1 x e.1 l :: (7, e.2 - 3) :: spl x (some (e.1 + e.2 - 1)) R := by simp
      rw [ea] at f1 f3
      refine ⟨mot2, us4, nu4, ?_, f2, f3⟩
      rw [← f1, ck_t (bn_nI (show i < 48 by omega) (by decide)), show nI (i + e.2) - 1 = nI (i + (e.2 - 1)) by rw [show i + e.2 = (i + (e.2 - 1)) + 1 by omega, nI_pred], ck_t (bn_nI (show i + (e.2 - 1) < 48 by omega) (by decide)), clampN (show i < 2 ^ 31 by omega), clampN (show i + (e.2 - 1) < 2 ^ 31 by omega), q1, q2, show lst (some (e.1 + e.2 - 1)) = nI (e.1 + (e.2 - 1)) from by show nI (e.1 + e.2 - 1) = _; congr 1; omega]
      by_cases ql : lst l = (-1 : Int32)
      · rw [if_pos ql, (fd_all e.1 (by omega) x hx).1, bd_some, a1 ql, bd_some, d1, bd_some]
      · rw [if_neg ql, show F_X9_say (nI 3) _ _ _ _ = _ from a2 ql, bd_some, d1, bd_some]
    · rw [if_pos (by omega), if_neg c, if_neg c]
      obtain ⟨mot2, a1, a2⟩ := M_copyL (x := x) (y3 := lst l) (li := li) hld (rg e.1 e.2) i fu o mot h2.1 (by rw [rg_len]; omega) (by rw [rg_len]; omega) (by rw [rg_len]; omega) h6
      rw [rg_len] at a1
      rw [a1, bd_some]
      obtain ⟨mot3, us4, nu4, f1, f2, f3⟩ := ih (e.1 + e.2) (i + e.2) f l (o ++ rg e.1 e.2) mot2 L us nu k8 h2.2 (by omega) (by omega) (fun z hz => ⟨by have := (h5 z hz).1; omega, (h5 z hz).2⟩) a2 (by rw [List.length_append, rg_len]; omega) h8 k3 (by omega)
      rw [List.append_assoc] at f1 f2
      exact ⟨mot3, us4, nu4, f1, f2, f3⟩
theorem M_back {x m : Nat} {mot : AI} (hm : m ≤ 48) : ∀ (r j f : Nat) (li : AI), j + r = m → r < f → (∀ k, k < j → li k = mot k) → ∃ li2 : AI, F_X9_tellSpans_L191 (nI x) (nI m) mot f (nI j) li = some li2 ∧ ∀ k, k < m → li2 k = mot k := by
  intro r
  induction r with
  | zero =>
    intro j f li e1 e2 e3
    obtain ⟨f, rfl⟩ : ∃ g, f = g + 1 := ⟨f - 1, by omega⟩
    rw [F_X9_tellSpans_L191, if_pos (nI_le (by omega) (by omega))]
    exact ⟨li, rfl, fun k hk => e3 k (by omega)⟩
  | succ r ih =>
    intro j f li e1 e2 e3
    obtain ⟨f, rfl⟩ : ∃ g, f = g + 1 := ⟨f - 1, by omega⟩
    rw [F_X9_tellSpans_L191, if_neg (nI_ge (by omega) (by omega)), ck_t (bn_nI (show j < 48 by omega) (by decide)), ck_t (bn_nI (show j < 48 by omega) (by decide)), clampN (show j < 2 ^ 31 by omega), nI_1]
    refine ih (j + 1) f _ (by omega) (by omega) (fun k hk => ?_)
    rw [upd_if]
    by_cases q : k = j
    · rw [if_pos q, q]
    · rw [if_neg q]; exact e3 k (by omega)
theorem RN_len {p : Nat → Bool} : ∀ {R : LUN} {j : Nat}, RN p j R → R.length ≤ (ell R).length
  | [], _, _ => Nat.le_refl _
  | e :: R, j, h => by
    have := RN_len h.2.2.2.2.2.2.2
    have h2 := h.2.1
    rw [ell, List.length_append, rg_len]
    show R.length + 1 ≤ _
    omega
theorem M_spans {fu x : Nat} {R : LUN} {p : Nat → Bool} {li mot us nu : AI} {L : LUN} (hf : 1000 ≤ fu) (hx : x < 48) (hR : RN p 0 R) (hl : Hl li 0 (ell R)) (h : Hd us nu 0 L) (hL : L.length ≤ 200) : ∃ mot2 li2 us2 nu2 : AI, F_X9_tellSpans fu (nI x) (nI (ell R).length) li (nI L.length) us nu mot = some (us2, nu2, nI (L ++ (1, nsp R) :: (spl x none R ++ pls x (oth R))).length, mot2, li2, nI (oth R).length) ∧ Hd us2 nu2 0 (L ++ (1, nsp R) :: (spl x none R ++ pls x (oth R))) := by
  have el : (ell R).length ≤ 48 := by rw [← en_ell hR (by omega)]; exact en_len p 48 0
  have ol := oth_len R
  have rl := RN_len hR
  unfold F_X9_tellSpans
  obtain ⟨us2, nu2, a1, a2⟩ := M_say (x := 1) (u := 1) (v := nsp R) rfl rfl h (by omega)
  obtain ⟨mot2, us3, nu3, b1, b2, b3⟩ := M_spans_L (fu := fu) (x := x) (ld := (ell R).length) (li := li) hf hx el R 0 0 fu none [] mot _ us2 nu2 hR hl (by omega) (by omega) (fun z hz => by cases hz) trivial (by show 0 + (ell R).length ≤ 48; omega) a2 (by omega) (by rw [len1]; omega)
  rw [app1] at b1 b3
  have b2 : Hl mot2 0 (oth R) := b2
  obtain ⟨li2, d1, d2⟩ := M_back (x := x) (m := (oth R).length) (mot := mot2) (by omega) (oth R).length 0 fu li (by omega) (by omega) (fun k hk => absurd hk (by omega))
  have hli2 : Hl li2 0 (oth R) := Hl_cg (fun i _ hi => d2 i (by omega)) b2
  have hsl := spl_len x (l := none) hR (by omega)
  have hio : ic 0 (oth R) := by rw [← en_oth hR (by omega)]; exact en_ic _ 48 0 (by omega)
  obtain ⟨us4, nu4, f1, f2⟩ := M_plain (fu := fu) (x := x) hf hx (show (oth R).length ≤ 48 by omega) hli2 hio b3 (by rw [List.length_append]; show L.length + ((spl x none R).length + 1) ≤ 300; omega)
  have ea : L ++ (1, nsp R) :: spl x none R ++ pls x (oth R) = L ++ (1, nsp R) :: (spl x none R ++ pls x (oth R)) := by simp
  rw [ea] at f1 f2
  have c1 : F_X9_tellSpans_L4 fu (nI x) (nI (ell R).length) li fu 0 0 = some (nI (nsp R)) := by
    have := M_count (fu := fu) (x := x) (ld := (ell R).length) (li := li) hf el R 0 0 0 fu hR hl (by omega) (by omega)
    rw [Nat.zero_add] at this
    exact this
  have b1' : F_X9_tellSpans_L54 fu (nI x) (nI (ell R).length) li fu (-1) 0 0 mot us2 nu2 (nI (L ++ [(1, nsp R)]).length) = some (nI (oth R).length, mot2, us3, nu3, nI (L ++ (1, nsp R) :: spl x none R).length) := b1
  rw [c1, bd_some, a1, bd_some, b1', bd_some, show (0 : Int32) = nI 0 from rfl, d1, bd_some, f1, bd_some]
  exact ⟨mot2, li2, us4, nu4, rfl, f2⟩

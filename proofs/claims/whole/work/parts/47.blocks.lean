/-! ===== pure: blocks; dense ===== -/
def rwb (p q : Nat → Bool) : Nat → Nat → Bool → Nat → List Nat
  | 0, _, _, _ => []
  | r + 1, j, s, k => if q j = true then (if p j = s then rwb p q r (j + 1) s (k + 1) else k :: rwb p q r (j + 1) (!s) 1) else rwb p q r (j + 1) s k
def em : Nat → List Nat → LUN
  | _, [] => []
  | e, h :: t => (5, if e = 0 then h else h - 1) :: em (e + 1) t
theorem em_len : ∀ (e : Nat) (l : List Nat), (em e l).length = l.length
  | _, [] => rfl
  | e, h :: t => by
    show (em (e + 1) t).length + 1 = t.length + 1
    rw [em_len]
theorem rwb_len (p q : Nat → Bool) : ∀ (r j : Nat) (s : Bool) (k : Nat), (rwb p q r j s k).length ≤ r
  | 0, _, _, _ => Nat.le_refl _
  | r + 1, j, s, k => by
    rw [rwb]
    by_cases c : q j = true
    · rw [if_pos c]
      by_cases d : p j = s
      · rw [if_pos d]
        have := rwb_len p q r (j + 1) s (k + 1)
        omega
      · rw [if_neg d]
        have := rwb_len p q r (j + 1) (!s) 1
        show (rwb p q r (j + 1) (!s) 1).length + 1 ≤ r + 1
        omega
    · rw [if_neg c]
      have := rwb_len p q r (j + 1) s k
      omega
theorem rwb_ext {p q : Nat → Bool} : ∀ {r t j : Nat} {s : Bool} {k : Nat}, (∀ c, j + r ≤ c → q c = false) → r ≤ t → rwb p q t j s k = rwb p q r j s k
  | 0, 0, _, _, _, _, _ => rfl
  | 0, t + 1, j, s, k, h, _ => by
    show rwb p q (t + 1) j s k = []
    have e : rwb p q (t + 1) j s k = rwb p q t (j + 1) s k := by rw [rwb, if_neg (by rw [h j (by omega)]; decide)]
    rw [e]
    exact rwb_ext (r := 0) (fun c hc => h c (by omega)) (by omega)
  | r + 1, 0, _, _, _, _, h => absurd h (by omega)
  | r + 1, t + 1, j, s, k, h, ht => by
    rw [rwb, rwb, rwb_ext (r := r) (t := t) (j := j + 1) (fun c hc => h c (by omega)) (by omega), rwb_ext (r := r) (t := t) (j := j + 1) (fun c hc => h c (by omega)) (by omega), rwb_ext (r := r) (t := t) (j := j + 1) (fun c hc => h c (by omega)) (by omega)]
def ge1 : Nat → List Nat → Prop
  | _, [] => True
  | e, h :: t => (e = 0 ∨ 1 ≤ h) ∧ h ≤ 48 ∧ ge1 (e + 1) t
theorem rwb_ge1 (p q : Nat → Bool) : ∀ (r j : Nat) (s : Bool) (k e : Nat), j + r = 48 → k ≤ j → (e = 0 ∨ 1 ≤ k) → ge1 e (rwb p q r j s k)
  | 0, _, _, _, _, _, _, _ => trivial
  | r + 1, j, s, k, e, h1, h2, h3 => by
    rw [rwb]
    by_cases c : q j = true
    · rw [if_pos c]
      by_cases d : p j = s
      · rw [if_pos d]
        exact rwb_ge1 p q r (j + 1) s (k + 1) e (by omega) (by omega) (Or.inr (by omega))
      · rw [if_neg d]
        exact ⟨h3, by omega, rwb_ge1 p q r (j + 1) (!s) 1 (e + 1) (by omega) (by omega) (Or.inr (Nat.le_refl _))⟩
    · rw [if_neg c]
      exact rwb_ge1 p q r (j + 1) s k e (by omega) (by omega) h3
def b10 (s : Bool) : Int32 := if s = true then 1 else 0
theorem b10_eq (s t : Bool) : b10 s = b10 t ↔ s = t := by cases s <;> cases t <;> decide
theorem b10_ne (s : Bool) : (b10 s = 0) ↔ s = false := by cases s <;> decide
theorem X8_isInB (r : Int64) {b : Nat} (hb : b < 48) : F_X8_isIn r (nI b) = some (b10 (bt r b)) := by
  rw [X8_isIn _ _ (by omega)]
  unfold b10
  congr 1
  exact if_cg ⟨fun h => h.2, fun h => ⟨hb, h⟩⟩ _ _
theorem X_blocks_L {row ahead : Int64} {y5 : Int32} : ∀ (r j f : Nat) (s : Bool) (k e : Nat) (L : LUN) (us nu : AI), j + r = 48 → r < f → k ≤ j → e ≤ j → (e = 0 ∨ 1 ≤ k) → Hd us nu 0 L → L.length + r ≤ 160 → ∃ us2 nu2 : AI, F_X6_tellBlocks_L24 row ahead y5 f (b10 s) (nI k) (nI e) (nI j) us nu (nI L.length) = some (nI (e + (rwb (bt row) (bt ahead) r j s k).length), us2, nu2, nI (L ++ em e (rwb (bt row) (bt ahead) r j s k)).length) ∧ Hd us2 nu2 0 (L ++ em e (rwb (bt row) (bt ahead) r j s k)) := by
  intro r
  induction r with
  | zero =>
    intro j f s k e L us nu e1 e2 e3 e4 e5 e6 e7
    obtain ⟨f, rfl⟩ : ∃ g, f = g + 1 := ⟨f - 1, by omega⟩
    rw [F_X6_tellBlocks_L24, if_pos (by rw [show (48 : Int32) = nI 48 from rfl]; exact nI_le (by omega) (by omega))]
    show ∃ us2 nu2 : AI, _ = some (nI (e + 0), us2, nu2, nI (L ++ []).length) ∧ Hd us2 nu2 0 (L ++ [])
    rw [List.append_nil]
    exact ⟨_, _, rfl, e6⟩
  | succ r ih =>
    intro j f s k e L us nu e1 e2 e3 e4 e5 e6 e7
    obtain ⟨f, rfl⟩ : ∃ g, f = g + 1 := ⟨f - 1, by omega⟩
    rw [F_X6_tellBlocks_L24, if_neg (by rw [show (48 : Int32) = nI 48 from rfl]; exact nI_ge (by omega) (by decide)), X8_isInB _ (by omega), bd_some, if_cg (b10_ne _), X8_isInB _ (by omega), bd_some, if_cg (b10_eq _ _), rwb]
    by_cases c : bt ahead j = true
    · rw [if_neg (by rw [c]; decide), if_pos c]
      by_cases d : bt row j = s
      · rw [if_pos d, if_pos d, nI_1, nI_1]
        exact ih (j + 1) f s (k + 1) e L us nu (by omega) (by omega) (by omega) (by omega) (Or.inr (by omega)) e6 (by omega)
      · rw [if_neg d, if_neg d]
        have fin : ∀ (us2 nu2 : AI) (v : Nat), Hd us2 nu2 0 (L ++ [(5, v)]) → v = (if e = 0 then k else k - 1) → ∃ us3 nu3 : AI, (if b10 s = 0 then (F_X6_tellBlocks_L24 row ahead y5 f (1 : Int32) (1 : Int32) (nI e + 1) (nI j + 1) us2 nu2 (nI (L ++ [(5, v)]).length)) else (F_X6_tellBlocks_L24 row ahead y5 f (0 : Int32) (1 : Int32) (nI e + 1) (nI j + 1) us2 nu2 (nI (L ++ [(5, v)]).length))) = some (nI (e + (k :: rwb (bt row) (bt ahead) r (j + 1) (!s) 1).length), us3, nu3, nI (L ++ em e (k :: rwb (bt row) (bt ahead) r (j + 1) (!s) 1)).length) ∧ Hd us3 nu3 0 (L ++ em e (k :: rwb (bt row) (bt ahead) r (j + 1) (!s) 1)) := by
          intro us2 nu2 v a1 a2
          obtain ⟨us3, nu3, b1, b2⟩ := ih (j + 1) f (!s) 1 (e + 1) _ us2 nu2 (by omega) (by omega) (by omega) (by omega) (Or.inr (Nat.le_refl _)) a1 (by rw [len1]; omega)
          rw [app1, a2] at b1 b2
          refine ⟨us3, nu3, ?_, b2⟩
          rw [a2, show e + (k :: rwb (bt row) (bt ahead) r (j + 1) (!s) 1).length = e + 1 + (rwb (bt row) (bt ahead) r (j + 1) (!s) 1).length by show e + ((rwb (bt row) (bt ahead) r (j + 1) (!s) 1).length + 1) = _; omega, nI_1, nI_1]
          cases s
          · rw [if_pos (by decide)]; exact b1
          · rw [if_neg (by decide)]; exact b1
        by_cases g : e = 0
        · obtain ⟨us2, nu2, a1, a2⟩ := X_add (x := 5) (u := 5) (v := k) rfl rfl e6 (by omega)
          rw [if_pos (by rw [g]; rfl), a1, bd_some]
          exact fin us2 nu2 k a2 (by rw [if_pos g])
        · obtain ⟨us2, nu2, a1, a2⟩ := X_add (x := 5) (u := 5) (y := nI k - 1) (v := k - 1) rfl (by rw [show (1 : Int32) = nI 1 from rfl]; exact sub_all (by omega)) e6 (by omega)
          rw [if_neg (show ¬ nI e = (0 : Int32) from nI_k (k := 0) (by omega) (by decide) g), a1, bd_some]
          exact fin us2 nu2 (k - 1) a2 (by rw [if_neg g])
    · rw [if_pos (by simpa using c), if_neg c, nI_1]
      exact ih (j + 1) f s k e L us nu (by omega) (by omega) (by omega) (by omega) e5 e6 (by omega)
theorem X_blocks {fu : Nat} {row ahead : Int64} {L : LUN} {us nu : AI} (hf : 1000 ≤ fu) (h : Hd us nu 0 L) (hl : L.length ≤ 50) : ∃ us2 nu2 : AI, F_X6_tellBlocks fu row ahead (nI L.length) us nu = some (us2, nu2, nI (L ++ (1, (rwb (bt row) (bt ahead) 48 0 true 0).length) :: em 0 (rwb (bt row) (bt ahead) 48 0 true 0)).length) ∧ Hd us2 nu2 0 (L ++ (1, (rwb (bt row) (bt ahead) 48 0 true 0).length) :: em 0 (rwb (bt row) (bt ahead) 48 0 true 0)) := by
  unfold F_X6_tellBlocks
  obtain ⟨us2, nu2, a1, a2⟩ := X_add (x := 1) (y := 0) (u := 1) (v := 0) rfl rfl h (by omega)
  obtain ⟨us3, nu3, b1, b2⟩ := X_blocks_L (row := row) (ahead := ahead) (y5 := nI L.length) 48 0 fu true 0 0 _ us2 nu2 (by omega) (by omega) (by omega) (by omega) (Or.inl rfl) a2 (by rw [len1]; omega)
  rw [app1, Nat.zero_add] at b1
  rw [app1] at b2
  have b1' : F_X6_tellBlocks_L24 row ahead (nI L.length) fu 1 0 0 0 us2 nu2 (nI (L ++ [(1, 0)]).length) = _ := b1
  rw [a1, bd_some, b1', bd_some, if_neg (nI_pos (by omega)), if_neg (nI_ge (by omega) (by decide)), ck_t (bn_nI (by omega) (by decide)), clampN (by omega)]
  refine ⟨us3, upd nu3 L.length (nI (rwb (bt row) (bt ahead) 48 0 true 0).length), ?_, ?_⟩
  · congr 3
    rw [List.length_append, List.length_append]
    rfl
  · rw [Hd_app] at b2 ⊢
    refine ⟨Hd_cg (fun i _ hi => ⟨rfl, upd_n (by omega)⟩) b2.1, ?_⟩
    rw [Nat.zero_add] at b2 ⊢
    exact ⟨b2.2.1, upd_s _ _ _, Hd_cg (fun i hi _ => ⟨rfl, upd_n (by omega)⟩) b2.2.2.2⟩
theorem M_blocks_L {x y nn : Nat} {no : AI} {p q : Nat → Bool} (hx : x < nn) (hy : y < nn) (hn : nn ≤ 48) (hp : ∀ b, b < nn → no (48 * x + b) = if p b = true then 1 else 0) (hq : ∀ b, b < nn → no (48 * y + b) = if q b = true then 1 else 0) : ∀ (r j f : Nat) (s : Bool) (k : Nat) (F : List Nat) (mbl : AI), j + r = nn → r < f → F.length ≤ j → Hl mbl 0 (F ++ [k]) → ∃ (kl : Nat) (mbl2 : AI), F_X9_tellCopied_L16 (nI x) (nI y) (nI nn) no f (nI (F.length + 1)) (b10 s) (nI j) mbl = some (nI ((F ++ rwb p q r j s k).length + 1), mbl2) ∧ Hl mbl2 0 (F ++ rwb p q r j s k ++ [kl]) := by
  intro r
  induction r with
  | zero =>
    intro j f s k F mbl e1 e2 e3 e4
    obtain ⟨f, rfl⟩ : ∃ g, f = g + 1 := ⟨f - 1, by omega⟩
    rw [F_X9_tellCopied_L16, if_pos (nI_le (by omega) (by omega)), rwb, List.append_nil]
    exact ⟨k, mbl, rfl, e4⟩
  | succ r ih =>
    intro j f s k F mbl e1 e2 e3 e4
    obtain ⟨f, rfl⟩ : ∃ g, f = g + 1 := ⟨f - 1, by omega⟩
    have e5 := (Hl_app.mp e4).2
    rw [Nat.zero_add] at e5
    have q0 : mbl F.length = nI k := e5.1
    have q1 : nI (F.length + 1) - 1 = nI F.length := nI_pred _
    have q2 : nI (F.length + 1 + 1) - 1 = nI (F.length + 1) := nI_pred _
    have hpj : no (48 * x + j) = b10 (p j) := hp j (by omega)
    rw [F_X9_tellCopied_L16, if_neg (nI_ge (by omega) (by omega)), ix48, ix48, ck_t (bn_nI (show 48 * y + j < 2304 by omega) (by decide)), ck_t (bn_nI (show 48 * x + j < 2304 by omega) (by decide)), clampN (show 48 * x + j < 2 ^ 31 by omega), clampN (show 48 * y + j < 2 ^ 31 by omega), hpj, hq j (by omega), if10', if_cg (b10_eq _ _), nI_1, nI_1, q1, q2, ck_t (bn_nI (show F.length < 50 by omega) (by decide)), ck_t (bn_nI (show F.length < 50 by omega) (by decide)), ck_t (bn_nI (show F.length + 1 < 50 by omega) (by decide)), ck_t (bn_nI (show F.length + 1 < 50 by omega) (by decide)), ck_t (bn_nI (show F.length + 1 < 50 by omega) (by decide)), clampN (show F.length < 2 ^ 31 by omega), clampN (show F.length + 1 < 2 ^ 31 by omega), q0, upd_s, nI_1, rwb]
    by_cases c : q j = true
    · rw [if_pos c, if_pos c]
      by_cases d : p j = s
      · rw [if_pos d, if_pos d]
        refine ih (j + 1) f s (k + 1) F _ (by omega) (by omega) (by omega) ?_
        rw [Hl_app] at e4 ⊢
        refine ⟨Hl_cg (fun i _ hi => upd_n (by omega)) e4.1, ?_⟩
        rw [Nat.zero_add]
        exact ⟨upd_s _ _ _, trivial⟩
      · rw [if_neg d, if_neg d]
        have e6 : Hl (upd (upd mbl (F.length + 1) 0) (F.length + 1) (0 + 1)) 0 (F ++ [k] ++ [1]) := by
          rw [Hl_app]
          refine ⟨Hl_cg (fun i _ hi => ?_) e4, ?_⟩
          · rw [len1] at hi
            rw [upd_n (by omega), upd_n (by omega)]
          · rw [len1, Nat.zero_add]
            exact ⟨upd_s _ _ _, trivial⟩
        obtain ⟨kl, mbl2, a1, a2⟩ := ih (j + 1) f (!s) 1 (F ++ [k]) _ (by omega) (by omega) (by rw [len1]; omega) e6
        rw [app1] at a1 a2
        rw [len1] at a1
        refine ⟨kl, mbl2, ?_, a2⟩
        rw [← a1]
        cases s
        · rw [if_pos (by decide)]; rfl
        · rw [if_neg (by decide), ck_t (bn_nI (show F.length + 1 < 50 by omega) (by decide)), ck_t (bn_nI (show F.length + 1 < 50 by omega) (by decide)), ck_t (bn_nI (show F.length + 1 < 50 by omega) (by decide))]; rfl
    · rw [if_neg c, if_neg c]
      exact ih (j + 1) f s k F mbl (by omega) (by omega) (by omega) e4
theorem M_emit {x y m : Nat} {mbl : AI} (hm : m ≤ 49) : ∀ (t : List Nat) (i f : Nat) (L : LUN) (us nu : AI), i + t.length + 1 = m → t.length < f → Hl mbl i t → ge1 i t → Hd us nu 0 L → L.length + t.length ≤ 400 → ∃ us2 nu2 : AI, F_X9_tellCopied_L115 (nI x) (nI y) (nI m) mbl f (nI i) us nu (nI L.length) = some (us2, nu2, nI (L ++ em i t).length) ∧ Hd us2 nu2 0 (L ++ em i t) := by
  intro t
  induction t with
  | nil =>
    intro i f L us nu e1 e2 e3 e4 e5 e6
    obtain ⟨f, rfl⟩ : ∃ g, f = g + 1 := ⟨f - 1, by omega⟩
    have e1 : i + 0 + 1 = m := e1
    rw [F_X9_tellCopied_L115, nI_1, if_pos (nI_le (by omega) (by omega)), em, List.append_nil]
    exact ⟨_, _, rfl, e5⟩
  | cons h t ih =>
    intro i f L us nu e1 e2 e3 e4 e5 e6
    obtain ⟨f, rfl⟩ : ∃ g, f = g + 1 := ⟨f - 1, by omega⟩
    have e1 : i + (t.length + 1) + 1 = m := e1
    have e2 : t.length + 1 < f + 1 := e2
    have e6 : L.length + (t.length + 1) ≤ 400 := e6
    have q0 : mbl i = nI h := e3.1
    have fin : ∀ (us2 nu2 : AI) (v : Nat), Hd us2 nu2 0 (L ++ [(5, v)]) → v = (if i = 0 then h else h - 1) → ∃ us3 nu3 : AI, F_X9_tellCopied_L115 (nI x) (nI y) (nI m) mbl f (nI (i + 1)) us2 nu2 (nI (L ++ [(5, v)]).length) = some (us3, nu3, nI (L ++ em i (h :: t)).length) ∧ Hd us3 nu3 0 (L ++ em i (h :: t)) := by
      intro us2 nu2 v a1 a2
      obtain ⟨us3, nu3, b1, b2⟩ := ih (i + 1) f _ us2 nu2 (by omega) (by omega) e3.2 e4.2.2 a1 (by rw [len1]; omega)
      rw [app1, a2] at b1 b2
      rw [a2]
      exact ⟨us3, nu3, b1, b2⟩
    rw [F_X9_tellCopied_L115, nI_1, if_neg (nI_ge (by omega) (by omega))]
    by_cases g : i = 0
    · obtain ⟨us2, nu2, a1, a2⟩ := M_say (x := 5) (u := 5) (v := h) rfl rfl e5 (by omega)
      rw [if_pos (by rw [g]; rfl), ck_t (show bn (0 : Int32) 50 = true from bn_nI (k := 0) (by decide) (by decide)), show (0 : Int32).toNatClampNeg = i from by rw [g]; rfl, q0, a1, bd_some]
      exact fin us2 nu2 h a2 (by rw [if_pos g])
    · have := e4.1
      obtain ⟨us2, nu2, a1, a2⟩ := M_say (x := 5) (u := 5) (y := nI h - 1) (v := h - 1) rfl (by rw [show (1 : Int32) = nI 1 from rfl]; exact sub_all (by omega)) e5 (by omega)
      rw [if_neg (show ¬ nI i = (0 : Int32) from nI_k (k := 0) (by omega) (by decide) g), ck_t (bn_nI (show i < 50 by omega) (by decide)), clampN (show i < 2 ^ 31 by omega), q0, a1, bd_some]
      exact fin us2 nu2 (h - 1) a2 (by rw [if_neg g])
/-! dense -/
def lsA : Nat → List Nat → Nat
  | d, [] => d
  | _, b :: t => lsA b t
theorem lsA_app (c : Nat) : ∀ (l : List Nat) (d : Nat), lsA d (l ++ [c]) = c
  | [], _ => rfl
  | b :: t, _ => lsA_app c t b
theorem Hl_last {li : AI} : ∀ (t : List Nat) (i h : Nat), Hl li i (h :: t) → li (i + t.length) = nI (lsA h t)
  | [], i, h, hh => hh.1
  | b :: t, i, h, hh => by
    have := Hl_last t (i + 1) b hh.2
    rw [show i + (b :: t).length = i + 1 + t.length by show i + (t.length + 1) = _; omega]
    exact this
theorem ic_last : ∀ (t : List Nat) (j h : Nat), ic j (h :: t) → h ≤ lsA h t ∧ lsA h t < 48
  | [], j, h, hh => ⟨Nat.le_refl _, hh.2.1⟩
  | b :: t, j, h, hh => by
    have := ic_last t (h + 1) b hh.2.2
    have := hh.2.2.1
    exact ⟨by show h ≤ lsA b t; omega, by show lsA b t < 48; omega⟩
theorem ffr_en {p : Nat → Bool} {b : Nat} {t : List Nat} : ∀ {r j : Nat}, en p r j = b :: t → ffr p r j = nI b
  | 0, _, h => by cases h
  | r + 1, j, h => by
    rw [ffr]
    by_cases c : p j = true
    · rw [en_t c] at h
      rw [if_pos c]
      cases h
      rfl
    · rw [en_f c] at h
      rw [if_neg c]
      exact ffr_en h
theorem X_lastOf_L {row : Int64} : ∀ (c f : Nat) (b : Nat) (t : List Nat), c < 48 → c < f → en (bt row) (c + 1) 0 = b :: t → F_X8_lastOf_L3 row f (nI c) = some (nI (lsA b t))
  | 0, f, b, t, h1, h2, h3 => by
    obtain ⟨f, rfl⟩ : ∃ g, f = g + 1 := ⟨f - 1, by omega⟩
    have c : bt row 0 = true := by
      cases e : bt row 0
      · rw [en_f (by rw [e]; decide)] at h3
        cases h3
      · rfl
    rw [en_t c] at h3
    cases h3
    rw [F_X8_lastOf_L3, if_neg (nI_pos (by decide)), if_neg (fun z => by rw [(bt_test (by omega) row).mp z] at c; cases c)]
    rfl
  | c + 1, f, b, t, h1, h2, h3 => by
    obtain ⟨f, rfl⟩ : ∃ g, f = g + 1 := ⟨f - 1, by omega⟩
    rw [en_split _ (c + 1) 1 0, Nat.zero_add] at h3
    rw [F_X8_lastOf_L3, if_neg (nI_pos (by omega)), if_cg (bt_test (by omega) row)]
    cases e : bt row (c + 1)
    · rw [en_f (p := bt row) (r := 0) (j := c + 1) (by rw [e]; decide), show en (bt row) 0 (c + 1 + 1) = [] from rfl, List.append_nil] at h3
      rw [if_pos rfl, pk_m1]
      exact X_lastOf_L c f b t (by omega) (by omega) h3
    · rw [en_t (r := 0) e, show en (bt row) 0 (c + 1 + 1) = [] from rfl] at h3
      rw [if_neg (by decide)]
      have := lsA_app (c + 1) (en (bt row) (c + 1) 0) 0
      rw [h3] at this
      have this : lsA b t = c + 1 := this
      rw [this]
def brs (p : Nat → Bool) : Nat → Nat → LUN
  | 0, _ => []
  | r + 1, j => (8, if p j = true then 1 else 0) :: brs p r (j + 1)
theorem brs_len (p : Nat → Bool) : ∀ r j : Nat, (brs p r j).length = r
  | 0, _ => rfl
  | r + 1, j => by
    show (brs p r (j + 1)).length + 1 = r + 1
    rw [brs_len]
def dns (x : Nat) (p : Nat → Bool) : List Nat → LUN
  | [] => [(2, 2 * x + 1), (1, 0)]
  | b :: t => (2, fd b x) :: (1, lsA b t - b) :: brs p (lsA b t - (b + 1)) (b + 1)
theorem X_bare {row : Int64} {z : Nat} (hz : z < 48) : ∀ (r j f : Nat) (L : LUN) (us nu : AI), (j + r = z ∨ (r = 0 ∧ z ≤ j ∧ j ≤ 48)) → r < f → Hd us nu 0 L → L.length + r ≤ 160 → ∃ us2 nu2 : AI, F_X6_tellDense_L41 row (nI z) f (nI j) us nu (nI L.length) = some (us2, nu2, nI (L ++ brs (bt row) r j).length) ∧ Hd us2 nu2 0 (L ++ brs (bt row) r j) := by
  intro r
  induction r with
  | zero =>
    intro j f L us nu e1 e2 e3 e4
    obtain ⟨f, rfl⟩ : ∃ g, f = g + 1 := ⟨f - 1, by omega⟩
    rw [F_X6_tellDense_L41, if_pos (nI_le (by omega) (by omega)), brs, List.append_nil]
    exact ⟨_, _, rfl, e3⟩
  | succ r ih =>
    intro j f L us nu e1 e2 e3 e4
    obtain ⟨f, rfl⟩ : ∃ g, f = g + 1 := ⟨f - 1, by omega⟩
    rw [F_X6_tellDense_L41, if_neg (nI_ge (by omega) (by omega)), X8_isInB _ (by omega), bd_some, if_cg (b10_ne _), brs]
    cases c : bt row j
    · obtain ⟨us2, nu2, a1, a2⟩ := X_add (x := 8) (y := 0) (u := 8) (v := 0) rfl rfl e3 (by omega)
      rw [if_pos rfl, if_neg (by decide), a1, bd_some, nI_1]
      obtain ⟨us3, nu3, b1, b2⟩ := ih (j + 1) f _ us2 nu2 (by omega) (by omega) a2 (by rw [len1]; omega)
      rw [app1] at b1 b2
      exact ⟨us3, nu3, b1, b2⟩
    · obtain ⟨us2, nu2, a1, a2⟩ := X_add (x := 8) (y := 1) (u := 8) (v := 1) rfl rfl e3 (by omega)
      rw [if_neg (by decide), if_pos rfl, a1, bd_some, nI_1]
      obtain ⟨us3, nu3, b1, b2⟩ := ih (j + 1) f _ us2 nu2 (by omega) (by omega) a2 (by rw [len1]; omega)
      rw [app1] at b1 b2
      exact ⟨us3, nu3, b1, b2⟩
theorem M_bare {x nn : Nat} {no : AI} {p : Nat → Bool} {z : Nat} (hx : x < nn) (hn : nn ≤ 48) (hp : ∀ b, b < nn → no (48 * x + b) = if p b = true then 1 else 0) (hz : z < nn) : ∀ (r j f : Nat) (L : LUN) (us nu : AI), (j + r = z ∨ (r = 0 ∧ z ≤ j ∧ j ≤ 48)) → r < f → Hd us nu 0 L → L.length + r ≤ 400 → ∃ us2 nu2 : AI, F_X9_tellDense_L45 (nI x) (nI z) no f (nI j) us nu (nI L.length) = some (us2, nu2, nI (L ++ brs p r j).length) ∧ Hd us2 nu2 0 (L ++ brs p r j) := by
  intro r
  induction r with
  | zero =>
    intro j f L us nu e1 e2 e3 e4
    obtain ⟨f, rfl⟩ : ∃ g, f = g + 1 := ⟨f - 1, by omega⟩
    rw [F_X9_tellDense_L45, if_pos (nI_le (by omega) (by omega)), brs, List.append_nil]
    exact ⟨_, _, rfl, e3⟩
  | succ r ih =>
    intro j f L us nu e1 e2 e3 e4
    obtain ⟨f, rfl⟩ : ∃ g, f = g + 1 := ⟨f - 1, by omega⟩
    rw [F_X9_tellDense_L45, if_neg (nI_ge (by omega) (by omega)), ix48, ck_t (bn_nI (show 48 * x + j < 2304 by omega) (by decide)), clampN (show 48 * x + j < 2 ^ 31 by omega), hp j (by omega), if10', brs]
    cases c : p j
    · obtain ⟨us2, nu2, a1, a2⟩ := M_say (x := 8) (y := 0) (u := 8) (v := 0) rfl rfl e3 (by omega)
      rw [if_neg (by decide), if_neg (by decide), a1, bd_some, nI_1]
      obtain ⟨us3, nu3, b1, b2⟩ := ih (j + 1) f _ us2 nu2 (by omega) (by omega) a2 (by rw [len1]; omega)
      rw [app1] at b1 b2
      exact ⟨us3, nu3, b1, b2⟩
    · obtain ⟨us2, nu2, a1, a2⟩ := M_say (x := 8) (y := 1) (u := 8) (v := 1) rfl rfl e3 (by omega)
      rw [if_pos rfl, if_pos rfl, a1, bd_some, nI_1]
      obtain ⟨us3, nu3, b1, b2⟩ := ih (j + 1) f _ us2 nu2 (by omega) (by omega) a2 (by rw [len1]; omega)
      rw [app1] at b1 b2
      exact ⟨us3, nu3, b1, b2⟩

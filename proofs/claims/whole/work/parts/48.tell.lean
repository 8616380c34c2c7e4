/-! ===== pure: dense, copied; the whole telling ===== -/
theorem en_mem {p : Nat → Bool} {c : Nat} : ∀ {r j : Nat}, c ∈ en p r j → p c = true
  | 0, _, h => by cases h
  | r + 1, j, h => by
    by_cases q : p j = true
    · rw [en_t q] at h
      rcases List.mem_cons.mp h with e | e
      · rw [e]; exact q
      · exact en_mem e
    · rw [en_f q] at h
      exact en_mem h
theorem en_nil {p : Nat → Bool} : ∀ {r j : Nat}, en p r j = [] → ∀ k, j ≤ k → k < j + r → p k = false
  | 0, _, _, k, h1, h2 => absurd h2 (by omega)
  | r + 1, j, h, k, h1, h2 => by
    by_cases q : p j = true
    · rw [en_t q] at h
      cases h
    · rw [en_f q] at h
      by_cases e : k = j
      · rw [e]; simpa using q
      · exact en_nil h k (by omega) (by omega)
theorem lsA_mem : ∀ (t : List Nat) (b : Nat), lsA b t ∈ b :: t
  | [], b => List.mem_cons_self
  | c :: t, b => List.mem_cons_of_mem _ (lsA_mem t c)
theorem X_dense {fu x : Nat} {row : Int64} {L : LUN} {us nu : AI} {b : Nat} {t : List Nat} (hf : 1000 ≤ fu) (hx : x < 48) (he : en (bt row) 48 0 = b :: t) (h : Hd us nu 0 L) (hl : L.length ≤ 100) : ∃ us2 nu2 : AI, F_X6_tellDense fu (nI x) row (nI L.length) us nu = some (us2, nu2, nI (L ++ dns x (bt row) (b :: t)).length) ∧ Hd us2 nu2 0 (L ++ dns x (bt row) (b :: t)) := by
  have hi := en_ic (bt row) 48 0 (by omega)
  rw [he] at hi
  have hl2 := ic_last t 0 b hi
  have q1 : F_X8_firstFrom fu row (0 : Int32) = some (nI b) := by
    have := X8_firstFrom (fu := fu) (j := 0) (by omega) (by decide) row
    rw [show 48 - 0 = 48 from rfl, ffr_en he] at this
    exact this
  have q2 : F_X8_lastOf fu row = some (nI (lsA b t)) := X_lastOf_L 47 fu b t (by omega) (by omega) he
  obtain ⟨us2, nu2, a1, a2⟩ := X_add (x := 2) (u := 2) (v := fd b x) rfl rfl h (by omega)
  obtain ⟨us3, nu3, b1, b2⟩ := X_add (x := 1) (u := 1) (y := nI (lsA b t) - nI b) (v := lsA b t - b) rfl (sub_all hl2.1) a2 (by rw [len1]; omega)
  obtain ⟨us4, nu4, d1, d2⟩ := X_bare (row := row) (z := lsA b t) hl2.2 (lsA b t - (b + 1)) (b + 1) fu _ us3 nu3 (by omega) (by omega) b2 (by rw [len1, len1]; omega)
  have ea : L ++ [(2, fd b x)] ++ [(1, lsA b t - b)] ++ brs (bt row) (lsA b t - (b + 1)) (b + 1) = L ++ dns x (bt row) (b :: t) := by simp [dns]
  rw [ea] at d1 d2
  unfold F_X6_tellDense
  rw [q1, bd_some, q2, bd_some, (fd_all b (by omega) x hx).2.1, bd_some, a1, bd_some, b1, bd_some, nI_1, d1, bd_some]
  exact ⟨us4, nu4, rfl, d2⟩
theorem X_lastOf_0 : ∀ (c f : Nat), c < 48 → c + 1 < f → F_X8_lastOf_L3 (0 : Int64) f (nI c) = some (-1 : Int32)
  | 0, f, h1, h2 => by
    obtain ⟨f, rfl⟩ : ∃ g, f = g + 2 := ⟨f - 2, by omega⟩
    rw [F_X8_lastOf_L3, if_neg (nI_pos (by decide)), if_cg (bt_test (by omega) (0 : Int64)), bt_zero, if_pos rfl, F_X8_lastOf_L3, if_pos (show nI 0 + (-1 : Int32) < 0 by decide)]
  | c + 1, f, h1, h2 => by
    obtain ⟨f, rfl⟩ : ∃ g, f = g + 1 := ⟨f - 1, by omega⟩
    rw [F_X8_lastOf_L3, if_neg (nI_pos (by omega)), if_cg (bt_test (by omega) (0 : Int64)), bt_zero, if_pos rfl, pk_m1]
    exact X_lastOf_0 c f (by omega) (by omega)
theorem fd_m1 : ∀ x, x < 48 → F_X8_folded ((-1 : Int32) - nI x) = some (nI (2 * x + 1)) := by decide +kernel
theorem X_dense0 {fu x : Nat} {L : LUN} {us nu : AI} (hf : 1000 ≤ fu) (hx : x < 48) (h : Hd us nu 0 L) (hl : L.length ≤ 100) : ∃ us2 nu2 : AI, F_X6_tellDense fu (nI x) (0 : Int64) (nI L.length) us nu = some (us2, nu2, nI (L ++ [(2, 2 * x + 1), (1, 0)]).length) ∧ Hd us2 nu2 0 (L ++ [(2, 2 * x + 1), (1, 0)]) := by
  have q1 : F_X8_firstFrom fu (0 : Int64) (0 : Int32) = some (-1 : Int32) := by
    have := X8_firstFrom (fu := fu) (j := 0) (by omega) (by decide) (0 : Int64)
    rw [ffr_none (fun k _ => bt_zero k)] at this
    exact this
  have q2 : F_X8_lastOf fu (0 : Int64) = some (-1 : Int32) := X_lastOf_0 47 fu (by omega) (by omega)
  obtain ⟨us2, nu2, a1, a2⟩ := X_add (x := 2) (y := nI (2 * x + 1)) (u := 2) (v := 2 * x + 1) rfl rfl h (by omega)
  obtain ⟨us3, nu3, b1, b2⟩ := X_add (x := 1) (u := 1) (y := (-1 : Int32) - (-1 : Int32)) (v := 0) rfl (by decide) a2 (by rw [len1]; omega)
  obtain ⟨f, rfl⟩ : ∃ g, fu = g + 1 := ⟨fu - 1, by omega⟩
  have ea : L ++ [(2, 2 * x + 1)] ++ [(1, 0)] = L ++ [(2, 2 * x + 1), (1, 0)] := by simp
  rw [ea] at b1 b2
  unfold F_X6_tellDense
  rw [q1, bd_some, q2, bd_some, fd_m1 x hx, bd_some, a1, bd_some, b1, bd_some, F_X6_tellDense_L41, if_pos (show (-1 : Int32) ≤ (-1 : Int32) + (1 : Int32) by decide), bd_some]
  exact ⟨us3, nu3, rfl, b2⟩
theorem M_dense {fu x nn : Nat} {p : Nat → Bool} {no li : AI} {L : LUN} {us nu : AI} {b : Nat} {t : List Nat} (hf : 1000 ≤ fu) (hx : x < nn) (hn : nn ≤ 48) (hp : ∀ b, b < nn → no (48 * x + b) = if p b = true then 1 else 0) (hz : ∀ b, nn ≤ b → p b = false) (he : en p 48 0 = b :: t) (hli : Hl li 0 (b :: t)) (h : Hd us nu 0 L) (hl : L.length ≤ 100) : ∃ us2 nu2 : AI, F_X9_tellDense fu (nI x) li (nI (b :: t).length) (nI L.length) us nu no = some (us2, nu2, nI (L ++ dns x p (b :: t)).length) ∧ Hd us2 nu2 0 (L ++ dns x p (b :: t)) := by
  have hi := en_ic p 48 0 (by omega)
  have hle := en_len p 48 0
  rw [he] at hi hle
  have hle : t.length + 1 ≤ 48 := hle
  have hl2 := ic_last t 0 b hi
  have hlt : lsA b t < nn := by
    have m := lsA_mem t b
    rw [← he] at m
    have m2 := en_mem m
    rcases Nat.lt_or_ge (lsA b t) nn with q | q
    · exact q
    · rw [hz _ q] at m2; cases m2
  obtain ⟨us2, nu2, a1, a2⟩ := M_say (x := 2) (u := 2) (v := fd b x) rfl rfl h (by omega)
  obtain ⟨us3, nu3, b1, b2⟩ := M_say (x := 1) (u := 1) (y := nI (lsA b t) - nI b) (v := lsA b t - b) rfl (sub_all hl2.1) a2 (by rw [len1]; omega)
  obtain ⟨us4, nu4, d1, d2⟩ := M_bare (p := p) (z := lsA b t) hx hn hp hlt (lsA b t - (b + 1)) (b + 1) fu _ us3 nu3 (by omega) (by omega) b2 (by rw [len1, len1]; omega)
  have ea : L ++ [(2, fd b x)] ++ [(1, lsA b t - b)] ++ brs p (lsA b t - (b + 1)) (b + 1) = L ++ dns x p (b :: t) := by simp [dns]
  rw [ea] at d1 d2
  have q0 : li 0 = nI b := hli.1
  have q1 := Hl_last t 0 b hli
  rw [Nat.zero_add] at q1
  unfold F_X9_tellDense
  rw [ck_t (show bn (0 : Int32) 48 = true from bn_nI (k := 0) (by decide) (by decide)), show nI (b :: t).length - 1 = nI t.length from nI_pred _, ck_t (bn_nI (show t.length < 48 by omega) (by decide)), show (0 : Int32).toNatClampNeg = 0 from rfl, clampN (show t.length < 2 ^ 31 by omega), q0, q1, (fd_all b (by omega) x (by omega)).1, bd_some, a1, bd_some, b1, bd_some, nI_1, d1, bd_some]
  exact ⟨us4, nu4, rfl, d2⟩
/-- spans and what is left -/
def sps (x : Nat) (w : Int64) : LUN := (1, nsp (rns (bt w) 48 0 0)) :: (spl x none (rns (bt w) 48 0 0) ++ pls x (oth (rns (bt w) 48 0 0)))
theorem rns_ok {w : Int64} (hr : ∀ b, 48 ≤ b → bt w b = false) : RN (bt w) 0 (rns (bt w) 48 0 0) := rns_RN hr 48 0 0 (by omega) (by omega) (fun k h1 h2 => absurd h2 (by omega)) (Or.inl rfl)
theorem X_sps {fu x : Nat} {w : Int64} {L : LUN} {us nu : AI} (hf : 1000 ≤ fu) (hx : x < 48) (hr : ∀ b, 48 ≤ b → bt w b = false) (h : Hd us nu 0 L) (hl : L.length ≤ 60) : ∃ (row2 : Int64) (us2 nu2 us3 nu3 : AI) (z : Int32), F_X6_tellSpans fu (nI x) w (nI L.length) us nu = some (row2, us2, nu2, z) ∧ F_X6_tellPlain fu (nI x) row2 z us2 nu2 = some (us3, nu3, nI (L ++ sps x w).length) ∧ Hd us3 nu3 0 (L ++ sps x w) := by
  obtain ⟨row2, us2, nu2, a1, a2, a3, a4⟩ := X_spans hf hx hr (rns_ok hr) h (by omega)
  have hsl := spl_len x (l := none) (rns_ok hr) (by omega)
  obtain ⟨us3, nu3, b1, b2⟩ := X_plain (x := x) hf hx a3 a2 (by rw [List.length_append]; show L.length + ((spl x none (rns (bt w) 48 0 0)).length + 1) ≤ 110; omega)
  rw [a4] at b1 b2
  have ea : L ++ (1, nsp (rns (bt w) 48 0 0)) :: spl x none (rns (bt w) 48 0 0) ++ pls x (oth (rns (bt w) 48 0 0)) = L ++ sps x w := by simp [sps]
  rw [ea] at b1 b2
  exact ⟨row2, us2, nu2, us3, nu3, _, a1, b1, b2⟩
def tl (ro : AJ) (x : Nat) : Nat → Nat → LUN
  | 0, _ => (0, 0) :: pls x (en (bt (ro x)) 48 0)
  | 1, _ => (0, 1) :: sps x (ro x)
  | 2, k => (0, 2) :: (4, k - 1) :: (1, (rwb (bt (ro x)) (bt (ro (x - k))) 48 0 true 0).length) :: (em 0 (rwb (bt (ro x)) (bt (ro (x - k))) 48 0 true 0) ++ sps x (ro x &&& (ro (x - k) ^^^ (-1 : Int64))))
  | 3, k => [(0, 3), (4, k - 1)]
  | _, _ => (0, 4) :: dns x (bt (ro x)) (en (bt (ro x)) 48 0)
def okt (ro : AJ) (x : Nat) : Nat → Nat → Bool
  | 0, _ => true
  | 1, _ => true
  | 2, _ => true
  | 3, k => decide (ro x = ro (x - k))
  | _, _ => !decide (ro x = 0)
theorem en_row0 {w : Int64} (hr : ∀ b, 48 ≤ b → bt w b = false) : en (bt w) 48 0 = [] ↔ w = 0 := by
  constructor
  · intro h
    apply bt_ext
    intro i hi
    rw [bt_zero]
    rcases Nat.lt_or_ge i 48 with q | q
    · exact en_nil h i (by omega) (by omega)
    · exact hr i q
  · intro h
    rw [h]
    exact en_none (fun k _ _ => bt_zero k)
theorem b10_t : b10 true = 1 := rfl
theorem bt_andn {v w : Int64} {i : Nat} (hi : i < 64) : bt (v &&& (w ^^^ (-1 : Int64))) i = (bt v i && !bt w i) := by
  rw [bt_and, bt_not _ hi]
theorem X_tell {fu nn x kd k : Nat} {ro : AJ} {ts kk : Int32} {us nu : AI} (hf : 1000 ≤ fu) (hn : nn ≤ 48) (hz : ∀ a, a < nn → ∀ b, nn ≤ b → bt (ro a) b = false) (hx : x < nn) (hkd : kd < 5) (hk : kd = 2 ∨ kd = 3 → kk = nI k ∧ 1 ≤ k ∧ k ≤ x) : ∃ us2 nu2 : AI, F_X6_tell fu nn (nI x) (nI kd) kk ro ts us nu = some (b10 (okt ro x kd k), nI (tl ro x kd k).length, us2, nu2) ∧ Hd us2 nu2 0 (tl ro x kd k) := by
  have hr : ∀ b, 48 ≤ b → bt (ro x) b = false := fun b hb => hz x hx b (by omega)
  unfold F_X6_tell
  obtain ⟨us2, nu2, a1, a2⟩ := X_add (us := us) (nu := nu) (L := []) (x := 0) (y := nI kd) (u := 0) (v := kd) rfl rfl trivial (by decide)
  have a1 : F_X6_add (0 : Int32) (nI kd) 0 us nu = some (us2, nu2, nI [(0, kd)].length) := a1
  have a2 : Hd us2 nu2 0 [(0, kd)] := a2
  rw [X4_rowOf hx hn, bd_some, a1, bd_some]
  have hc : kd = 0 ∨ kd = 1 ∨ kd = 2 ∨ kd = 3 ∨ kd = 4 := by omega
  rcases hc with rfl | rfl | rfl | rfl | rfl
  · obtain ⟨us3, nu3, b1, b2⟩ := X_plain (x := x) hf (by omega) hr a2 (by decide)
    rw [if_pos (show nI 0 = (0 : Int32) from rfl), b1, bd_some]
    exact ⟨us3, nu3, rfl, b2⟩
  · obtain ⟨row2, us3, nu3, us4, nu4, z, b1, b2, b3⟩ := X_sps (x := x) hf (by omega) hr a2 (by decide)
    rw [if_neg (show ¬ nI 1 = (0 : Int32) by decide), if_pos (show nI 1 = (1 : Int32) from rfl), b1, bd_some, b2, bd_some]
    exact ⟨us4, nu4, rfl, b3⟩
  · obtain ⟨rfl, hk1, hk2⟩ := hk (Or.inl rfl)
    obtain ⟨us3, nu3, b1, b2⟩ := X_add (x := 4) (y := nI k - 1) (u := 4) (v := k - 1) rfl (by rw [show (1 : Int32) = nI 1 from rfl]; exact sub_all hk1) a2 (by decide)
    obtain ⟨us4, nu4, d1, d2⟩ := X_blocks (fu := fu) (row := ro x) (ahead := ro (x - k)) hf b2 (by show 2 ≤ 50; decide)
    have hlen := rwb_len (bt (ro x)) (bt (ro (x - k))) 48 0 true 0
    obtain ⟨row2, us5, nu5, us6, nu6, z, f1, f2, f3⟩ := X_sps (x := x) (w := ro x &&& (ro (x - k) ^^^ (-1 : Int64))) hf (by omega) (fun b hb => by rw [bt_and, hr b hb]; rfl) d2 (by rw [List.length_append]; show 2 + ((em 0 _).length + 1) ≤ 60; rw [em_len]; omega)
    rw [if_neg (show ¬ nI 2 = (0 : Int32) by decide), if_neg (show ¬ nI 2 = (1 : Int32) by decide), if_pos (show nI 2 = (2 : Int32) from rfl), sub_all hk2, X4_rowOf (show x - k < nn by omega) hn, bd_some, b1, bd_some, d1, bd_some, f1, bd_some, f2, bd_some]
    have ea : [(0, 2)] ++ [(4, k - 1)] ++ (1, (rwb (bt (ro x)) (bt (ro (x - k))) 48 0 true 0).length) :: em 0 (rwb (bt (ro x)) (bt (ro (x - k))) 48 0 true 0) ++ sps x (ro x &&& (ro (x - k) ^^^ (-1 : Int64))) = tl ro x 2 k := by simp [tl]
    rw [ea] at f3 ⊢
    exact ⟨us6, nu6, rfl, f3⟩
  · obtain ⟨rfl, hk1, hk2⟩ := hk (Or.inr rfl)
    obtain ⟨us3, nu3, b1, b2⟩ := X_add (x := 4) (y := nI k - 1) (u := 4) (v := k - 1) rfl (by rw [show (1 : Int32) = nI 1 from rfl]; exact sub_all hk1) a2 (by decide)
    rw [if_neg (show ¬ nI 3 = (0 : Int32) by decide), if_neg (show ¬ nI 3 = (1 : Int32) by decide), if_neg (show ¬ nI 3 = (2 : Int32) by decide), if_pos (show nI 3 = (3 : Int32) from rfl), sub_all hk2, b1, bd_some, X4_rowOf (show x - k < nn by omega) hn, bd_some, if_cg (lg_cmp_eq _ _)]
    by_cases c : ro x = ro (x - k)
    · rw [if_pos c]
      refine ⟨us3, nu3, ?_, b2⟩
      show _ = some (b10 (decide (ro x = ro (x - k))), _, us3, nu3)
      rw [decide_eq_true c]
      rfl
    · rw [if_neg c]
      refine ⟨us3, nu3, ?_, b2⟩
      show _ = some (b10 (decide (ro x = ro (x - k))), _, us3, nu3)
      rw [decide_eq_false c]
      rfl
  · rw [if_neg (show ¬ nI 4 = (0 : Int32) by decide), if_neg (show ¬ nI 4 = (1 : Int32) by decide), if_neg (show ¬ nI 4 = (2 : Int32) by decide), if_neg (show ¬ nI 4 = (3 : Int32) by decide), if_pos (show nI 4 = (4 : Int32) from rfl)]
    show ∃ us2 nu2 : AI, _ = some (b10 (!decide (ro x = 0)), nI ((0, 4) :: dns x (bt (ro x)) (en (bt (ro x)) 48 0)).length, us2, nu2) ∧ Hd us2 nu2 0 ((0, 4) :: dns x (bt (ro x)) (en (bt (ro x)) 48 0))
    by_cases c : ro x = 0
    · rw [(en_row0 hr).mpr c, decide_eq_true c]
      obtain ⟨us3, nu3, b1, b2⟩ := X_dense0 (fu := fu) (x := x) hf (by omega) a2 (by decide)
      rw [c, b1, bd_some, if_cg (lg_cmp_eq _ _), if_pos rfl]
      exact ⟨us3, nu3, rfl, b2⟩
    · rw [decide_eq_false c]
      cases he : en (bt (ro x)) 48 0 with
      | nil => exact absurd ((en_row0 hr).mp he) c
      | cons b t =>
        obtain ⟨us3, nu3, b1, b2⟩ := X_dense (x := x) hf (by omega) he a2 (by decide)
        rw [b1, bd_some, if_cg (lg_cmp_eq _ _), if_neg c]
        exact ⟨us3, nu3, rfl, b2⟩
theorem ell_en {w : Int64} (hr : ∀ b, 48 ≤ b → bt w b = false) : ell (rns (bt w) 48 0 0) = en (bt w) 48 0 := (en_ell (rns_ok hr) (by omega)).symm
theorem M_copied {fu nn x y : Nat} {ro : AJ} {no li mot mbl us nu : AI} {ld : Int32} {L : LUN} (hf : 1000 ≤ fu) (hn : nn ≤ 48) (hP : RP nn ro no) (hx : x < nn) (hy : y < x) (h : Hd us nu 0 L) (hl : L.length ≤ 60) : ∃ (mbl2 us2 nu2 li2 mot2 : AI) (z : Int32), F_X9_tellCopied fu (nI x) (nI y) mbl (nI nn) no (nI L.length) us nu ld li mot = some (mbl2, us2, nu2, nI (L ++ (4, x - y - 1) :: (1, (rwb (bt (ro x)) (bt (ro y)) 48 0 true 0).length) :: (em 0 (rwb (bt (ro x)) (bt (ro y)) 48 0 true 0) ++ sps x (ro x &&& (ro y ^^^ (-1 : Int64))))).length, z, li2, mot2) ∧ Hd us2 nu2 0 (L ++ (4, x - y - 1) :: (1, (rwb (bt (ro x)) (bt (ro y)) 48 0 true 0).length) :: (em 0 (rwb (bt (ro x)) (bt (ro y)) 48 0 true 0) ++ sps x (ro x &&& (ro y ^^^ (-1 : Int64))))) := by
  have hp := hP.1 x hx
  have hq := hP.1 y (by omega)
  have hw : ∀ b, 48 ≤ b → bt (ro x &&& (ro y ^^^ (-1 : Int64))) b = false := fun b hb => by rw [bt_and, hP.2 x hx b (by omega)]; rfl
  obtain ⟨kl, mbl2, a1, a2⟩ := M_blocks_L (x := x) (y := y) (p := bt (ro x)) (q := bt (ro y)) hx (by omega) hn hp hq nn 0 fu true 0 [] (upd mbl 0 0) (by omega) (by omega) (by decide) ⟨upd_s _ _ _, trivial⟩
  have ee : rwb (bt (ro x)) (bt (ro y)) nn 0 true 0 = rwb (bt (ro x)) (bt (ro y)) 48 0 true 0 := (rwb_ext (fun c hc => hP.2 y (by omega) c (by omega)) hn).symm
  rw [List.nil_append, ee] at a1 a2
  have a1 : F_X9_tellCopied_L16 (nI x) (nI y) (nI nn) no fu 1 1 0 (upd mbl (0 : Int32).toNatClampNeg 0) = some (nI ((rwb (bt (ro x)) (bt (ro y)) 48 0 true 0).length + 1), mbl2) := a1
  have hlen := rwb_len (bt (ro x)) (bt (ro y)) 48 0 true 0
  have hge := rwb_ge1 (bt (ro x)) (bt (ro y)) 48 0 true 0 0 (by omega) (by omega) (Or.inl rfl)
  generalize rwb (bt (ro x)) (bt (ro y)) 48 0 true 0 = RB at *
  obtain ⟨us2, nu2, b1, b2⟩ := M_say (x := 4) (y := nI x - nI y - 1) (u := 4) (v := x - y - 1) rfl (gap_eq hy) h (by omega)
  obtain ⟨us3, nu3, d1, d2⟩ := M_say (x := 1) (y := nI (RB.length + 1) - 1) (u := 1) (v := RB.length) rfl (nI_pred _) b2 (by rw [len1]; omega)
  obtain ⟨us4, nu4, e1, e2⟩ := M_emit (x := x) (y := y) (m := RB.length + 1) (mbl := mbl2) (by omega) RB 0 fu _ us3 nu3 (by omega) (by omega) (Hl_app.mp a2).1 hge d2 (by rw [len1, len1]; omega)
  have e1 : F_X9_tellCopied_L115 (nI x) (nI y) (nI (RB.length + 1)) mbl2 fu 0 us3 nu3 (nI (L ++ [(4, x - y - 1)] ++ [(1, RB.length)]).length) = some (us4, nu4, nI (L ++ [(4, x - y - 1)] ++ [(1, RB.length)] ++ em 0 RB).length) := e1
  obtain ⟨li2, f1, f2⟩ := M_take (fu := fu) (x := x) (y := y) (nn := nn) (p := bt (ro x)) (q := bt (ro y)) (no := no) (li := li) (ld := ld) hf hx (by omega) hn hp hq
  have et : en (fun b => bt (ro x) b && (decide (y = x) || !bt (ro y) b)) nn 0 = ell (rns (bt (ro x &&& (ro y ^^^ (-1 : Int64)))) 48 0 0) := by
    rw [ell_en hw, ← en_ext (p := fun b => bt (ro x) b && (decide (y = x) || !bt (ro y) b)) (fun k hk _ => by rw [hP.2 x hx k (by omega)]; rfl) hn]
    exact en_cong (fun k _ hk => by rw [bt_andn (by omega), decide_eq_false (by omega : ¬ y = x), Bool.false_or])
  rw [et] at f1 f2
  obtain ⟨mot2, li3, us5, nu5, g1, g2⟩ := M_spans (fu := fu) (x := x) (mot := mot) hf (by omega) (rns_ok hw) f2 e2 (by rw [List.length_append, em_len, len1, len1]; omega)
  have ea : L ++ [(4, x - y - 1)] ++ [(1, RB.length)] ++ em 0 RB ++ (1, nsp (rns (bt (ro x &&& (ro y ^^^ (-1 : Int64)))) 48 0 0)) :: (spl x none (rns (bt (ro x &&& (ro y ^^^ (-1 : Int64)))) 48 0 0) ++ pls x (oth (rns (bt (ro x &&& (ro y ^^^ (-1 : Int64)))) 48 0 0))) = L ++ (4, x - y - 1) :: (1, RB.length) :: (em 0 RB ++ sps x (ro x &&& (ro y ^^^ (-1 : Int64)))) := by simp [sps]
  rw [ea] at g1 g2
  unfold F_X9_tellCopied
  rw [ck_t (show bn (0 : Int32) 50 = true from bn_nI (k := 0) (by decide) (by decide)), a1, bd_some, b1, bd_some, d1, bd_some, e1, bd_some, f1, bd_some, g1, bd_some]
  exact ⟨_, _, _, _, _, _, rfl, g2⟩
theorem M_tell {fu nn x kd k : Nat} {ro : AJ} {no : AI} {ns ld kk : Int32} {us nu li mot mbl : AI} (hf : 1000 ≤ fu) (hn : nn ≤ 48) (hP : RP nn ro no) (hx : x < nn) (hkd : kd < 5) (hk : kd = 2 ∨ kd = 3 → kk = nI k ∧ 1 ≤ k ∧ k ≤ x) (h4 : kd = 4 → ¬ ro x = 0) : ∃ (us2 nu2 li2 mot2 mbl2 : AI) (ld2 : Int32), F_X9_tell fu (nI x) (nI kd) kk ns us nu ld (nI nn) no li mot mbl = some (nI (tl ro x kd k).length, us2, nu2, ld2, li2, mot2, mbl2) ∧ Hd us2 nu2 0 (tl ro x kd k) := by
  have hr : ∀ b, 48 ≤ b → bt (ro x) b = false := fun b hb => hP.2 x hx b (by omega)
  have hp := hP.1 x hx
  unfold F_X9_tell
  obtain ⟨us2, nu2, a1, a2⟩ := M_say (us := us) (nu := nu) (L := []) (x := 0) (y := nI kd) (u := 0) (v := kd) rfl rfl trivial (by decide)
  have a1 : F_X9_say (0 : Int32) (nI kd) 0 us nu = some (us2, nu2, nI [(0, kd)].length) := a1
  have a2 : Hd us2 nu2 0 [(0, kd)] := a2
  obtain ⟨li2, f1, f2⟩ := M_take (fu := fu) (x := x) (y := x) (nn := nn) (p := bt (ro x)) (q := bt (ro x)) (no := no) (li := li) (ld := ld) hf hx hx hn hp hp
  have et : en (fun b => bt (ro x) b && (decide (x = x) || !bt (ro x) b)) nn 0 = en (bt (ro x)) 48 0 := by
    rw [← en_ext (p := fun b => bt (ro x) b && (decide (x = x) || !bt (ro x) b)) (fun k hk _ => by rw [hP.2 x hx k (by omega)]; rfl) hn]
    exact en_cong (fun k _ hk => by simp)
  rw [et] at f1 f2
  rw [a1, bd_some, f1, bd_some]
  have hln := en_len (bt (ro x)) 48 0
  have hic := en_ic (bt (ro x)) 48 0 (by omega)
  have hc : kd = 0 ∨ kd = 1 ∨ kd = 2 ∨ kd = 3 ∨ kd = 4 := by omega
  rcases hc with rfl | rfl | rfl | rfl | rfl
  · obtain ⟨us3, nu3, b1, b2⟩ := M_plain (fu := fu) (x := x) hf (by omega) hln f2 hic a2 (by decide)
    rw [if_pos (show nI 0 = (0 : Int32) from rfl), b1, bd_some]
    exact ⟨_, _, _, _, _, _, rfl, b2⟩
  · rw [← ell_en hr] at f2
    obtain ⟨mot2, li3, us3, nu3, b1, b2⟩ := M_spans (fu := fu) (x := x) (mot := mot) hf (by omega) (rns_ok hr) f2 a2 (by decide)
    rw [ell_en hr] at b1
    rw [if_neg (show ¬ nI 1 = (0 : Int32) by decide), if_pos (show nI 1 = (1 : Int32) from rfl), b1, bd_some]
    exact ⟨_, _, _, _, _, _, rfl, b2⟩
  · obtain ⟨rfl, hk1, hk2⟩ := hk (Or.inl rfl)
    obtain ⟨mbl2, us3, nu3, li3, mot2, z, b1, b2⟩ := M_copied (fu := fu) (ro := ro) (x := x) (y := x - k) (mbl := mbl) (li := li2) (mot := mot) (ld := nI (en (bt (ro x)) 48 0).length) hf hn hP hx (by omega) a2 (by decide)
    rw [show x - (x - k) = k by omega] at b1 b2
    rw [if_neg (show ¬ nI 2 = (0 : Int32) by decide), if_neg (show ¬ nI 2 = (1 : Int32) by decide), if_pos (show nI 2 = (2 : Int32) from rfl), sub_all hk2, b1, bd_some]
    exact ⟨_, _, _, _, _, _, rfl, b2⟩
  · obtain ⟨rfl, hk1, hk2⟩ := hk (Or.inr rfl)
    obtain ⟨us3, nu3, b1, b2⟩ := M_say (x := 4) (y := nI k - 1) (u := 4) (v := k - 1) rfl (by rw [show (1 : Int32) = nI 1 from rfl]; exact sub_all hk1) a2 (by decide)
    rw [if_neg (show ¬ nI 3 = (0 : Int32) by decide), if_neg (show ¬ nI 3 = (1 : Int32) by decide), if_neg (show ¬ nI 3 = (2 : Int32) by decide), if_pos (show nI 3 = (3 : Int32) from rfl), b1, bd_some]
    exact ⟨_, _, _, _, _, _, rfl, b2⟩
  · rw [if_neg (show ¬ nI 4 = (0 : Int32) by decide), if_neg (show ¬ nI 4 = (1 : Int32) by decide), if_neg (show ¬ nI 4 = (2 : Int32) by decide), if_neg (show ¬ nI 4 = (3 : Int32) by decide)]
    show ∃ (us2 nu2 li2 mot2 mbl2 : AI) (ld2 : Int32), _ = some (nI ((0, 4) :: dns x (bt (ro x)) (en (bt (ro x)) 48 0)).length, us2, nu2, ld2, li2, mot2, mbl2) ∧ Hd us2 nu2 0 ((0, 4) :: dns x (bt (ro x)) (en (bt (ro x)) 48 0))
    cases he : en (bt (ro x)) 48 0 with
    | nil => exact absurd ((en_row0 hr).mp he) (h4 rfl)
    | cons b t =>
      rw [he] at f2
      obtain ⟨us3, nu3, b1, b2⟩ := M_dense (fu := fu) (x := x) hf hx hn hp (hP.2 x hx) he f2 a2 (by decide)
      rw [b1, bd_some]
      exact ⟨_, _, _, _, _, _, rfl, b2⟩

/-! ===== pure: what the numbers of a telling are; how many bits; cost ===== -/
def ok9 : LUN → Prop
  | [] => True
  | e :: t => ((e.1 < 8 ∧ e.2 < 96) ∨ (e.1 = 8 ∧ e.2 ≤ 1)) ∧ ok9 t
theorem ok9_app : ∀ {a b : LUN}, ok9 a → ok9 b → ok9 (a ++ b)
  | [], _, _, h => h
  | _ :: _, _, h1, h2 => ⟨h1.1, ok9_app h1.2 h2⟩
theorem gp_ok : ∀ (l : List Nat) (h : Nat), ic (h + 1) l → ok9 (gp h l)
  | [], _, _ => trivial
  | b :: t, h, hh => ⟨Or.inl ⟨by show 3 < 8; decide, by have := hh.2.1; show b - h - 1 < 96; omega⟩, gp_ok t b hh.2.2⟩
theorem ps_ok {x j : Nat} (hx : x < 48) : ∀ (l : List Nat), ic j l → ok9 (ps x l)
  | [], _ => trivial
  | b :: t, hh => ⟨Or.inl ⟨by show 2 < 8; decide, (fd_all b hh.2.1 x hx).2.2⟩, gp_ok t b hh.2.2⟩
theorem pls_ok {x : Nat} {l : List Nat} (hx : x < 48) (hl : l.length ≤ 48) (hi : ic 0 l) : ok9 (pls x l) := ⟨Or.inl ⟨by show 1 < 8; decide, by show l.length < 96; omega⟩, ps_ok hx l hi⟩
theorem spl_ok {p : Nat → Bool} {x : Nat} (hx : x < 48) : ∀ {R : LUN} {j : Nat} {l : Option Nat}, RN p j R → ok9 (spl x l R)
  | [], _, _, _ => trivial
  | e :: R, j, l, h => by
    obtain ⟨h1, h2, h3, h4, h5, h6, h7, h8⟩ := h
    rw [spl]
    by_cases c : 3 ≤ e.2
    · rw [if_pos c]
      refine ⟨Or.inl ?_, Or.inl ⟨by show 7 < 8; decide, by show e.2 - 3 < 96; omega⟩, spl_ok hx h8⟩
      cases l with
      | none => exact ⟨by show 6 < 8; decide, (fd_all e.1 (by omega) x hx).2.2⟩
      | some z => exact ⟨by show 3 < 8; decide, by show e.1 - z - 2 < 96; omega⟩
    · rw [if_neg c]
      exact spl_ok hx h8
theorem nsp_le : ∀ (R : LUN), nsp R ≤ R.length
  | [] => Nat.le_refl _
  | e :: R => by
    have := nsp_le R
    rw [nsp]
    show _ ≤ R.length + 1
    split <;> omega
theorem oth_ic {w : Int64} (hr : ∀ b, 48 ≤ b → bt w b = false) : ic 0 (oth (rns (bt w) 48 0 0)) ∧ (oth (rns (bt w) 48 0 0)).length ≤ 48 ∧ (rns (bt w) 48 0 0).length ≤ 48 := by
  have e := en_oth (rns_ok hr) (by omega)
  have l := RN_len (rns_ok hr)
  rw [ell_en hr] at l
  have l2 := en_len (bt w) 48 0
  refine ⟨?_, ?_, by omega⟩
  · rw [← e]; exact en_ic _ 48 0 (by omega)
  · rw [← e]; exact en_len _ 48 0
theorem sps_ok {x : Nat} {w : Int64} (hx : x < 48) (hr : ∀ b, 48 ≤ b → bt w b = false) : ok9 (sps x w) := by
  obtain ⟨o1, o2, o3⟩ := oth_ic hr
  have := nsp_le (rns (bt w) 48 0 0)
  exact ⟨Or.inl ⟨by show 1 < 8; decide, by show nsp (rns (bt w) 48 0 0) < 96; omega⟩, ok9_app (spl_ok hx (rns_ok hr)) (pls_ok hx o2 o1)⟩
theorem pls_len (x : Nat) (l : List Nat) : (pls x l).length = l.length + 1 := by
  show (ps x l).length + 1 = _
  rw [ps_len]
theorem sps_len {x : Nat} {w : Int64} (hr : ∀ b, 48 ≤ b → bt w b = false) : (sps x w).length ≤ 98 := by
  obtain ⟨o1, o2, o3⟩ := oth_ic hr
  have := spl_len x (l := none) (rns_ok hr) (by omega)
  show (spl x none (rns (bt w) 48 0 0) ++ pls x (oth (rns (bt w) 48 0 0))).length + 1 ≤ 98
  rw [List.length_append, pls_len]
  omega
theorem em_ok : ∀ (l : List Nat) (e : Nat), ge1 e l → ok9 (em e l)
  | [], _, _ => trivial
  | h :: t, e, hh => by
    refine ⟨Or.inl ⟨by show 5 < 8; decide, ?_⟩, em_ok t (e + 1) hh.2.2⟩
    have := hh.2.1
    show (if e = 0 then h else h - 1) < 96
    split <;> omega
theorem brs_ok (p : Nat → Bool) : ∀ r j : Nat, ok9 (brs p r j)
  | 0, _ => trivial
  | r + 1, j => by
    refine ⟨Or.inr ⟨rfl, ?_⟩, brs_ok p r (j + 1)⟩
    show (if p j = true then 1 else 0) ≤ 1
    split <;> omega
theorem dns_ok {x j : Nat} {p : Nat → Bool} (hx : x < 48) : ∀ (l : List Nat), ic j l → ok9 (dns x p l)
  | [], _ => ⟨Or.inl ⟨by show 2 < 8; decide, by show 2 * x + 1 < 96; omega⟩, Or.inl ⟨by show 1 < 8; decide, by show 0 < 96; decide⟩, trivial⟩
  | b :: t, h => by
    have := ic_last t j b h
    exact ⟨Or.inl ⟨by show 2 < 8; decide, (fd_all b h.2.1 x hx).2.2⟩, Or.inl ⟨by show 1 < 8; decide, by show lsA b t - b < 96; omega⟩, brs_ok _ _ _⟩
theorem dns_len {x j : Nat} {p : Nat → Bool} : ∀ (l : List Nat), ic j l → (dns x p l).length ≤ 50
  | [], _ => by show 2 ≤ 50; decide
  | b :: t, h => by
    have := ic_last t j b h
    show (brs p (lsA b t - (b + 1)) (b + 1)).length + 1 + 1 ≤ 50
    rw [brs_len]
    omega
theorem tl_ok {ro : AJ} {x kd k : Nat} (hr : ∀ b, 48 ≤ b → bt (ro x) b = false) (hx : x < 48) (hkd : kd < 5) (hk : kd = 2 ∨ kd = 3 → k ≤ x) : ok9 (tl ro x kd k) ∧ (tl ro x kd k).length ≤ 160 := by
  have hln := en_len (bt (ro x)) 48 0
  have hic := en_ic (bt (ro x)) 48 0 (by omega)
  have hc : kd = 0 ∨ kd = 1 ∨ kd = 2 ∨ kd = 3 ∨ kd = 4 := by omega
  rcases hc with rfl | rfl | rfl | rfl | rfl
  · refine ⟨⟨Or.inl ⟨by show 0 < 8; decide, by show 0 < 96; decide⟩, pls_ok hx hln hic⟩, ?_⟩
    show (pls x (en (bt (ro x)) 48 0)).length + 1 ≤ 160
    rw [pls_len]
    omega
  · refine ⟨⟨Or.inl ⟨by show 0 < 8; decide, by show 1 < 96; decide⟩, sps_ok hx hr⟩, ?_⟩
    have := sps_len (x := x) hr
    show (sps x (ro x)).length + 1 ≤ 160
    omega
  · have hk := hk (Or.inl rfl)
    have hw : ∀ b, 48 ≤ b → bt (ro x &&& (ro (x - k) ^^^ (-1 : Int64))) b = false := fun b hb => by rw [bt_and, hr b hb]; rfl
    have hlen := rwb_len (bt (ro x)) (bt (ro (x - k))) 48 0 true 0
    have hge := rwb_ge1 (bt (ro x)) (bt (ro (x - k))) 48 0 true 0 0 (by omega) (by omega) (Or.inl rfl)
    refine ⟨⟨Or.inl ⟨by show 0 < 8; decide, by show 2 < 96; decide⟩, Or.inl ⟨by show 4 < 8; decide, by show k - 1 < 96; omega⟩, Or.inl ⟨by show 1 < 8; decide, ?_⟩, ok9_app (em_ok _ 0 hge) (sps_ok hx hw)⟩, ?_⟩
    · show (rwb (bt (ro x)) (bt (ro (x - k))) 48 0 true 0).length < 96
      omega
    · have := sps_len (x := x) hw
      show (em 0 (rwb (bt (ro x)) (bt (ro (x - k))) 48 0 true 0) ++ sps x (ro x &&& (ro (x - k) ^^^ (-1 : Int64)))).length + 1 + 1 + 1 ≤ 160
      rw [List.length_append, em_len]
      omega
  · have hk := hk (Or.inr rfl)
    exact ⟨⟨Or.inl ⟨by show 0 < 8; decide, by show 3 < 96; decide⟩, Or.inl ⟨by show 4 < 8; decide, by show k - 1 < 96; omega⟩, trivial⟩, by show 2 ≤ 160; decide⟩
  · refine ⟨⟨Or.inl ⟨by show 0 < 8; decide, by show 4 < 96; decide⟩, dns_ok hx _ hic⟩, ?_⟩
    have := dns_len (x := x) (p := bt (ro x)) _ hic
    show (dns x (bt (ro x)) (en (bt (ro x)) 48 0)).length + 1 ≤ 160
    omega
/-- how many bits -/
def bw (φ : Nat → Nat) (e : Nat × Nat) : Nat := if e.1 = 8 then 1 else ln (φ e.1) e.2
def bts (φ : Nat → Nat) : LUN → Nat
  | [] => 0
  | e :: t => bw φ e + bts φ t
theorem ln_b : ∀ f, f < 10 → ∀ v, v < 96 → 1 ≤ ln f v ∧ ln f v ≤ 96 ∧ (v < 48 → ln f v ≤ 48) ∧ (v < 5 → ln f v ≤ 7) := by decide +kernel
def fok (φ : Nat → Nat) (fo : AI) : Prop := ∀ u, u < 8 → fo u = nI (φ u) ∧ φ u < 10
theorem bw_le {φ : Nat → Nat} {fo : AI} (h : fok φ fo) {e : Nat × Nat} (he : (e.1 < 8 ∧ e.2 < 96) ∨ (e.1 = 8 ∧ e.2 ≤ 1)) : bw φ e ≤ 96 := by
  unfold bw
  by_cases c : e.1 = 8
  · rw [if_pos c]; decide
  · rw [if_neg c]
    exact (ln_b _ (h e.1 (by omega)).2 e.2 (by omega)).2.1
theorem bts_le {φ : Nat → Nat} {fo : AI} (h : fok φ fo) : ∀ {T : LUN}, ok9 T → bts φ T ≤ 96 * T.length
  | [], _ => Nat.le_refl _
  | e :: t, hh => by
    have h1 := bw_le h hh.1
    have h2 := bts_le h hh.2
    show bw φ e + bts φ t ≤ 96 * (t.length + 1)
    omega
theorem bts_brs (φ : Nat → Nat) (p : Nat → Bool) : ∀ r j : Nat, bts φ (brs p r j) = r
  | 0, _ => rfl
  | r + 1, j => by
    show bw φ (8, _) + bts φ (brs p r (j + 1)) = r + 1
    rw [bts_brs φ p r (j + 1)]
    show 1 + r = r + 1
    omega
theorem dense_le {φ : Nat → Nat} {fo : AI} {ro : AJ} {x k : Nat} (h : fok φ fo) (hr : ∀ b, 48 ≤ b → bt (ro x) b = false) (hx : x < 48) : (ro x = 0 → bts φ (tl ro x 0 k) ≤ 200) ∧ (¬ ro x = 0 → bts φ (tl ro x 4 k) ≤ 200) := by
  constructor
  · intro e
    show bw φ (0, 0) + bts φ (pls x (en (bt (ro x)) 48 0)) ≤ 200
    rw [(en_row0 hr).mpr e]
    show bw φ (0, 0) + (bw φ (1, 0) + 0) ≤ 200
    have := bw_le (e := (0, 0)) h (Or.inl ⟨by decide, by decide⟩)
    have := bw_le (e := (1, 0)) h (Or.inl ⟨by decide, by decide⟩)
    omega
  · intro e
    show bw φ (0, 4) + bts φ (dns x (bt (ro x)) (en (bt (ro x)) 48 0)) ≤ 200
    have hic := en_ic (bt (ro x)) 48 0 (by omega)
    cases he : en (bt (ro x)) 48 0 with
    | nil => exact absurd ((en_row0 hr).mp he) e
    | cons b t =>
      rw [he] at hic
      have hl := ic_last t 0 b hic
      have h1 : bw φ (0, 4) ≤ 7 := (ln_b _ (h 0 (by decide)).2 4 (by decide)).2.2.2 (by decide)
      have h2 := bw_le (e := (2, fd b x)) h (Or.inl ⟨by show 2 < 8; decide, (fd_all b hic.2.1 x hx).2.2⟩)
      have h3 : bw φ (1, lsA b t - b) ≤ 48 := (ln_b _ (h 1 (by decide)).2 (lsA b t - b) (by omega)).2.2.1 (by omega)
      show bw φ (0, 4) + (bw φ (2, fd b x) + (bw φ (1, lsA b t - b) + bts φ (brs (bt (ro x)) (lsA b t - (b + 1)) (b + 1)))) ≤ 200
      rw [bts_brs]
      omega
theorem useAt {us : AI} {i : Nat} (h : i < 160) : F_X6_useAt (nI i) us = some (us i) := by
  unfold F_X6_useAt
  rw [el_nI h (by decide)]
theorem numAt {us : AI} {i : Nat} (h : i < 160) : F_X6_numberAt (nI i) us = some (us i) := by
  unfold F_X6_numberAt
  rw [el_nI h (by decide)]
theorem formOf {fo : AI} {i : Nat} (h : i < 8) : F_X5_formOf (nI i) fo = some (fo i) := by
  unfold F_X5_formOf
  rw [el_nI h (by decide)]
theorem X_bitsL {fu n : Nat} {us nu fo : AI} {φ : Nat → Nat} (hf : 1000 ≤ fu) (hn : n ≤ 160) (hφ : fok φ fo) : ∀ (T : LUN) (i f acc : Nat), i + T.length = n → T.length < f → Hd us nu i T → ok9 T → F_X6_bitsToTell_L21 fu (nI n) us fo nu f (nI acc) (nI i) = some (nI (acc + bts φ T)) := by
  intro T
  induction T with
  | nil =>
    intro i f acc e1 e2 e3 e4
    obtain ⟨f, rfl⟩ : ∃ g, f = g + 1 := ⟨f - 1, by omega⟩
    have e1 : i + 0 = n := e1
    rw [F_X6_bitsToTell_L21, if_pos (nI_le (by omega) (by omega))]
    rfl
  | cons e T ih =>
    intro i f acc e1 e2 e3 e4
    obtain ⟨f, rfl⟩ : ∃ g, f = g + 1 := ⟨f - 1, by omega⟩
    have e1 : i + (T.length + 1) = n := e1
    have e2 : T.length + 1 < f + 1 := e2
    obtain ⟨g1, g2, g3⟩ := e3
    obtain ⟨k1, k2⟩ := e4
    have go : ∀ a, F_X6_bitsToTell_L21 fu (nI n) us fo nu f (nI a) (nI (i + 1)) = some (nI (a + bts φ T)) := fun a => ih (i + 1) f a (by omega) (by omega) g3 k2
    rw [F_X6_bitsToTell_L21, if_neg (nI_ge (by omega) (by omega)), useAt (by omega), bd_some, g1]
    show _ = some (nI (acc + (bw φ e + bts φ T)))
    unfold bw
    by_cases c : e.1 = 8
    · rw [if_pos (by rw [c]; rfl), if_pos c, nI_1, nI_1, go, Nat.add_assoc]
    · have k3 : e.1 < 8 ∧ e.2 < 96 := by omega
      rw [if_neg (show ¬ nI e.1 = (8 : Int32) from nI_k (k := 8) (by omega) (by decide) c), if_neg c, formOf k3.1, bd_some, numAt (by omega), bd_some, g2, (hφ e.1 k3.1).1, X_bitsIn (by omega) (hφ e.1 k3.1).2 (by omega), bd_some, nI_add, nI_1, go, Nat.add_assoc]
theorem M_bitsL {fu n : Nat} {us nu fo : AI} {φ : Nat → Nat} (hf : 1000 ≤ fu) (hn : n ≤ 160) (hφ : fok φ fo) : ∀ (T : LUN) (i f acc : Nat), i + T.length = n → T.length < f → Hd us nu i T → ok9 T → F_X9_numbersBits_L4 fu (nI n) us fo nu f (nI acc) (nI i) = some (nI (acc + bts φ T)) := by
  intro T
  induction T with
  | nil =>
    intro i f acc e1 e2 e3 e4
    obtain ⟨f, rfl⟩ : ∃ g, f = g + 1 := ⟨f - 1, by omega⟩
    have e1 : i + 0 = n := e1
    rw [F_X9_numbersBits_L4, if_pos (nI_le (by omega) (by omega))]
    rfl
  | cons e T ih =>
    intro i f acc e1 e2 e3 e4
    obtain ⟨f, rfl⟩ : ∃ g, f = g + 1 := ⟨f - 1, by omega⟩
    have e1 : i + (T.length + 1) = n := e1
    have e2 : T.length + 1 < f + 1 := e2
    obtain ⟨g1, g2, g3⟩ := e3
    obtain ⟨k1, k2⟩ := e4
    have go : ∀ a, F_X9_numbersBits_L4 fu (nI n) us fo nu f (nI a) (nI (i + 1)) = some (nI (a + bts φ T)) := fun a => ih (i + 1) f a (by omega) (by omega) g3 k2
    have hb : bn (nI i) 400 = true := bn_nI (by omega) (by decide)
    rw [F_X9_numbersBits_L4, if_neg (nI_ge (by omega) (by omega))]
    simp only [ck_t hb, clampN (show i < 2 ^ 31 by omega), g1, g2]
    show _ = some (nI (acc + (bw φ e + bts φ T)))
    unfold bw
    by_cases c : e.1 = 8
    · rw [if_pos (by rw [c]; rfl), if_pos c, nI_1, nI_1, go, Nat.add_assoc]
    · have k3 : e.1 < 8 ∧ e.2 < 96 := by omega
      rw [if_neg (show ¬ nI e.1 = (8 : Int32) from nI_k (k := 8) (by omega) (by decide) c), if_neg c, ck_t (bn_nI k3.1 (by decide)), clampN (show e.1 < 2 ^ 31 by omega), (hφ e.1 k3.1).1, M_lengthIn (by omega) (hφ e.1 k3.1).2 (by omega), bd_some, nI_add, nI_1, go, Nat.add_assoc]
def bq (φ : Nat → Nat) (ro : AJ) (x kd k : Nat) : Nat := bts φ (tl ro x kd k)
def cq (φ : Nat → Nat) (ro : AJ) (x kd k : Nat) : Nat := if okt ro x kd k = true then bq φ ro x kd k else 1000000
theorem bq_le {φ : Nat → Nat} {fo : AI} {ro : AJ} {x kd k : Nat} (h : fok φ fo) (hr : ∀ b, 48 ≤ b → bt (ro x) b = false) (hx : x < 48) (hkd : kd < 5) (hk : kd = 2 ∨ kd = 3 → k ≤ x) : bq φ ro x kd k ≤ 15360 := by
  have h1 := tl_ok hr hx hkd hk
  have h2 := bts_le h h1.1
  unfold bq
  omega
theorem X_bts {fu nn x kd k : Nat} {ro : AJ} {ts kk : Int32} {us nu fo : AI} {φ : Nat → Nat} (hf : 1000 ≤ fu) (hn : nn ≤ 48) (hz : ∀ a, a < nn → ∀ b, nn ≤ b → bt (ro a) b = false) (hx : x < nn) (hkd : kd < 5) (hk : kd = 2 ∨ kd = 3 → kk = nI k ∧ 1 ≤ k ∧ k ≤ x) (hφ : fok φ fo) : ∃ (z : Int32) (us2 nu2 : AI), F_X6_bitsToTell fu nn (nI x) (nI kd) kk ro ts us nu fo = some (nI (cq φ ro x kd k), z, us2, nu2) := by
  obtain ⟨us2, nu2, a1, a2⟩ := X_tell (fu := fu) (ts := ts) (us := us) (nu := nu) hf hn hz hx hkd hk
  obtain ⟨o1, o2⟩ := tl_ok (ro := ro) (x := x) (kd := kd) (k := k) (fun b hb => hz x hx b (by omega)) (by omega) hkd (fun q => (hk q).2.2)
  unfold F_X6_bitsToTell cq
  rw [a1, bd_some, if_cg (b10_ne _)]
  cases c : okt ro x kd k
  · rw [if_pos rfl, if_neg (by decide)]
    exact ⟨_, _, _, rfl⟩
  · rw [if_neg (by decide), if_pos rfl]
    have := X_bitsL (fu := fu) (us := us2) (nu := nu2) hf o2 hφ (tl ro x kd k) 0 fu 0 (by omega) (by omega) a2 o1
    rw [show F_X6_bitsToTell_L21 fu (nI (tl ro x kd k).length) us2 fo nu2 fu 0 0 = _ from this, bd_some, Nat.zero_add]
    exact ⟨_, _, _, rfl⟩
theorem M_bts {fu nn x kd k : Nat} {ro : AJ} {no : AI} {ns ld kk : Int32} {us nu li mot mbl fo : AI} {φ : Nat → Nat} (hf : 1000 ≤ fu) (hn : nn ≤ 48) (hP : RP nn ro no) (hx : x < nn) (hkd : kd < 5) (hk : kd = 2 ∨ kd = 3 → kk = nI k ∧ 1 ≤ k ∧ k ≤ x) (h4 : kd = 4 → ¬ ro x = 0) (hφ : fok φ fo) : ∃ (z ld2 : Int32) (us2 nu2 li2 mot2 mbl2 : AI), F_X9_bitsBy fu (nI x) (nI kd) kk ns us nu ld (nI nn) no li mot mbl fo = some (nI (bq φ ro x kd k), z, us2, nu2, ld2, li2, mot2, mbl2) := by
  obtain ⟨us2, nu2, li2, mot2, mbl2, ld2, a1, a2⟩ := M_tell (fu := fu) (ns := ns) (ld := ld) (us := us) (nu := nu) (li := li) (mot := mot) (mbl := mbl) hf hn hP hx hkd hk h4
  obtain ⟨o1, o2⟩ := tl_ok (ro := ro) (x := x) (kd := kd) (k := k) (fun b hb => hP.2 x hx b (by omega)) (by omega) hkd (fun q => (hk q).2.2)
  unfold F_X9_bitsBy F_X9_numbersBits
  have := M_bitsL (fu := fu) (us := us2) (nu := nu2) hf o2 hφ (tl ro x kd k) 0 fu 0 (by omega) (by omega) a2 o1
  rw [a1, bd_some, show F_X9_numbersBits_L4 fu (nI (tl ro x kd k).length) us2 fo nu2 fu 0 0 = _ from this, bd_some, bd_some, Nat.zero_add]
  exact ⟨_, _, _, _, _, _, _, rfl⟩
def alb (p : Nat → Bool) : Nat → Bool
  | 0 => true
  | n + 1 => alb p n && p n
theorem alb_iff (p : Nat → Bool) : ∀ n : Nat, alb p n = true ↔ ∀ k, k < n → p k = true
  | 0 => ⟨fun _ k hk => absurd hk (by omega), fun _ => rfl⟩
  | n + 1 => by
    rw [alb, Bool.and_eq_true, alb_iff p n]
    constructor
    · rintro ⟨a, b⟩ k hk
      by_cases q : k = n
      · rw [q]; exact b
      · exact a k (by omega)
    · intro h
      exact ⟨fun k hk => h k (by omega), h n (by omega)⟩
theorem M_isSame {fu nn x y : Nat} {ro : AJ} {no : AI} (hf : 1000 ≤ fu) (hn : nn ≤ 48) (hP : RP nn ro no) (hx : x < nn) (hy : y < nn) : F_X9_isSame fu (nI x) (nI y) (nI nn) no = some (b10 (decide (ro x = ro y))) := by
  have A : ∃ o : Int32, F_X9_isSame_L6 (nI x) (nI y) (nI nn) no fu 1 0 = some o ∧ o = b10 (alb (fun b => bt (ro x) b == bt (ro y) b) nn) := by
    refine fwd nn (fun f j (s : Int32) => F_X9_isSame_L6 (nI x) (nI y) (nI nn) no f s (nI j)) (fun j s => s = b10 (alb (fun b => bt (ro x) b == bt (ro y) b) j)) _ (fun f s hs => ?_) (fun f j s hj hs => Or.inl ?_) nn 0 fu 1 (by omega) (by omega) rfl
    · exact ⟨s, by rw [F_X9_isSame_L6, if_pos (nI_le (by omega) (by omega))], hs⟩
    · rw [F_X9_isSame_L6, if_neg (nI_ge hj (by omega)), ix48, ix48, ck_t (bn_nI (show 48 * x + j < 2304 by omega) (by decide)), ck_t (bn_nI (show 48 * y + j < 2304 by omega) (by decide)), clampN (show 48 * x + j < 2 ^ 31 by omega), clampN (show 48 * y + j < 2 ^ 31 by omega), nI_1, hs, if_cg (b10_ne _), hP.1 x hx j hj, hP.1 y hy j hj, if_cg (show ((if bt (ro x) j = true then 1 else 0 : Int32) = if bt (ro y) j = true then 1 else 0) ↔ bt (ro x) j = bt (ro y) j from b10_eq _ _)]
      cases c : alb (fun b => bt (ro x) b == bt (ro y) b) j
      · rw [if_pos rfl]
        exact ⟨0, rfl, by rw [alb, c]; rfl⟩
      · rw [if_neg (by decide)]
        by_cases d : bt (ro x) j = bt (ro y) j
        · rw [if_pos d]
          exact ⟨1, rfl, by rw [alb, c, d]; simp [b10]⟩
        · rw [if_neg d]
          exact ⟨0, rfl, by rw [alb, c]; simp [b10, d]⟩
  obtain ⟨o, a1, a2⟩ := A
  have e : alb (fun b => bt (ro x) b == bt (ro y) b) nn = decide (ro x = ro y) := by
    rw [Bool.eq_iff_iff, alb_iff, decide_eq_true_eq]
    constructor
    · intro h
      apply bt_ext
      intro i _
      rcases Nat.lt_or_ge i nn with q | q
      · simpa using h i q
      · rw [hP.2 x hx i q, hP.2 y hy i q]
    · intro h k _
      rw [h]
      simp
  unfold F_X9_isSame
  rw [a1, bd_some, a2, e]
  exact ck_t (zb_if _)
theorem pc_0 {w : Int64} (hr : ∀ b, 48 ≤ b → bt w b = false) : pc w = 0 ↔ w = 0 := by
  rw [pc48 hr, ← en_row0 hr]
  exact List.length_eq_zero_iff
theorem pc_48 {w : Int64} (hr : ∀ b, 48 ≤ b → bt w b = false) : pc w ≤ 48 := by
  rw [pc48 hr]
  exact en_len _ 48 0

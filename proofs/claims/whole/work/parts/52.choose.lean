/-! ===== pure: the choice of a telling ===== -/
abbrev NN : Type := Nat → Nat
def stN (f : NN) (x v : Nat) : NN := fun y => if y = x then v else f y
theorem stN_s (f : NN) (x v : Nat) : stN f x v x = v := if_pos rfl
theorem stN_n {f : NN} {x v y : Nat} (h : y ≠ x) : stN f x v y = f y := if_neg h
/-- kinds, distances, depths of the rows below n: class and reference -/
def CR (n : Nat) (K D E : NN) (ki di de mki mfr mde : AI) : Prop := ∀ y, y < n → (ki y = nI (K y) ∧ mki y = nI (K y)) ∧ (di y = nI (D y) ∧ mfr y = nI (D y)) ∧ (de y = nI (E y) ∧ mde y = nI (E y))
def vr1 (ro : AJ) (E : NN) (y kd k d : Nat) : Prop := kd < 5 ∧ d ≤ 5 ∧ (kd = 2 ∨ kd = 3 → 1 ≤ k ∧ k ≤ y ∧ d = E (y - k) + 1) ∧ (¬ (kd = 2 ∨ kd = 3) → k = 0 ∧ d = 0) ∧ (kd = 4 → ¬ ro y = 0)
def VR (n : Nat) (ro : AJ) (K D E : NN) : Prop := ∀ y, y < n → vr1 ro E y (K y) (D y) (E y)
theorem CR_set {n : Nat} {K D E : NN} {ki di de mki mfr mde : AI} (kd k d : Nat) (h : CR n K D E ki di de mki mfr mde) : CR (n + 1) (stN K n kd) (stN D n k) (stN E n d) (upd ki n (nI kd)) (upd di n (nI k)) (upd de n (nI d)) (upd mki n (nI kd)) (upd mfr n (nI k)) (upd mde n (nI d)) := by
  intro y hy
  by_cases e : y = n
  · rw [e, upd_s, upd_s, upd_s, upd_s, upd_s, upd_s, stN_s, stN_s, stN_s]
    exact ⟨⟨rfl, rfl⟩, ⟨rfl, rfl⟩, rfl, rfl⟩
  · rw [upd_n e, upd_n e, upd_n e, upd_n e, upd_n e, upd_n e, stN_n e, stN_n e, stN_n e]
    exact h y (by omega)
theorem CR_lo {m n : Nat} {K D E : NN} {ki di de mki mfr mde : AI} (hm : m ≤ n) (h : CR n K D E ki di de mki mfr mde) : CR m K D E ki di de mki mfr mde := fun y hy => h y (by omega)
theorem vr1_E {ro : AJ} {E E2 : NN} {y kd k d : Nat} (h : vr1 ro E y kd k d) (hE : ∀ z, z < y → E2 z = E z) : vr1 ro E2 y kd k d := by
  obtain ⟨h1, h2, h3, h4, h5⟩ := h
  refine ⟨h1, h2, fun q => ?_, h4, h5⟩
  obtain ⟨a, b, c⟩ := h3 q
  exact ⟨a, b, by rw [hE (y - k) (by omega)]; exact c⟩
theorem VR_set {n : Nat} {ro : AJ} {K D E : NN} {kd k d : Nat} (h : VR n ro K D E) (h1 : vr1 ro E n kd k d) : VR (n + 1) ro (stN K n kd) (stN D n k) (stN E n d) := by
  intro y hy
  by_cases e : y = n
  · rw [e, stN_s, stN_s, stN_s]
    exact vr1_E h1 (fun z hz => stN_n (by omega))
  · rw [stN_n e, stN_n e, stN_n e]
    exact vr1_E (h y (by omega)) (fun z hz => stN_n (by omega))
theorem VR_lo {m n : Nat} {ro : AJ} {K D E : NN} (hm : m ≤ n) (h : VR n ro K D E) : VR m ro K D E := fun y hy => h y (by omega)
/-- agreement below n -/
def ag (n : Nat) (f g : NN) : Prop := ∀ y, y < n → g y = f y
theorem ag_refl (n : Nat) (f : NN) : ag n f f := fun _ _ => rfl
theorem ag_trans {n : Nat} {f g h : NN} (a : ag n f g) (b : ag n g h) : ag n f h := fun y hy => (b y hy).trans (a y hy)
theorem ag_st (n : Nat) (f : NN) (v : Nat) : ag n f (stN f n v) := fun y hy => stN_n (by omega)
theorem blen {nn : Nat} (hn : nn ≤ 48) : Nat.ble nn 48 = true := Nat.ble_eq_true_of_le hn
theorem X_depthOf {nn y : Nat} {de : AI} (hn : nn ≤ 48) (hy : y < nn) : F_X1_depthOf nn (nI y) de = some (de y) := by
  unfold F_X1_depthOf
  rw [ck_t (blen hn), el_nI hy (by omega)]
theorem X_kindOf {nn y : Nat} {de : AI} (hn : nn ≤ 48) (hy : y < nn) : F_X1_kindOf nn (nI y) de = some (de y) := by
  unfold F_X1_kindOf
  rw [ck_t (blen hn), el_nI hy (by omega)]
theorem X_distOf {nn y : Nat} {de : AI} (hn : nn ≤ 48) (hy : y < nn) : F_X1_distanceOf nn (nI y) de = some (de y) := by
  unfold F_X1_distanceOf
  rw [ck_t (blen hn), el_nI hy (by omega)]
theorem X_startOf {nn y : Nat} {de : AI} (hn : nn ≤ 48) (hy : y ≤ nn) : F_X1_startOf nn (nI y) de = some (de y) := by
  unfold F_X1_startOf
  rw [ck_t (blen hn), el_nI (by omega) (by omega)]
theorem X_decide {nn x kd k d : Nat} {ki di de : AI} (hn : nn ≤ 48) (hx : x < nn) (hkd : kd < 5) (h : kd = 2 ∨ kd = 3 → k ≤ x ∧ 1 ≤ k ∧ de (x - k) = nI (d - 1) ∧ 1 ≤ d) (h2 : ¬ (kd = 2 ∨ kd = 3) → d = 0) : F_X1_decide nn (nI x) (nI kd) (nI k) ki di de = some (upd ki x (nI kd), upd di x (nI k), upd de x (nI d)) := by
  unfold F_X1_decide
  have hb : bn (nI x) nn = true := bn_nI hx (by omega)
  have hg : ¬ nI nn ≤ nI x := nI_ge hx (by omega)
  rw [if_neg (nI_pos (by omega)), if_neg hg, if_neg hg, if_neg hg, ck_t hb, ck_t hb, X_isCopy hkd, bd_some, if10', ck_t hb, clampN (by omega)]
  by_cases c : kd = 2 ∨ kd = 3
  · obtain ⟨a1, a2, a3, a4⟩ := h c
    rw [if_pos c, sub_all a1, X_depthOf hn (by omega), bd_some, ck_t hb, a3, nI_1, show d - 1 + 1 = d by omega]
  · rw [if_neg c, h2 c]
    rfl
theorem M_consider {fu nn x kd k d : Nat} {ro : AJ} {no : AI} {ns ld bb : Int32} {us nu li mot mbl fo mki mfr mde : AI} {φ : Nat → Nat} (hf : 1000 ≤ fu) (hn : nn ≤ 48) (hP : RP nn ro no) (hx : x < nn) (hkd : kd < 5) (hk : kd = 2 ∨ kd = 3 → 1 ≤ k ∧ k ≤ x) (h4 : kd = 4 → ¬ ro x = 0) (hφ : fok φ fo) : ∃ (z ld2 : Int32) (us2 nu2 li2 mot2 mbl2 : AI), F_X9_consider fu (nI x) (nI kd) (nI k) (nI d) ns us nu ld (nI nn) no li mot mbl fo bb mki mfr mde = some (if bb = -1 ∨ ¬ bb ≤ nI (bq φ ro x kd k) then (z, us2, nu2, ld2, li2, mot2, mbl2, nI (bq φ ro x kd k), upd mki x (nI kd), upd mfr x (nI k), upd mde x (nI d)) else (z, us2, nu2, ld2, li2, mot2, mbl2, bb, mki, mfr, mde)) := by
  obtain ⟨z, ld2, us2, nu2, li2, mot2, mbl2, b1⟩ := M_bts (fu := fu) (ns := ns) (ld := ld) (kk := nI k) (us := us) (nu := nu) (li := li) (mot := mot) (mbl := mbl) hf hn hP hx hkd (fun q => ⟨rfl, hk q⟩) h4 hφ
  refine ⟨z, ld2, us2, nu2, li2, mot2, mbl2, ?_⟩
  unfold F_X9_consider
  have hb : bn (nI x) 48 = true := bn_nI (by omega) (by decide)
  rw [b1, bd_some]
  simp only [ck_t hb, clampN (show x < 2 ^ 31 by omega)]
  by_cases c : bb = -1
  · rw [if_pos c, if_pos (Or.inl c)]
  · rw [if_neg c]
    by_cases e : bb ≤ nI (bq φ ro x kd k)
    · rw [if_pos e, if_neg (by rintro (q | q); exact c q; exact q e)]
    · rw [if_neg e, if_pos (Or.inr e)]
/-- one candidate that may be taken, after a first one stands: both take it, or both keep -/
theorem cand {nn x c j d b : Nat} {φ : Nat → Nat} {ro : AJ} {K D E : NN} {ki di de mki mfr mde fo : AI} (hn : nn ≤ 48) (hx : x < nn) (hφ : fok φ fo) (hr : ∀ b, 48 ≤ b → bt (ro x) b = false) (hCR : CR (x + 1) K D E ki di de mki mfr mde) (hVR : VR (x + 1) ro K D E) (hb : b = bq φ ro x (K x) (D x)) (hv : vr1 ro E x c j d) : ∃ (b2 : Nat) (K2 D2 E2 : NN) (ki2 di2 de2 mki2 mfr2 mde2 : AI), CR (x + 1) K2 D2 E2 ki2 di2 de2 mki2 mfr2 mde2 ∧ VR (x + 1) ro K2 D2 E2 ∧ b2 = bq φ ro x (K2 x) (D2 x) ∧ b2 ≤ b ∧ b2 ≤ bq φ ro x c j ∧ ag x K K2 ∧ ag x D D2 ∧ ag x E E2 ∧ ((nI b ≤ nI (bq φ ro x c j) ∧ b2 = b ∧ ki2 = ki ∧ di2 = di ∧ de2 = de ∧ mki2 = mki ∧ mfr2 = mfr ∧ mde2 = mde) ∨ (¬ nI b ≤ nI (bq φ ro x c j) ∧ b2 = bq φ ro x c j ∧ ki2 = upd ki x (nI c) ∧ di2 = upd di x (nI j) ∧ de2 = upd de x (nI d) ∧ mki2 = upd mki x (nI c) ∧ mfr2 = upd mfr x (nI j) ∧ mde2 = upd mde x (nI d))) := by
  have l1 := bq_le (ro := ro) (x := x) (kd := c) (k := j) hφ hr (by omega) hv.1 (fun q => (hv.2.2.1 q).2.1)
  have hx1 := hVR x (by omega)
  have l2 := bq_le (ro := ro) (x := x) (kd := K x) (k := D x) hφ hr (by omega) hx1.1 (fun q => (hx1.2.2.1 q).2.1)
  rw [← hb] at l2
  by_cases e : b ≤ bq φ ro x c j
  · exact ⟨b, K, D, E, ki, di, de, mki, mfr, mde, hCR, hVR, hb, Nat.le_refl _, e, ag_refl _ _, ag_refl _ _, ag_refl _ _, Or.inl ⟨nI_le e (by omega), rfl, rfl, rfl, rfl, rfl, rfl, rfl⟩⟩
  · exact ⟨bq φ ro x c j, stN K x c, stN D x j, stN E x d, _, _, _, _, _, _, CR_set c j d (CR_lo (by omega) hCR), VR_set (VR_lo (by omega) hVR) hv, by rw [stN_s, stN_s], by omega, Nat.le_refl _, ag_st _ _ _, ag_st _ _ _, ag_st _ _ _, Or.inr ⟨nI_ge (by omega) (by omega), rfl, rfl, rfl, rfl, rfl, rfl, rfl⟩⟩
theorem X_valueOf {i : Nat} {va : AI} (h : i < 3) : F_X5_valueOf (nI i) va = some (va i) := by
  unfold F_X5_valueOf
  rw [el_nI h (by decide)]
theorem cho_k {fu nn x c w r m : Nat} {φ : Nat → Nat} {ro : AJ} {no fo mfo va : AI} {x4 : Int32} (hf : 1000 ≤ fu) (hn : nn ≤ 48) (hP : RP nn ro no) (hx : x < nn) (hc : c = 2 ∨ c = 3) (hw : w ≤ 7) (hr : r ≤ 5) (hva : va 1 = nI r) (hm : m = min w x) (hφ : fok φ fo) (hφ2 : fok φ mfo) : ∀ (q j fX fM b : Nat) (K D E : NN) (ki di de mki mfr mde : AI) (ts ns ld : Int32) (us nu us' nu' li mot mbl : AI), j + q = m + 1 → 1 ≤ j → q < fX → q < fM → CR (x + 1) K D E ki di de mki mfr mde → VR (x + 1) ro K D E → b = bq φ ro x (K x) (D x) → ∃ (b2 : Nat) (K2 D2 E2 : NN) (ki2 di2 de2 mki2 mfr2 mde2 : AI) (ts2 ns2 ld2 : Int32) (us2 nu2 us2' nu2' li2 mot2 mbl2 : AI), F_X1_choose_L59 fu nn (nI x) x4 (nI c) (nI m) ro fo va fX (nI b) (nI j) ts us nu ki di de = some (nI b2, ts2, us2, nu2, ki2, di2, de2) ∧ F_X9_choose_L30 fu (nI x) (nI c) (nI w) (nI r) (nI nn) no mfo fM (nI j) ns us' nu' ld li mot mbl (nI b) mki mfr mde = some (ns2, us2', nu2', ld2, li2, mot2, mbl2, nI b2, mki2, mfr2, mde2) ∧ CR (x + 1) K2 D2 E2 ki2 di2 de2 mki2 mfr2 mde2 ∧ VR (x + 1) ro K2 D2 E2 ∧ b2 = bq φ ro x (K2 x) (D2 x) ∧ b2 ≤ b ∧ ag x K K2 ∧ ag x D D2 ∧ ag x E E2 := by
  have hrx : ∀ b, 48 ≤ b → bt (ro x) b = false := fun b hb => hP.2 x hx b (by omega)
  intro q
  induction q with
  | zero =>
    intro j fX fM b K D E ki di de mki mfr mde ts ns ld us nu us' nu' li mot mbl e1 e2 e3 e4 e5 e6 e7
    obtain ⟨fX, rfl⟩ : ∃ g, fX = g + 1 := ⟨fX - 1, by omega⟩
    obtain ⟨fM, rfl⟩ : ∃ g, fM = g + 1 := ⟨fM - 1, by omega⟩
    have hM : F_X9_choose_L30 fu (nI x) (nI c) (nI w) (nI r) (nI nn) no mfo (fM + 1) (nI j) ns us' nu' ld li mot mbl (nI b) mki mfr mde = some (ns, us', nu', ld, li, mot, mbl, nI b, mki, mfr, mde) := by
      rw [F_X9_choose_L30, if_cg (nI_ltI (show w < 2 ^ 31 by omega) (show j < 2 ^ 31 by omega)), if_cg (nI_ltI (show x < 2 ^ 31 by omega) (show j < 2 ^ 31 by omega))]
      by_cases d : w < j
      · rw [if_pos d]
      · rw [if_neg d, if_pos (by omega)]
    rw [F_X1_choose_L59, if_pos ((nI_ltI (by omega) (by omega)).mpr (by omega)), hM]
    exact ⟨b, K, D, E, _, _, _, _, _, _, _, _, _, _, _, _, _, _, _, _, rfl, rfl, e5, e6, e7, Nat.le_refl _, ag_refl _ _, ag_refl _ _, ag_refl _ _⟩
  | succ q ih =>
    intro j fX fM b K D E ki di de mki mfr mde ts ns ld us nu us' nu' li mot mbl e1 e2 e3 e4 e5 e6 e7
    obtain ⟨fX, rfl⟩ : ∃ g, fX = g + 1 := ⟨fX - 1, by omega⟩
    obtain ⟨fM, rfl⟩ : ∃ g, fM = g + 1 := ⟨fM - 1, by omega⟩
    have hjx : j ≤ x := by omega
    have hjw : j ≤ w := by omega
    have hc5 : c < 5 := by omega
    obtain ⟨-, -, ed, emd⟩ := e5 (x - j) (by omega)
    obtain ⟨zx, usx, nux, hbx⟩ := X_bts (fu := fu) (kk := nI j) (ts := ts) (us := us) (nu := nu) (kd := c) (k := j) hf hn hP.2 hx hc5 (fun _ => ⟨rfl, by omega, hjx⟩) hφ
    have hl2 : E (x - j) < r → E (x - j) + 1 ≤ 5 := fun h => by omega
    rw [F_X1_choose_L59, F_X9_choose_L30, if_neg (fun z => by have := (nI_ltI (show m < 2 ^ 31 by omega) (show j < 2 ^ 31 by omega)).mp z; omega), if_neg (fun z => by have := (nI_ltI (show w < 2 ^ 31 by omega) (show j < 2 ^ 31 by omega)).mp z; omega), if_neg (fun z => by have := (nI_ltI (show x < 2 ^ 31 by omega) (show j < 2 ^ 31 by omega)).mp z; omega), X_isCopy hc5, bd_some, if_neg (by rw [if_pos hc]; decide), sub_all hjx, X_depthOf hn (show x - j < nn by omega), bd_some, ed, show (1 : Int32) = nI 1 from rfl, X_valueOf (by decide), bd_some, hva, hbx, bd_some, ck_t (bn_nI (show x - j < 48 by omega) (by decide)), clampN (show x - j < 2 ^ 31 by omega), emd, if_cg (nI_ltI (show E (x - j) < 2 ^ 31 by have := (e6 (x - j) (by omega)).2.1; omega) (show r < 2 ^ 31 by omega)), ck_t (bn_nI (show x - j < 48 by omega) (by decide)), nI_add j 1, nI_add (E (x - j)) 1]
    by_cases hE : E (x - j) < r
    · rw [if_pos hE, if_neg (nI_ge hE (by omega))]
      have hv : vr1 ro E x c j (E (x - j) + 1) := ⟨hc5, by omega, fun _ => ⟨by omega, hjx, rfl⟩, fun z => absurd hc z, fun z => by omega⟩
      have take : okt ro x c j = true → ∃ (b2 : Nat) (K2 D2 E2 : NN) (ki2 di2 de2 mki2 mfr2 mde2 : AI) (ts2 ns2 ld2 : Int32) (us2 nu2 us2' nu2' li2 mot2 mbl2 : AI), (if nI b ≤ nI (cq φ ro x c j) then (F_X1_choose_L59 fu nn (nI x) x4 (nI c) (nI m) ro fo va fX (nI b) (nI (j + 1)) zx usx nux ki di de) else ((F_X1_decide nn (nI x) (nI c) (nI j) ki di de).bind fun o21 => F_X1_choose_L59 fu nn (nI x) x4 (nI c) (nI m) ro fo va fX (nI (cq φ ro x c j)) (nI (j + 1)) zx usx nux o21.1 o21.2.1 o21.2.2)) = some (nI b2, ts2, us2, nu2, ki2, di2, de2) ∧ ((F_X9_consider fu (nI x) (nI c) (nI j) (nI (E (x - j) + 1)) ns us' nu' ld (nI nn) no li mot mbl mfo (nI b) mki mfr mde).bind fun o7 => F_X9_choose_L30 fu (nI x) (nI c) (nI w) (nI r) (nI nn) no mfo fM (nI (j + 1)) o7.1 o7.2.1 o7.2.2.1 o7.2.2.2.1 o7.2.2.2.2.1 o7.2.2.2.2.2.1 o7.2.2.2.2.2.2.1 o7.2.2.2.2.2.2.2.1 o7.2.2.2.2.2.2.2.2.1 o7.2.2.2.2.2.2.2.2.2.1 o7.2.2.2.2.2.2.2.2.2.2) = some (ns2, us2', nu2', ld2, li2, mot2, mbl2, nI b2, mki2, mfr2, mde2) ∧ CR (x + 1) K2 D2 E2 ki2 di2 de2 mki2 mfr2 mde2 ∧ VR (x + 1) ro K2 D2 E2 ∧ b2 = bq φ ro x (K2 x) (D2 x) ∧ b2 ≤ b ∧ ag x K K2 ∧ ag x D D2 ∧ ag x E E2 := by
        intro ho
        have hcq : cq φ ro x c j = bq φ ro x c j := by unfold cq; rw [if_pos ho]
        have hb0 : ¬ nI b = (-1 : Int32) := by
          have h9 := e6 x (by omega)
          have := bq_le (ro := ro) (x := x) (kd := K x) (k := D x) hφ hrx (by omega) h9.1 (fun q => (h9.2.2.1 q).2.1)
          exact nI_m1 (by omega)
        obtain ⟨z3, ld3, us3, nu3, li3, mot3, mbl3, hcon⟩ := M_consider (fu := fu) (d := E (x - j) + 1) (k := j) (ns := ns) (ld := ld) (bb := nI b) (us := us') (nu := nu') (li := li) (mot := mot) (mbl := mbl) (mki := mki) (mfr := mfr) (mde := mde) hf hn hP hx hc5 (fun _ => ⟨by omega, hjx⟩) (fun z => by omega) hφ2
        obtain ⟨b2, K2, D2, E2, ki2, di2, de2, mki2, mfr2, mde2, g1, g2, g3, g4, g5, g6, g7, g8, g9⟩ := cand (c := c) (j := j) (d := E (x - j) + 1) hn hx hφ hrx e5 e6 e7 hv
        obtain ⟨b3, K3, D3, E3, ki3, di3, de3, mki3, mfr3, mde3, ts3, ns3, ld4, us4, nu4, us4', nu4', li4, mot4, mbl4, k1, k2, k3, k4, k5, k6, k7, k8, k9⟩ := ih (j + 1) fX fM b2 K2 D2 E2 ki2 di2 de2 mki2 mfr2 mde2 zx z3 ld3 usx nux us3 nu3 li3 mot3 mbl3 (by omega) (by omega) (by omega) (by omega) g1 g2 g3
        rw [hcon, bd_some, hcq]
        rcases g9 with ⟨a0, a1, rfl, rfl, rfl, rfl, rfl, rfl⟩ | ⟨a0, a1, rfl, rfl, rfl, rfl, rfl, rfl⟩
        · rw [a1] at k1 k2
          rw [if_pos a0, if_neg (by rintro (z | z); exact hb0 z; exact z a0)]
          exact ⟨b3, K3, D3, E3, _, _, _, _, _, _, _, _, _, _, _, _, _, _, _, _, k1, k2, k3, k4, k5, by omega, ag_trans g6 k7, ag_trans g7 k8, ag_trans g8 k9⟩
        · rw [a1] at k1 k2
          rw [if_neg a0, if_pos (Or.inr a0), X_decide (d := E (x - j) + 1) hn hx hc5 (fun _ => ⟨hjx, by omega, ed, by omega⟩) (fun z => absurd hc z), bd_some]
          exact ⟨b3, K3, D3, E3, _, _, _, _, _, _, _, _, _, _, _, _, _, _, _, _, k1, k2, k3, k4, k5, by omega, ag_trans g6 k7, ag_trans g7 k8, ag_trans g8 k9⟩
      rcases hc with rfl | rfl
      · rw [if_pos (show nI 2 = (2 : Int32) from rfl), if_neg (show ¬ nI 1 = (0 : Int32) by decide)]
        exact take rfl
      · rw [if_neg (show ¬ nI 3 = (2 : Int32) by decide), M_isSame hf hn hP hx (show x - j < nn by omega), bd_some, if_cg (b10_ne _)]
        by_cases hs : ro x = ro (x - j)
        · rw [decide_eq_true hs, if_neg (show ¬ true = false by decide), if_neg (show ¬ nI 1 = (0 : Int32) by decide)]
          exact take (decide_eq_true hs)
        · have h9 := e6 x (by omega)
          have hlb := bq_le (ro := ro) (x := x) (kd := K x) (k := D x) hφ hrx (by omega) h9.1 (fun q => (h9.2.2.1 q).2.1)
          have hcq : cq φ ro x 3 j = 1000000 := by
            unfold cq
            rw [if_neg (show ¬ okt ro x 3 j = true from by show ¬ decide (ro x = ro (x - j)) = true; rw [decide_eq_false hs]; decide)]
          rw [decide_eq_false hs, if_pos (show false = false from rfl), if_pos (show (0 : Int32) = 0 from rfl), hcq, if_pos (nI_le (by omega) (by decide))]
          exact ih (j + 1) fX fM b K D E ki di de mki mfr mde _ _ _ _ _ _ _ _ _ _ (by omega) (by omega) (by omega) (by omega) e5 e6 e7
    · rw [if_neg hE, if_pos (nI_le (by omega) (by have := (e6 (x - j) (by omega)).2.1; omega)), if_pos (show (0 : Int32) = 0 from rfl)]
      exact ih (j + 1) fX fM b K D E ki di de mki mfr mde _ _ _ _ _ _ _ _ _ _ (by omega) (by omega) (by omega) (by omega) e5 e6 e7

/-! ===== pure: forms ===== -/
theorem cheap2 {fu nn u : Nat} {ro : AJ} {no mki mfr ta : AI} {K D E : NN} (hf : 1000 ≤ fu) (hn : nn ≤ 48) (hP : RP nn ro no) (hu : u < 8) (hK : ∀ y, y < nn → mki y = nI (K y) ∧ mfr y = nI (D y)) (hV : VR nn ro K D E) (hT : Tly ta (als ro K D nn)) : ∀ (r f b fX fM : Nat) (ns ld : Int32) (us nu li mot mbl : AI), f + r = 10 → b < 10 → r < fX → r < fM → ∃ (b2 : Nat) (ns2 ld2 : Int32) (us2 nu2 li2 mot2 mbl2 : AI), F_X1_cheapestForm_L4 fu (nI u) ta fX (nI b) (nI f) = some (nI b2) ∧ F_X9_forms_L34 fu (nI u) (nI nn) mki mfr no fM (nI b) (nI f) ns us nu ld li mot mbl = some (nI b2, ns2, us2, nu2, ld2, li2, mot2, mbl2) ∧ b2 < 10 ∧ wd u b2 (als ro K D nn) ≤ wd u b (als ro K D nn) ∧ ∀ g, f ≤ g → g < 10 → wd u b2 (als ro K D nn) ≤ wd u g (als ro K D nn) := by
  obtain ⟨o1, o2⟩ := als_ok hn hP.2 hV (Nat.le_refl nn)
  have bd : ∀ g, g < 10 → wd u g (als ro K D nn) < 2 ^ 31 := fun g hg => by
    have := wd_le (u := u) hg hu o1
    omega
  intro r
  induction r with
  | zero =>
    intro f b fX fM ns ld us nu li mot mbl e1 e2 e3 e4
    obtain ⟨fX, rfl⟩ : ∃ g, fX = g + 1 := ⟨fX - 1, by omega⟩
    obtain ⟨fM, rfl⟩ : ∃ g, fM = g + 1 := ⟨fM - 1, by omega⟩
    have e1 : f = 10 := by omega
    subst e1
    rw [F_X1_cheapestForm_L4, F_X9_forms_L34, if_pos (show (10 : Int32) ≤ nI 10 by decide), if_pos (show (10 : Int32) ≤ nI 10 by decide)]
    exact ⟨b, _, _, _, _, _, _, _, rfl, rfl, e2, Nat.le_refl _, fun g h1 h2 => by omega⟩
  | succ r ih =>
    intro f b fX fM ns ld us nu li mot mbl e1 e2 e3 e4
    obtain ⟨fX, rfl⟩ : ∃ g, fX = g + 1 := ⟨fX - 1, by omega⟩
    obtain ⟨fM, rfl⟩ : ∃ g, fM = g + 1 := ⟨fM - 1, by omega⟩
    obtain ⟨ns2, ld2, us2, nu2, li2, mot2, mbl2, a1⟩ := M_use (fu := fu) (ns := ns) (ld := ld) (us := us) (nu := nu) (li := li) (mot := mot) (mbl := mbl) hf hn hP hu (show f < 10 by omega) hK hV
    obtain ⟨ns3, ld3, us3, nu3, li3, mot3, mbl3, a2⟩ := M_use (fu := fu) (ns := ns2) (ld := ld2) (us := us2) (nu := nu2) (li := li2) (mot := mot2) (mbl := mbl2) hf hn hP hu e2 hK hV
    have ng : ¬ (10 : Int32) ≤ nI f := nI_ge (b := 10) (by omega) (by decide)
    rw [F_X1_cheapestForm_L4, F_X9_forms_L34, if_neg ng, if_neg ng, X_use (by omega) hu (show f < 10 by omega) o1 hT, bd_some, X_use (by omega) hu e2 o1 hT, bd_some, a1, bd_some]
    dsimp only
    rw [a2, bd_some, nI_1]
    dsimp only
    by_cases c : wd u b (als ro K D nn) ≤ wd u f (als ro K D nn)
    · rw [if_pos (nI_le c (bd f (by omega))), if_pos (nI_le c (bd f (by omega)))]
      obtain ⟨b2, n4, l4, u4, v4, i4, m4, k4, p1, p2, p3, p4, p5⟩ := ih (f + 1) b fX fM ns3 ld3 us3 nu3 li3 mot3 mbl3 (by omega) e2 (by omega) (by omega)
      refine ⟨b2, _, _, _, _, _, _, _, p1, p2, p3, p4, fun g h1 h2 => ?_⟩
      by_cases z : g = f
      · rw [z]; omega
      · exact p5 g (by omega) h2
    · have ng2 := nI_ge (show wd u f (als ro K D nn) < wd u b (als ro K D nn) by omega) (bd b e2)
      rw [if_neg ng2, if_neg ng2]
      obtain ⟨b2, n4, l4, u4, v4, i4, m4, k4, p1, p2, p3, p4, p5⟩ := ih (f + 1) f fX fM ns3 ld3 us3 nu3 li3 mot3 mbl3 (by omega) (by omega) (by omega) (by omega)
      refine ⟨b2, _, _, _, _, _, _, _, p1, p2, p3, by omega, fun g h1 h2 => ?_⟩
      by_cases z : g = f
      · rw [z]; exact p4
      · exact p5 g (by omega) h2
theorem X_setForm {u : Nat} {v : Int32} {fo : AI} (hu : u < 8) : F_X5_setForm (nI u) v fo = some (upd fo u v) := by
  unfold F_X5_setForm
  rw [if_neg (nI_pos (by omega)), if_neg (nI_ge hu (by decide)), ck_t (bn_nI hu (by decide)), clampN (by omega)]
/-- the forms chosen for the uses below u -/
def FC (A : LUN) (ψ : NN) (u : Nat) (fo mfo : AI) : Prop := ∀ y, y < u → fo y = nI (ψ y) ∧ mfo y = nI (ψ y) ∧ ψ y < 10 ∧ ∀ g, g < 10 → wd y (ψ y) A ≤ wd y g A
theorem formsL {fu nn : Nat} {ro : AJ} {no mki mfr ta : AI} {K D E : NN} (hf : 1000 ≤ fu) (hn : nn ≤ 48) (hP : RP nn ro no) (hK : ∀ y, y < nn → mki y = nI (K y) ∧ mfr y = nI (D y)) (hV : VR nn ro K D E) (hT : Tly ta (als ro K D nn)) : ∀ (r u fX fM : Nat) (ψ : NN) (fo mfo : AI) (ns ld : Int32) (us nu li mot mbl : AI), u + r = 8 → r < fX → r < fM → FC (als ro K D nn) ψ u fo mfo → ∃ (ψ2 : NN) (fo2 mfo2 : AI) (ns2 ld2 : Int32) (us2 nu2 li2 mot2 mbl2 : AI), F_X8_forms_L29 fu ta fX (nI u) fo = some fo2 ∧ F_X9_forms_L24 fu (nI nn) mki mfr no fM (nI u) ns us nu ld li mot mbl mfo = some (ns2, us2, nu2, ld2, li2, mot2, mbl2, mfo2) ∧ FC (als ro K D nn) ψ2 8 fo2 mfo2 := by
  intro r
  induction r with
  | zero =>
    intro u fX fM ψ fo mfo ns ld us nu li mot mbl e1 e2 e3 e4
    obtain ⟨fX, rfl⟩ : ∃ g, fX = g + 1 := ⟨fX - 1, by omega⟩
    obtain ⟨fM, rfl⟩ : ∃ g, fM = g + 1 := ⟨fM - 1, by omega⟩
    have e1 : u = 8 := by omega
    subst e1
    rw [F_X8_forms_L29, F_X9_forms_L24, if_pos (show (8 : Int32) ≤ nI 8 by decide), if_pos (show (8 : Int32) ≤ nI 8 by decide)]
    exact ⟨ψ, _, _, _, _, _, _, _, _, _, rfl, rfl, e4⟩
  | succ r ih =>
    intro u fX fM ψ fo mfo ns ld us nu li mot mbl e1 e2 e3 e4
    obtain ⟨fX, rfl⟩ : ∃ g, fX = g + 1 := ⟨fX - 1, by omega⟩
    obtain ⟨fM, rfl⟩ : ∃ g, fM = g + 1 := ⟨fM - 1, by omega⟩
    have hu : u < 8 := by omega
    obtain ⟨b, ns2, ld2, us2, nu2, li2, mot2, mbl2, a1, a2, a3, a4, a5⟩ := cheap2 (fu := fu) (u := u) hf hn hP hu hK hV hT 9 1 0 fu fu ns ld us nu li mot mbl (by omega) (by omega) (by omega) (by omega)
    have a1 : F_X1_cheapestForm_L4 fu (nI u) ta fu 0 1 = some (nI b) := a1
    have a2 : F_X9_forms_L34 fu (nI u) (nI nn) mki mfr no fu 0 1 ns us nu ld li mot mbl = some (nI b, ns2, us2, nu2, ld2, li2, mot2, mbl2) := a2
    have ng : ¬ (8 : Int32) ≤ nI u := nI_ge (b := 8) hu (by decide)
    unfold F_X1_cheapestForm at *
    rw [F_X8_forms_L29, F_X9_forms_L24, if_neg ng, if_neg ng, a2, bd_some]
    unfold F_X1_cheapestForm
    dsimp only
    rw [a1, bd_some, bd_some, X_setForm hu, bd_some, ck_t (bn_nI hu (by decide)), clampN (by omega), nI_1]
    refine ih (u + 1) fX fM (stN ψ u b) (upd fo u (nI b)) (upd mfo u (nI b)) ns2 ld2 us2 nu2 li2 mot2 mbl2 (by omega) (by omega) (by omega) (fun y hy => ?_)
    by_cases z : y = u
    · subst z
      rw [upd_s, upd_s, stN_s]
      refine ⟨rfl, rfl, a3, fun g hg => ?_⟩
      by_cases q : g = 0
      · rw [q]; exact a4
      · exact a5 g (by omega) hg
    · rw [upd_n z, upd_n z, stN_n z]
      exact e4 y (by omega)
def c8 : LUN → Nat
  | [] => 0
  | e :: t => (if e.1 = 8 then 1 else 0) + c8 t
theorem bts_split (φ : Nat → Nat) : ∀ {A : LUN}, ok9 A → bts φ A = c8 A + sm (fun u => wd u (φ u) A) 8
  | [], _ => by
    rw [sm_zero (f := fun u => wd u (φ u) []) (fun k _ => rfl)]
    rfl
  | e :: t, h => by
    have ih := bts_split φ h.2
    have e1 : (fun u => wd u (φ u) (e :: t)) = fun u => (if e.1 = u then ln (φ u) e.2 else 0) + wd u (φ u) t := rfl
    rw [e1, sm_add]
    show (if e.1 = 8 then 1 else ln (φ e.1) e.2) + bts φ t = (if e.1 = 8 then 1 else 0) + c8 t + _
    have e2 : (fun u => if e.1 = u then ln (φ u) e.2 else 0) = fun u => if e.1 = u then ln (φ e.1) e.2 else 0 := by
      funext u
      by_cases d : e.1 = u
      · rw [if_pos d, if_pos d, d]
      · rw [if_neg d, if_neg d]
    rw [e2, sm_one, ih]
    by_cases c : e.1 = 8
    · rw [if_pos c, if_pos c, if_neg (by omega)]
      omega
    · rw [if_neg c, if_neg c, if_pos (by have := h.1; omega)]
      omega
theorem sm_mono {f g : Nat → Nat} : ∀ {n : Nat}, (∀ k, k < n → f k ≤ g k) → sm f n ≤ sm g n
  | 0, _ => Nat.le_refl _
  | n + 1, h => by
    have h1 := sm_mono (n := n) (fun k hk => h k (by omega))
    have h2 := h n (by omega)
    rw [sm_succ, sm_succ]
    omega
/-- the reference writes all rows -/
theorem M_anewL {fu nn : Nat} {φ : Nat → Nat} {ro : AJ} {no fo : AI} {K D E : NN} {mki mfr : AI} (hf : 1000 ≤ fu) (hn : nn ≤ 48) (hP : RP nn ro no) (hφ : fok φ fo) (hK : ∀ y, y < nn → mki y = nI (K y) ∧ mfr y = nI (D y)) (hV : VR nn ro K D E) (hT : bts φ (als ro K D nn) ≤ 16384) : ∀ (q x f : Nat) (ns ld : Int32) (us nu li mot mbl be bi : AI), x + q = nn → q < f → MW (wb φ (als ro K D x)) bi → (∀ y, y < x → be y = nI (bts φ (als ro K D y))) → ∃ (ns2 ld2 : Int32) (us2 nu2 li2 mot2 mbl2 be2 bi2 : AI), F_X9_forms_L87 fu (nI nn) mki mfr no fo f (nI x) ns us nu ld li mot mbl be bi (nI (bts φ (als ro K D x))) = some (ns2, us2, nu2, ld2, li2, mot2, mbl2, be2, bi2, nI (bts φ (als ro K D nn))) ∧ MW (wb φ (als ro K D nn)) bi2 ∧ ∀ y, y < nn → be2 y = nI (bts φ (als ro K D y)) := by
  intro q
  induction q with
  | zero =>
    intro x f ns ld us nu li mot mbl be bi e1 e2 e3 e4
    obtain ⟨f, rfl⟩ : ∃ g, f = g + 1 := ⟨f - 1, by omega⟩
    have ex : x = nn := by omega
    subst ex
    rw [F_X9_forms_L87, if_pos (nI_le (Nat.le_refl _) (by omega))]
    exact ⟨_, _, _, _, _, _, _, _, _, rfl, e3, e4⟩
  | succ q ih =>
    intro x f ns ld us nu li mot mbl be bi e1 e2 e3 e4
    obtain ⟨f, rfl⟩ : ∃ g, f = g + 1 := ⟨f - 1, by omega⟩
    have hx : x < nn := by omega
    have v1 := hV x hx
    obtain ⟨o1, o2⟩ := vr1_tl v1 (fun b hb => hP.2 x hx b (by omega)) (by omega)
    obtain ⟨vs2, vu2, li2, mot2, mbl2, ld2, d1, d2⟩ := M_tell (fu := fu) (ns := ns) (ld := ld) (us := us) (nu := nu) (li := li) (mot := mot) (mbl := mbl) (kk := nI (D x)) (kd := K x) (k := D x) hf hn hP hx v1.1 (fun q => ⟨rfl, (v1.2.2.1 q).1, (v1.2.2.1 q).2.1⟩) v1.2.2.2.2
    have hm := als_mono (φ := φ) (ro := ro) (K := K) (D := D) (n := x + 1) (m := nn) (by omega)
    have eb : bts φ (als ro K D (x + 1)) = bts φ (als ro K D x) + bts φ (tl ro x (K x) (D x)) := by rw [als_s, bts_app]
    obtain ⟨bi2, f1, f2⟩ := M_wrL (fu := fu) (us := vs2) (nu := vu2) hf o2 hφ (tl ro x (K x) (D x)) 0 fu (wb φ (als ro K D x)) bi (by omega) (by omega) d2 o1 e3 (by rw [wb_len]; omega)
    rw [wb_len, ← wb_app, ← als_s, wb_len] at f1
    rw [← wb_app, ← als_s] at f2
    have f1 : F_X9_writeRow_L12 fu (nI (tl ro x (K x) (D x)).length) vs2 fo vu2 fu 0 bi (nI (bts φ (als ro K D x))) = some (bi2, nI (bts φ (als ro K D (x + 1)))) := f1
    obtain ⟨n3, l3, u3, v3, i3, m3, b3, be3, bi3, k1, k2, k3⟩ := ih (x + 1) f (nI (tl ro x (K x) (D x)).length) ld2 vs2 vu2 li2 mot2 mbl2 (upd be x (nI (bts φ (als ro K D x)))) bi2 (by omega) (by omega) f2 (fun y hy => by
      rw [upd_if]
      by_cases c1 : y = x
      · rw [if_pos c1, c1]
      · rw [if_neg c1]
        exact e4 y (by omega))
    refine ⟨n3, l3, u3, v3, i3, m3, b3, be3, bi3, ?_, k2, k3⟩
    rw [F_X9_forms_L87, if_neg (nI_ge hx (by omega)), ck_t (bn_nI (show x < 48 by omega) (by decide)), ck_t (bn_nI (show x < 48 by omega) (by decide)), clampN (by omega), (hK x hx).1, (hK x hx).2, d1, bd_some]
    dsimp only
    unfold F_X9_writeRow
    rw [ck_t (bn_nI (show x < 49 by omega) (by decide)), clampN (by omega), f1, bd_some, bd_some, nI_1]
    exact k1
theorem ok_forms {fu : Nat} (hf : 20000 ≤ fu) : OK_forms fu (Rel BKd) := by
  intro nn X M hR
  obtain ⟨h1, hn, hmn, hP, hRR, hB⟩ := id hR
  have same : F_X8_forms fu nn (xth_ X) (xpr_ X) (xro_ X) (xta_ X) (xfo_ X) (xwr_ X) (xno_ X) (xbs_ X) (xst_ X) (xki_ X) (xdi_ X) (xts_ X) (xus_ X) (xnu_ X) = some (-3, xfo_ X, xwr_ X, xno_ X, xbs_ X, xst_ X, xts_ X, xus_ X, xnu_ X) → F_X9_forms fu (mth_ M) (mib_ M) (mpa_ M) (mn_ M) (mki_ M) (mfr_ M) (mns_ M) (mus_ M) (mnu_ M) (mld_ M) (mpk_ M) (mli_ M) (mot_ M) (mbl_ M) (mfo_ M) (msz_ M) (mbe_ M) (mbi_ M) (mwr_ M) = some (-3, 0, mns_ M, mus_ M, mnu_ M, mld_ M, mli_ M, mot_ M, mbl_ M, mfo_ M, msz_ M, mbe_ M, mbi_ M, mwr_ M) → ∃ (r : Int32) (X2 : XS) (M2 : MS), SX_forms fu nn X = some (r, X2) ∧ SM_forms fu M = some (r, M2) ∧ Rel BKd nn X2 M2 := by
    intro a b
    unfold SX_forms SM_forms
    rw [a, b, bd_some, bd_some]
    exact ⟨_, _, _, rfl, rfl, h1, hn, hmn, hP, hRR, hB⟩
  rcases id hB with ⟨t1, t2, t3⟩ | ⟨t1, t2, t4, t5, t6, t7⟩
  · refine same ?_ ?_
    · unfold F_X8_forms
      rw [t1, isThere0, bd_some, if_pos rfl]
    · unfold F_X9_forms
      rw [t2, if_pos rfl]
  · by_cases hd : dif nn (xpr_ X) (xro_ X) = 0
    · obtain ⟨K, D, E, φ, N, W, s, T, b1, b2, b3, b4, b5, b6, b7, ⟨b8, b8'⟩, b9, b0⟩ := id t7
      obtain ⟨o1, o2⟩ := als_ok hn t4.2 b2 (Nat.le_refl nn)
      have hKM : ∀ y, y < nn → mki_ M y = nI (K y) ∧ mfr_ M y = nI (D y) := fun y hy => ⟨(b1 y hy).1.2, (b1 y hy).2.1.2⟩
      obtain ⟨ψ, fo2, mfo2, n2, l2, u2, v2, i2, m2, c2, a1, a2, a3⟩ := formsL (fu := fu) (by omega) hn t4 hKM b2 b6 8 0 fu fu (fun _ => 0) (xfo_ X) (mfo_ M) (mns_ M) (mld_ M) (mus_ M) (mnu_ M) (mli_ M) (mot_ M) (mbl_ M) (by omega) (by omega) (by omega) (fun y hy => absurd hy (by omega))
      have a1 : F_X8_forms_L29 fu (xta_ X) fu 0 (xfo_ X) = some fo2 := a1
      have a2 : F_X9_forms_L24 fu (nI nn) (mki_ M) (mfr_ M) (mpk_ M) fu 0 (mns_ M) (mus_ M) (mnu_ M) (mld_ M) (mli_ M) (mot_ M) (mbl_ M) (mfo_ M) = some (n2, u2, v2, l2, i2, m2, c2, mfo2) := a2
      have f1 : fok ψ fo2 := fun u hu => ⟨(a3 u hu).1, (a3 u hu).2.2.1⟩
      have f2 : fok ψ mfo2 := fun u hu => ⟨(a3 u hu).2.1, (a3 u hu).2.2.1⟩
      have hle : bts ψ (als (xpr_ X) K D nn) ≤ 200 * nn := by
        have e1 := bts_split ψ o1
        have e2 := bts_split φ o1
        have e3 := sm_mono (f := fun u => wd u (ψ u) (als (xpr_ X) K D nn)) (g := fun u => wd u (φ u) (als (xpr_ X) K D nn)) (n := 8) (fun u hu => (a3 u hu).2.2.2 (φ u) (b3 u hu))
        omega
      obtain ⟨st3, us3, nu3, wr3, no3, ts3, x1, x2, x3⟩ := X_anew (fu := fu) (ki := xki_ X) (di := xdi_ X) (st := xst_ X) (us := xus_ X) (nu := xnu_ X) (wr := xwr_ X) (no := xno_ X) (bs := xbs_ X) (ts := xts_ X) (by omega) h1 hn t4.2 f1 (fun y hy => ⟨(b1 y hy).1.1, (b1 y hy).2.1.1⟩) b2 (by omega)
      obtain ⟨n4, l4, u4, v4, i4, m4, c4, be4, bi4, y1, y2, y3⟩ := M_anewL (fu := fu) (fo := mfo2) (by omega) hn t4 f2 hKM b2 (by omega) nn 0 fu n2 l2 u2 v2 i2 m2 c2 (mbe_ M) (mbi_ M) (by omega) (by omega) (fun i hi => absurd hi (by show ¬ i < 0; omega)) (fun y hy => absurd hy (by omega))
      have y1 : F_X9_forms_L87 fu (nI nn) (mki_ M) (mfr_ M) (mpk_ M) mfo2 fu 0 n2 u2 v2 l2 i2 m2 c2 (mbe_ M) (mbi_ M) 0 = some (n4, u4, v4, l4, i4, m4, c4, be4, bi4, nI (bts ψ (als (xpr_ X) K D nn))) := y1
      obtain ⟨bi5, wr5, z1, z2⟩ := M_close (fu := fu) (be := be4) (wr := mwr_ M) hn (by rw [wb_len]; omega) (by rw [wb_len]; omega) y2
      rw [wb_len] at z1
      have EX : F_X8_forms fu nn (xth_ X) (xpr_ X) (xro_ X) (xta_ X) (xfo_ X) (xwr_ X) (xno_ X) (xbs_ X) (xst_ X) (xki_ X) (xdi_ X) (xts_ X) (xus_ X) (xnu_ X) = some (nI (bts ψ (als (xpr_ X) K D nn)), fo2, wr3, no3, nI (bts ψ (als (xpr_ X) K D nn)), st3, ts3, us3, nu3) := by
        unfold F_X8_forms F_X1_patchesTo
        rw [t1, isThere1, bd_some, if_neg n10, if_neg n10, X4_countOther (by omega) hn, bd_some, hd, bd_some, if_pos (show nI 0 ≤ (0 : Int32) by decide), a1, bd_some, x1, bd_some]
      have EM : F_X9_forms fu (mth_ M) (mib_ M) (mpa_ M) (mn_ M) (mki_ M) (mfr_ M) (mns_ M) (mus_ M) (mnu_ M) (mld_ M) (mpk_ M) (mli_ M) (mot_ M) (mbl_ M) (mfo_ M) (msz_ M) (mbe_ M) (mbi_ M) (mwr_ M) = some (nI (bts ψ (als (xpr_ X) K D nn)), 0, n4, u4, v4, l4, i4, m4, c4, mfo2, nI (bts ψ (als (xpr_ X) K D nn)), upd be4 nn (nI (bts ψ (als (xpr_ X) K D nn))), bi5, wr5) := by
        unfold F_X9_forms
        rw [t2, t5, hd, hmn, if_neg n10, if_pos (show nI 0 ≤ (0 : Int32) by decide), a2, bd_some]
        dsimp only
        rw [y1, bd_some]
        dsimp only
        rw [z1, bd_some]
      unfold SX_forms SM_forms
      rw [EX, EM, bd_some, bd_some]
      refine ⟨_, _, _, rfl, rfl, h1, hn, hmn, hP, ⟨fun u hu => ⟨((a3 u hu).1).trans (a3 u hu).2.1.symm, ψ u, (a3 u hu).2.2.1, (a3 u hu).1⟩, hRR.2⟩, Or.inr ⟨t1, t2, t4, t5, t6, K, D, E, ψ, gb (wb ψ (als (xpr_ X) K D nn)), gb (wb ψ (als (xpr_ X) K D nn)), s, bts ψ (als (xpr_ X) K D nn), b1, b2, fun u hu => (f1 u hu).2, rfl, hle, b6, b7, ⟨rfl, rfl⟩, fun y hy => ⟨x3 y hy, ?_⟩, bits_done (wb_len _ _).symm hle x2 z2⟩⟩
      show upd be4 nn (nI (bts ψ (als (xpr_ X) K D nn))) y = _
      rw [upd_if]
      by_cases e : y = nn
      · rw [if_pos e, e]
      · rw [if_neg e]
        exact y3 y (by omega)
    · have hp : ¬ nI (dif nn (xpr_ X) (xro_ X)) ≤ (0 : Int32) := nI_nle (by omega) (by omega)
      refine same ?_ ?_
      · unfold F_X8_forms F_X1_patchesTo
        rw [t1, isThere1, bd_some, if_neg n10, if_neg n10, X4_countOther (by omega) hn, bd_some, bd_some, if_neg hp]
      · unfold F_X9_forms
        rw [t2, t5, if_neg n10, if_neg hp]

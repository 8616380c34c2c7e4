/-! ===== pure: all tellings, their bits, the tally ===== -/
def als (ro : AJ) (K D : NN) : Nat → LUN
  | 0 => []
  | n + 1 => als ro K D n ++ tl ro n (K n) (D n)
theorem als_s (ro : AJ) (K D : NN) (n : Nat) : als ro K D (n + 1) = als ro K D n ++ tl ro n (K n) (D n) := rfl
theorem als_cg {ro : AJ} {K D K2 D2 : NN} : ∀ {n m : Nat}, n ≤ m → ag m K K2 → ag m D D2 → als ro K2 D2 n = als ro K D n
  | 0, _, _, _, _ => rfl
  | n + 1, m, h, h1, h2 => by rw [als_s, als_s, als_cg (n := n) (m := m) (by omega) h1 h2, h1 n (by omega), h2 n (by omega)]
theorem bts_app (φ : Nat → Nat) : ∀ (A T : LUN), bts φ (A ++ T) = bts φ A + bts φ T
  | [], T => by rw [List.nil_append, bts, Nat.zero_add]
  | e :: A, T => by
    show bw φ e + bts φ (A ++ T) = bw φ e + bts φ A + bts φ T
    rw [bts_app φ A T, Nat.add_assoc]
theorem wb_app (φ : Nat → Nat) : ∀ (A T : LUN), wb φ (A ++ T) = wb φ A ++ wb φ T
  | [], T => by rw [List.nil_append, wb, List.nil_append]
  | e :: A, T => by
    show _ ++ wb φ (A ++ T) = _ ++ wb φ A ++ wb φ T
    rw [wb_app φ A T, List.append_assoc]
theorem als_mono {φ : Nat → Nat} {ro : AJ} {K D : NN} {n : Nat} : ∀ {m : Nat}, n ≤ m → bts φ (als ro K D n) ≤ bts φ (als ro K D m)
  | 0, h => by rw [show n = 0 by omega]; exact Nat.le_refl _
  | m + 1, h => by
    by_cases e : n = m + 1
    · rw [e]; exact Nat.le_refl _
    · have := als_mono (φ := φ) (ro := ro) (K := K) (D := D) (n := n) (m := m) (by omega)
      rw [als_s, bts_app]
      omega
def cn (u v : Nat) : LUN → Nat
  | [] => 0
  | e :: t => (if e.1 = u ∧ e.2 = v then 1 else 0) + cn u v t
theorem cn_app (u v : Nat) : ∀ (A T : LUN), cn u v (A ++ T) = cn u v A + cn u v T
  | [], T => by rw [List.nil_append, cn, Nat.zero_add]
  | e :: A, T => by
    show _ + cn u v (A ++ T) = _ + cn u v A + cn u v T
    rw [cn_app u v A T, Nat.add_assoc]
def Tly (ta : AI) (A : LUN) : Prop := ∀ u, u < 8 → ∀ v, v < 96 → ta (96 * u + v) = nI (cn u v A)
theorem Tly_8 {ta : AI} {A : LUN} {e : Nat × Nat} (he : e.1 = 8) (h : Tly ta A) : Tly ta (A ++ [e]) := by
  intro u hu v hv
  rw [cn_app, h u hu v hv]
  show _ = nI (cn u v A + ((if e.1 = u ∧ e.2 = v then 1 else 0) + 0))
  rw [if_neg (by omega)]
  rfl
theorem Tly_1 {ta : AI} {A : LUN} {e : Nat × Nat} (he : e.1 < 8) (he2 : e.2 < 96) (h : Tly ta A) : Tly (upd ta (96 * e.1 + e.2) (ta (96 * e.1 + e.2) + 1)) (A ++ [e]) := by
  intro u hu v hv
  rw [cn_app, upd_if]
  show _ = nI (cn u v A + ((if e.1 = u ∧ e.2 = v then 1 else 0) + 0))
  by_cases c : e.1 = u ∧ e.2 = v
  · rw [if_pos (by omega), if_pos c, h e.1 he e.2 he2, nI_1, c.1, c.2]
  · rw [if_neg (by omega), if_neg c, h u hu v hv]
    rfl
theorem X_tallyL {n : Nat} {us nu : AI} (hn : n ≤ 160) : ∀ (T : LUN) (i f : Nat) (ta : AI) (A : LUN), i + T.length = n → T.length < f → Hd us nu i T → ok9 T → Tly ta A → ∃ ta2 : AI, F_X1_tallyNumbers_L2 (nI n) us nu f (nI i) ta = some ta2 ∧ Tly ta2 (A ++ T) := by
  intro T
  induction T with
  | nil =>
    intro i f ta A e1 e2 e3 e4 e5
    obtain ⟨f, rfl⟩ : ∃ g, f = g + 1 := ⟨f - 1, by omega⟩
    have e1 : i + 0 = n := e1
    rw [F_X1_tallyNumbers_L2, show F_X6_size (nI n) = some (nI n) from rfl, bd_some, if_pos (nI_le (by omega) (by omega)), List.append_nil]
    exact ⟨ta, rfl, e5⟩
  | cons e T ih =>
    intro i f ta A e1 e2 e3 e4 e5
    obtain ⟨f, rfl⟩ : ∃ g, f = g + 1 := ⟨f - 1, by omega⟩
    have e1 : i + (T.length + 1) = n := e1
    have e2 : T.length + 1 < f + 1 := e2
    obtain ⟨g1, g2, g3⟩ := e3
    obtain ⟨k1, k2⟩ := e4
    rw [F_X1_tallyNumbers_L2, show F_X6_size (nI n) = some (nI n) from rfl, bd_some, if_neg (nI_ge (by omega) (by omega)), useAt (by omega), bd_some, numAt (by omega), bd_some, bd_some, g1, g2, show (96 : Int32) = nI 96 from rfl, pk_mul, nI_add, nI_1]
    by_cases c : e.1 = 8
    · rw [if_pos (show nI e.1 = (8 : Int32) by rw [c]; rfl)]
      obtain ⟨ta2, a1, a2⟩ := ih (i + 1) f ta (A ++ [e]) (by omega) (by omega) g3 k2 (Tly_8 c e5)
      rw [app1] at a2
      exact ⟨ta2, a1, a2⟩
    · have k3 : e.1 < 8 ∧ e.2 < 96 := by omega
      have hlt : e.1 * 96 + e.2 < 768 := by omega
      rw [if_neg (show ¬ nI e.1 = (8 : Int32) from nI_k (k := 8) (by omega) (by decide) c), if_neg (nI_pos (by omega)), if_neg (nI_ge hlt (by decide)), ck_t (bn_nI hlt (by decide)), ck_t (bn_nI hlt (by decide)), clampN (by omega), Nat.mul_comm e.1 96]
      obtain ⟨ta2, a1, a2⟩ := ih (i + 1) f _ (A ++ [e]) (by omega) (by omega) g3 k2 (Tly_1 k3.1 k3.2 e5)
      rw [app1] at a2
      exact ⟨ta2, a1, a2⟩
theorem vr1_tl {ro : AJ} {E : NN} {y kd k d : Nat} (h : vr1 ro E y kd k d) (hr : ∀ b, 48 ≤ b → bt (ro y) b = false) (hy : y < 48) : ok9 (tl ro y kd k) ∧ (tl ro y kd k).length ≤ 160 := tl_ok hr hy h.1 (fun q => (h.2.2.1 q).2.1)
/-- class decides, reference decides and writes -/
theorem packL {fu nn w r : Nat} {φ : Nat → Nat} {ro : AJ} {no fo mfo va : AI} (hf : 1000 ≤ fu) (hn : nn ≤ 48) (hP : RP nn ro no) (hw : w ≤ 7) (hr : r ≤ 5) (hva0 : va 0 = nI w) (hva : va 1 = nI r) (hφ : fok φ fo) (hφ2 : fok φ mfo) : ∀ (q x fX fM : Nat) (K D E : NN) (ki di de mki mfr mde ta : AI) (ts bb ns ld : Int32) (us nu us' nu' li mot mbl mbe mbi : AI), x + q = nn → q < fX → q < fM → CR x K D E ki di de mki mfr mde → VR x ro K D E → Tly ta (als ro K D x) → MW (wb φ (als ro K D x)) mbi → bts φ (als ro K D x) ≤ 200 * x → (∀ y, y < x → mbe y = nI (bts φ (als ro K D y))) → ∃ (K2 D2 E2 : NN) (ki2 di2 de2 mki2 mfr2 mde2 ta2 : AI) (ts2 bb2 ns2 ld2 : Int32) (us2 nu2 us2' nu2' li2 mot2 mbl2 mbe2 mbi2 : AI), F_X1_decideAll_L32 fu nn va ro fo fX (nI x) ts us nu ki di de ta = some (ts2, us2, nu2, ki2, di2, de2, ta2) ∧ F_X9_pack_L57 fu (nI nn) no mfo (nI w) (nI r) fM (nI x) bb ns us' nu' ld li mot mbl mki mfr mde mbe mbi (nI (bts φ (als ro K D x))) = some (bb2, ns2, us2', nu2', ld2, li2, mot2, mbl2, mki2, mfr2, mde2, mbe2, mbi2, nI (bts φ (als ro K2 D2 nn))) ∧ CR nn K2 D2 E2 ki2 di2 de2 mki2 mfr2 mde2 ∧ VR nn ro K2 D2 E2 ∧ Tly ta2 (als ro K2 D2 nn) ∧ MW (wb φ (als ro K2 D2 nn)) mbi2 ∧ bts φ (als ro K2 D2 nn) ≤ 200 * nn ∧ ∀ y, y < nn → mbe2 y = nI (bts φ (als ro K2 D2 y)) := by
  intro q
  induction q with
  | zero =>
    intro x fX fM K D E ki di de mki mfr mde ta ts bb ns ld us nu us' nu' li mot mbl mbe mbi e1 e2 e3 e4 e5 e6 e7 e8 e9
    obtain ⟨fX, rfl⟩ : ∃ g, fX = g + 1 := ⟨fX - 1, by omega⟩
    obtain ⟨fM, rfl⟩ : ∃ g, fM = g + 1 := ⟨fM - 1, by omega⟩
    have ex : x = nn := by omega
    subst ex
    rw [F_X1_decideAll_L32, F_X9_pack_L57, if_pos (nI_le (Nat.le_refl _) (by omega)), if_pos (nI_le (Nat.le_refl _) (by omega))]
    exact ⟨K, D, E, _, _, _, _, _, _, _, _, _, _, _, _, _, _, _, _, _, _, _, _, rfl, rfl, e4, e5, e6, e7, e8, e9⟩
  | succ q ih =>
    intro x fX fM K D E ki di de mki mfr mde ta ts bb ns ld us nu us' nu' li mot mbl mbe mbi e1 e2 e3 e4 e5 e6 e7 e8 e9
    obtain ⟨fX, rfl⟩ : ∃ g, fX = g + 1 := ⟨fX - 1, by omega⟩
    obtain ⟨fM, rfl⟩ : ∃ g, fM = g + 1 := ⟨fM - 1, by omega⟩
    have hx : x < nn := by omega
    have hrx : ∀ b, 48 ≤ b → bt (ro x) b = false := fun b hb => hP.2 x hx b (by omega)
    obtain ⟨K1, D1, E1, ki1, di1, de1, mki1, mfr1, mde1, ts1, bb1, ns1, ld1, us1, nu1, vs1, vu1, li1, mot1, mbl1, a1, a2, a3, a4, a5, a6, a7, a8⟩ := choose2 (fu := fu) (ts := ts) (bb := bb) (ns := ns) (ld := ld) (us := us) (nu := nu) (us' := us') (nu' := nu') (li := li) (mot := mot) (mbl := mbl) hf hn hP hx hw hr hva0 hva hφ hφ2 e4 e5
    obtain ⟨⟨i1, i2⟩, ⟨i3, i4⟩, -⟩ := a3 x (by omega)
    have v1 := a4 x (by omega)
    obtain ⟨o1, o2⟩ := vr1_tl v1 hrx (by omega)
    have ec : als ro K1 D1 x = als ro K D x := als_cg (Nat.le_refl _) a5 a6
    obtain ⟨us2, nu2, b1, b2⟩ := X_tell (fu := fu) (ts := ts1) (us := us1) (nu := nu1) (kk := nI (D1 x)) (kd := K1 x) (k := D1 x) hf hn hP.2 hx v1.1 (fun q => ⟨rfl, (v1.2.2.1 q).1, (v1.2.2.1 q).2.1⟩)
    obtain ⟨ta2, c1, c2⟩ := X_tallyL (us := us2) (nu := nu2) o2 (tl ro x (K1 x) (D1 x)) 0 fu ta (als ro K1 D1 x) (by omega) (by omega) b2 o1 (by rw [ec]; exact e6)
    have c1 : F_X1_tallyNumbers_L2 (nI (tl ro x (K1 x) (D1 x)).length) us2 nu2 fu 0 ta = some ta2 := c1
    obtain ⟨vs2, vu2, li2, mot2, mbl2, ld2, d1, d2⟩ := M_tell (fu := fu) (ns := ns1) (ld := ld1) (us := vs1) (nu := vu1) (li := li1) (mot := mot1) (mbl := mbl1) (kk := nI (D1 x)) (kd := K1 x) (k := D1 x) hf hn hP hx v1.1 (fun q => ⟨rfl, (v1.2.2.1 q).1, (v1.2.2.1 q).2.1⟩) v1.2.2.2.2
    have hbq : bts φ (tl ro x (K1 x) (D1 x)) ≤ 200 := a8
    obtain ⟨bi2, f1, f2⟩ := M_wrL (fu := fu) (us := vs2) (nu := vu2) hf o2 hφ2 (tl ro x (K1 x) (D1 x)) 0 fu (wb φ (als ro K D x)) mbi (by omega) (by omega) d2 o1 e7 (by rw [wb_len]; omega)
    rw [wb_len, ← ec, ← wb_app, ← als_s] at f1
    rw [← ec, ← wb_app, ← als_s] at f2
    have f1 : F_X9_writeRow_L12 fu (nI (tl ro x (K1 x) (D1 x)).length) vs2 mfo vu2 fu 0 mbi (nI (bts φ (als ro K1 D1 x))) = some (bi2, nI (wb φ (als ro K1 D1 (x + 1))).length) := f1
    have eb : bts φ (als ro K1 D1 (x + 1)) = bts φ (als ro K1 D1 x) + bts φ (tl ro x (K1 x) (D1 x)) := by rw [als_s, bts_app]
    obtain ⟨K3, D3, E3, ki3, di3, de3, mki3, mfr3, mde3, ta3, ts3, bb3, ns3, ld3, us3, nu3, vs3, vu3, li3, mot3, mbl3, mbe3, mbi3, k1, k2, k3, k4, k5, k6, k7, k8⟩ := ih (x + 1) fX fM K1 D1 E1 ki1 di1 de1 mki1 mfr1 mde1 ta2 (nI (tl ro x (K1 x) (D1 x)).length) bb1 (nI (tl ro x (K1 x) (D1 x)).length) ld2 us2 nu2 vs2 vu2 li2 mot2 mbl2 (upd mbe x (nI (bts φ (als ro K1 D1 x)))) bi2 (by omega) (by omega) (by omega) a3 a4 c2 f2 (by rw [eb, ec]; omega) (fun y hy => by
      rw [upd_if]
      by_cases e : y = x
      · rw [if_pos e, e]
      · rw [if_neg e, e9 y (by omega), als_cg (n := y) (m := x) (by omega) a5 a6])
    refine ⟨K3, D3, E3, ki3, di3, de3, mki3, mfr3, mde3, ta3, ts3, bb3, ns3, ld3, us3, nu3, vs3, vu3, li3, mot3, mbl3, mbe3, mbi3, ?_, ?_, k3, k4, k5, k6, k7, k8⟩
    · rw [F_X1_decideAll_L32, if_neg (nI_ge hx (by omega)), a1, bd_some]
      dsimp only
      rw [X_kindOf hn hx, bd_some, X_distOf hn hx, bd_some, i1, i3, b1, bd_some]
      dsimp only
      unfold F_X1_tallyNumbers
      rw [c1, bd_some, bd_some, nI_1]
      exact k1
    · rw [F_X9_pack_L57, if_neg (nI_ge hx (by omega)), a2, bd_some]
      dsimp only
      rw [ck_t (bn_nI (show x < 48 by omega) (by decide)), ck_t (bn_nI (show x < 48 by omega) (by decide)), clampN (by omega), i2, i4, d1, bd_some]
      dsimp only
      unfold F_X9_writeRow
      rw [ck_t (bn_nI (show x < 49 by omega) (by decide)), clampN (by omega), ← ec, f1, bd_some, bd_some, nI_1, wb_len]
      exact k2
theorem M_close {fu nn : Nat} {B : List Bool} {be bi wr : AI} (hn : nn ≤ 48) (hf : B.length + 8 < fu) (hB : B.length + 8 ≤ 16384) (h : MW B bi) : ∃ bi2 wr2 : AI, F_X9_closeBook fu (nI nn) (nI B.length) be bi wr = some (upd be nn (nI B.length), bi2, wr2) ∧ ∀ i, i < B.length + 8 → bi2 i = b10 (gb B i) ∧ wr2 i = b10 (gb B i) := by
  have e8 : nI B.length + 8 = nI (B.length + 8) := nI_add B.length 8
  have A : ∃ bi2 : AI, F_X9_closeBook_L18 (nI B.length) fu (nI B.length) bi = some bi2 ∧ ∀ i, i < B.length + 8 → bi2 i = b10 (gb B i) := by
    refine fwd (B.length + 8) (fun f j (s : AI) => F_X9_closeBook_L18 (nI B.length) f (nI j) s) (fun j s => B.length ≤ j ∧ ∀ i, i < j → s i = b10 (gb B i)) _ (fun f s hs => ?_) (fun f j s hj hs => Or.inl ?_) 8 B.length fu bi (by omega) (by omega) ⟨Nat.le_refl _, h⟩
    · exact ⟨s, by rw [F_X9_closeBook_L18, e8, if_pos (nI_le (by omega) (by omega))], hs.2⟩
    · rw [F_X9_closeBook_L18, e8, if_neg (nI_ge hj (by omega)), ck_t (bn_nI (show j < 16384 by omega) (by decide)), clampN (by omega), nI_1]
      refine ⟨_, rfl, by omega, fun i hi => ?_⟩
      rw [upd_if]
      by_cases e : i = j
      · rw [if_pos e, e, gb_ge hs.1]; rfl
      · rw [if_neg e]; exact hs.2 i (by omega)
  obtain ⟨bi2, a1, a2⟩ := A
  have C : ∃ wr2 : AI, F_X9_closeBook_L44 (nI B.length) bi2 fu 0 wr = some wr2 ∧ ∀ i, i < B.length + 8 → wr2 i = b10 (gb B i) := by
    refine fwd (B.length + 8) (fun f j (s : AI) => F_X9_closeBook_L44 (nI B.length) bi2 f (nI j) s) (fun j s => ∀ i, i < j → s i = b10 (gb B i)) _ (fun f s hs => ?_) (fun f j s hj hs => Or.inl ?_) (B.length + 8) 0 fu wr (by omega) (by omega) (fun i hi => absurd hi (by omega))
    · exact ⟨s, by rw [F_X9_closeBook_L44, e8, if_pos (nI_le (by omega) (by omega))], hs⟩
    · rw [F_X9_closeBook_L44, e8, if_neg (nI_ge hj (by omega)), ck_t (bn_nI (show j < 16384 by omega) (by decide)), ck_t (bn_nI (show j < 16384 by omega) (by decide)), clampN (by omega), nI_1]
      refine ⟨_, rfl, fun i hi => ?_⟩
      rw [upd_if]
      by_cases e : i = j
      · rw [if_pos e, e, a2 j hj]
      · rw [if_neg e]; exact hs i (by omega)
  obtain ⟨wr2, b1, b2⟩ := C
  unfold F_X9_closeBook
  rw [ck_t (bn_nI (show nn < 49 by omega) (by decide)), a1, bd_some, b1, bd_some, clampN (by omega)]
  exact ⟨bi2, wr2, rfl, fun i hi => ⟨a2 i hi, b2 i hi⟩⟩
/-- the class writes all rows -/
theorem X_anewL {fu nn : Nat} {φ : Nat → Nat} {ro : AJ} {fo : AI} {K D E : NN} {ki di : AI} (hf : 1000 ≤ fu) (hn : nn ≤ 48) (hz : ∀ a, a < nn → ∀ b, nn ≤ b → bt (ro a) b = false) (hφ : fok φ fo) (hK : ∀ y, y < nn → ki y = nI (K y) ∧ di y = nI (D y)) (hV : VR nn ro K D E) (hT : bts φ (als ro K D nn) ≤ 512 * nn) : ∀ (q x f : Nat) (st us nu wr no : AI) (ts : Int32), x + q = nn → q < f → XW nn (wb φ (als ro K D x)) wr no → (0 < x → ∀ y, y ≤ x → st y = nI (bts φ (als ro K D y))) → ∃ (st2 us2 nu2 wr2 no2 : AI) (ts2 : Int32), F_X1_writeAnew_L9 fu nn ki di ro fo f (nI x) st ts us nu wr no (nI (bts φ (als ro K D x))) = some (st2, ts2, us2, nu2, wr2, no2, nI (bts φ (als ro K D nn))) ∧ XW nn (wb φ (als ro K D nn)) wr2 no2 ∧ (0 < nn → ∀ y, y ≤ nn → st2 y = nI (bts φ (als ro K D y))) := by
  intro q
  induction q with
  | zero =>
    intro x f st us nu wr no ts e1 e2 e3 e4
    obtain ⟨f, rfl⟩ : ∃ g, f = g + 1 := ⟨f - 1, by omega⟩
    have ex : x = nn := by omega
    subst ex
    rw [F_X1_writeAnew_L9, if_pos (nI_le (Nat.le_refl _) (by omega))]
    exact ⟨_, _, _, _, _, _, rfl, e3, e4⟩
  | succ q ih =>
    intro x f st us nu wr no ts e1 e2 e3 e4
    obtain ⟨f, rfl⟩ : ∃ g, f = g + 1 := ⟨f - 1, by omega⟩
    have hx : x < nn := by omega
    have hrx : ∀ b, 48 ≤ b → bt (ro x) b = false := fun b hb => hz x hx b (by omega)
    have v1 := hV x hx
    obtain ⟨o1, o2⟩ := vr1_tl v1 hrx (by omega)
    obtain ⟨us2, nu2, b1, b2⟩ := X_tell (fu := fu) (ts := ts) (us := us) (nu := nu) (kk := nI (D x)) (kd := K x) (k := D x) hf hn hz hx v1.1 (fun q => ⟨rfl, (v1.2.2.1 q).1, (v1.2.2.1 q).2.1⟩)
    have hm := als_mono (φ := φ) (ro := ro) (K := K) (D := D) (n := x + 1) (m := nn) (by omega)
    have eb : bts φ (als ro K D (x + 1)) = bts φ (als ro K D x) + bts φ (tl ro x (K x) (D x)) := by rw [als_s, bts_app]
    obtain ⟨wr2, no2, f1, f2⟩ := X_wrL (fu := fu) (us := us2) (nu := nu2) hf o2 hφ hn (tl ro x (K x) (D x)) 0 fu (wb φ (als ro K D x)) wr no (by omega) (by omega) b2 o1 e3 (by rw [wb_len]; omega)
    rw [wb_len, ← wb_app, ← als_s, wb_len] at f1
    rw [← wb_app, ← als_s] at f2
    have f1 : F_X0_write_L2 fu nn (nI (tl ro x (K x) (D x)).length) us2 fo nu2 fu 0 wr no (nI (bts φ (als ro K D x))) = some (wr2, no2, nI (bts φ (als ro K D (x + 1)))) := f1
    obtain ⟨st3, us3, nu3, wr3, no3, ts3, k1, k2, k3⟩ := ih (x + 1) f (upd (upd st x (nI (bts φ (als ro K D x)))) (x + 1) (nI (bts φ (als ro K D (x + 1))))) us2 nu2 wr2 no2 (nI (tl ro x (K x) (D x)).length) (by omega) (by omega) f2 (fun _ y hy => by
      rw [upd_if, upd_if]
      by_cases c1 : y = x + 1
      · rw [if_pos c1, c1]
      · rw [if_neg c1]
        by_cases c2 : y = x
        · rw [if_pos c2, c2]
        · rw [if_neg c2]
          exact e4 (by omega) y (by omega))
    refine ⟨st3, us3, nu3, wr3, no3, ts3, ?_, k2, k3⟩
    rw [F_X1_writeAnew_L9, if_neg (nI_ge hx (by omega)), nI_1, if_neg (nI_ge (show x + 1 < nn + 1 by omega) (by omega))]
    unfold F_X0_write F_X0_size
    rw [bd_some, ck_t (bn_nI (show x < nn + 1 by omega) (by omega)), X_kindOf hn hx, bd_some, X_distOf hn hx, bd_some, (hK x hx).1, (hK x hx).2, b1, bd_some, f1, bd_some, bd_some, bd_some, ck_t (bn_nI (show x + 1 < nn + 1 by omega) (by omega)), clampN (show x < 2 ^ 31 by omega), clampN (show x + 1 < 2 ^ 31 by omega)]
    exact k1
theorem byv_nil (i : Nat) : byv (gb []) i 8 = 0 := by
  have := byv_tail (g := gb []) (i := i) (r := 0) 8 (fun j _ _ => rfl)
  rw [Nat.zero_add] at this
  rw [this]
  exact Nat.zero_mul _
theorem X_anew {fu nn : Nat} {φ : Nat → Nat} {ro : AJ} {fo : AI} {K D E : NN} {ki di st us nu wr no : AI} {bs ts : Int32} (hf : 1000 ≤ fu) (h0 : 1 ≤ nn) (hn : nn ≤ 48) (hz : ∀ a, a < nn → ∀ b, nn ≤ b → bt (ro a) b = false) (hφ : fok φ fo) (hK : ∀ y, y < nn → ki y = nI (K y) ∧ di y = nI (D y)) (hV : VR nn ro K D E) (hT : bts φ (als ro K D nn) ≤ 512 * nn) : ∃ (st2 us2 nu2 wr2 no2 : AI) (ts2 : Int32), F_X1_writeAnew fu nn wr no bs st ki di ro ts us nu fo = some (nI (bts φ (als ro K D nn)), wr2, no2, nI (bts φ (als ro K D nn)), st2, ts2, us2, nu2) ∧ XW nn (wb φ (als ro K D nn)) wr2 no2 ∧ ∀ y, y ≤ nn → st2 y = nI (bts φ (als ro K D y)) := by
  obtain ⟨st2, us2, nu2, wr2, no2, ts2, a1, a2, a3⟩ := X_anewL (fu := fu) hf hn hz hφ hK hV hT nn 0 fu st us nu (fl (64 * nn) wr 0) (fl (64 * nn) no 0) ts (by omega) (by omega) (fun i hi => by
    show (if i < 64 * nn then (0 : Int32) else wr i) = nI (byv (gb []) i 8) ∧ (if i < 64 * nn then (0 : Int32) else no i) = nI (byv (gb []) i 8)
    rw [if_pos hi, if_pos hi, byv_nil]
    exact ⟨rfl, rfl⟩) (fun h => absurd h (by omega))
  have a1 : F_X1_writeAnew_L9 fu nn ki di ro fo fu 0 st ts us nu (fl (64 * nn) wr 0) (fl (64 * nn) no 0) 0 = some (st2, ts2, us2, nu2, wr2, no2, nI (bts φ (als ro K D nn))) := a1
  unfold F_X1_writeAnew F_X0_clear F_X0_size
  rw [ck_t (blen hn), ck_t (blen hn), bd_some, a1, bd_some, bd_some]
  exact ⟨st2, us2, nu2, wr2, no2, ts2, rfl, a2, a3 (by omega)⟩

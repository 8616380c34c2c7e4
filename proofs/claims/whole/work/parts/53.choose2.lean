/-! ===== pure: the choice, whole ===== -/
theorem X_one {fu nn x kd : Nat} {φ : Nat → Nat} {ro : AJ} {fo va : AI} {x4 bb ts : Int32} {us nu ki di de : AI} (hf : 1000 ≤ fu) (hn : nn ≤ 48) (hz : ∀ a, a < nn → ∀ b, nn ≤ b → bt (ro a) b = false) (hx : x < nn) (hkd : kd < 5) (hc : ¬ (kd = 2 ∨ kd = 3)) (hφ : fok φ fo) : ∃ (z : Int32) (us2 nu2 : AI), F_X1_choose_L59 fu nn (nI x) x4 (nI kd) 0 ro fo va fu bb 0 ts us nu ki di de = some (if bb ≤ nI (cq φ ro x kd 0) then (bb, z, us2, nu2, ki, di, de) else (nI (cq φ ro x kd 0), z, us2, nu2, upd ki x (nI kd), upd di x (nI 0), upd de x (nI 0))) := by
  obtain ⟨z, us2, nu2, hb⟩ := X_bts (fu := fu) (kk := 0) (k := 0) (ts := ts) (us := us) (nu := nu) hf hn hz hx hkd (fun q => absurd q hc) hφ
  have hd : F_X1_decide nn (nI x) (nI kd) 0 ki di de = some (upd ki x (nI kd), upd di x (nI 0), upd de x (nI 0)) := X_decide (k := 0) (d := 0) hn hx hkd (fun q => absurd q hc) (fun _ => rfl)
  have K : ∀ F, 2 ≤ F → F_X1_choose_L59 fu nn (nI x) x4 (nI kd) 0 ro fo va F bb 0 ts us nu ki di de = some (if bb ≤ nI (cq φ ro x kd 0) then (bb, z, us2, nu2, ki, di, de) else (nI (cq φ ro x kd 0), z, us2, nu2, upd ki x (nI kd), upd di x (nI 0), upd de x (nI 0))) := by
    intro F hF
    obtain ⟨g, rfl⟩ : ∃ g, F = g + 1 + 1 := ⟨F - 2, by omega⟩
    rw [F_X1_choose_L59, if_neg (show ¬ (0 : Int32) < 0 by decide), X_isCopy hkd, bd_some, if10', if_neg hc, hb, bd_some]
    by_cases e : bb ≤ nI (cq φ ro x kd 0)
    · rw [if_pos e, if_pos e, F_X1_choose_L59, if_pos (show (0 : Int32) < 0 + 1 by decide)]
    · rw [if_neg e, if_neg e, hd, bd_some, F_X1_choose_L59, if_pos (show (0 : Int32) < 0 + 1 by decide)]
  exact ⟨z, us2, nu2, K fu (by omega)⟩
theorem L18_n {fu nn x kd g : Nat} {ro : AJ} {fo va : AI} {x4 bb b2 ts ts2 : Int32} {us nu ki di de us2 nu2 ki2 di2 de2 : AI} (hkd : kd < 5) (hc : ¬ (kd = 2 ∨ kd = 3)) (h : F_X1_choose_L59 fu nn (nI x) x4 (nI kd) 0 ro fo va fu bb 0 ts us nu ki di de = some (b2, ts2, us2, nu2, ki2, di2, de2)) : F_X1_choose_L18 fu nn (nI x) x4 ro fo va (g + 1) bb (nI kd) ts us nu ki di de = F_X1_choose_L18 fu nn (nI x) x4 ro fo va g b2 (nI (kd + 1)) ts2 us2 nu2 ki2 di2 de2 := by
  rw [F_X1_choose_L18, if_neg (show ¬ (5 : Int32) ≤ nI kd from nI_ge (b := 5) hkd (by decide)), X_isCopy hkd, bd_some, if10', if_neg hc, bd_some, if10', if_neg hc, h, bd_some, nI_1]
theorem L18_c {fu nn x kd g : Nat} {ro : AJ} {fo va : AI} {x4 bb b2 ts ts2 : Int32} {us nu ki di de us2 nu2 ki2 di2 de2 : AI} (hkd : kd < 5) (hc : kd = 2 ∨ kd = 3) (h : F_X1_choose_L59 fu nn (nI x) x4 (nI kd) x4 ro fo va fu bb 1 ts us nu ki di de = some (b2, ts2, us2, nu2, ki2, di2, de2)) : F_X1_choose_L18 fu nn (nI x) x4 ro fo va (g + 1) bb (nI kd) ts us nu ki di de = F_X1_choose_L18 fu nn (nI x) x4 ro fo va g b2 (nI (kd + 1)) ts2 us2 nu2 ki2 di2 de2 := by
  rw [F_X1_choose_L18, if_neg (show ¬ (5 : Int32) ≤ nI kd from nI_ge (b := 5) hkd (by decide)), X_isCopy hkd, bd_some, if10', if_pos hc, bd_some, if10', if_pos hc, h, bd_some, nI_1]
theorem fminN {a b : Nat} (ha : a < 2 ^ 31) (hb : b < 2 ^ 31) : F_J9_min_7cf53 (nI a) (nI b) = some (nI (min a b)) := by
  unfold F_J9_min_7cf53
  rw [if_cg (nI_ltI hb ha)]
  by_cases h : b < a
  · rw [if_pos h, show min a b = b by omega]
  · rw [if_neg h, show min a b = a by omega]
theorem choose2 {fu nn x w r : Nat} {φ : Nat → Nat} {ro : AJ} {no fo mfo va : AI} {K D E : NN} {ki di de mki mfr mde : AI} {ts bb ns ld : Int32} {us nu us' nu' li mot mbl : AI} (hf : 1000 ≤ fu) (hn : nn ≤ 48) (hP : RP nn ro no) (hx : x < nn) (hw : w ≤ 7) (hr : r ≤ 5) (hva0 : va 0 = nI w) (hva : va 1 = nI r) (hφ : fok φ fo) (hφ2 : fok φ mfo) (hCR : CR x K D E ki di de mki mfr mde) (hVR : VR x ro K D E) : ∃ (K2 D2 E2 : NN) (ki2 di2 de2 mki2 mfr2 mde2 : AI) (ts2 bb2 ns2 ld2 : Int32) (us2 nu2 us2' nu2' li2 mot2 mbl2 : AI), F_X1_choose fu nn (nI x) va ro ts us nu fo ki di de = some (ts2, us2, nu2, ki2, di2, de2) ∧ F_X9_choose fu (nI x) bb ns us' nu' ld (nI nn) no li mot mbl mfo mki mfr mde (nI w) (nI r) = some (bb2, ns2, us2', nu2', ld2, li2, mot2, mbl2, mki2, mfr2, mde2) ∧ CR (x + 1) K2 D2 E2 ki2 di2 de2 mki2 mfr2 mde2 ∧ VR (x + 1) ro K2 D2 E2 ∧ ag x K K2 ∧ ag x D D2 ∧ ag x E E2 ∧ bq φ ro x (K2 x) (D2 x) ≤ 200 := by
  have hrx : ∀ b, 48 ≤ b → bt (ro x) b = false := fun b hb => hP.2 x hx b (by omega)
  have hbd := dense_le (k := 0) hφ hrx (show x < 48 by omega)
  -- kind 0
  have l0 := bq_le (ro := ro) (x := x) (kd := 0) (k := 0) hφ hrx (by omega) (by decide) (fun q => by omega)
  obtain ⟨z0, us0, nu0, X0⟩ := X_one (x4 := nI (min w x)) (kd := 0) (bb := 1000000) (ts := ts) (us := us) (nu := nu) (ki := ki) (di := di) (de := de) (va := va) hf hn hP.2 hx (by decide) (by decide) hφ
  have c0 : cq φ ro x 0 0 = bq φ ro x 0 0 := by unfold cq; rw [if_pos (show okt ro x 0 0 = true from rfl)]
  rw [c0, if_neg (show ¬ (1000000 : Int32) ≤ nI (bq φ ro x 0 0) from nI_ge (b := 1000000) (by omega) (by decide))] at X0
  obtain ⟨y0, ld0, vs0, vu0, li0, mot0, mbl0, M0⟩ := M_consider (fu := fu) (kd := 0) (k := 0) (d := 0) (ns := ns) (ld := ld) (bb := -1) (us := us') (nu := nu') (li := li) (mot := mot) (mbl := mbl) (mki := mki) (mfr := mfr) (mde := mde) hf hn hP hx (by decide) (fun q => by omega) (fun q => by omega) hφ2
  rw [if_pos (Or.inl rfl)] at M0
  have CR0 := CR_set 0 0 0 hCR
  have VR0 : VR (x + 1) ro (stN K x 0) (stN D x 0) (stN E x 0) := VR_set hVR ⟨by decide, by decide, fun q => by omega, fun _ => ⟨rfl, rfl⟩, fun q => by omega⟩
  have B0 : bq φ ro x 0 0 = bq φ ro x (stN K x 0 x) (stN D x 0 x) := by rw [stN_s, stN_s]
  have G0 : ag x K (stN K x 0) ∧ ag x D (stN D x 0) ∧ ag x E (stN E x 0) := ⟨ag_st _ _ _, ag_st _ _ _, ag_st _ _ _⟩
  generalize stN K x 0 = K0 at *
  generalize stN D x 0 = D0 at *
  generalize stN E x 0 = E0 at *
  generalize upd ki x (nI 0) = ki0 at *
  generalize upd di x (nI 0) = di0 at *
  generalize upd de x (nI 0) = de0 at *
  generalize upd mki x (nI 0) = mki0 at *
  generalize upd mfr x (nI 0) = mfr0 at *
  generalize upd mde x (nI 0) = mde0 at *
  -- kind 1
  obtain ⟨b1, K1, D1, E1, ki1, di1, de1, mki1, mfr1, mde1, g1, g2, g3, g4, g5, g6, g7, g8, g9⟩ := cand (c := 1) (j := 0) (d := 0) hn hx hφ hrx CR0 VR0 B0 ⟨by decide, by decide, fun q => by omega, fun _ => ⟨rfl, rfl⟩, fun q => by omega⟩
  have c1 : cq φ ro x 1 0 = bq φ ro x 1 0 := by unfold cq; rw [if_pos (show okt ro x 1 0 = true from rfl)]
  obtain ⟨z1, us1, nu1, X1⟩ := X_one (x4 := nI (min w x)) (kd := 1) (bb := nI (bq φ ro x 0 0)) (ts := z0) (us := us0) (nu := nu0) (ki := ki0) (di := di0) (de := de0) (va := va) hf hn hP.2 hx (by decide) (by decide) hφ
  rw [c1] at X1
  obtain ⟨y1, ld1, vs1, vu1, li1, mot1, mbl1, M1⟩ := M_consider (fu := fu) (kd := 1) (k := 0) (d := 0) (ns := y0) (ld := ld0) (bb := nI (bq φ ro x 0 0)) (us := vs0) (nu := vu0) (li := li0) (mot := mot0) (mbl := mbl0) (mki := mki0) (mfr := mfr0) (mde := mde0) hf hn hP hx (by decide) (fun q => by omega) (fun q => by omega) hφ2
  have hm0 : ¬ nI (bq φ ro x 0 0) = (-1 : Int32) := nI_m1 (by omega)
  have X1' : F_X1_choose_L59 fu nn (nI x) (nI (min w x)) (nI 1) 0 ro fo va fu (nI (bq φ ro x 0 0)) 0 z0 us0 nu0 ki0 di0 de0 = some (nI b1, z1, us1, nu1, ki1, di1, de1) := by
    rw [X1]
    rcases g9 with ⟨a0, a1, rfl, rfl, rfl, rfl, rfl, rfl⟩ | ⟨a0, a1, rfl, rfl, rfl, rfl, rfl, rfl⟩
    · rw [if_pos a0, a1]
    · rw [if_neg a0, a1]
  have M1' : F_X9_consider fu (nI x) (nI 1) (nI 0) (nI 0) y0 vs0 vu0 ld0 (nI nn) no li0 mot0 mbl0 mfo (nI (bq φ ro x 0 0)) mki0 mfr0 mde0 = some (y1, vs1, vu1, ld1, li1, mot1, mbl1, nI b1, mki1, mfr1, mde1) := by
    rw [M1]
    rcases g9 with ⟨a0, a1, rfl, rfl, rfl, rfl, rfl, rfl⟩ | ⟨a0, a1, rfl, rfl, rfl, rfl, rfl, rfl⟩
    · rw [if_neg (by rintro (z | z); exact hm0 z; exact z a0), a1]
    · rw [if_pos (Or.inr a0), a1]
  clear X1 M1 g9
  -- kinds 2, 3
  obtain ⟨b2, K2, D2, E2, ki2, di2, de2, mki2, mfr2, mde2, z2, y2, ld2, us2, nu2, vs2, vu2, li2, mot2, mbl2, X2, M2, p1, p2, p3, p4, p5, p6, p7⟩ := cho_k (fu := fu) (c := 2) (w := w) (r := r) (m := min w x) (x4 := nI (min w x)) hf hn hP hx (Or.inl rfl) hw hr hva rfl hφ hφ2 (min w x) 1 fu fu b1 K1 D1 E1 ki1 di1 de1 mki1 mfr1 mde1 z1 y1 ld1 us1 nu1 vs1 vu1 li1 mot1 mbl1 (by omega) (by omega) (by omega) (by omega) g1 g2 g3
  obtain ⟨b3, K3, D3, E3, ki3, di3, de3, mki3, mfr3, mde3, z3, y3, ld3, us3, nu3, vs3, vu3, li3, mot3, mbl3, X3, M3, q1, q2, q3, q4, q5, q6, q7⟩ := cho_k (fu := fu) (c := 3) (w := w) (r := r) (m := min w x) (x4 := nI (min w x)) hf hn hP hx (Or.inr rfl) hw hr hva rfl hφ hφ2 (min w x) 1 fu fu b2 K2 D2 E2 ki2 di2 de2 mki2 mfr2 mde2 z2 y2 ld2 us2 nu2 vs2 vu2 li2 mot2 mbl2 (by omega) (by omega) (by omega) (by omega) p1 p2 p3
  -- kind 4
  obtain ⟨z4, us4, nu4, X4⟩ := X_one (x4 := nI (min w x)) (kd := 4) (bb := nI b3) (ts := z3) (us := us3) (nu := nu3) (ki := ki3) (di := di3) (de := de3) (va := va) hf hn hP.2 hx (by decide) (by decide) hφ
  obtain ⟨li4, t1, t2⟩ := M_take (fu := fu) (x := x) (y := x) (nn := nn) (p := bt (ro x)) (q := bt (ro x)) (no := no) (li := li3) (ld := ld3) hf hx hx hn (hP.1 x hx) (hP.1 x hx)
  have et : en (fun b => bt (ro x) b && (decide (x = x) || !bt (ro x) b)) nn 0 = en (bt (ro x)) 48 0 := by
    rw [← en_ext (p := fun b => bt (ro x) b && (decide (x = x) || !bt (ro x) b)) (fun k hk _ => by rw [hP.2 x hx k (by omega)]; rfl) hn]
    exact en_cong (fun k _ hk => by simp)
  rw [et] at t1
  have hb3 : b3 ≤ 15360 := by omega
  have XL : ∀ F, 6 ≤ F → ∀ v ts5 us5 nu5 ki5 di5 de5, F_X1_choose_L59 fu nn (nI x) (nI (min w x)) (nI 4) 0 ro fo va fu (nI b3) 0 z3 us3 nu3 ki3 di3 de3 = some (v, ts5, us5, nu5, ki5, di5, de5) → F_X1_choose_L18 fu nn (nI x) (nI (min w x)) ro fo va F 1000000 (nI 0) ts us nu ki di de = some (ts5, us5, nu5, ki5, di5, de5) := by
    intro F hF v ts5 us5 nu5 ki5 di5 de5 h5
    obtain ⟨g, rfl⟩ : ∃ g, F = g + 1 + 1 + 1 + 1 + 1 + 1 := ⟨F - 6, by omega⟩
    rw [L18_n (by decide) (by decide) X0, L18_n (by decide) (by decide) X1', L18_c (by decide) (by decide) X2, L18_c (by decide) (by decide) X3, L18_n (by decide) (by decide) h5, F_X1_choose_L18, if_pos (show (5 : Int32) ≤ nI (4 + 1) by decide)]
  have XX : ∀ v ts5 us5 nu5 ki5 di5 de5, F_X1_choose_L59 fu nn (nI x) (nI (min w x)) (nI 4) 0 ro fo va fu (nI b3) 0 z3 us3 nu3 ki3 di3 de3 = some (v, ts5, us5, nu5, ki5, di5, de5) → F_X1_choose fu nn (nI x) va ro ts us nu fo ki di de = some (ts5, us5, nu5, ki5, di5, de5) := by
    intro v ts5 us5 nu5 ki5 di5 de5 h5
    unfold F_X1_choose
    rw [show F_X5_valueOf (0 : Int32) va = some (va 0) from X_valueOf (i := 0) (by decide), bd_some, hva0, fminN (by omega) (by omega), bd_some, show F_X1_choose_L18 fu nn (nI x) (nI (min w x)) ro fo va fu 1000000 0 ts us nu ki di de = _ from XL fu (by omega) v ts5 us5 nu5 ki5 di5 de5 h5, bd_some]
  have ML : ∀ F, 3 ≤ F → F_X9_choose_L23 fu (nI x) (nI w) (nI r) (nI nn) no mfo F 2 y1 vs1 vu1 ld1 li1 mot1 mbl1 (nI b1) mki1 mfr1 mde1 = some (y3, vs3, vu3, ld3, li3, mot3, mbl3, nI b3, mki3, mfr3, mde3) := by
    intro F hF
    obtain ⟨g, rfl⟩ : ∃ g, F = g + 1 + 1 + 1 := ⟨F - 3, by omega⟩
    rw [F_X9_choose_L23, if_neg (show ¬ (4 : Int32) ≤ 2 by decide), show F_X9_choose_L30 fu (nI x) (2 : Int32) (nI w) (nI r) (nI nn) no mfo fu (1 : Int32) y1 vs1 vu1 ld1 li1 mot1 mbl1 (nI b1) mki1 mfr1 mde1 = _ from M2, bd_some, F_X9_choose_L23, if_neg (show ¬ (4 : Int32) ≤ 2 + 1 by decide), show F_X9_choose_L30 fu (nI x) ((2 : Int32) + 1) (nI w) (nI r) (nI nn) no mfo fu (1 : Int32) y2 vs2 vu2 ld2 li2 mot2 mbl2 (nI b2) mki2 mfr2 mde2 = _ from M3, bd_some, F_X9_choose_L23, if_pos (show (4 : Int32) ≤ 2 + 1 + 1 by decide)]
  unfold F_X9_choose
  rw [show F_X9_consider fu (nI x) (0 : Int32) (0 : Int32) (0 : Int32) ns us' nu' ld (nI nn) no li mot mbl mfo (-1) mki mfr mde = _ from M0, bd_some, show F_X9_consider fu (nI x) (1 : Int32) (0 : Int32) (0 : Int32) y0 vs0 vu0 ld0 (nI nn) no li0 mot0 mbl0 mfo (nI (bq φ ro x 0 0)) mki0 mfr0 mde0 = _ from M1', bd_some, ML fu (by omega), bd_some, t1, bd_some]
  have hlen := en_len (bt (ro x)) 48 0
  by_cases c : ro x = 0
  · have hcq : cq φ ro x 4 0 = 1000000 := by
      unfold cq
      rw [if_neg (show ¬ okt ro x 4 0 = true from by show ¬ (!decide (ro x = 0)) = true; rw [decide_eq_true c]; decide)]
    rw [hcq, if_pos (nI_le (by omega) (by decide))] at X4
    rw [XX _ _ _ _ _ _ _ X4, (en_row0 hrx).mpr c, if_pos (show nI ([] : List Nat).length ≤ (0 : Int32) by decide)]
    refine ⟨K3, D3, E3, _, _, _, _, _, _, _, _, _, _, _, _, _, _, _, _, _, rfl, rfl, q1, q2, ag_trans G0.1 (ag_trans g6 (ag_trans p5 q5)), ag_trans G0.2.1 (ag_trans g7 (ag_trans p6 q6)), ag_trans G0.2.2 (ag_trans g8 (ag_trans p7 q7)), ?_⟩
    rw [← q3]
    have := hbd.1 c
    have : bq φ ro x 0 0 ≤ 200 := this
    omega
  · have hcq : cq φ ro x 4 0 = bq φ ro x 4 0 := by
      unfold cq
      rw [if_pos (show okt ro x 4 0 = true from by show (!decide (ro x = 0)) = true; rw [decide_eq_false c]; decide)]
    rw [hcq] at X4
    obtain ⟨b5, K5, D5, E5, ki5, di5, de5, mki5, mfr5, mde5, r1, r2, r3, r4, r5, r6, r7, r8, r9⟩ := cand (c := 4) (j := 0) (d := 0) hn hx hφ hrx q1 q2 q3 ⟨by decide, by decide, fun q => by omega, fun _ => ⟨rfl, rfl⟩, fun _ => c⟩
    obtain ⟨y5, ld5, vs5, vu5, li5, mot5, mbl5, M5⟩ := M_consider (fu := fu) (kd := 4) (k := 0) (d := 0) (ns := y3) (ld := nI (en (bt (ro x)) 48 0).length) (bb := nI b3) (us := vs3) (nu := vu3) (li := li4) (mot := mot3) (mbl := mbl3) (mki := mki3) (mfr := mfr3) (mde := mde3) hf hn hP hx (by decide) (fun q => by omega) (fun _ => c) hφ2
    have hm3 : ¬ nI b3 = (-1 : Int32) := nI_m1 (by omega)
    have X5' : F_X1_choose_L59 fu nn (nI x) (nI (min w x)) (nI 4) 0 ro fo va fu (nI b3) 0 z3 us3 nu3 ki3 di3 de3 = some (nI b5, z4, us4, nu4, ki5, di5, de5) := by
      rw [X4]
      rcases r9 with ⟨a0, a1, rfl, rfl, rfl, rfl, rfl, rfl⟩ | ⟨a0, a1, rfl, rfl, rfl, rfl, rfl, rfl⟩
      · rw [if_pos a0, a1]
      · rw [if_neg a0, a1]
    have M5' : F_X9_consider fu (nI x) (4 : Int32) (0 : Int32) (0 : Int32) y3 vs3 vu3 (nI (en (bt (ro x)) 48 0).length) (nI nn) no li4 mot3 mbl3 mfo (nI b3) mki3 mfr3 mde3 = some (y5, vs5, vu5, ld5, li5, mot5, mbl5, nI b5, mki5, mfr5, mde5) := by
      refine Eq.trans M5 ?_
      rcases r9 with ⟨a0, a1, rfl, rfl, rfl, rfl, rfl, rfl⟩ | ⟨a0, a1, rfl, rfl, rfl, rfl, rfl, rfl⟩
      · rw [if_neg (by rintro (z | z); exact hm3 z; exact z a0), a1]
      · rw [if_pos (Or.inr a0), a1]
    have hpos : ¬ nI (en (bt (ro x)) 48 0).length ≤ (0 : Int32) := nI_nle (by
      cases he : en (bt (ro x)) 48 0 with
      | nil => exact absurd ((en_row0 hrx).mp he) c
      | cons b t => show 0 < t.length + 1; omega) (by omega)
    rw [XX _ _ _ _ _ _ _ X5', if_neg hpos, M5', bd_some]
    refine ⟨K5, D5, E5, _, _, _, _, _, _, _, _, _, _, _, _, _, _, _, _, _, rfl, rfl, r1, r2, ag_trans G0.1 (ag_trans g6 (ag_trans p5 (ag_trans q5 r6))), ag_trans G0.2.1 (ag_trans g7 (ag_trans p6 (ag_trans q6 r7))), ag_trans G0.2.2 (ag_trans g8 (ag_trans p7 (ag_trans q7 r8))), ?_⟩
    rw [← r3]
    have : bq φ ro x 4 0 ≤ 200 := hbd.2 c
    omega

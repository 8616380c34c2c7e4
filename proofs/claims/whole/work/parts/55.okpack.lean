/-! ===== pure: the book; pack ===== -/
def BKd : BKT := fun nn sp pr bs wr no ki di de st ta msz mps mbi mwr mki mfr mde mbe =>
  ∃ (K D E φ : NN) (N W : Nat → Bool) (s T : Nat), CR nn K D E ki di de mki mfr mde ∧ VR nn pr K D E ∧ (∀ u, u < 8 → φ u < 10) ∧ T = bts φ (als pr K D nn) ∧ T ≤ 200 * nn ∧ Tly ta (als pr K D nn) ∧ (1 ≤ s ∧ s ≤ 9 ∧ sp = nI s ∧ mps = nI s) ∧ (bs = nI T ∧ msz = nI T) ∧ (∀ y, y ≤ nn → st y = nI (bts φ (als pr K D y)) ∧ mbe y = nI (bts φ (als pr K D y))) ∧ ∀ j, 8 * j < T → (wr j = nI (byv W j 8) ∧ no j = nI (byv N j 8)) ∧ ∀ k, k < 8 → mbi (8 * j + k) = b10 (N (8 * j + k)) ∧ mwr (8 * j + k) = b10 (W (8 * j + k))
theorem X_takeAll {fu nn : Nat} {ro pr : AJ} (hf : 1000 ≤ fu) (hn : nn ≤ 48) : ∃ pr2 : AJ, F_X4_takeAllOf fu nn ro pr = some pr2 ∧ ∀ a, a < nn → pr2 a = ro a := by
  have A : ∃ pr2 : AJ, F_X4_takeAllOf_L2 nn ro fu 0 pr = some pr2 ∧ ∀ a, a < nn → pr2 a = ro a := by
    refine fwd nn (fun f j (s : AJ) => F_X4_takeAllOf_L2 nn ro f (nI j) s) (fun j s => ∀ a, a < j → s a = ro a) _ (fun f s hs => ?_) (fun f j s hj hs => Or.inl ?_) nn 0 fu pr (by omega) (by omega) (fun a ha => absurd ha (by omega))
    · exact ⟨s, by rw [F_X4_takeAllOf_L2, if_pos (nI_le (by omega) (by omega))], hs⟩
    · rw [F_X4_takeAllOf_L2, if_neg (nI_ge hj (by omega)), X4_rowOf hj hn, bd_some, ck_t (bn_nI hj (by omega)), clampN (by omega), nI_1]
      refine ⟨_, rfl, fun a ha => ?_⟩
      rw [updL_if]
      by_cases e : a = j
      · rw [if_pos e, e]
      · rw [if_neg e]; exact hs a (by omega)
  obtain ⟨pr2, a1, a2⟩ := A
  unfold F_X4_takeAllOf
  rw [a1, bd_some]
  exact ⟨pr2, rfl, a2⟩
theorem M_takeAll {fu : Nat} {no pk : AI} (hf : 20000 ≤ fu) : ∃ pk2 : AI, F_X9_pack_L7 no fu 0 pk = some pk2 ∧ ∀ p, p < 2304 → pk2 p = vp_nar .boolean (no p) := by
  refine fwd 2304 (fun f j (s : AI) => F_X9_pack_L7 no f (nI j) s) (fun j s => ∀ p, p < j → s p = vp_nar .boolean (no p)) _ (fun f s hs => ?_) (fun f j s hj hs => Or.inl ?_) 2304 0 fu pk (by omega) (by omega) (fun a ha => absurd ha (by omega))
  · exact ⟨s, by rw [F_X9_pack_L7, if_pos (show (2304 : Int32) ≤ nI 2304 by decide)], hs⟩
  · rw [F_X9_pack_L7, if_neg (show ¬ (2304 : Int32) ≤ nI j from nI_ge (b := 2304) hj (by decide)), ck_t (bn_nI hj (by decide)), ck_t (bn_nI hj (by decide)), clampN (by omega), nI_1]
    refine ⟨_, rfl, fun a ha => ?_⟩
    rw [upd_if]
    by_cases e : a = j
    · rw [if_pos e, e]
    · rw [if_neg e]; exact hs a (by omega)
theorem dif_same {nn : Nat} {pr ro : AJ} (h : ∀ a, a < nn → pr a = ro a) : dif nn pr ro = 0 := by
  have := sm_le (f := fun a => pc (pr a ^^^ ro a)) (c := 0) (n := nn) (fun a ha => by
    show ct (bt (pr a ^^^ ro a)) 64 ≤ 0
    rw [ct_none (fun k _ => by rw [bt_xor, h a ha]; cases bt (ro a) k <;> rfl)]
    exact Nat.le_refl _)
  unfold dif
  omega
theorem fmaxN {s : Nat} (h1 : 1 ≤ s) (h : s < 2 ^ 31) : F_J9_max_7cf53 1 (nI s) = some (nI s) := by
  unfold F_J9_max_7cf53
  by_cases e : s = 1
  · rw [e]; rfl
  · rw [if_pos (show (1 : Int32) < nI s from (nI_ltI (a := 1) (b := s) (by decide) h).mpr (by omega))]
/-- the bits, once both have written -/
theorem bits_done {nn T : Nat} {B : List Bool} {wr no bi bw2 : AI} (hT : T = B.length) (hT2 : T ≤ 200 * nn) (h1 : XW nn B wr no) (h2 : ∀ i, i < B.length + 8 → bi i = b10 (gb B i) ∧ bw2 i = b10 (gb B i)) : ∀ j, 8 * j < T → (wr j = nI (byv (gb B) j 8) ∧ no j = nI (byv (gb B) j 8)) ∧ ∀ k, k < 8 → bi (8 * j + k) = b10 (gb B (8 * j + k)) ∧ bw2 (8 * j + k) = b10 (gb B (8 * j + k)) := by
  intro j hj
  exact ⟨h1 j (by omega), fun k hk => h2 (8 * j + k) (by omega)⟩
theorem ok_pack {fu : Nat} (hf : 20000 ≤ fu) : OK_pack fu (Rel BKd) := by
  intro nn X M hR
  obtain ⟨h1, hn, hmn, hP, hRR, hB⟩ := id hR
  obtain ⟨φ, q1, q2⟩ := RR_fok hRR
  obtain ⟨-, ⟨w, hw, va0, mw0⟩, ⟨r, hr, va1, mr0⟩, s, hs1, hs2, va2, ms0⟩ := id hRR
  obtain ⟨pr2, t1, t2⟩ := X_takeAll (fu := fu) (ro := xro_ X) (pr := xpr_ X) (by omega) hn
  obtain ⟨pk2, u1, u2⟩ := M_takeAll (fu := fu) (no := mno_ M) (pk := mpk_ M) hf
  have hP2 : RP nn pr2 pk2 := ⟨fun a ha b hb => by rw [u2 _ (by omega), hP.1 a ha b hb, nar_b, t2 a ha], fun a ha b hb => by rw [t2 a ha]; exact hP.2 a ha b hb⟩
  obtain ⟨K, D, E, ki2, di2, de2, mki2, mfr2, mde2, ta2, ts2, bb2, ns2, ld2, us2, nu2, vs2, vu2, li2, mot2, mbl2, mbe2, mbi2, a1, a2, a3, a4, a5, a6, a7, a8⟩ := packL (fu := fu) (ro := pr2) (no := pk2) (fo := xfo_ X) (mfo := mfo_ M) (va := xva_ X) (by omega) hn hP2 hw hr va0 va1 q1 q2 nn 0 fu fu (fun _ => 0) (fun _ => 0) (fun _ => 0) (xki_ X) (xdi_ X) (xde_ X) (mki_ M) (mfr_ M) (mde_ M) (fl 768 (xta_ X) 0) (xts_ X) (mbb_ M) (mns_ M) (mld_ M) (xus_ X) (xnu_ X) (mus_ M) (mnu_ M) (mli_ M) (mot_ M) (mbl_ M) (mbe_ M) (mbi_ M) (by omega) (by omega) (by omega) (fun y hy => absurd hy (by omega)) (fun y hy => absurd hy (by omega)) (fun u hu v hv => if_pos (show 96 * u + v < 768 by omega)) (fun i hi => absurd hi (by show ¬ i < 0; omega)) (Nat.le_refl _) (fun y hy => absurd hy (by omega))
  have a1 : F_X1_decideAll_L32 fu nn (xva_ X) pr2 (xfo_ X) fu 0 (xts_ X) (xus_ X) (xnu_ X) (xki_ X) (xdi_ X) (xde_ X) (fl 768 (xta_ X) 0) = some (ts2, us2, nu2, ki2, di2, de2, ta2) := a1
  have a2 : F_X9_pack_L57 fu (nI nn) pk2 (mfo_ M) (nI w) (nI r) fu 0 (mbb_ M) (mns_ M) (mus_ M) (mnu_ M) (mld_ M) (mli_ M) (mot_ M) (mbl_ M) (mki_ M) (mfr_ M) (mde_ M) (mbe_ M) (mbi_ M) 0 = some (bb2, ns2, vs2, vu2, ld2, li2, mot2, mbl2, mki2, mfr2, mde2, mbe2, mbi2, nI (bts φ (als pr2 K D nn))) := a2
  obtain ⟨st3, us3, nu3, wr3, no3, ts3, b1, b2, b3⟩ := X_anew (fu := fu) (ki := ki2) (di := di2) (st := xst_ X) (us := us2) (nu := nu2) (wr := xwr_ X) (no := xno_ X) (bs := xbs_ X) (ts := ts2) (by omega) h1 hn hP2.2 q1 (fun y hy => ⟨(a3 y hy).1.1, (a3 y hy).2.1.1⟩) a4 (by omega)
  obtain ⟨bi4, wr4, c1, c2⟩ := M_close (fu := fu) (be := mbe2) (wr := mwr_ M) hn (by rw [wb_len]; omega) (by rw [wb_len]; omega) a6
  rw [wb_len] at c1
  refine ⟨nI (bts φ (als pr2 K D nn)), (xro_ X, xrn_ X, xfo_ X, xva_ X, ts3, us3, nu3, 1, nI s, pr2, xpn_ X, nI (bts φ (als pr2 K D nn)), wr3, no3, ki2, di2, de2, st3, ta2, xcb_ X, xcd_ X, xbe_ X, xli_ X, xke_ X, xne_ X), (0, mn_ M, 1, 0, mwi_ M, mch_ M, mst_ M, nI (bts φ (als pr2 K D nn)), ns2, ld2, mst_ M, bb2, mno_ M, pk2, mtu_ M, mfo_ M, bi4, wr4, vs2, vu2, li2, mot2, mbl2, mki2, mfr2, mde2, upd mbe2 nn (nI (bts φ (als pr2 K D nn))), mow_ M, mco_ M, mpt_ M, mle_ M, mpl_ M, mit_ M, mro_ M, maw_ M), ?_, ?_, ?_⟩
  · unfold SX_pack F_X8_pack F_X1_decideAll
    rw [t1, bd_some, show F_X5_valueOf (2 : Int32) (xva_ X) = some (xva_ X 2) from X_valueOf (i := 2) (by decide), bd_some, va2, fmaxN hs1 (by omega), bd_some, a1, bd_some, bd_some]
    dsimp only
    rw [b1, bd_some, bd_some]
  · unfold SM_pack F_X9_pack
    rw [u1, bd_some, hmn, mw0, mr0, a2, bd_some]
    dsimp only
    rw [c1, bd_some, bd_some]
  · refine ⟨h1, hn, hmn, hP, hRR, Or.inr ⟨rfl, rfl, hP2, ?_, ?_, ?_⟩⟩
    · show (0 : Int32) = nI (dif nn pr2 (xro_ X))
      rw [dif_same t2]
      rfl
    · show dif nn pr2 (xro_ X) ≤ 40
      rw [dif_same t2]
      decide
    · refine ⟨K, D, E, φ, gb (wb φ (als pr2 K D nn)), gb (wb φ (als pr2 K D nn)), s, bts φ (als pr2 K D nn), a3, a4, fun u hu => (q1 u hu).2, rfl, a7, a5, ⟨hs1, hs2, rfl, ms0⟩, ⟨rfl, rfl⟩, fun y hy => ⟨b3 y hy, ?_⟩, bits_done (wb_len _ _).symm a7 b2 c2⟩
      show upd mbe2 nn (nI (bts φ (als pr2 K D nn))) y = _
      rw [upd_if]
      by_cases e : y = nn
      · rw [if_pos e, e]
      · rw [if_neg e]
        exact a8 y (by omega)

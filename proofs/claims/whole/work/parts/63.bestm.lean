/-! ===== pure: best, the reference ===== -/
def mcB (s : Nat × Nat) : Int32 := if s.2 = 0 then 1000000000 else nI s.1
def mpB (x : Nat) (s : Nat × Nat) : Int32 := if s.2 = 0 then -1 else nI (x - s.2)
theorem M_cpy {fu nn x w : Nat} {φ : NN} {ro : AJ} {no fo : AI} (hf : 1000 ≤ fu) (hn : nn ≤ 48) (hP : RP nn ro no) (hx : x < nn) (hw : w ≤ 7) (hφ : fok φ fo) : ∀ (q j g : Nat) (ns ld : Int32) (us_ nu li mot mbl mco mpt : AI), j + q = min w x → q < g → mco x = mcB (fcs φ ro x j) → mpt x = mpB x (fcs φ ro x j) → ∃ (ns2 ld2 : Int32) (us2 nu2 li2 mot2 mbl2 mco2 mpt2 : AI), F_X9_weigh_L107 fu (nI x) (nI w) (nI nn) no fo g (nI (j + 1)) ns us_ nu ld li mot mbl mco mpt = some (ns2, us2, nu2, ld2, li2, mot2, mbl2, mco2, mpt2) ∧ mco2 x = mcB (fcs φ ro x (min w x)) ∧ mpt2 x = mpB x (fcs φ ro x (min w x)) ∧ ∀ y, y ≠ x → mco2 y = mco y ∧ mpt2 y = mpt y := by
  have hr : ∀ b, 48 ≤ b → bt (ro x) b = false := fun b hb => hP.2 x hx b (by omega)
  intro q
  induction q with
  | zero =>
    intro j g ns ld us_ nu li mot mbl mco mpt e1 e2 e3 e4
    obtain ⟨g, rfl⟩ : ∃ h, g = h + 1 := ⟨g - 1, by omega⟩
    have e5 : F_X9_weigh_L107 fu (nI x) (nI w) (nI nn) no fo (g + 1) (nI (j + 1)) ns us_ nu ld li mot mbl mco mpt = some (ns, us_, nu, ld, li, mot, mbl, mco, mpt) := by
      rw [F_X9_weigh_L107, if_cg (nI_ltI (show w < 2 ^ 31 by omega) (show j + 1 < 2 ^ 31 by omega)), if_cg (nI_ltI (show x < 2 ^ 31 by omega) (show j + 1 < 2 ^ 31 by omega))]
      by_cases d : w < j + 1
      · rw [if_pos d]
      · rw [if_neg d, if_pos (by omega)]
    rw [e5]
    have ej : j = min w x := by omega
    rw [ej] at e3 e4
    exact ⟨_, _, _, _, _, _, _, _, _, rfl, e3, e4, fun y _ => ⟨rfl, rfl⟩⟩
  | succ q ih =>
    intro j g ns ld us_ nu li mot mbl mco mpt e1 e2 e3 e4
    obtain ⟨g, rfl⟩ : ∃ h, g = h + 1 := ⟨g - 1, by omega⟩
    have hj : j + 1 ≤ x := by omega
    obtain ⟨n2, l2, u2, v2, i2, m2, k2, B2⟩ := M_bts (fu := fu) (kk := nI (j + 1)) (k := j + 1) (kd := 2) (ns := ns) (ld := ld) (us := us_) (nu := nu) (li := li) (mot := mot) (mbl := mbl) hf hn hP hx (by decide) (fun _ => ⟨rfl, by omega, hj⟩) (fun z => by omega) hφ
    obtain ⟨n3, l3, u3, v3, i3, m3, k3, B3⟩ := M_bts (fu := fu) (kk := nI (j + 1)) (k := j + 1) (kd := 3) (ns := n2) (ld := l2) (us := u2) (nu := v2) (li := i2) (mot := m2) (mbl := k2) hf hn hP hx (by decide) (fun _ => ⟨rfl, by omega, hj⟩) (fun z => by omega) hφ
    have B2 : F_X9_bitsBy fu (nI x) (2 : Int32) (nI (j + 1)) ns us_ nu ld (nI nn) no li mot mbl fo = some (nI (bq φ ro x 2 (j + 1)), n2, u2, v2, l2, i2, m2, k2) := B2
    have B3 : F_X9_bitsBy fu (nI x) (3 : Int32) (nI (j + 1)) n2 u2 v2 l2 (nI nn) no i2 m2 k2 fo = some (nI (bq φ ro x 3 (j + 1)), n3, u3, v3, l3, i3, m3, k3) := B3
    have q2 := bq_le (ro := ro) (x := x) (kd := 2) (k := j + 1) hφ hr (by omega) (by decide) (fun _ => hj)
    have q3 := bq_le (ro := ro) (x := x) (kd := 3) (k := j + 1) hφ hr (by omega) (by decide) (fun _ => hj)
    have he := ek_le hφ hr (show x < 48 by omega) hj
    obtain ⟨f1, f2, f3⟩ := fcs_le hφ hr (show x < 48 by omega) j (by omega)
    obtain ⟨v, hv, hv2, hv3⟩ : ∃ v : Nat, mcB (fcs φ ro x j) = nI v ∧ v ≤ 1000000000 ∧ (((fcs φ ro x j).2 = 0 ∧ v = 1000000000) ∨ (¬ (fcs φ ro x j).2 = 0 ∧ v = (fcs φ ro x j).1)) := by
      unfold mcB
      by_cases c : (fcs φ ro x j).2 = 0
      · exact ⟨1000000000, by rw [if_pos c]; rfl, Nat.le_refl _, Or.inl ⟨c, rfl⟩⟩
      · exact ⟨(fcs φ ro x j).1, by rw [if_neg c], by omega, Or.inr ⟨c, rfl⟩⟩
    have nw : ek φ ro x (j + 1) < v → fcs φ ro x (j + 1) = (ek φ ro x (j + 1), j + 1) := fun q => by
      rw [fcs_s, if_pos]
      rcases hv3 with z | z
      · exact Or.inl z.1
      · exact Or.inr (by omega)
    have kp : ¬ ek φ ro x (j + 1) < v → fcs φ ro x (j + 1) = fcs φ ro x j := fun q => by
      rw [fcs_s, if_neg]
      rcases hv3 with z | z
      · omega
      · rintro (y | y)
        · exact z.1 y
        · omega
    rw [hv] at e3
    have hb : bn (nI x) 48 = true := bn_nI (by omega) (by decide)
    have hcl : (nI x).toNatClampNeg = x := clampN (by omega)
    -- both ways of the comparison, for the lesser value
    have go : ∀ (e : Nat) (n4 l4 : Int32) (u4 v4 i4 m4 k4 : AI), e = ek φ ro x (j + 1) → ∃ (ns2 ld2 : Int32) (us2 nu2 li2 mot2 mbl2 mco2 mpt2 : AI), (if nI v ≤ nI e then (F_X9_weigh_L107 fu (nI x) (nI w) (nI nn) no fo g (nI (j + 1 + 1)) n4 u4 v4 l4 i4 m4 k4 mco mpt) else (F_X9_weigh_L107 fu (nI x) (nI w) (nI nn) no fo g (nI (j + 1 + 1)) n4 u4 v4 l4 i4 m4 k4 (upd mco x (nI e)) (upd mpt x (nI (x - (j + 1)))))) = some (ns2, us2, nu2, ld2, li2, mot2, mbl2, mco2, mpt2) ∧ mco2 x = mcB (fcs φ ro x (min w x)) ∧ mpt2 x = mpB x (fcs φ ro x (min w x)) ∧ ∀ y, y ≠ x → mco2 y = mco y ∧ mpt2 y = mpt y := by
      intro e n4 l4 u4 v4 i4 m4 k4 hee
      subst hee
      by_cases c : v ≤ ek φ ro x (j + 1)
      · rw [if_pos (nI_le c (by omega))]
        exact ih (j + 1) g n4 l4 u4 v4 i4 m4 k4 mco mpt (by omega) (by omega) (by rw [kp (by omega), hv]; exact e3) (by rw [kp (by omega)]; exact e4)
      · rw [if_neg (nI_ge (by omega) (by omega))]
        obtain ⟨n5, l5, u5, v5, i5, m5, k5, co5, pt5, a1, a2, a3, a4⟩ := ih (j + 1) g n4 l4 u4 v4 i4 m4 k4 (upd mco x (nI (ek φ ro x (j + 1)))) (upd mpt x (nI (x - (j + 1)))) (by omega) (by omega) (by rw [upd_s, nw (by omega)]; exact (if_neg (by show ¬ j + 1 = 0; omega)).symm) (by rw [upd_s, nw (by omega)]; exact (if_neg (by show ¬ j + 1 = 0; omega)).symm)
        refine ⟨n5, l5, u5, v5, i5, m5, k5, co5, pt5, a1, a2, a3, fun y hy => ?_⟩
        obtain ⟨b1, b2⟩ := a4 y hy
        rw [upd_n hy] at b1 b2
        exact ⟨b1, b2⟩
    rw [F_X9_weigh_L107, if_neg (fun z => by have := (nI_ltI (show w < 2 ^ 31 by omega) (show j + 1 < 2 ^ 31 by omega)).mp z; omega), if_neg (fun z => by have := (nI_ltI (show x < 2 ^ 31 by omega) (show j + 1 < 2 ^ 31 by omega)).mp z; omega), B2, bd_some, sub_all hj, M_isSame hf hn hP hx (show x - (j + 1) < nn by omega), bd_some]
    dsimp only
    rw [B3, bd_some, if_cg (b10_ne _)]
    dsimp only
    simp only [ck_t hb, hcl, e3, nI_1]
    by_cases c : ro x = ro (x - (j + 1))
    · rw [if_neg (by rw [decide_eq_true c]; decide)]
      by_cases d : bq φ ro x 3 (j + 1) ≤ bq φ ro x 2 (j + 1)
      · rw [if_pos (nI_le d (by omega))]
        exact go _ _ _ _ _ _ _ _ (by unfold ek; rw [if_pos c]; omega)
      · rw [if_neg (nI_ge (by omega) (by omega))]
        exact go _ _ _ _ _ _ _ _ (by unfold ek; rw [if_pos c]; omega)
    · rw [if_pos (decide_eq_false c), if_neg (show ¬ (1000000000 : Int32) ≤ nI (bq φ ro x 2 (j + 1)) from nI_ge (b := 1000000000) (by omega) (by decide))]
      exact go _ _ _ _ _ _ _ _ (by unfold ek; rw [if_neg c])
theorem M_weigh {fu nn x w : Nat} {φ : NN} {ro : AJ} {no fo : AI} {ns ld : Int32} {us_ nu li mot mbl mow mpt mco : AI} (hf : 1000 ≤ fu) (hn : nn ≤ 48) (hP : RP nn ro no) (hx : x < nn) (hw : w ≤ 7) (hφ : fok φ fo) : ∃ (ns2 ld2 : Int32) (us2 nu2 li2 mot2 mbl2 mow2 mpt2 mco2 : AI), F_X9_weigh fu (nI x) ns us_ nu ld (nI nn) no li mot mbl fo mow mpt mco (nI w) = some (ns2, us2, nu2, ld2, li2, mot2, mbl2, mow2, mpt2, mco2) ∧ mow2 x = nI (ow φ ro x) ∧ mco2 x = mcB (fcs φ ro x (min w x)) ∧ mpt2 x = mpB x (fcs φ ro x (min w x)) ∧ ∀ y, y ≠ x → mow2 y = mow y ∧ mpt2 y = mpt y ∧ mco2 y = mco y := by
  have hr : ∀ b, 48 ≤ b → bt (ro x) b = false := fun b hb => hP.2 x hx b (by omega)
  have l0 := bq_le (ro := ro) (x := x) (kd := 0) (k := 0) hφ hr (by omega) (by decide) (fun q => by omega)
  have l1 := bq_le (ro := ro) (x := x) (kd := 1) (k := 0) hφ hr (by omega) (by decide) (fun q => by omega)
  have l4 := bq_le (ro := ro) (x := x) (kd := 4) (k := 0) hφ hr (by omega) (by decide) (fun q => by omega)
  obtain ⟨n0, e0, u0, v0, i0, m0, k0, B0⟩ := M_bts (fu := fu) (kk := 0) (k := 0) (kd := 0) (ns := ns) (ld := ld) (us := us_) (nu := nu) (li := li) (mot := mot) (mbl := mbl) hf hn hP hx (by decide) (fun z => by omega) (fun z => by omega) hφ
  obtain ⟨n1, e1, u1, v1, i1, m1, k1, B1⟩ := M_bts (fu := fu) (kk := 0) (k := 0) (kd := 1) (ns := n0) (ld := e0) (us := u0) (nu := v0) (li := i0) (mot := m0) (mbl := k0) hf hn hP hx (by decide) (fun z => by omega) (fun z => by omega) hφ
  have B0 : F_X9_bitsBy fu (nI x) (0 : Int32) (0 : Int32) ns us_ nu ld (nI nn) no li mot mbl fo = some (nI (bq φ ro x 0 0), n0, u0, v0, e0, i0, m0, k0) := B0
  have B1 : F_X9_bitsBy fu (nI x) (1 : Int32) (0 : Int32) n0 u0 v0 e0 (nI nn) no i0 m0 k0 fo = some (nI (bq φ ro x 1 0), n1, u1, v1, e1, i1, m1, k1) := B1
  have hb : bn (nI x) 48 = true := bn_nI (by omega) (by decide)
  have hcl : (nI x).toNatClampNeg = x := clampN (by omega)
  have fin : ∀ (n4 l4 : Int32) (u4 v4 i4 m4 k4 ow2 : AI), ow2 x = nI (ow φ ro x) → (∀ y, y ≠ x → ow2 y = mow y) → ∃ (ns2 ld2 : Int32) (us2 nu2 li2 mot2 mbl2 mow2 mpt2 mco2 : AI), ((F_X9_weigh_L107 fu (nI x) (nI w) (nI nn) no fo fu (1 : Int32) n4 u4 v4 l4 i4 m4 k4 (upd mco x (1000000000 : Int32)) (upd mpt x (-1 : Int32))).bind fun o28 => some (o28.1, o28.2.1, o28.2.2.1, o28.2.2.2.1, o28.2.2.2.2.1, o28.2.2.2.2.2.1, o28.2.2.2.2.2.2.1, ow2, o28.2.2.2.2.2.2.2.2, o28.2.2.2.2.2.2.2.1)) = some (ns2, us2, nu2, ld2, li2, mot2, mbl2, mow2, mpt2, mco2) ∧ mow2 x = nI (ow φ ro x) ∧ mco2 x = mcB (fcs φ ro x (min w x)) ∧ mpt2 x = mpB x (fcs φ ro x (min w x)) ∧ ∀ y, y ≠ x → mow2 y = mow y ∧ mpt2 y = mpt y ∧ mco2 y = mco y := by
    intro n4 l4 u4 v4 i4 m4 k4 ow2 h1 h2
    obtain ⟨n5, l5, u5, v5, i5, m5, k5, co5, pt5, a1, a2, a3, a4⟩ := M_cpy (fu := fu) hf hn hP hx hw hφ (min w x) 0 fu n4 l4 u4 v4 i4 m4 k4 (upd mco x 1000000000) (upd mpt x (-1)) (by omega) (by omega) (upd_s _ _ _) (upd_s _ _ _)
    have a1 : F_X9_weigh_L107 fu (nI x) (nI w) (nI nn) no fo fu 1 n4 u4 v4 l4 i4 m4 k4 (upd mco x 1000000000) (upd mpt x (-1)) = some (n5, u5, v5, l5, i5, m5, k5, co5, pt5) := a1
    rw [a1, bd_some]
    refine ⟨_, _, _, _, _, _, _, _, _, _, rfl, h1, a2, a3, fun y hy => ?_⟩
    obtain ⟨b1, b2⟩ := a4 y hy
    rw [upd_n hy] at b1 b2
    exact ⟨h2 y hy, b2, b1⟩
  have hpc : (nI (pc (ro x)) ≤ (0 : Int32)) ↔ ro x = 0 := by
    have h48 := pc_48 hr
    rw [← pc_0 hr]
    constructor
    · intro z
      by_cases q : pc (ro x) = 0
      · exact q
      · exact absurd z (nI_nle (by omega) (by omega))
    · intro z
      rw [z]
      decide
  unfold F_X9_weigh
  rw [B0, bd_some]
  dsimp only
  rw [B1, bd_some]
  dsimp only
  simp only [ck_t hb, hcl, upd_s, M_rowSize (show 100 ≤ fu by omega) hx hn hP, bd_some]
  by_cases c : ro x = 0
  · have hcq : cq φ ro x 4 0 = 1000000 := by
      unfold cq
      rw [if_neg (show ¬ okt ro x 4 0 = true from by show ¬ (!decide (ro x = 0)) = true; rw [decide_eq_true c]; decide)]
    simp only [if_pos (hpc.mpr c)]
    by_cases d : bq φ ro x 1 0 ≤ bq φ ro x 0 0
    · rw [if_pos (nI_le d (by omega))]
      exact fin _ _ _ _ _ _ _ _ (by rw [upd_s]; congr 1; unfold ow; omega) (fun y hy => upd_n hy)
    · rw [if_neg (nI_ge (by omega) (by omega))]
      exact fin _ _ _ _ _ _ _ _ (by rw [upd_s]; congr 1; unfold ow; omega) (fun y hy => upd_n hy)
  · have hcq : cq φ ro x 4 0 = bq φ ro x 4 0 := by
      unfold cq
      rw [if_pos (show okt ro x 4 0 = true from by show (!decide (ro x = 0)) = true; rw [decide_eq_false c]; decide)]
    obtain ⟨n4, e4, u4, v4, i4, m4, k4, B4⟩ := M_bts (fu := fu) (kk := 0) (k := 0) (kd := 4) (ns := n1) (ld := e1) (us := u1) (nu := v1) (li := i1) (mot := m1) (mbl := k1) hf hn hP hx (by decide) (fun z => by omega) (fun _ => c) hφ
    have B4 : F_X9_bitsBy fu (nI x) (4 : Int32) (0 : Int32) n1 u1 v1 e1 (nI nn) no i1 m1 k1 fo = some (nI (bq φ ro x 4 0), n4, u4, v4, e4, i4, m4, k4) := B4
    simp only [if_neg (fun z => c (hpc.mp z)), B4, bd_some]
    by_cases d : bq φ ro x 1 0 ≤ bq φ ro x 0 0
    · rw [if_pos (nI_le d (by omega))]
      by_cases e : bq φ ro x 1 0 ≤ bq φ ro x 4 0
      · rw [if_pos (nI_le e (by omega))]
        exact fin _ _ _ _ _ _ _ _ (by rw [upd_s]; congr 1; unfold ow; omega) (fun y hy => by rw [upd_n hy, upd_n hy])
      · rw [if_neg (nI_ge (by omega) (by omega))]
        exact fin _ _ _ _ _ _ _ _ (by rw [upd_s]; congr 1; unfold ow; omega) (fun y hy => by rw [upd_n hy, upd_n hy])
    · rw [if_neg (nI_ge (by omega) (by omega))]
      by_cases e : bq φ ro x 0 0 ≤ bq φ ro x 4 0
      · rw [if_pos (nI_le e (by omega))]
        exact fin _ _ _ _ _ _ _ _ (by rw [upd_s]; congr 1; unfold ow; omega) (fun y hy => by rw [upd_n hy, upd_n hy])
      · rw [if_neg (nI_ge (by omega) (by omega))]
        exact fin _ _ _ _ _ _ _ _ (by rw [upd_s]; congr 1; unfold ow; omega) (fun y hy => by rw [upd_n hy, upd_n hy])

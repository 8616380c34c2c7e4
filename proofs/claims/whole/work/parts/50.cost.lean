/-! ===== pure: cost ===== -/
theorem RR_fok {fo va mfo : AI} {w c s : Int32} (h : RR fo va mfo w c s) : ∃ φ : Nat → Nat, fok φ fo ∧ fok φ mfo := by
  refine ⟨fun u => (fo u).toNatClampNeg, fun u hu => ?_, fun u hu => ?_⟩
  · obtain ⟨e, f, hf, e2⟩ := h.1 u hu
    show fo u = nI (fo u).toNatClampNeg ∧ (fo u).toNatClampNeg < 10
    rw [e2, clampN (by omega)]
    exact ⟨rfl, hf⟩
  · obtain ⟨e, f, hf, e2⟩ := h.1 u hu
    show mfo u = nI (fo u).toNatClampNeg ∧ (fo u).toNatClampNeg < 10
    rw [← e, e2, clampN (by omega)]
    exact ⟨rfl, hf⟩
theorem nI_mil {n : Nat} (h : n ≤ 15360) : ¬ nI n = (1000000 : Int32) := nI_k (k := 1000000) (by omega) (by decide) (by omega)
theorem X_isCopy {kd : Nat} (h : kd < 5) : F_X8_isCopy (nI kd) = some (if kd = 2 ∨ kd = 3 then 1 else 0) := by
  have : ∀ kd, kd < 5 → F_X8_isCopy (nI kd) = some (if kd = 2 ∨ kd = 3 then 1 else 0) := by decide +kernel
  exact this kd h
/-- the answer -/
def cst (φ : Nat → Nat) (ro : AJ) (x kd k : Nat) : Int32 := if okt ro x kd k = true then nI (bq φ ro x kd k) else -3
theorem X_cost_in {fu nn a kd k : Nat} {ro : AJ} {ts kk : Int32} {us nu fo : AI} {φ : Nat → Nat} (hf : 1000 ≤ fu) (hn : nn ≤ 48) (hz : ∀ a, a < nn → ∀ b, nn ≤ b → bt (ro a) b = false) (ha : a < nn) (hkd : kd < 5) (hk : kd = 2 ∨ kd = 3 → kk = nI k ∧ 1 ≤ k ∧ k ≤ a) (hφ : fok φ fo) : ∃ (z : Int32) (us2 nu2 : AI), F_X8_cost fu nn (nI a) (nI kd) kk ro ts us nu fo = some (cst φ ro a kd k, z, us2, nu2) := by
  obtain ⟨z, us2, nu2, a1⟩ := X_bts (fu := fu) (ts := ts) (us := us) (nu := nu) hf hn hz ha hkd hk hφ
  have fin : (if nI (cq φ ro a kd k) = (1000000 : Int32) then some ((-3 : Int32), z, us2, nu2) else some (nI (cq φ ro a kd k), z, us2, nu2)) = some (cst φ ro a kd k, z, us2, nu2) := by
    unfold cq cst
    have hb := bq_le (ro := ro) (x := a) (kd := kd) (k := k) hφ (fun b hb => hz a ha b (by omega)) (by omega) hkd (fun q => (hk q).2.2)
    cases okt ro a kd k
    · rfl
    · rw [if_pos rfl, if_pos rfl, if_neg (nI_mil hb)]
  refine ⟨z, us2, nu2, ?_⟩
  unfold F_X8_cost
  rw [X4_isThing hn, bd_some, if10', if_pos (tg_nI ha (by omega)), show (5 : Int32) = nI 5 from rfl, X8_isBelow (by decide), bd_some, if10', if_pos (tg_nI hkd (by decide)), X_isCopy hkd, bd_some, if10', a1, bd_some]
  by_cases c : kd = 2 ∨ kd = 3
  · obtain ⟨rfl, hk1, hk2⟩ := hk c
    rw [if_pos c, if_neg (show ¬ nI k < (1 : Int32) by rw [show (1 : Int32) = nI 1 from rfl, nI_ltI (by omega) (by decide)]; omega), if_pos (nI_le hk2 (by omega))]
    exact fin
  · rw [if_neg c]
    exact fin
theorem X_cost_out {fu nn : Nat} {x1 x2 x3 : Int32} {ro : AJ} {ts : Int32} {us nu fo : AI} (hn : nn ≤ 48) (h : ¬ tg nn x1 = true ∨ ¬ tg 5 x2 = true ∨ ((x2 = 2 ∨ x2 = 3) ∧ (x3 < 1 ∨ ¬ x3 ≤ x1))) : F_X8_cost fu nn x1 x2 x3 ro ts us nu fo = some (-2, ts, us, nu) := by
  unfold F_X8_cost
  rw [X4_isThing hn, bd_some, if10', show (5 : Int32) = nI 5 from rfl, X8_isBelow (by decide), bd_some, if10']
  by_cases e1 : tg nn x1 = true
  · by_cases e2 : tg 5 x2 = true
    · rw [if_pos e1, if_pos e2]
      rcases h with h | h | ⟨h1, h2⟩
      · exact absurd e1 h
      · exact absurd e2 h
      · have hc : F_X8_isCopy x2 = some 1 := by rcases h1 with rfl | rfl <;> decide
        rw [hc, bd_some, if_neg (by decide)]
        by_cases c : x3 < 1
        · rw [if_pos c]
        · rw [if_neg c, if_neg (by rcases h2 with q | q; exact absurd q c; exact q)]
    · rw [if_pos e1, if_neg e2]
  · rw [if_neg e1]
theorem M_cost_out {fu nn : Nat} {x1 x2 x3 : Int32} {no : AI} {th ns ld : Int32} {us nu li mot mbl fo : AI} (h0 : 1 ≤ nn) (hn : nn ≤ 48) (h : ¬ tg nn x1 = true ∨ ¬ tg 5 x2 = true ∨ ((x2 = 2 ∨ x2 = 3) ∧ (x3 < 1 ∨ ¬ x3 ≤ x1))) : F_X9_cost fu x1 x2 x3 th (nI nn) ns us nu ld no li mot mbl fo = some (-2, 0, ns, us, nu, ld, li, mot, mbl) := by
  unfold F_X9_cost
  rw [X9_isThing h0 hn, X9_in0 (k := 5) x2 (by decide)]
  simp only [bd_some, if10']
  by_cases e1 : tg nn x1 = true
  · by_cases e2 : tg 5 x2 = true
    · rcases h with h | h | ⟨h1, h2⟩
      · exact absurd e1 h
      · exact absurd e2 h
      · have n1 : ¬ (1 : Int32) = 0 := by decide
        simp only [if_pos e1, if_pos e2, if_neg n1]
        by_cases c : x3 < 1
        · simp only [if_pos c]
          rcases h1 with rfl | rfl
          · rw [if_pos rfl]
          · rw [if_neg (by decide), if_pos rfl]
        · have c2 : ¬ x3 ≤ x1 := by rcases h2 with q | q; exact absurd q c; exact q
          simp only [if_neg c, if_neg c2]
          rcases h1 with rfl | rfl
          · rw [if_pos rfl]
          · rw [if_neg (by decide), if_pos rfl]
    · simp only [if_pos e1, if_neg e2, ite_self]
  · simp only [if_neg e1, ite_self]
theorem M_cost_in {fu nn a kd k : Nat} {ro : AJ} {no : AI} {th ns ld kk : Int32} {us nu li mot mbl fo : AI} {φ : Nat → Nat} (hf : 1000 ≤ fu) (h0 : 1 ≤ nn) (hn : nn ≤ 48) (hP : RP nn ro no) (ha : a < nn) (hkd : kd < 5) (hk : kd = 2 ∨ kd = 3 → kk = nI k ∧ 1 ≤ k ∧ k ≤ a) (hφ : fok φ fo) : ∃ (z ld2 : Int32) (us2 nu2 li2 mot2 mbl2 : AI), F_X9_cost fu (nI a) (nI kd) kk th (nI nn) ns us nu ld no li mot mbl fo = some (cst φ ro a kd k, 0, z, us2, nu2, ld2, li2, mot2, mbl2) := by
  have hr : ∀ b, 48 ≤ b → bt (ro a) b = false := fun b hb => hP.2 a ha b (by omega)
  have t1 := tg_nI ha (show nn < 2 ^ 31 by omega)
  have t2 := tg_nI hkd (show 5 < 2 ^ 31 by decide)
  have n1 : ¬ (1 : Int32) = 0 := by decide
  have p0 : (0 : Int32) = 0 := rfl
  unfold F_X9_cost
  rw [X9_isThing h0 hn, X9_in0 (k := 5) (nI kd) (by decide)]
  simp only [bd_some, if10', if_pos t1, if_pos t2, if_neg n1, if_pos p0]
  have hc : kd = 0 ∨ kd = 1 ∨ kd = 2 ∨ kd = 3 ∨ kd = 4 := by omega
  rcases hc with rfl | rfl | rfl | rfl | rfl
  · obtain ⟨z, ld2, us2, nu2, li2, mot2, mbl2, b1⟩ := M_bts (fu := fu) (ns := ns) (ld := ld) (us := us) (nu := nu) (li := li) (mot := mot) (mbl := mbl) hf hn hP ha hkd hk (fun q => by omega) hφ
    rw [if_neg (show ¬ nI 0 = (2 : Int32) by decide), if_neg (show ¬ nI 0 = (3 : Int32) by decide), if_neg (show ¬ nI 0 = (3 : Int32) by decide), if_neg (show ¬ nI 0 = (4 : Int32) by decide), b1, bd_some]
    exact ⟨_, _, _, _, _, _, _, rfl⟩
  · obtain ⟨z, ld2, us2, nu2, li2, mot2, mbl2, b1⟩ := M_bts (fu := fu) (ns := ns) (ld := ld) (us := us) (nu := nu) (li := li) (mot := mot) (mbl := mbl) hf hn hP ha hkd hk (fun q => by omega) hφ
    rw [if_neg (show ¬ nI 1 = (2 : Int32) by decide), if_neg (show ¬ nI 1 = (3 : Int32) by decide), if_neg (show ¬ nI 1 = (3 : Int32) by decide), if_neg (show ¬ nI 1 = (4 : Int32) by decide), b1, bd_some]
    exact ⟨_, _, _, _, _, _, _, rfl⟩
  · obtain ⟨z, ld2, us2, nu2, li2, mot2, mbl2, b1⟩ := M_bts (fu := fu) (ns := ns) (ld := ld) (us := us) (nu := nu) (li := li) (mot := mot) (mbl := mbl) hf hn hP ha hkd hk (fun q => by omega) hφ
    obtain ⟨rfl, hk1, hk2⟩ := hk (Or.inl rfl)
    rw [if_pos (show nI 2 = (2 : Int32) from rfl), if_neg (show ¬ nI k < (1 : Int32) by rw [show (1 : Int32) = nI 1 from rfl, nI_ltI (by omega) (by decide)]; omega), if_pos (nI_le hk2 (by omega)), if_neg (show ¬ nI 2 = (3 : Int32) by decide), if_neg (show ¬ nI 2 = (4 : Int32) by decide), b1, bd_some]
    exact ⟨_, _, _, _, _, _, _, rfl⟩
  · obtain ⟨z, ld2, us2, nu2, li2, mot2, mbl2, b1⟩ := M_bts (fu := fu) (ns := ns) (ld := ld) (us := us) (nu := nu) (li := li) (mot := mot) (mbl := mbl) hf hn hP ha hkd hk (fun q => by omega) hφ
    obtain ⟨rfl, hk1, hk2⟩ := hk (Or.inr rfl)
    rw [if_neg (show ¬ nI 3 = (2 : Int32) by decide), if_pos (show nI 3 = (3 : Int32) from rfl), if_neg (show ¬ nI k < (1 : Int32) by rw [show (1 : Int32) = nI 1 from rfl, nI_ltI (by omega) (by decide)]; omega), if_pos (nI_le hk2 (by omega)), if_pos (show nI 3 = (3 : Int32) from rfl), sub_all hk2, M_isSame hf hn hP ha (show a - k < nn by omega), bd_some, if_cg (b10_ne _), if_neg (show ¬ nI 3 = (4 : Int32) by decide), b1, bd_some]
    show ∃ (z ld2 : Int32) (us2 nu2 li2 mot2 mbl2 : AI), _ = some ((if decide (ro a = ro (a - k)) = true then nI (bq φ ro a 3 k) else -3), _)
    cases decide (ro a = ro (a - k))
    · exact ⟨_, _, _, _, _, _, _, rfl⟩
    · exact ⟨_, _, _, _, _, _, _, rfl⟩
  · rw [if_neg (show ¬ nI 4 = (2 : Int32) by decide), if_neg (show ¬ nI 4 = (3 : Int32) by decide), if_neg (show ¬ nI 4 = (3 : Int32) by decide), if_pos (show nI 4 = (4 : Int32) from rfl), M_rowSize (by omega) ha hn hP, bd_some, if_cg (show (nI (pc (ro a)) = (0 : Int32)) ↔ ro a = 0 from (nI_eq (a := pc (ro a)) (b := 0) (by have := pc_48 hr; omega) (by decide)).trans (pc_0 hr))]
    show ∃ (z ld2 : Int32) (us2 nu2 li2 mot2 mbl2 : AI), _ = some ((if (!decide (ro a = 0)) = true then nI (bq φ ro a 4 k) else -3), _)
    by_cases c : ro a = 0
    · rw [if_pos c, decide_eq_true c]
      exact ⟨_, _, _, _, _, _, _, rfl⟩
    · obtain ⟨z, ld2, us2, nu2, li2, mot2, mbl2, b1⟩ := M_bts (fu := fu) (ns := ns) (ld := ld) (us := us) (nu := nu) (li := li) (mot := mot) (mbl := mbl) hf hn hP ha hkd hk (fun _ => c) hφ
      rw [if_neg c, decide_eq_false c, b1, bd_some]
      exact ⟨_, _, _, _, _, _, _, rfl⟩
theorem ok_cost (BK : BKT) {fu : Nat} (hf : 20000 ≤ fu) : OK_cost fu (Rel BK) := by
  intro nn X M x1 x2 x3 hR
  obtain ⟨h1, hn, hmn, hP, hRR, hB⟩ := id hR
  obtain ⟨φ, q1, q2⟩ := RR_fok hRR
  unfold SX_cost SM_cost
  rw [hmn]
  have out : (¬ tg nn x1 = true ∨ ¬ tg 5 x2 = true ∨ ((x2 = 2 ∨ x2 = 3) ∧ (x3 < 1 ∨ ¬ x3 ≤ x1))) → ∃ (r : Int32) (X2 : XS) (M2 : MS), SX_cost fu nn x1 x2 x3 X = some (r, X2) ∧ SM_cost fu x1 x2 x3 M = some (r, M2) ∧ Rel BK nn X2 M2 := by
    intro h
    unfold SX_cost SM_cost
    rw [hmn, X_cost_out hn h, M_cost_out h1 hn h, bd_some, bd_some]
    exact ⟨_, _, _, rfl, rfl, h1, hn, rfl, hP, hRR, hB⟩
  unfold SX_cost SM_cost at out
  rw [hmn] at out
  by_cases e1 : tg nn x1 = true
  · by_cases e2 : tg 5 x2 = true
    · obtain ⟨a, ha, rfl⟩ := tg_of e1
      obtain ⟨kd, hkd, rfl⟩ := tg_of e2
      have go : ∀ k, (kd = 2 ∨ kd = 3 → x3 = nI k ∧ 1 ≤ k ∧ k ≤ a) → ∃ (r : Int32) (X2 : XS) (M2 : MS), SX_cost fu nn (nI a) (nI kd) x3 X = some (r, X2) ∧ SM_cost fu (nI a) (nI kd) x3 M = some (r, M2) ∧ Rel BK nn X2 M2 := by
        intro k hk
        obtain ⟨z, us2, nu2, a1⟩ := X_cost_in (fu := fu) (ts := xts_ X) (us := xus_ X) (nu := xnu_ X) (by omega) hn hP.2 ha hkd hk q1
        obtain ⟨z3, ld3, us3, nu3, li3, mot3, mbl3, b1⟩ := M_cost_in (fu := fu) (th := mth_ M) (ns := mns_ M) (ld := mld_ M) (us := mus_ M) (nu := mnu_ M) (li := mli_ M) (mot := mot_ M) (mbl := mbl_ M) (by omega) h1 hn hP ha hkd hk q2
        unfold SX_cost SM_cost
        rw [hmn, a1, b1, bd_some, bd_some]
        exact ⟨_, _, _, rfl, rfl, h1, hn, rfl, hP, hRR, hB⟩
      unfold SX_cost SM_cost at go
      rw [hmn] at go
      by_cases c : kd = 2 ∨ kd = 3
      · have c2 : nI kd = 2 ∨ nI kd = 3 := by rcases c with rfl | rfl; exact Or.inl rfl; exact Or.inr rfl
        by_cases d : x3 < 1
        · exact out (Or.inr (Or.inr ⟨c2, Or.inl d⟩))
        · by_cases e : x3 ≤ nI a
          · rw [i_lt] at d
            rw [i_le, nI_toInt (by omega)] at e
            have d : ¬ x3.toInt < 1 := d
            obtain ⟨k, k1, k2, k3⟩ := nI_ofT (lo := 1) (hi := a) (x := x3) (by omega) e
            exact go k (fun _ => ⟨k3, k1, k2⟩)
          · exact out (Or.inr (Or.inr ⟨c2, Or.inr e⟩))
      · exact go 0 (fun q => absurd q c)
    · exact out (Or.inr (Or.inl e2))
  · exact out (Or.inl e1)

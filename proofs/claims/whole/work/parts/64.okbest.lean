/-! ===== pure: best, whole ===== -/
def WR (n : Nat) (φ : NN) (ro : AJ) (w : Nat) (mow mpt mco : AI) : Prop := ∀ y, y < n → mow y = nI (ow φ ro y) ∧ mco y = mcB (fcs φ ro y (min w y)) ∧ mpt y = mpB y (fcs φ ro y (min w y))
theorem M_weighAll {fu nn w : Nat} {φ : NN} {ro : AJ} {no fo : AI} (hf : 1000 ≤ fu) (hn : nn ≤ 48) (hP : RP nn ro no) (hw : w ≤ 7) (hφ : fok φ fo) : ∀ (q x g : Nat) (ns ld : Int32) (us_ nu li mot mbl mow mpt mco : AI), x + q = nn → q < g → WR x φ ro w mow mpt mco → ∃ (ns2 ld2 : Int32) (us2 nu2 li2 mot2 mbl2 mow2 mpt2 mco2 : AI), F_X9_best_L7 fu (nI nn) no fo (nI w) g (nI x) ns us_ nu ld li mot mbl mow mpt mco = some (ns2, us2, nu2, ld2, li2, mot2, mbl2, mow2, mpt2, mco2) ∧ WR nn φ ro w mow2 mpt2 mco2 := by
  intro q
  induction q with
  | zero =>
    intro x g ns ld us_ nu li mot mbl mow mpt mco e1 e2 e3
    obtain ⟨g, rfl⟩ : ∃ h, g = h + 1 := ⟨g - 1, by omega⟩
    have e1 : x = nn := by omega
    subst e1
    rw [F_X9_best_L7, if_pos (nI_le (Nat.le_refl _) (by omega))]
    exact ⟨_, _, _, _, _, _, _, _, _, _, rfl, e3⟩
  | succ q ih =>
    intro x g ns ld us_ nu li mot mbl mow mpt mco e1 e2 e3
    obtain ⟨g, rfl⟩ : ∃ h, g = h + 1 := ⟨g - 1, by omega⟩
    have hx : x < nn := by omega
    obtain ⟨n2, l2, u2, v2, i2, m2, k2, ow2, pt2, co2, a1, a2, a3, a4, a5⟩ := M_weigh (fu := fu) (ns := ns) (ld := ld) (us_ := us_) (nu := nu) (li := li) (mot := mot) (mbl := mbl) (mow := mow) (mpt := mpt) (mco := mco) hf hn hP hx hw hφ
    rw [F_X9_best_L7, if_neg (nI_ge hx (by omega)), a1, bd_some, nI_1]
    refine ih (x + 1) g n2 l2 u2 v2 i2 m2 k2 ow2 pt2 co2 (by omega) (by omega) (fun y hy => ?_)
    by_cases z : y = x
    · rw [z]; exact ⟨a2, a3, a4⟩
    · obtain ⟨b1, b2, b3⟩ := a5 y z
      rw [b1, b2, b3]
      exact e3 y (by omega)
/-- the table of least sums, from row x on -/
def LE (nn x : Nat) (φ : NN) (ro : AJ) (w r : Nat) (T : Nat → NN) (le : AI) : Prop := ∀ c, x ≤ c → c < nn → le (7 * c) = nI (ow φ ro c + T c 0) ∧ (¬ od φ ro w c = 0 → ∀ e, 1 ≤ e → e ≤ r → le (7 * c + e) = nI (oc φ ro w c + T c e))
theorem M_L75 {nn w r x d : Nat} {φ : NN} {ro : AJ} {no fo mow mpt mco le : AI} {T : Nat → NN} {x1 : Int32} (hn : nn ≤ 48) (hP : RP nn ro no) (hw : w ≤ 7) (hr : r ≤ 5) (hd : d ≤ r) (hφ : fok φ fo) (hx : x < nn) (hW : WR nn φ ro w mow mpt mco) (hT : isTB nn (ow φ ro) (oc φ ro w) (od φ ro w) r T) (hL : LE nn (x + 1) φ ro w r T le) : ∀ (q c g acc : Nat), c + q = nn → x < c → q < g → acc + us (gg (ow φ ro) (oc φ ro w) (od φ ro w) r T x d) q c < 1000000000 → F_X9_best_L75 x1 (nI x) (nI d) (nI nn) mpt (nI r) le g (nI acc) (nI c) = some (nI (acc + us (gg (ow φ ro) (oc φ ro w) (od φ ro w) r T x d) q c)) := by
  have hrr : ∀ c, c < nn → ∀ b, 48 ≤ b → bt (ro c) b = false := fun c hc b hb => hP.2 c hc b (by omega)
  have hown : ∀ c, c < nn → ow φ ro c ≤ 15360 := fun c hc => ow_le hφ (hrr c hc) (by omega)
  intro q
  induction q with
  | zero =>
    intro c g acc e1 e2 e3 e4
    obtain ⟨g, rfl⟩ : ∃ h, g = h + 1 := ⟨g - 1, by omega⟩
    rw [F_X9_best_L75, if_pos (nI_le (by omega) (by omega))]
    rfl
  | succ q ih =>
    intro c g acc e1 e2 e3 e4
    obtain ⟨g, rfl⟩ : ∃ h, g = h + 1 := ⟨g - 1, by omega⟩
    have hc : c < nn := by omega
    rw [us_s] at e4 ⊢
    have go : ∀ a, a = acc + gg (ow φ ro) (oc φ ro w) (od φ ro w) r T x d c → F_X9_best_L75 x1 (nI x) (nI d) (nI nn) mpt (nI r) le g (nI a) (nI (c + 1)) = some (nI (acc + (gg (ow φ ro) (oc φ ro w) (od φ ro w) r T x d c + us (gg (ow φ ro) (oc φ ro w) (od φ ro w) r T x d) q (c + 1)))) := fun a ha => by
      rw [ih (c + 1) g a (by omega) (by omega) (by omega) (by omega), ha, Nat.add_assoc]
    obtain ⟨h1, h2⟩ := hL c (by omega) hc
    have b0 := TB_le hn hT hown hc 0
    have b1 := TB_le hn hT hown hc (d + 1)
    have b2 := hown c hc
    obtain ⟨f1, f2, f3⟩ := fcs_le hφ (hrr c hc) (show c < 48 by omega) (min w c) (by omega)
    have f1 : oc φ ro w c ≤ 15360 := f1
    have hmp : (mpt c = nI x) ↔ (od φ ro w c ≠ 0 ∧ c - od φ ro w c = x) := by
      rw [(hW c hc).2.2]
      unfold mpB
      show ((if od φ ro w c = 0 then (-1 : Int32) else nI (c - od φ ro w c)) = nI x) ↔ _
      by_cases z : od φ ro w c = 0
      · rw [if_pos z]
        exact ⟨fun q => absurd q.symm (nI_m1 (by omega)), fun q => absurd z q.1⟩
      · rw [if_neg z, nI_eq (by omega) (by omega)]
        exact ⟨fun q => ⟨z, q⟩, fun q => q.2⟩
    have eg : gg (ow φ ro) (oc φ ro w) (od φ ro w) r T x d c = if od φ ro w c ≠ 0 ∧ c - od φ ro w c = x then con (ow φ ro) (oc φ ro w) r T c d else 0 := rfl
    have i7 : bn (nI (7 * c)) 336 = true := bn_nI (by omega) (by decide)
    have i8 : bn (nI (7 * c + d + 1)) 336 = true := bn_nI (by omega) (by decide)
    rw [F_X9_best_L75, if_neg (nI_ge hc (by omega)), if_neg (show ¬ (1000000000 : Int32) ≤ nI acc from nI_ge (b := 1000000000) (by omega) (by decide)), ck_t (bn_nI (show c < 48 by omega) (by decide)), clampN (show c < 2 ^ 31 by omega), if_cg hmp, show (7 : Int32) = nI 7 from rfl, pk_mul, nI_add, nI_1, nI_1]
    dsimp only [nm]
    simp only [ck_t i7, ck_t i8, clampN (show 7 * c < 2 ^ 31 by omega), clampN (show 7 * c + d + 1 < 2 ^ 31 by omega), h1, nI_add]
    by_cases z : od φ ro w c ≠ 0 ∧ c - od φ ro w c = x
    · rw [if_pos z]
      rw [if_pos z] at eg
      by_cases y : r ≤ d
      · rw [if_pos (nI_le y (by omega)), if_neg (show ¬ (1000000000 : Int32) ≤ nI (ow φ ro c + T c 0) from nI_ge (b := 1000000000) (by omega) (by decide))]
        exact go _ (by rw [eg]; unfold con; rw [if_neg (by omega)])
      · have h3 := h2 z.1 (d + 1) (by omega) (by omega)
        rw [show 7 * c + (d + 1) = 7 * c + d + 1 by omega] at h3
        rw [if_neg (nI_ge (by omega) (by omega)), h3, nI_add]
        by_cases v : oc φ ro w c + T c (d + 1) ≤ ow φ ro c + T c 0
        · rw [if_pos (nI_le v (by omega))]
          exact go _ (by rw [eg]; unfold con; rw [if_pos (by omega), Nat.min_eq_right v])
        · rw [if_neg (nI_ge (by omega) (by omega))]
          exact go _ (by rw [eg]; unfold con; rw [if_pos (by omega), Nat.min_eq_left (by omega)])
    · rw [if_neg z]
      rw [if_neg z] at eg
      exact go _ (by rw [eg, Nat.add_zero])
theorem M_L41 {fu nn w r x : Nat} {φ : NN} {ro : AJ} {no fo mow mpt mco le : AI} {T : Nat → NN} {x1 : Int32} (hf : 1000 ≤ fu) (hn : nn ≤ 48) (hP : RP nn ro no) (hw : w ≤ 7) (hr : r ≤ 5) (hφ : fok φ fo) (hx : x < nn) (hW : WR nn φ ro w mow mpt mco) (hT : isTB nn (ow φ ro) (oc φ ro w) (od φ ro w) r T) (hL : LE nn (x + 1) φ ro w r T le) : ∃ le2 : AI, F_X9_best_L41 fu x1 (nI x) (nI r) mco (nI nn) mpt mow fu 0 le = some le2 ∧ LE nn x φ ro w r T le2 := by
  have hrr : ∀ c, c < nn → ∀ b, 48 ≤ b → bt (ro c) b = false := fun c hc b hb => hP.2 c hc b (by omega)
  have hown : ∀ c, c < nn → ow φ ro c ≤ 15360 := fun c hc => ow_le hφ (hrr c hc) (by omega)
  have A : ∃ le2 : AI, F_X9_best_L41 fu x1 (nI x) (nI r) mco (nI nn) mpt mow fu 0 le = some le2 ∧ (LE nn (x + 1) φ ro w r T le2 ∧ (0 < r + 1 → le2 (7 * x) = nI (ow φ ro x + T x 0)) ∧ (¬ od φ ro w x = 0 → ∀ e, 1 ≤ e → e < r + 1 → le2 (7 * x + e) = nI (oc φ ro w x + T x e))) := by
    refine fwd (r + 1) (fun f j (s : AI) => F_X9_best_L41 fu x1 (nI x) (nI r) mco (nI nn) mpt mow f (nI j) s) (fun j s => LE nn (x + 1) φ ro w r T s ∧ (0 < j → s (7 * x) = nI (ow φ ro x + T x 0)) ∧ (¬ od φ ro w x = 0 → ∀ e, 1 ≤ e → e < j → s (7 * x + e) = nI (oc φ ro w x + T x e))) _ (fun f s hs => ?_) (fun f j s hj hs => Or.inl ?_) (r + 1) 0 fu le (by omega) (by omega) ⟨hL, fun z => absurd z (by omega), fun _ e h1 h2 => by omega⟩
    · exact ⟨s, by rw [F_X9_best_L41, if_pos ((nI_ltI (by omega) (by omega)).mpr (by omega))], hs⟩
    · obtain ⟨hs1, hs2, hs3⟩ := hs
      have hb0 := TB_le hn hT hown hx j
      have hTx : T x j = us (gg (ow φ ro) (oc φ ro w) (od φ ro w) r T x j) (nn - (x + 1)) (x + 1) := by
        rw [hT x hx j, show nn - 1 - x = nn - (x + 1) by omega]
      obtain ⟨f1, f2, f3⟩ := fcs_le hφ (hrr x hx) (show x < 48 by omega) (min w x) (by omega)
      have f1 : oc φ ro w x ≤ 15360 := f1
      have lo := hown x hx
      have sum : ∀ acc, acc ≤ 15360 → F_X9_best_L75 x1 (nI x) (nI j) (nI nn) mpt (nI r) s fu (nI acc) (nI (x + 1)) = some (nI (acc + T x j)) := fun acc ha => by
        rw [hTx]
        exact M_L75 hn hP hw hr (by omega) hφ hx hW hT hs1 (nn - (x + 1)) (x + 1) fu acc (by omega) (by omega) (by omega) (by rw [← hTx]; omega)
      have keep : ∀ v : Int32, LE nn (x + 1) φ ro w r T (upd s (7 * x + j) v) := fun v c h1 h2 => by
        obtain ⟨a, b⟩ := hs1 c h1 h2
        exact ⟨by rw [upd_n (by omega)]; exact a, fun z e g1 g2 => by rw [upd_n (by omega)]; exact b z e g1 g2⟩
      have hi : bn (nI (7 * x + j)) 336 = true := bn_nI (by omega) (by decide)
      rw [F_X9_best_L41, if_neg (fun z => by have := (nI_ltI (show r < 2 ^ 31 by omega) (show j < 2 ^ 31 by omega)).mp z; omega), ck_t (bn_nI (show x < 48 by omega) (by decide)), ck_t (bn_nI (show x < 48 by omega) (by decide)), clampN (show x < 2 ^ 31 by omega), (hW x hx).1, (hW x hx).2.1, nI_1, show (7 : Int32) = nI 7 from rfl, pk_mul, nI_add, nI_1]
      by_cases c : j = 0
      · rw [if_pos (show nI j = (0 : Int32) by rw [c]; rfl), sum _ lo, bd_some, ck_t hi, clampN (by omega)]
        refine ⟨_, rfl, keep _, fun _ => ?_, fun z e h1 h2 => by omega⟩
        rw [upd_if, if_pos (by omega), c]
      · rw [if_neg (show ¬ nI j = (0 : Int32) from nI_k (k := 0) (by omega) (by decide) c)]
        by_cases z : od φ ro w x = 0
        · have mc : mcB (fcs φ ro x (min w x)) = 1000000000 := if_pos z
          have nv : F_X9_best_L75 x1 (nI x) (nI j) (nI nn) mpt (nI r) s fu (1000000000 : Int32) (nI (x + 1)) = some 1000000000 := by
            obtain ⟨g, rfl⟩ : ∃ h, fu = h + 1 := ⟨fu - 1, by omega⟩
            rw [F_X9_best_L75]
            by_cases y : nI nn ≤ nI (x + 1)
            · rw [if_pos y]
            · rw [if_neg y, if_pos (by decide)]
          rw [mc, nv, bd_some, ck_t hi, clampN (by omega)]
          refine ⟨_, rfl, keep _, fun _ => ?_, fun y => absurd z y⟩
          rw [upd_n (by omega)]
          exact hs2 (by omega)
        · have mc : mcB (fcs φ ro x (min w x)) = nI (oc φ ro w x) := if_neg z
          rw [mc, sum _ f1, bd_some, ck_t hi, clampN (by omega)]
          refine ⟨_, rfl, keep _, fun _ => ?_, fun y e h1 h2 => ?_⟩
          · rw [upd_n (by omega)]
            exact hs2 (by omega)
          · rw [upd_if]
            by_cases v : e = j
            · rw [if_pos (by omega), v]
            · rw [if_neg (by omega)]
              exact hs3 y e h1 (by omega)
  obtain ⟨le2, a1, a2, a3, a4⟩ := A
  refine ⟨le2, a1, fun c h1 h2 => ?_⟩
  by_cases z : c = x
  · rw [z]
    exact ⟨a3 (by omega), fun y e g1 g2 => a4 y e g1 (by omega)⟩
  · exact a2 c (by omega) h2
theorem M_L35 {fu nn w r : Nat} {φ : NN} {ro : AJ} {no fo mow mpt mco : AI} {T : Nat → NN} (hf : 1000 ≤ fu) (hn : nn ≤ 48) (hP : RP nn ro no) (hw : w ≤ 7) (hr : r ≤ 5) (hφ : fok φ fo) (hW : WR nn φ ro w mow mpt mco) (hT : isTB nn (ow φ ro) (oc φ ro w) (od φ ro w) r T) : ∀ (d g : Nat) (acc : Int32) (le : AI), d ≤ nn → d < g → LE nn d φ ro w r T le → ∃ le2 : AI, F_X9_best_L35 fu (nI r) mco (nI nn) mpt mow g acc (nI d - 1) le = some (acc + nI (sm (rt φ ro w T) d), le2) := by
  intro d
  induction d with
  | zero =>
    intro g acc le e1 e2 e3
    obtain ⟨g, rfl⟩ : ∃ h, g = h + 1 := ⟨g - 1, by omega⟩
    rw [F_X9_best_L35, if_pos (show nI 0 - 1 < (0 : Int32) by decide), show acc + nI (sm (rt φ ro w T) 0) = acc from i_add0 acc]
    exact ⟨_, rfl⟩
  | succ d ih =>
    intro g acc le e1 e2 e3
    obtain ⟨g, rfl⟩ : ∃ h, g = h + 1 := ⟨g - 1, by omega⟩
    have hd : d < nn := by omega
    obtain ⟨le2, a1, a2⟩ := M_L41 (fu := fu) (x1 := acc) hf hn hP hw hr hφ hd hW hT e3
    have hm : (mpt d = (-1 : Int32)) ↔ od φ ro w d = 0 := by
      rw [(hW d hd).2.2]
      unfold mpB
      show ((if od φ ro w d = 0 then (-1 : Int32) else nI (d - od φ ro w d)) = -1) ↔ _
      by_cases z : od φ ro w d = 0
      · rw [if_pos z]; exact ⟨fun _ => z, fun _ => rfl⟩
      · rw [if_neg z]; exact ⟨fun q => absurd q (nI_m1 (by omega)), fun q => absurd q z⟩
    rw [nI_pred, F_X9_best_L35, if_neg (nI_pos (by omega)), a1, bd_some, ck_t (bn_nI (show d < 48 by omega) (by decide)), clampN (show d < 2 ^ 31 by omega), if_cg hm, show (7 : Int32) = nI 7 from rfl, pk_mul, ck_t (bn_nI (show 7 * d < 336 by omega) (by decide)), clampN (show 7 * d < 2 ^ 31 by omega), (a2 d (Nat.le_refl _) hd).1, ← Int32.sub_eq_add_neg, i_add0]
    by_cases z : od φ ro w d = 0
    · obtain ⟨le3, b1⟩ := ih g (acc + nI (ow φ ro d + T d 0)) le2 (by omega) (by omega) a2
      rw [if_pos z, b1, sm_succ, show rt φ ro w T d = ow φ ro d + T d 0 from if_pos z, Int32.add_assoc, nI_add, Nat.add_comm (sm (rt φ ro w T) d)]
      exact ⟨_, rfl⟩
    · obtain ⟨le3, b1⟩ := ih g acc le2 (by omega) (by omega) a2
      rw [if_neg z, b1, sm_succ, show rt φ ro w T d = 0 from if_neg z, Nat.add_zero]
      exact ⟨_, rfl⟩
theorem ok_best (BK : BKT) {fu : Nat} (hf : 20000 ≤ fu) : OK_best fu (Rel BK) := by
  intro nn X M hR
  obtain ⟨h1, hn, hmn, hP, hRR, hB⟩ := id hR
  obtain ⟨φ, q1, q2⟩ := RR_fok hRR
  obtain ⟨-, ⟨w, hw, va0, mw0⟩, ⟨r, hr, va1, mr0⟩, -⟩ := id hRR
  obtain ⟨T, hT⟩ := TB_ex nn (ow φ (xro_ X)) (oc φ (xro_ X) w) (od φ (xro_ X) w) r
  obtain ⟨ts2, cb2, cd2, us2, nu2, be2, a1⟩ := X_best (fu := fu) (us_ := xus_ X) (nu := xnu_ X) (be := xbe_ X) (ts := xts_ X) (cb := xcb_ X) (cd := xcd_ X) (by omega) hn hP.2 hw hr va0 va1 q1 hT
  obtain ⟨n3, l3, u3, v3, i3, m3, k3, ow3, pt3, co3, b1, b2⟩ := M_weighAll (fu := fu) (by omega) hn hP hw q2 nn 0 fu (mns_ M) (mld_ M) (mus_ M) (mnu_ M) (mli_ M) (mot_ M) (mbl_ M) (mow_ M) (mpt_ M) (mco_ M) (by omega) (by omega) (fun y hy => absurd hy (by omega))
  have b1 : F_X9_best_L7 fu (nI nn) (mno_ M) (mfo_ M) (nI w) fu 0 (mns_ M) (mus_ M) (mnu_ M) (mld_ M) (mli_ M) (mot_ M) (mbl_ M) (mow_ M) (mpt_ M) (mco_ M) = some (n3, u3, v3, l3, i3, m3, k3, ow3, pt3, co3) := b1
  obtain ⟨le4, c1⟩ := M_L35 (fu := fu) (by omega) hn hP hw hr q2 b2 hT nn fu 0 (mle_ M) (Nat.le_refl _) (by omega) (fun c g1 g2 => by omega)
  have EM : F_X9_best fu (mth_ M) (mn_ M) (mns_ M) (mus_ M) (mnu_ M) (mld_ M) (mno_ M) (mli_ M) (mot_ M) (mbl_ M) (mfo_ M) (mow_ M) (mpt_ M) (mco_ M) (mwi_ M) (mch_ M) (mle_ M) = some (nI (sm (rt φ (xro_ X) w T) nn), 0, n3, u3, v3, l3, i3, m3, k3, ow3, pt3, co3, le4) := by
    unfold F_X9_best
    rw [hmn, mw0, mr0, b1, bd_some]
    dsimp only
    rw [c1, bd_some, Int32.zero_add]
  unfold SX_best SM_best
  rw [a1, EM, bd_some, bd_some]
  exact ⟨_, _, _, rfl, rfl, h1, hn, hmn, hP, hRR, hB⟩

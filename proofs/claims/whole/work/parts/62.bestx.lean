/-! ===== pure: best, the class ===== -/
theorem X_belowOf {nn x d : Nat} {be : AI} (hn : nn ≤ 48) (hx : x < nn) (hd : d < 6) : F_X2_belowOf nn (nI x) (nI d) be = some (be (6 * x + d)) := by
  unfold F_X2_belowOf
  rw [ck_t (blen hn), show (6 : Int32) = nI 6 from rfl, pk_mul, nI_add, el_nI (show x * 6 + d < 6 * nn by omega) (by omega), Nat.mul_comm x 6]
theorem X_hang {fu nn x k al cb r : Nat} {B : NN} {be : AI} (hf : 1000 ≤ fu) (hn : nn ≤ 48) (hx : x < nn) (hk1 : 1 ≤ k) (hk : k ≤ x) (hr : r ≤ 5) (hb : ∀ d, d ≤ r → be (6 * x + d) = nI (B d) ∧ B d ≤ 737280) (hal : al ≤ 1000000) (hcb : cb ≤ 15360) : ∃ be2 : AI, F_X2_hang fu nn (nI x) (nI al) (nI r) (nI k) be (nI cb) = some be2 ∧ ∀ y d, y < nn → d < 6 → be2 (6 * y + d) = if y = x - k ∧ d ≤ r then be (6 * y + d) + nI (if d < r then min al (cb + B (d + 1)) else al) else be (6 * y + d) := by
  have A : ∃ be2 : AI, F_X2_hang_L3 nn (nI x) (nI al) (nI r) (nI k) (nI cb) fu 0 be = some be2 ∧ ∀ y d, y < nn → d < 6 → be2 (6 * y + d) = if y = x - k ∧ d < r + 1 then be (6 * y + d) + nI (if d < r then min al (cb + B (d + 1)) else al) else be (6 * y + d) := by
    refine fwd (r + 1) (fun f j (s : AI) => F_X2_hang_L3 nn (nI x) (nI al) (nI r) (nI k) (nI cb) f (nI j) s) (fun j s => ∀ y d, y < nn → d < 6 → s (6 * y + d) = if y = x - k ∧ d < j then be (6 * y + d) + nI (if d < r then min al (cb + B (d + 1)) else al) else be (6 * y + d)) _ (fun f s hs => ?_) (fun f j s hj hs => Or.inl ?_) (r + 1) 0 fu be (by omega) (by omega) (fun y d _ _ => by rw [if_neg (by omega)])
    · exact ⟨s, by rw [F_X2_hang_L3, if_pos ((nI_ltI (by omega) (by omega)).mpr (by omega))], hs⟩
    · have hix : (x - k) * 6 + j < 6 * nn := by omega
      have fin : ∀ v : Nat, v = (if j < r then min al (cb + B (j + 1)) else al) → ∀ y d, y < nn → d < 6 → upd s ((x - k) * 6 + j) (s ((x - k) * 6 + j) + nI v) (6 * y + d) = if y = x - k ∧ d < j + 1 then be (6 * y + d) + nI (if d < r then min al (cb + B (d + 1)) else al) else be (6 * y + d) := by
        intro v hv y d hy hd
        rw [upd_if]
        by_cases c : y = x - k ∧ d = j
        · obtain ⟨c1, c2⟩ := c
          have h0 := hs (x - k) j (by omega) (by omega)
          rw [if_neg (by omega)] at h0
          rw [if_pos (by omega), if_pos ⟨c1, by omega⟩, Nat.mul_comm (x - k) 6, h0, hv, c1, c2]
        · rw [if_neg (by omega), hs y d hy hd]
          by_cases e : y = x - k ∧ d < j
          · rw [if_pos e, if_pos (show y = x - k ∧ d < j + 1 from ⟨e.1, by omega⟩)]
          · rw [if_neg e, if_neg (by omega)]
      rw [F_X2_hang_L3, if_neg (fun z => by have := (nI_ltI (show r < 2 ^ 31 by omega) (show j < 2 ^ 31 by omega)).mp z; omega), if_neg (show ¬ (6 : Int32) ≤ nI j from nI_ge (b := 6) (by omega) (by decide)), sub_all hk, show (6 : Int32) = nI 6 from rfl, pk_mul, nI_add, nI_1]
      by_cases c : r ≤ j
      · rw [if_pos (nI_le c (by omega)), if_neg (nI_pos (by omega)), if_neg (nI_ge hix (by omega)), ck_t (bn_nI hix (by omega)), ck_t (bn_nI hix (by omega)), clampN (by omega)]
        exact ⟨_, rfl, fin al (by rw [if_neg (by omega)])⟩
      · have h1 := hs x (j + 1) hx (by omega)
        rw [if_neg (by omega)] at h1
        obtain ⟨h2, h3⟩ := hb (j + 1) (by omega)
        rw [if_neg (nI_ge (by omega) (by omega)), X_belowOf hn hx (by omega), bd_some, h1, h2, nI_add, fminN (by omega) (by omega), bd_some, if_neg (nI_pos (by omega)), if_neg (nI_ge hix (by omega)), ck_t (bn_nI hix (by omega)), ck_t (bn_nI hix (by omega)), clampN (by omega)]
        exact ⟨_, rfl, fin _ (by rw [if_pos (by omega)])⟩
  obtain ⟨be2, a1, a2⟩ := A
  unfold F_X2_hang
  rw [a1, bd_some]
  refine ⟨be2, rfl, fun y d hy hd => ?_⟩
  rw [a2 y d hy hd]
  exact if_cg (by omega) _ _
def oc (φ : NN) (ro : AJ) (w : Nat) : NN := fun c => (fcs φ ro c (min w c)).1
def od (φ : NN) (ro : AJ) (w : Nat) : NN := fun c => (fcs φ ro c (min w c)).2
/-- the roots' sums -/
def rt (φ : NN) (ro : AJ) (w : Nat) (T : Nat → NN) : NN := fun c => if od φ ro w c = 0 then ow φ ro c + T c 0 else 0
theorem X_leastL {fu nn w r : Nat} {φ : NN} {ro : AJ} {fo va : AI} {T : Nat → NN} (hf : 1000 ≤ fu) (hn : nn ≤ 48) (hz : ∀ a, a < nn → ∀ b, nn ≤ b → bt (ro a) b = false) (hw : w ≤ 7) (hr : r ≤ 5) (hva0 : va 0 = nI w) (hφ : fok φ fo) (hT : isTB nn (ow φ ro) (oc φ ro w) (od φ ro w) r T) : ∀ (d g : Nat) (acc ts cb cd : Int32) (us_ nu be : AI), d ≤ nn → d < g → (∀ y, y < d → ∀ e, e ≤ r → be (6 * y + e) = nI (us (gg (ow φ ro) (oc φ ro w) (od φ ro w) r T y e) (nn - d) d)) → ∃ (ts2 cb2 cd2 : Int32) (us2 nu2 be2 : AI), F_X2_leastSum_L26 fu nn (nI r) ro fo va g acc (nI d - 1) ts us_ nu cb cd be = some (acc + nI (sm (rt φ ro w T) d), ts2, us2, nu2, cb2, cd2, be2) := by
  have hown : ∀ c, c < nn → ow φ ro c ≤ 15360 := fun c hc => ow_le hφ (fun b hb => hz c hc b (by omega)) (by omega)
  intro d
  induction d with
  | zero =>
    intro g acc ts cb cd us_ nu be e1 e2 e3
    obtain ⟨g, rfl⟩ : ∃ h, g = h + 1 := ⟨g - 1, by omega⟩
    rw [F_X2_leastSum_L26, if_pos (show nI 0 - 1 < (0 : Int32) by decide), show acc + nI (sm (rt φ ro w T) 0) = acc from i_add0 acc]
    exact ⟨_, _, _, _, _, _, rfl⟩
  | succ d ih =>
    intro g acc ts cb cd us_ nu be e1 e2 e3
    obtain ⟨g, rfl⟩ : ∃ h, g = h + 1 := ⟨g - 1, by omega⟩
    have hd : d < nn := by omega
    have hrd : ∀ b, 48 ≤ b → bt (ro d) b = false := fun b hb => hz d hd b (by omega)
    obtain ⟨ts2, us2, nu2, a1⟩ := X_alone (fu := fu) (ts := ts) (us := us_) (nu := nu) hf hn hz hd hφ
    obtain ⟨ts3, us3, nu3, a2⟩ := X_find (fu := fu) (ts := ts2) (us := us2) (nu := nu2) (cb := cb) (cd := cd) hf hn hz hd hw hva0 hφ
    have hTd : ∀ e, e ≤ r → be (6 * d + e) = nI (T d e) ∧ T d e ≤ 737280 := fun e he => by
      refine ⟨?_, TB_le hn hT hown hd e⟩
      rw [e3 d (by omega) e he, hT d hd e, show nn - 1 - d = nn - (d + 1) by omega]
    have al0 := hTd 0 (by omega)
    obtain ⟨f1, f2, f3⟩ := fcs_le hφ hrd (show d < 48 by omega) (min w d) (by omega)
    have hz0 : F_X2_belowOf nn (nI d) (0 : Int32) be = some (be (6 * d + 0)) := X_belowOf (d := 0) hn hd (by decide)
    rw [nI_pred, F_X2_leastSum_L26, if_neg (nI_pos (by omega)), a1, bd_some]
    dsimp only
    rw [hz0, bd_some, a2, bd_some, al0.1, nI_add]
    dsimp only
    have e0 : nn - d = (nn - (d + 1)) + 1 := by omega
    have ho := hown d hd
    by_cases c : (fcs φ ro d (min w d)).2 = 0
    · have c' : od φ ro w d = 0 := c
      obtain ⟨ts4, cb4, cd4, us4, nu4, be4, k1⟩ := ih g (acc + nI (ow φ ro d + T d 0)) ts3 (xcB (fcs φ ro d (min w d))) (nI (fcs φ ro d (min w d)).2) us3 nu3 be (by omega) (by omega) (fun y hy e he => by
        rw [e3 y (by omega) e he, e0, us_s]
        rw [show gg (ow φ ro) (oc φ ro w) (od φ ro w) r T y e d = 0 from if_neg (fun z => z.1 c'), Nat.zero_add])
      refine ⟨ts4, cb4, cd4, us4, nu4, be4, ?_⟩
      rw [if_pos (by rw [c]; rfl), ← Int32.sub_eq_add_neg, k1, sm_succ, show rt φ ro w T d = ow φ ro d + T d 0 from if_pos c', Int32.add_assoc, nI_add, Nat.add_comm (sm (rt φ ro w T) d)]
    · have c' : ¬ od φ ro w d = 0 := c
      obtain ⟨be5, b1, b2⟩ := X_hang (fu := fu) (nn := nn) (x := d) (k := (fcs φ ro d (min w d)).2) (al := ow φ ro d + T d 0) (cb := (fcs φ ro d (min w d)).1) (r := r) (B := T d) (be := be) hf hn hd (by omega) (by omega) hr hTd (by omega) f1
      obtain ⟨ts4, cb4, cd4, us4, nu4, be4, k1⟩ := ih g acc ts3 (nI (fcs φ ro d (min w d)).1) (nI (fcs φ ro d (min w d)).2) us3 nu3 be5 (by omega) (by omega) (fun y hy e he => by
        rw [b2 y e (by omega) (by omega), e3 y (by omega) e he, e0, us_s]
        show _ = nI ((if od φ ro w d ≠ 0 ∧ d - od φ ro w d = y then con (ow φ ro) (oc φ ro w) r T d e else 0) + _)
        by_cases z : y = d - (fcs φ ro d (min w d)).2
        · rw [if_pos (show y = d - (fcs φ ro d (min w d)).2 ∧ e ≤ r from ⟨z, he⟩), if_pos (show od φ ro w d ≠ 0 ∧ d - od φ ro w d = y from ⟨c', z.symm⟩), nI_add, Nat.add_comm]
          rfl
        · rw [if_neg (fun q => z q.1), if_neg (fun q => z q.2.symm), Nat.zero_add])
      refine ⟨ts4, cb4, cd4, us4, nu4, be4, ?_⟩
      rw [if_neg (show ¬ nI (fcs φ ro d (min w d)).2 = (0 : Int32) from nI_k (k := 0) (by omega) (by decide) c), show xcB (fcs φ ro d (min w d)) = nI (fcs φ ro d (min w d)).1 from if_neg c, b1, bd_some, ← Int32.sub_eq_add_neg, k1, sm_succ, show rt φ ro w T d = 0 from if_neg c', Nat.add_zero]
theorem X_best {fu nn w r : Nat} {φ : NN} {ro : AJ} {fo va us_ nu be : AI} {ts cb cd : Int32} {T : Nat → NN} (hf : 1000 ≤ fu) (hn : nn ≤ 48) (hz : ∀ a, a < nn → ∀ b, nn ≤ b → bt (ro a) b = false) (hw : w ≤ 7) (hr : r ≤ 5) (hva0 : va 0 = nI w) (hva1 : va 1 = nI r) (hφ : fok φ fo) (hT : isTB nn (ow φ ro) (oc φ ro w) (od φ ro w) r T) : ∃ (ts2 cb2 cd2 : Int32) (us2 nu2 be2 : AI), F_X8_best fu nn be va ro ts us_ nu fo cb cd = some (nI (sm (rt φ ro w T) nn), be2, ts2, us2, nu2, cb2, cd2) := by
  obtain ⟨ts2, cb2, cd2, us2, nu2, be2, a1⟩ := X_leastL (fu := fu) (fo := fo) (va := va) hf hn hz hw hr hva0 hφ hT nn fu 0 ts cb cd us_ nu (fl (6 * nn) be 0) (Nat.le_refl _) (by omega) (fun y hy e he => by
    rw [Nat.sub_self]
    show (if 6 * y + e < 6 * nn then (0 : Int32) else _) = nI 0
    rw [if_pos (by omega)]
    rfl)
  unfold F_X8_best F_X2_leastSum
  rw [ck_t (blen hn), show F_X5_valueOf (1 : Int32) va = some (va 1) from X_valueOf (i := 1) (by decide), bd_some, hva1, a1, bd_some, bd_some, Int32.zero_add]
  exact ⟨_, _, _, _, _, _, rfl⟩

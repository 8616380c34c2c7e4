/-! ===== pure: least sums over trees ===== -/
def us (g : NN) : Nat → Nat → Nat
  | 0, _ => 0
  | q + 1, c => g c + us g q (c + 1)
theorem us_s (g : NN) (q c : Nat) : us g (q + 1) c = g c + us g q (c + 1) := rfl
theorem us_cong {g h : NN} : ∀ {q c : Nat}, (∀ k, c ≤ k → k < c + q → g k = h k) → us g q c = us h q c
  | 0, _, _ => rfl
  | q + 1, c, hh => by rw [us_s, us_s, hh c (Nat.le_refl _) (by omega), us_cong (fun k h1 h2 => hh k (by omega) (by omega))]
theorem us_mono {g h : NN} : ∀ {q c : Nat}, (∀ k, c ≤ k → k < c + q → g k ≤ h k) → us g q c ≤ us h q c
  | 0, _, _ => Nat.le_refl _
  | q + 1, c, hh => by
    have h1 := hh c (Nat.le_refl _) (by omega)
    have h2 := us_mono (q := q) (c := c + 1) (g := g) (h := h) (fun k h1 h2 => hh k (by omega) (by omega))
    rw [us_s, us_s]
    omega
theorem us_mul (m : Nat) (g : NN) : ∀ q c : Nat, us (fun k => m * g k) q c = m * us g q c
  | 0, _ => rfl
  | q + 1, c => by rw [us_s, us_s, us_mul m g q (c + 1), Nat.mul_add]
theorem us_split (g : NN) : ∀ q t c : Nat, us g (q + t) c = us g q c + us g t (c + q)
  | 0, t, c => by rw [Nat.zero_add]; show _ = 0 + _; rw [Nat.zero_add]; rfl
  | q + 1, t, c => by
    rw [show q + 1 + t = (q + t) + 1 by omega, us_s, us_s, us_split g q t (c + 1), show c + 1 + q = c + (q + 1) by omega]
    omega
def con (own C : NN) (r : Nat) (T : Nat → NN) (c d : Nat) : Nat := if d < r then min (own c + T c 0) (C c + T c (d + 1)) else own c + T c 0
def gg (own C dist : NN) (r : Nat) (T : Nat → NN) (y d : Nat) : NN := fun c => if dist c ≠ 0 ∧ c - dist c = y then con own C r T c d else 0
def isTB (nn : Nat) (own C dist : NN) (r : Nat) (T : Nat → NN) : Prop := ∀ c, c < nn → ∀ d, T c d = us (gg own C dist r T c d) (nn - 1 - c) (c + 1)
theorem gg_cong {own C dist : NN} {r : Nat} {T U : Nat → NN} {y d c : Nat} (h : ∀ e, T c e = U c e) : gg own C dist r T y d c = gg own C dist r U y d c := by
  unfold gg con
  rw [h 0, h (d + 1)]
theorem TB_ex (nn : Nat) (own C dist : NN) (r : Nat) : ∃ T : Nat → NN, isTB nn own C dist r T := by
  have K : ∀ j, j ≤ nn → ∃ T : Nat → NN, ∀ c, nn - j ≤ c → c < nn → ∀ d, T c d = us (gg own C dist r T c d) (nn - 1 - c) (c + 1) := by
    intro j
    induction j with
    | zero => exact fun _ => ⟨fun _ _ => 0, fun c h1 h2 => by omega⟩
    | succ j ih =>
      intro hj
      obtain ⟨T, hT⟩ := ih (by omega)
      refine ⟨fun c d => if c = nn - 1 - j then us (gg own C dist r T c d) (nn - 1 - c) (c + 1) else T c d, fun c h1 h2 d => ?_⟩
      have hc : us (gg own C dist r (fun c d => if c = nn - 1 - j then us (gg own C dist r T c d) (nn - 1 - c) (c + 1) else T c d) c d) (nn - 1 - c) (c + 1) = us (gg own C dist r T c d) (nn - 1 - c) (c + 1) := us_cong (fun k h3 h4 => gg_cong (fun e => if_neg (by omega)))
      rw [hc]
      show (if c = nn - 1 - j then us (gg own C dist r T c d) (nn - 1 - c) (c + 1) else T c d) = _
      by_cases e : c = nn - 1 - j
      · rw [if_pos e]
      · rw [if_neg e]
        exact hT c (by omega) h2 d
  obtain ⟨T, hT⟩ := K nn (Nat.le_refl _)
  exact ⟨T, fun c hc d => hT c (by omega) hc d⟩
theorem sm_gone {x p v : Nat} : ∀ {n : Nat}, sm (fun y => if p ≠ 0 ∧ x - p = y then v else 0) n ≤ v
  | 0 => Nat.zero_le _
  | n + 1 => by
    rw [sm_succ]
    by_cases c : p ≠ 0 ∧ x - p = n
    · rw [sm_zero (n := n) (f := fun y => if p ≠ 0 ∧ x - p = y then v else 0) (fun k hk => if_neg (by omega)), if_pos c]
      omega
    · rw [if_neg c]
      exact sm_gone
theorem Z_sum {nn : Nat} {dist : NN} {Z : Nat → NN} (hZ : isTB nn (fun _ => 1) (fun _ => 0) dist 0 Z) : ∀ j, j ≤ nn → sm (fun y => us (gg (fun _ => 1) (fun _ => 0) dist 0 Z y 0) j (nn - j)) (nn - j) ≤ j := by
  intro j
  induction j with
  | zero => exact fun _ => by rw [sm_zero (f := fun y => us (gg (fun _ => 1) (fun _ => 0) dist 0 Z y 0) 0 (nn - 0)) (fun k _ => rfl)]; exact Nat.le_refl _
  | succ j ih =>
    intro hj
    have ih := ih (by omega)
    have e0 : nn - j = (nn - (j + 1)) + 1 := by omega
    have e1 : (fun y => us (gg (fun _ => 1) (fun _ => 0) dist 0 Z y 0) (j + 1) (nn - (j + 1))) = fun y => (if dist (nn - (j + 1)) ≠ 0 ∧ (nn - (j + 1)) - dist (nn - (j + 1)) = y then 1 + Z (nn - (j + 1)) 0 else 0) + us (gg (fun _ => 1) (fun _ => 0) dist 0 Z y 0) j (nn - j) := by
      funext y
      rw [us_s, ← e0]
      rfl
    rw [e1, sm_add]
    have h1 := sm_gone (x := nn - (j + 1)) (p := dist (nn - (j + 1))) (v := 1 + Z (nn - (j + 1)) 0) (n := nn - (j + 1))
    have h2 := hZ (nn - (j + 1)) (by omega) 0
    rw [show nn - 1 - (nn - (j + 1)) = j by omega, ← e0] at h2
    have h3 : sm (fun y => us (gg (fun _ => 1) (fun _ => 0) dist 0 Z y 0) j (nn - j)) (nn - j) = sm (fun y => us (gg (fun _ => 1) (fun _ => 0) dist 0 Z y 0) j (nn - j)) (nn - (j + 1)) + us (gg (fun _ => 1) (fun _ => 0) dist 0 Z (nn - (j + 1)) 0) j (nn - j) := by
      rw [show sm (fun y => us (gg (fun _ => 1) (fun _ => 0) dist 0 Z y 0) j (nn - j)) (nn - j) = sm (fun y => us (gg (fun _ => 1) (fun _ => 0) dist 0 Z y 0) j (nn - j)) ((nn - (j + 1)) + 1) from congrArg _ e0, sm_succ]
    omega
theorem sm_term {f : Nat → Nat} {k : Nat} : ∀ {n : Nat}, k < n → f k ≤ sm f n
  | 0, h => absurd h (by omega)
  | n + 1, h => by
    rw [sm_succ]
    by_cases e : k = n
    · rw [e]; omega
    · have := sm_term (f := f) (k := k) (n := n) (by omega)
      omega
theorem Z_le {nn x : Nat} {dist : NN} {Z : Nat → NN} (hZ : isTB nn (fun _ => 1) (fun _ => 0) dist 0 Z) (hx : x < nn) : Z x 0 ≤ nn := by
  have h1 := Z_sum hZ (nn - 1 - x) (by omega)
  rw [show nn - (nn - 1 - x) = x + 1 by omega] at h1
  have h2 := sm_term (f := fun y => us (gg (fun _ => 1) (fun _ => 0) dist 0 Z y 0) (nn - 1 - x) (x + 1)) (k := x) (n := x + 1) (by omega)
  have h3 := hZ x hx 0
  rw [h3]
  have h2 : us (gg (fun _ => 1) (fun _ => 0) dist 0 Z x 0) (nn - 1 - x) (x + 1) ≤ _ := h2
  omega
theorem TB_le1 {nn r b : Nat} {own C dist : NN} {T Z : Nat → NN} (hT : isTB nn own C dist r T) (hZ : isTB nn (fun _ => 1) (fun _ => 0) dist 0 Z) (ho : ∀ c, c < nn → own c ≤ b) : ∀ j c, c + j = nn - 1 → c < nn → ∀ d, T c d ≤ b * Z c 0 := by
  intro j
  induction j using Nat.strongRecOn with
  | ind j ih =>
    intro c hc hcn d
    rw [hT c hcn d, hZ c hcn 0, ← us_mul]
    refine us_mono (fun k h1 h2 => ?_)
    show (if dist k ≠ 0 ∧ k - dist k = c then con own C r T k d else 0) ≤ b * (if dist k ≠ 0 ∧ k - dist k = c then con (fun _ => 1) (fun _ => 0) 0 Z k 0 else 0)
    by_cases e : dist k ≠ 0 ∧ k - dist k = c
    · rw [if_pos e, if_pos e]
      have h3 := ih (nn - 1 - k) (by omega) k (by omega) (by omega) 0
      have h4 := ho k (by omega)
      have h5 : con (fun _ => 1) (fun _ => 0) 0 Z k 0 = 1 + Z k 0 := by
        unfold con
        rw [if_neg (by omega)]
      rw [h5, Nat.mul_add, Nat.mul_one]
      unfold con
      by_cases q : d < r
      · rw [if_pos q]
        have := Nat.min_le_left (own k + T k 0) (C k + T k (d + 1))
        omega
      · rw [if_neg q]
        omega
    · rw [if_neg e, if_neg e]
      omega
theorem TB_le {nn r : Nat} {own C dist : NN} {T : Nat → NN} (hn : nn ≤ 48) (hT : isTB nn own C dist r T) (ho : ∀ c, c < nn → own c ≤ 15360) {c : Nat} (hc : c < nn) (d : Nat) : T c d ≤ 737280 := by
  obtain ⟨Z, hZ⟩ := TB_ex nn (fun _ => 1) (fun _ => 0) dist 0
  have h1 := TB_le1 hT hZ ho (nn - 1 - c) c (by omega) hc d
  have h2 := Z_le hZ hc
  have h3 : 15360 * Z c 0 ≤ 15360 * 48 := Nat.mul_le_mul_left _ (by omega)
  omega
/-! what the rows weigh -/
def ow (φ : NN) (ro : AJ) (x : Nat) : Nat := min (min (bq φ ro x 0 0) (bq φ ro x 1 0)) (cq φ ro x 4 0)
def ek (φ : NN) (ro : AJ) (x k : Nat) : Nat := if ro x = ro (x - k) then min (bq φ ro x 2 k) (bq φ ro x 3 k) else bq φ ro x 2 k
def fcs (φ : NN) (ro : AJ) (x : Nat) : Nat → Nat × Nat
  | 0 => (0, 0)
  | k + 1 => if (fcs φ ro x k).2 = 0 ∨ ek φ ro x (k + 1) < (fcs φ ro x k).1 then (ek φ ro x (k + 1), k + 1) else fcs φ ro x k
theorem fcs_s (φ : NN) (ro : AJ) (x k : Nat) : fcs φ ro x (k + 1) = if (fcs φ ro x k).2 = 0 ∨ ek φ ro x (k + 1) < (fcs φ ro x k).1 then (ek φ ro x (k + 1), k + 1) else fcs φ ro x k := rfl
theorem ek_le {φ : NN} {fo : AI} {ro : AJ} {x k : Nat} (h : fok φ fo) (hr : ∀ b, 48 ≤ b → bt (ro x) b = false) (hx : x < 48) (hk : k ≤ x) : ek φ ro x k ≤ 15360 := by
  have h2 := bq_le (ro := ro) (x := x) (kd := 2) (k := k) h hr hx (by decide) (fun _ => hk)
  unfold ek
  by_cases c : ro x = ro (x - k)
  · rw [if_pos c]; omega
  · rw [if_neg c]; exact h2
theorem fcs_le {φ : NN} {fo : AI} {ro : AJ} {x : Nat} (h : fok φ fo) (hr : ∀ b, 48 ≤ b → bt (ro x) b = false) (hx : x < 48) : ∀ m, m ≤ x → (fcs φ ro x m).1 ≤ 15360 ∧ (fcs φ ro x m).2 ≤ m ∧ (0 < m → (fcs φ ro x m).2 ≠ 0)
  | 0, _ => ⟨by show 0 ≤ 15360; decide, Nat.le_refl _, fun z => absurd z (by omega)⟩
  | m + 1, hm => by
    obtain ⟨a, b, c⟩ := fcs_le h hr hx m (by omega)
    rw [fcs_s]
    by_cases q : (fcs φ ro x m).2 = 0 ∨ ek φ ro x (m + 1) < (fcs φ ro x m).1
    · rw [if_pos q]
      exact ⟨ek_le h hr hx (by omega), Nat.le_refl _, fun _ => by show m + 1 ≠ 0; omega⟩
    · rw [if_neg q]
      exact ⟨a, by omega, fun _ z => q (Or.inl z)⟩
theorem ow_le {φ : NN} {fo : AI} {ro : AJ} {x : Nat} (h : fok φ fo) (hr : ∀ b, 48 ≤ b → bt (ro x) b = false) (hx : x < 48) : ow φ ro x ≤ 15360 := by
  have := bq_le (ro := ro) (x := x) (kd := 0) (k := 0) h hr hx (by decide) (fun q => by omega)
  unfold ow
  omega
/-! the class -/
theorem X_alone {fu nn x : Nat} {φ : NN} {ro : AJ} {fo us nu : AI} {ts : Int32} (hf : 1000 ≤ fu) (hn : nn ≤ 48) (hz : ∀ a, a < nn → ∀ b, nn ≤ b → bt (ro a) b = false) (hx : x < nn) (hφ : fok φ fo) : ∃ (ts2 : Int32) (us2 nu2 : AI), F_X2_bitsAlone fu nn (nI x) ro ts us nu fo = some (nI (ow φ ro x), ts2, us2, nu2) := by
  have hr : ∀ b, 48 ≤ b → bt (ro x) b = false := fun b hb => hz x hx b (by omega)
  have l0 := bq_le (ro := ro) (x := x) (kd := 0) (k := 0) hφ hr (by omega) (by decide) (fun q => by omega)
  have l1 := bq_le (ro := ro) (x := x) (kd := 1) (k := 0) hφ hr (by omega) (by decide) (fun q => by omega)
  have l4 := bq_le (ro := ro) (x := x) (kd := 4) (k := 0) hφ hr (by omega) (by decide) (fun q => by omega)
  have c4 : cq φ ro x 4 0 ≤ 1000000 := by
    unfold cq
    split <;> omega
  have c0 : cq φ ro x 0 0 = bq φ ro x 0 0 := by unfold cq; rw [if_pos (show okt ro x 0 0 = true from rfl)]
  have c1 : cq φ ro x 1 0 = bq φ ro x 1 0 := by unfold cq; rw [if_pos (show okt ro x 1 0 = true from rfl)]
  obtain ⟨z0, us0, nu0, X0⟩ := X_bts (fu := fu) (kk := 0) (k := 0) (kd := 0) (ts := ts) (us := us) (nu := nu) hf hn hz hx (by decide) (fun q => by omega) hφ
  obtain ⟨z1, us1, nu1, X1⟩ := X_bts (fu := fu) (kk := 0) (k := 0) (kd := 1) (ts := z0) (us := us0) (nu := nu0) hf hn hz hx (by decide) (fun q => by omega) hφ
  obtain ⟨z4, us4, nu4, X4⟩ := X_bts (fu := fu) (kk := 0) (k := 0) (kd := 4) (ts := z1) (us := us1) (nu := nu1) hf hn hz hx (by decide) (fun q => by omega) hφ
  have st : ∀ (g kd a v : Nat) (ts ts2 : Int32) (us nu us2 nu2 : AI), kd < 5 → ¬ (kd = 2 ∨ kd = 3) → a < 2 ^ 31 → v < 2 ^ 31 → F_X6_bitsToTell fu nn (nI x) (nI kd) 0 ro ts us nu fo = some (nI v, ts2, us2, nu2) → F_X2_bitsAlone_L7 fu nn (nI x) ro fo (g + 1) (nI a) (nI kd) ts us nu = F_X2_bitsAlone_L7 fu nn (nI x) ro fo g (nI (min a v)) (nI (kd + 1)) ts2 us2 nu2 := by
    intro g kd a v ts ts2 us nu us2 nu2 h5 hc ha hv hb
    rw [F_X2_bitsAlone_L7, if_neg (show ¬ (5 : Int32) ≤ nI kd from nI_ge (b := 5) h5 (by decide)), X_isCopy h5, bd_some, if10', if_neg hc, hb, bd_some, fminN ha hv, bd_some, nI_1]
  have sk : ∀ (g kd : Nat) (a ts : Int32) (us nu : AI), kd < 5 → (kd = 2 ∨ kd = 3) → F_X2_bitsAlone_L7 fu nn (nI x) ro fo (g + 1) a (nI kd) ts us nu = F_X2_bitsAlone_L7 fu nn (nI x) ro fo g a (nI (kd + 1)) ts us nu := by
    intro g kd a ts us nu h5 hc
    rw [F_X2_bitsAlone_L7, if_neg (show ¬ (5 : Int32) ≤ nI kd from nI_ge (b := 5) h5 (by decide)), X_isCopy h5, bd_some, if10', if_pos hc, nI_1]
  have K : ∀ F, 6 ≤ F → F_X2_bitsAlone_L7 fu nn (nI x) ro fo F (nI 1000000) (nI 0) ts us nu = some (nI (ow φ ro x), z4, us4, nu4) := by
    intro F hF
    obtain ⟨g, rfl⟩ : ∃ g, F = g + 1 + 1 + 1 + 1 + 1 + 1 := ⟨F - 6, by omega⟩
    rw [st _ 0 _ _ _ _ _ _ _ _ (by decide) (by decide) (by decide) (by omega) X0, st _ 1 _ _ _ _ _ _ _ _ (by decide) (by decide) (by omega) (by omega) X1, sk _ 2 _ _ _ _ (by decide) (by decide), sk _ 3 _ _ _ _ (by decide) (by decide), st _ 4 _ _ _ _ _ _ _ _ (by decide) (by decide) (by omega) (by omega) X4, F_X2_bitsAlone_L7, if_pos (show (5 : Int32) ≤ nI (4 + 1) by decide), c0, c1]
    rw [show min (min (min 1000000 (bq φ ro x 0 0)) (bq φ ro x 1 0)) (cq φ ro x 4 0) = ow φ ro x by unfold ow; omega]
  unfold F_X2_bitsAlone
  rw [show F_X2_bitsAlone_L7 fu nn (nI x) ro fo fu 1000000 0 ts us nu = _ from K fu (by omega), bd_some]
  exact ⟨_, _, _, rfl⟩
def xcB (s : Nat × Nat) : Int32 := if s.2 = 0 then 1000000 else nI s.1
theorem X_find {fu nn x w : Nat} {φ : NN} {ro : AJ} {fo us nu va : AI} {ts cb cd : Int32} (hf : 1000 ≤ fu) (hn : nn ≤ 48) (hz : ∀ a, a < nn → ∀ b, nn ≤ b → bt (ro a) b = false) (hx : x < nn) (hw : w ≤ 7) (hva0 : va 0 = nI w) (hφ : fok φ fo) : ∃ (ts2 : Int32) (us2 nu2 : AI), F_X2_findCopy fu nn (nI x) cb cd va ro ts us nu fo = some (xcB (fcs φ ro x (min w x)), nI (fcs φ ro x (min w x)).2, ts2, us2, nu2) := by
  have hr : ∀ b, 48 ≤ b → bt (ro x) b = false := fun b hb => hz x hx b (by omega)
  have L : ∀ (q j g : Nat) (ts : Int32) (us nu : AI), j + q = min w x → q < g → ∃ (ts2 : Int32) (us2 nu2 : AI), F_X2_findCopy_L25 fu nn (nI x) (nI (min w x)) ro fo g (nI (j + 1)) ts us nu (xcB (fcs φ ro x j)) (nI (fcs φ ro x j).2) = some (ts2, us2, nu2, xcB (fcs φ ro x (min w x)), nI (fcs φ ro x (min w x)).2) := by
    intro q
    induction q with
    | zero =>
      intro j g ts us nu e1 e2
      obtain ⟨g, rfl⟩ : ∃ h, g = h + 1 := ⟨g - 1, by omega⟩
      rw [F_X2_findCopy_L25, if_pos ((nI_ltI (by omega) (by omega)).mpr (by omega)), show j = min w x by omega]
      exact ⟨_, _, _, rfl⟩
    | succ q ih =>
      intro j g ts us nu e1 e2
      obtain ⟨g, rfl⟩ : ∃ h, g = h + 1 := ⟨g - 1, by omega⟩
      have hj : j + 1 ≤ x := by omega
      obtain ⟨z2, us2, nu2, X2⟩ := X_bts (fu := fu) (kk := nI (j + 1)) (k := j + 1) (kd := 2) (ts := ts) (us := us) (nu := nu) hf hn hz hx (by decide) (fun _ => ⟨rfl, by omega, hj⟩) hφ
      obtain ⟨z3, us3, nu3, X3⟩ := X_bts (fu := fu) (kk := nI (j + 1)) (k := j + 1) (kd := 3) (ts := z2) (us := us2) (nu := nu2) hf hn hz hx (by decide) (fun _ => ⟨rfl, by omega, hj⟩) hφ
      have l2 := bq_le (ro := ro) (x := x) (kd := 2) (k := j + 1) hφ hr (by omega) (by decide) (fun _ => hj)
      have l3 := bq_le (ro := ro) (x := x) (kd := 3) (k := j + 1) hφ hr (by omega) (by decide) (fun _ => hj)
      have c2 : cq φ ro x 2 (j + 1) = bq φ ro x 2 (j + 1) := by unfold cq; rw [if_pos (show okt ro x 2 (j + 1) = true from rfl)]
      have c3 : cq φ ro x 3 (j + 1) = if ro x = ro (x - (j + 1)) then bq φ ro x 3 (j + 1) else 1000000 := by
        unfold cq
        show (if decide (ro x = ro (x - (j + 1))) = true then _ else _) = _
        by_cases c : ro x = ro (x - (j + 1))
        · rw [decide_eq_true c, if_pos rfl, if_pos c]
        · rw [decide_eq_false c, if_neg (by decide), if_neg c]
      obtain ⟨f1, f2, f3⟩ := fcs_le hφ hr (show x < 48 by omega) j (by omega)
      -- the value now
      obtain ⟨v, hv, hv2, hv3⟩ : ∃ v : Nat, xcB (fcs φ ro x j) = nI v ∧ v ≤ 1000000 ∧ (((fcs φ ro x j).2 = 0 ∧ v = 1000000) ∨ (¬ (fcs φ ro x j).2 = 0 ∧ v = (fcs φ ro x j).1)) := by
        unfold xcB
        by_cases c : (fcs φ ro x j).2 = 0
        · exact ⟨1000000, by rw [if_pos c]; rfl, Nat.le_refl _, Or.inl ⟨c, rfl⟩⟩
        · exact ⟨(fcs φ ro x j).1, by rw [if_neg c], by omega, Or.inr ⟨c, rfl⟩⟩
      have IN : ∀ F, 3 ≤ F → F_X2_findCopy_L35 fu nn (nI x) (nI (min w x)) (nI (j + 1)) ro fo F (nI 2) ts us nu (nI v) (nI (fcs φ ro x j).2) = some (z3, us3, nu3, xcB (fcs φ ro x (j + 1)), nI (fcs φ ro x (j + 1)).2) := by
        intro F hF
        obtain ⟨h, rfl⟩ : ∃ h, F = h + 1 + 1 + 1 := ⟨F - 3, by omega⟩
        have nw : ek φ ro x (j + 1) < v → fcs φ ro x (j + 1) = (ek φ ro x (j + 1), j + 1) := fun q => by
          rw [fcs_s, if_pos]
          rcases hv3 with z | z
          · exact Or.inl z.1
          · exact Or.inr (by omega)
        have kp : ¬ ek φ ro x (j + 1) < v → fcs φ ro x (j + 1) = fcs φ ro x j := fun q => by
          have he := ek_le hφ hr (show x < 48 by omega) hj
          rw [fcs_s, if_neg]
          rcases hv3 with z | z
          · omega
          · rintro (y | y)
            · exact z.1 y
            · omega
        have nB : xcB (ek φ ro x (j + 1), j + 1) = nI (ek φ ro x (j + 1)) := if_neg (by show ¬ j + 1 = 0; omega)
        rw [F_X2_findCopy_L35, if_neg (show ¬ (3 : Int32) < nI 2 by decide), X2, bd_some, c2]
        dsimp only
        have X3' : F_X6_bitsToTell fu nn (nI x) (nI (2 + 1)) (nI (j + 1)) ro z2 us2 nu2 fo = some (nI (cq φ ro x 3 (j + 1)), z3, us3, nu3) := X3
        by_cases a : v ≤ bq φ ro x 2 (j + 1)
        · rw [if_pos (nI_le a (by omega)), nI_1, F_X2_findCopy_L35, if_neg (show ¬ (3 : Int32) < nI (2 + 1) by decide), X3', bd_some]
          dsimp only
          by_cases b : v ≤ cq φ ro x 3 (j + 1)
          · rw [if_pos (nI_le b (by rw [c3]; split <;> omega)), nI_1, F_X2_findCopy_L35, if_pos (show (3 : Int32) < nI (2 + 1 + 1) by decide), kp (by
              unfold ek
              rw [c3] at b
              by_cases c : ro x = ro (x - (j + 1))
              · rw [if_pos c] at b ⊢; omega
              · rw [if_neg c]; omega), hv]
          · rw [if_neg (nI_ge (by omega) (by omega)), nI_1, F_X2_findCopy_L35, if_pos (show (3 : Int32) < nI (2 + 1 + 1) by decide)]
            have hs : ro x = ro (x - (j + 1)) := by
              by_cases c : ro x = ro (x - (j + 1))
              · exact c
              · rw [c3, if_neg c] at b; omega
            rw [c3, if_pos hs] at b ⊢
            have he : ek φ ro x (j + 1) = bq φ ro x 3 (j + 1) := by unfold ek; rw [if_pos hs]; omega
            rw [nw (by omega), nB, he]
        · rw [if_neg (nI_ge (by omega) (by omega)), nI_1, F_X2_findCopy_L35, if_neg (show ¬ (3 : Int32) < nI (2 + 1) by decide), X3', bd_some]
          dsimp only
          by_cases b : bq φ ro x 2 (j + 1) ≤ cq φ ro x 3 (j + 1)
          · rw [if_pos (nI_le b (by rw [c3]; split <;> omega)), nI_1, F_X2_findCopy_L35, if_pos (show (3 : Int32) < nI (2 + 1 + 1) by decide)]
            have he : ek φ ro x (j + 1) = bq φ ro x 2 (j + 1) := by
              unfold ek
              rw [c3] at b
              by_cases c : ro x = ro (x - (j + 1))
              · rw [if_pos c] at b ⊢; omega
              · rw [if_neg c]
            rw [nw (by omega), nB, he]
          · rw [if_neg (nI_ge (by omega) (by omega)), nI_1, F_X2_findCopy_L35, if_pos (show (3 : Int32) < nI (2 + 1 + 1) by decide)]
            have hs : ro x = ro (x - (j + 1)) := by
              by_cases c : ro x = ro (x - (j + 1))
              · exact c
              · rw [c3, if_neg c] at b; omega
            rw [c3, if_pos hs] at b ⊢
            have he : ek φ ro x (j + 1) = bq φ ro x 3 (j + 1) := by unfold ek; rw [if_pos hs]; omega
            rw [nw (by omega), nB, he]
      rw [F_X2_findCopy_L25, if_neg (fun z => by have := (nI_ltI (show min w x < 2 ^ 31 by omega) (show j + 1 < 2 ^ 31 by omega)).mp z; omega), hv, show F_X2_findCopy_L35 fu nn (nI x) (nI (min w x)) (nI (j + 1)) ro fo fu (2 : Int32) ts us nu (nI v) (nI (fcs φ ro x j).2) = _ from IN fu (by omega), bd_some, nI_1]
      exact ih (j + 1) g z3 us3 nu3 (by omega) (by omega)
  obtain ⟨ts2, us2, nu2, a1⟩ := L (min w x) 0 fu ts us nu (by omega) (by omega)
  unfold F_X2_findCopy
  rw [show F_X5_valueOf (0 : Int32) va = some (va 0) from X_valueOf (i := 0) (by decide), bd_some, hva0, fminN (by omega) (by omega), bd_some, show F_X2_findCopy_L25 fu nn (nI x) (nI (min w x)) ro fo fu 1 ts us nu 1000000 0 = _ from a1, bd_some]
  exact ⟨_, _, _, rfl⟩

/-! ===== pure: renumber ===== -/
theorem thp {nn k : Nat} {li : AI} (hn : nn ≤ 48) (hk : k < nn) : F_X3_thingAtPlace nn (nI k) li = some (li k) := by
  unfold F_X3_thingAtPlace
  rw [ck_t (Nat.ble_eq_true_of_le hn), el_nI hk (by omega)]
theorem X_renrow {fu nn : Nat} {li : AI} {e : Nat → Nat} {x2 : Int32} {was : Int64} (hf : 1000 ≤ fu) (hn : nn ≤ 48) (he : ∀ k, k < nn → li k = nI (e k) ∧ e k < nn) : ∃ r : Int64, F_X4_renumberBy_L27 nn x2 was li fu 0 0 = some r ∧ ∀ k, bt r k = (decide (k < nn) && bt was (e k)) := by
  refine fwd nn (fun f j (s : Int64) => F_X4_renumberBy_L27 nn x2 was li f s (nI j)) (fun j s => ∀ k, bt s k = (decide (k < j) && bt was (e k))) (fun r => ∀ k, bt r k = (decide (k < nn) && bt was (e k))) (fun f s hs => ?_) (fun f j s hj hs => Or.inl ?_) nn 0 fu 0 (by omega) (by omega) (fun k => by rw [bt_zero]; simp)
  · exact ⟨s, by rw [F_X4_renumberBy_L27, if_pos (nI_le (by omega) (by omega))], hs⟩
  · have hk := he j hj
    rw [F_X4_renumberBy_L27, if_neg (nI_ge hj (by omega)), thp hn hj, bd_some, hk.1, X8_isIn _ _ (by omega), bd_some, if10', nI_1]
    by_cases c : bt was (e j) = true
    · rw [if_pos ⟨by omega, c⟩]
      refine ⟨_, rfl, fun k => ?_⟩
      rw [bt_or, bt_bit (by omega), hs k]
      by_cases q : k = j
      · rw [q, c]; simp
      · rw [show decide (k = j) = false from decide_eq_false q, Bool.or_false, show decide (k < j + 1) = decide (k < j) from by apply decide_eq_decide.mpr; omega]
    · rw [if_neg (fun z => c z.2)]
      refine ⟨_, rfl, fun k => ?_⟩
      rw [hs k]
      by_cases q : k = j
      · rw [q, show bt was (e j) = false from by simpa using c]; simp
      · rw [show decide (k < j + 1) = decide (k < j) from by apply decide_eq_decide.mpr; omega]
theorem X_renum {fu nn : Nat} {li : AI} {e : Nat → Nat} {ro rn : AJ} (hf : 1000 ≤ fu) (hn : nn ≤ 48) (he : ∀ k, k < nn → li k = nI (e k) ∧ e k < nn) : ∃ rn2 ro2 : AJ, F_X4_renumberBy fu nn li ro rn = some (rn2, ro2) ∧ ∀ i, i < nn → ∀ k, bt (ro2 i) k = (decide (k < nn) && bt (ro (e i)) (e k)) := by
  have A : ∃ rn2 : AJ, F_X4_renumberBy_L2 fu nn li ro fu 0 rn = some rn2 ∧ ∀ i, i < nn → ∀ k, bt (rn2 i) k = (decide (k < nn) && bt (ro (e i)) (e k)) := by
    refine fwd nn (fun f j (s : AJ) => F_X4_renumberBy_L2 fu nn li ro f (nI j) s) (fun j s => ∀ i, i < j → ∀ k, bt (s i) k = (decide (k < nn) && bt (ro (e i)) (e k))) _ (fun f s hs => ?_) (fun f j s hj hs => Or.inl ?_) nn 0 fu rn (by omega) (by omega) (fun k hk => absurd hk (by omega))
    · exact ⟨s, by rw [F_X4_renumberBy_L2, if_pos (nI_le (by omega) (by omega))], hs⟩
    · have hk := he j hj
      obtain ⟨r, a1, a2⟩ := X_renrow (fu := fu) (x2 := nI j) (was := ro (e j)) hf hn he
      rw [F_X4_renumberBy_L2, if_neg (nI_ge hj (by omega)), thp hn hj, bd_some, hk.1, X4_rowOf hk.2 hn, bd_some, a1, bd_some, ck_t (bn_nI hj (by omega)), clampN (by omega), nI_1]
      refine ⟨_, rfl, fun i hi k => ?_⟩
      rw [updL_if]
      by_cases q : i = j
      · rw [if_pos q, q]; exact a2 k
      · rw [if_neg q]; exact hs i (by omega) k
  obtain ⟨rn2, a1, a2⟩ := A
  have B : ∃ ro2 : AJ, F_X4_renumberBy_L81 nn rn2 fu 0 ro = some ro2 ∧ ∀ i, i < nn → ro2 i = rn2 i := by
    refine fwd nn (fun f j (s : AJ) => F_X4_renumberBy_L81 nn rn2 f (nI j) s) (fun j s => ∀ i, i < j → s i = rn2 i) _ (fun f s hs => ?_) (fun f j s hj hs => Or.inl ?_) nn 0 fu ro (by omega) (by omega) (fun k hk => absurd hk (by omega))
    · exact ⟨s, by rw [F_X4_renumberBy_L81, if_pos (nI_le (by omega) (by omega))], hs⟩
    · skip
      rw [F_X4_renumberBy_L81, if_neg (nI_ge hj (by omega)), if_neg (nI_ge hj (by omega)), ck_t (bn_nI hj (by omega)), ck_t (bn_nI hj (by omega)), clampN (by omega), nI_1]
      refine ⟨_, rfl, fun i hi => ?_⟩
      rw [updL_if]
      by_cases q : i = j
      · rw [if_pos q, q]
      · rw [if_neg q]; exact hs i (by omega)
  obtain ⟨ro2, b1, b2⟩ := B
  unfold F_X4_renumberBy
  rw [a1, bd_some, b1, bd_some]
  exact ⟨_, _, rfl, fun i hi k => by rw [b2 i hi]; exact a2 i hi k⟩
theorem bt_low : ∀ a, a < 48 → ∀ i, i < 64 → bt (((1 : Int64) <<< ((nI a).toInt64 &&& 63)) - (1 : Int64)) i = decide (i < a) := by decide +kernel
theorem pc_low {a : Nat} (x : Int64) (ha : a < 48) : pc (x &&& (((1 : Int64) <<< ((nI a).toInt64 &&& 63)) - (1 : Int64))) = ct (bt x) a := by
  show ct _ 64 = _
  rw [ct_ext (m := a) (n := 64) (by omega) (fun k hk hk2 => by rw [bt_and, bt_low a ha k hk2, show decide (k < a) = false from decide_eq_false (by omega), Bool.and_false])]
  exact ct_cong (fun k hk => by rw [bt_and, bt_low a ha k (by omega), show decide (k < a) = true from decide_eq_true hk, Bool.and_true])
theorem X_lesser {fu nn : Nat} {ro : AJ} (hf : 1000 ≤ fu) (hn : nn ≤ 48) : F_X4_countToLesser fu nn ro = some (nI (sm (fun a => ct (bt (ro a)) a) nn)) := by
  have A : ∃ o : Int32, F_X4_countToLesser_L4 nn ro fu 0 0 = some o ∧ o = nI (sm (fun a => ct (bt (ro a)) a) nn) := by
    refine fwd nn (fun f j (s : Int32) => F_X4_countToLesser_L4 nn ro f s (nI j)) (fun j s => s = nI (sm (fun a => ct (bt (ro a)) a) j)) _ (fun f s hs => ?_) (fun f j s hj hs => Or.inl ?_) nn 0 fu 0 (by omega) (by omega) rfl
    · exact ⟨s, by rw [F_X4_countToLesser_L4, if_pos (nI_le (by omega) (by omega))], hs⟩
    · skip
      rw [F_X4_countToLesser_L4, if_neg (nI_ge hj (by omega)), ck_t (bn_nI hj (by omega)), clampN (by omega), X_bitCount, bd_some, pc_low _ (by omega), nI_1, hs, nI_add]
      exact ⟨_, rfl, rfl⟩
  obtain ⟨o, a, rfl⟩ := A
  unfold F_X4_countToLesser
  rw [a]
  rfl
theorem nar_b (c : Prop) [Decidable c] : vp_nar .boolean (if c then 1 else 0 : Int32) = if c then 1 else 0 := by
  by_cases h : c
  · rw [if_pos h]; rfl
  · rw [if_neg h]; rfl
theorem M_renum {fu nn : Nat} {pl : AI} {e : Nat → Nat} {ro : AJ} {no tu : AI} (hf : 1000 ≤ fu) (hn : nn ≤ 48) (h : RP nn ro no) (he : ∀ k, k < nn → pl k = nI (e k) ∧ e k < nn) : ∃ tu2 : AI, F_X9_renumber_L27 fu (nI nn) pl no fu 0 tu = some tu2 ∧ ∀ i, i < nn → ∀ k, k < nn → tu2 (48 * i + k) = if bt (ro (e i)) (e k) = true then 1 else 0 := by
  refine fwd nn (fun f j (s : AI) => F_X9_renumber_L27 fu (nI nn) pl no f (nI j) s) (fun j s => ∀ i, i < j → ∀ k, k < nn → s (48 * i + k) = if bt (ro (e i)) (e k) = true then 1 else 0) _ (fun f s hs => ?_) (fun f i s hj hs => Or.inl ?_) nn 0 fu tu (by omega) (by omega) (fun k hk => absurd hk (by omega))
  · exact ⟨s, by rw [F_X9_renumber_L27, if_pos (nI_le (by omega) (by omega))], hs⟩
  · have B : ∃ s2 : AI, F_X9_renumber_L37 (nI i) (nI nn) pl no fu 0 s = some s2 ∧ (∀ k, k < nn → s2 (48 * i + k) = if bt (ro (e i)) (e k) = true then 1 else 0) ∧ ∀ a, a < i → ∀ k, k < nn → s2 (48 * a + k) = s (48 * a + k) := by
      refine fwd nn (fun f j (s2 : AI) => F_X9_renumber_L37 (nI i) (nI nn) pl no f (nI j) s2) (fun j s2 => (∀ k, k < j → s2 (48 * i + k) = if bt (ro (e i)) (e k) = true then 1 else 0) ∧ ∀ a, a < i → ∀ k, k < nn → s2 (48 * a + k) = s (48 * a + k)) _ (fun f s hs => ?_) (fun f j s2 hj2 hs => Or.inl ?_) nn 0 fu s (by omega) (by omega) ⟨fun k hk => absurd hk (by omega), fun _ _ _ _ => rfl⟩
      · exact ⟨s, by rw [F_X9_renumber_L37, if_pos (nI_le (by omega) (by omega))], hs⟩
      · have h1 := he i hj
        have h2 := he j hj2
        rw [F_X9_renumber_L37, if_neg (nI_ge hj2 (by omega)), ck_t (bn_nI (show i < 48 by omega) (by decide)), ck_t (bn_nI (show j < 48 by omega) (by decide)), clampN (show i < 2 ^ 31 by omega), clampN (show j < 2 ^ 31 by omega), h1.1, h2.1, ix48, ix48, ck_t (bn_nI (show 48 * e i + e j < 2304 by omega) (by decide)), ck_t (bn_nI (show 48 * i + j < 2304 by omega) (by decide)), clampN (show 48 * e i + e j < 2 ^ 31 by omega), clampN (show 48 * i + j < 2 ^ 31 by omega), h.1 _ h1.2 _ h2.2, nar_b, nI_1]
        refine ⟨_, rfl, fun k hk => ?_, fun a ha k hk => ?_⟩
        · rw [upd_if]
          by_cases q : k = j
          · rw [if_pos (by omega), q]
          · rw [if_neg (by omega)]; exact hs.1 k (by omega)
        · rw [upd_n (by omega)]
          exact hs.2 a ha k hk
    obtain ⟨s2, b1, b2, b3⟩ := B
    rw [F_X9_renumber_L27, if_neg (nI_ge hj (by omega)), b1, bd_some, nI_1]
    refine ⟨_, rfl, fun a ha k hk => ?_⟩
    by_cases q : a = i
    · rw [q]; exact b2 k hk
    · rw [b3 a (by omega) k hk]; exact hs a (by omega) k hk
theorem M_lesser {fu nn : Nat} {p : Nat → Nat → Bool} {no tu : AI} (hf : 1000 ≤ fu) (hn : nn ≤ 48) (ht : ∀ i, i < nn → ∀ k, k < nn → tu (48 * i + k) = if p i k = true then 1 else 0) : ∃ no2 : AI, F_X9_renumber_L93 fu (nI nn) tu fu 0 0 no = some (nI (sm (fun a => ct (p a) a) nn), no2) ∧ ∀ i, i < nn → ∀ k, k < nn → no2 (48 * i + k) = if p i k = true then 1 else 0 := by
  have A : ∃ o : Int32 × AI, F_X9_renumber_L93 fu (nI nn) tu fu 0 0 no = some o ∧ o.1 = nI (sm (fun a => ct (p a) a) nn) ∧ ∀ i, i < nn → ∀ k, k < nn → o.2 (48 * i + k) = if p i k = true then 1 else 0 := by
    refine fwd nn (fun f j (s : Int32 × AI) => F_X9_renumber_L93 fu (nI nn) tu f s.1 (nI j) s.2) (fun j s => s.1 = nI (sm (fun a => ct (p a) a) j) ∧ ∀ i, i < j → ∀ k, k < nn → s.2 (48 * i + k) = if p i k = true then 1 else 0) _ (fun f s hs => ?_) (fun f i s hj hs => Or.inl ?_) nn 0 fu (0, no) (by omega) (by omega) ⟨rfl, fun k hk => absurd hk (by omega)⟩
    · exact ⟨s, by rw [F_X9_renumber_L93, if_pos (nI_le (by omega) (by omega))], hs⟩
    · have B : ∃ o : Int32 × AI, F_X9_renumber_L104 (nI i) (nI nn) tu fu s.1 0 s.2 = some o ∧ o.1 = nI (sm (fun a => ct (p a) a) i + ct (p i) i) ∧ (∀ k, k < nn → o.2 (48 * i + k) = if p i k = true then 1 else 0) ∧ ∀ a, a < i → ∀ k, k < nn → o.2 (48 * a + k) = s.2 (48 * a + k) := by
        refine fwd nn (fun f j (s2 : Int32 × AI) => F_X9_renumber_L104 (nI i) (nI nn) tu f s2.1 (nI j) s2.2) (fun j s2 => s2.1 = nI (sm (fun a => ct (p a) a) i + ct (p i) (min i j)) ∧ (∀ k, k < j → s2.2 (48 * i + k) = if p i k = true then 1 else 0) ∧ ∀ a, a < i → ∀ k, k < nn → s2.2 (48 * a + k) = s.2 (48 * a + k)) _ (fun f s hs => ?_) (fun f j s2 hj2 hs => Or.inl ?_) nn 0 fu s (by omega) (by omega) ⟨by rw [hs.1, Nat.min_zero]; rfl, fun k hk => absurd hk (by omega), fun _ _ _ _ => rfl⟩
        · refine ⟨s, by rw [F_X9_renumber_L104, if_pos (nI_le (by omega) (by omega))], ?_, hs.2⟩
          rw [hs.1, Nat.min_eq_left (by omega)]
        · skip
          rw [F_X9_renumber_L104, if_neg (nI_ge hj2 (by omega)), ix48, ck_t (bn_nI (show 48 * i + j < 2304 by omega) (by decide)), ck_t (bn_nI (show 48 * i + j < 2304 by omega) (by decide)), ck_t (bn_nI (show 48 * i + j < 2304 by omega) (by decide)), clampN (show 48 * i + j < 2 ^ 31 by omega), ht i hj j hj2, nar_b, upd_s, if10', nI_1, i_add0]
          have F : ∀ k, k < j + 1 → upd s2.2 (48 * i + j) (if p i j = true then 1 else 0) (48 * i + k) = if p i k = true then 1 else 0 := by
            intro k hk
            rw [upd_if]
            by_cases q : k = j
            · rw [if_pos (by omega), q]
            · rw [if_neg (by omega)]; exact hs.2.1 k (by omega)
          have G : ∀ a, a < i → ∀ k, k < nn → upd s2.2 (48 * i + j) (if p i j = true then 1 else 0) (48 * a + k) = s.2 (48 * a + k) := by
            intro a ha k hk
            rw [upd_n (by omega)]
            exact hs.2.2 a ha k hk
          by_cases c : i ≤ j
          · rw [if_pos (nI_le c (by omega))]
            refine ⟨(s2.1, upd s2.2 (48 * i + j) (if p i j = true then 1 else 0)), rfl, ?_, F, G⟩
            show s2.1 = _
            rw [hs.1, Nat.min_eq_left c, Nat.min_eq_left (by omega)]
          · rw [if_neg (nI_ge (by omega) (by omega))]
            have e1 : min i j = j := Nat.min_eq_right (by omega)
            have e2 : min i (j + 1) = j + 1 := Nat.min_eq_right (by omega)
            by_cases c2 : p i j = true
            · rw [if_pos c2]
              refine ⟨(s2.1 + 1, upd s2.2 (48 * i + j) (if p i j = true then 1 else 0)), rfl, ?_, F, G⟩
              show s2.1 + 1 = _
              rw [hs.1, e1, e2, nI_1, ct_succ, if_pos c2]
              rfl
            · rw [if_neg c2]
              refine ⟨(s2.1, upd s2.2 (48 * i + j) (if p i j = true then 1 else 0)), rfl, ?_, F, G⟩
              show s2.1 = _
              rw [hs.1, e1, e2, ct_succ, if_neg c2, Nat.add_zero]
      obtain ⟨o, b1, b2, b3, b4⟩ := B
      rw [F_X9_renumber_L93, if_neg (nI_ge hj (by omega)), b1, bd_some, nI_1]
      refine ⟨o, rfl, b2, fun a ha k hk => ?_⟩
      by_cases q : a = i
      · rw [q]; exact b3 k hk
      · rw [b4 a (by omega) k hk]; exact hs.2 a (by omega) k hk
  obtain ⟨o, a, b, c⟩ := A
  exact ⟨o.2, by rw [a, ← b], c⟩
theorem ok_renumber (BK : BKT) {fu : Nat} (hf : 20000 ≤ fu) : OK_renumber fu (Rel BK) := by
  intro nn X M x1 hR
  obtain ⟨h1, hn, hmn, hP, hRR, hB⟩ := id hR
  unfold SX_renumber SM_renumber F_X8_renumber F_X9_renumber F_X1_forget
  rw [show (3 : Int32) = nI 3 from rfl, X8_isBelow (by decide), X9_in0 (k := 3) x1 rfl, bd_some, bd_some, if10', if10', hmn]
  by_cases e1 : tg 3 x1 = true
  · rw [if_pos e1, if_pos e1]
    obtain ⟨o, ho, rfl⟩ := tg_of e1
    obtain ⟨ke2, li2, pl2, mit2, a1, a2, a3⟩ := arr (fu := fu) (ke := xke_ X) (li := xli_ X) (pl := mpl_ M) (mit := mit_ M) (by omega) hn hP ho
    have he : ∀ k, k < nn → li2 k = nI ((li2 k).toNatClampNeg) ∧ (li2 k).toNatClampNeg < nn := by
      intro k hk
      obtain ⟨e, q1, q2⟩ := (a3 k hk).2
      rw [q2, clampN (by omega)]
      exact ⟨rfl, q1⟩
    obtain ⟨rn2, ro2, b1, b2⟩ := X_renum (fu := fu) (ro := xro_ X) (rn := xrn_ X) (by omega) hn he
    obtain ⟨tu2, c1, c2⟩ := M_renum (fu := fu) (tu := mtu_ M) (pl := pl2) (e := fun k => (li2 k).toNatClampNeg) (by omega) hn hP (fun k hk => by rw [← (a3 k hk).1]; exact he k hk)
    obtain ⟨no2, d1, d2⟩ := M_lesser (fu := fu) (no := mno_ M) (by omega) hn c2
    have hs : sm (fun a => ct (bt (ro2 a)) a) nn = sm (fun a => ct (fun k => bt (xro_ X (li2 a).toNatClampNeg) (li2 k).toNatClampNeg) a) nn := sm_cong (fun a ha => ct_cong (fun k hk => by rw [b2 a ha k, show decide (k < nn) = true from decide_eq_true (by omega), Bool.true_and]))
    simp only [a1, bd_some, b1, X_lesser (show 1000 ≤ fu by omega) hn, a2, c1, d1, hs]
    refine ⟨_, _, _, rfl, rfl, h1, hn, rfl, ⟨fun a ha b hb => ?_, fun a ha b hb => ?_⟩, hRR, Or.inl ⟨rfl, rfl, rfl⟩⟩
    · show no2 (48 * a + b) = if bt (ro2 a) b = true then 1 else 0
      rw [d2 a ha b hb, b2 a ha b, show decide (b < nn) = true from decide_eq_true hb, Bool.true_and]
    · show bt (ro2 a) b = false
      rw [b2 a ha b, show decide (b < nn) = false from decide_eq_false (by omega), Bool.false_and]
  · rw [if_neg e1, if_neg e1]
    exact ⟨_, _, _, rfl, rfl, h1, hn, rfl, hP, hRR, hB⟩

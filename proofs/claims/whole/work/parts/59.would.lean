/-! ===== pure: would ===== -/
def wd (u f : Nat) : LUN → Nat
  | [] => 0
  | e :: t => (if e.1 = u then ln f e.2 else 0) + wd u f t
theorem wd_app (u f : Nat) : ∀ (A T : LUN), wd u f (A ++ T) = wd u f A + wd u f T
  | [], T => by rw [List.nil_append, wd, Nat.zero_add]
  | e :: A, T => by
    show _ + wd u f (A ++ T) = _ + wd u f A + wd u f T
    rw [wd_app u f A T, Nat.add_assoc]
theorem wd_le {u f : Nat} (hf : f < 10) (hu : u < 8) : ∀ {A : LUN}, ok9 A → wd u f A ≤ 96 * A.length
  | [], _ => Nat.le_refl _
  | e :: t, h => by
    have ih := wd_le hf hu h.2
    have : (if e.1 = u then ln f e.2 else 0) ≤ 96 := by
      by_cases c : e.1 = u
      · rw [if_pos c]
        exact (ln_b f hf e.2 (by have := h.1; omega)).2.1
      · rw [if_neg c]; decide
    show _ + wd u f t ≤ 96 * (t.length + 1)
    omega
theorem sm_add (f g : Nat → Nat) : ∀ n, sm (fun k => f k + g k) n = sm f n + sm g n
  | 0 => rfl
  | n + 1 => by
    rw [sm_succ, sm_succ, sm_succ, sm_add f g n]
    omega
theorem sm_one (k c : Nat) : ∀ n, sm (fun v => if k = v then c else 0) n = if k < n then c else 0
  | 0 => rfl
  | n + 1 => by
    rw [sm_succ, sm_one k c n]
    by_cases e : k = n
    · rw [if_neg (by omega), if_pos e, if_pos (by omega), Nat.zero_add]
    · rw [if_neg e, Nat.add_zero]
      by_cases h : k < n
      · rw [if_pos h, if_pos (by omega)]
      · rw [if_neg h, if_neg (by omega)]
theorem sm_zero {f : Nat → Nat} : ∀ {n : Nat}, (∀ k, k < n → f k = 0) → sm f n = 0
  | 0, _ => rfl
  | n + 1, h => by rw [sm_succ, sm_zero (fun k hk => h k (by omega)), h n (by omega)]
theorem wd_cn {u f : Nat} (hu : u < 8) : ∀ {A : LUN}, ok9 A → sm (fun v => cn u v A * ln f v) 96 = wd u f A
  | [], _ => sm_zero (fun k _ => Nat.zero_mul _)
  | e :: t, h => by
    have ih := wd_cn (f := f) hu h.2
    have e1 : (fun v => cn u v (e :: t) * ln f v) = fun v => (if e.1 = u ∧ e.2 = v then ln f v else 0) + cn u v t * ln f v := by
      funext v
      show ((if e.1 = u ∧ e.2 = v then 1 else 0) + cn u v t) * ln f v = _
      rw [Nat.add_mul]
      by_cases c : e.1 = u ∧ e.2 = v
      · rw [if_pos c, if_pos c, Nat.one_mul]
      · rw [if_neg c, if_neg c, Nat.zero_mul]
    have e3 : sm (fun v => if e.1 = u ∧ e.2 = v then ln f v else 0) 96 = if e.1 = u then ln f e.2 else 0 := by
      by_cases c : e.1 = u
      · rw [if_pos c]
        have e2 : (fun v => if e.1 = u ∧ e.2 = v then ln f v else 0) = fun v => if e.2 = v then ln f e.2 else 0 := by
          funext v
          by_cases d : e.2 = v
          · rw [if_pos ⟨c, d⟩, if_pos d, d]
          · rw [if_neg (fun z => d z.2), if_neg d]
        rw [e2, sm_one, if_pos (by have := h.1; omega)]
      · rw [if_neg c]
        exact sm_zero (fun k _ => if_neg (fun z => c z.1))
    rw [e1, sm_add, ih, e3]
    rfl
theorem als_ok {nn : Nat} {ro : AJ} {K D E : NN} (hn : nn ≤ 48) (hz : ∀ a, a < nn → ∀ b, nn ≤ b → bt (ro a) b = false) (hV : VR nn ro K D E) : ∀ {n : Nat}, n ≤ nn → ok9 (als ro K D n) ∧ (als ro K D n).length ≤ 160 * n
  | 0, _ => ⟨trivial, Nat.le_refl _⟩
  | n + 1, h => by
    obtain ⟨a, b⟩ := als_ok hn hz hV (n := n) (by omega)
    obtain ⟨c, d⟩ := vr1_tl (hV n (by omega)) (fun b hb => hz n (by omega) b (by omega)) (by omega)
    refine ⟨ok9_app a c, ?_⟩
    rw [als_s, List.length_append]
    omega
theorem X_use {fu u f : Nat} {ta : AI} {A : LUN} (hf : 1000 ≤ fu) (hu : u < 8) (h10 : f < 10) (hA : ok9 A) (hT : Tly ta A) : F_X1_bitsOfUse fu (nI u) (nI f) ta = some (nI (wd u f A)) := by
  have K : ∀ (r v g : Nat), v + r = 96 → r < g → F_X1_bitsOfUse_L5 fu (nI u) (nI f) ta g (nI (sm (fun v => cn u v A * ln f v) v)) (nI v) = some (nI (sm (fun v => cn u v A * ln f v) 96)) := by
    intro r
    induction r with
    | zero =>
      intro v g e1 e2
      obtain ⟨g, rfl⟩ : ∃ h, g = h + 1 := ⟨g - 1, by omega⟩
      have e1 : v = 96 := by omega
      subst e1
      rw [F_X1_bitsOfUse_L5, if_pos (show (96 : Int32) ≤ nI 96 by decide)]
    | succ r ih =>
      intro v g e1 e2
      obtain ⟨g, rfl⟩ : ∃ h, g = h + 1 := ⟨g - 1, by omega⟩
      rw [F_X1_bitsOfUse_L5, if_neg (show ¬ (96 : Int32) ≤ nI v from nI_ge (b := 96) (by omega) (by decide)), X_bitsIn (by omega) h10 (by omega), bd_some, show (96 : Int32) = nI 96 from rfl, pk_mul, nI_add, el_nI (show u * 96 + v < 768 by omega) (by decide), Nat.mul_comm u 96, hT u hu v (by omega), pk_mul, nI_add, nI_1]
      exact ih (v + 1) g (by omega) (by omega)
  unfold F_X1_bitsOfUse
  rw [show F_X1_bitsOfUse_L5 fu (nI u) (nI f) ta fu 0 0 = _ from K 96 0 fu (by omega) (by omega), bd_some, wd_cn hu hA]
theorem M_useL {fu n u f : Nat} {us nu : AI} {x4 : Int32} (hf : 1000 ≤ fu) (hn : n ≤ 160) (hu : u < 8) (h10 : f < 10) : ∀ (T : LUN) (i g acc : Nat), i + T.length = n → T.length < g → Hd us nu i T → ok9 T → F_X9_bitsOfUse_L41 fu (nI u) (nI f) x4 (nI n) us nu g (nI acc) (nI i) = some (nI (acc + wd u f T)) := by
  intro T
  induction T with
  | nil =>
    intro i g acc e1 e2 e3 e4
    obtain ⟨g, rfl⟩ : ∃ h, g = h + 1 := ⟨g - 1, by omega⟩
    have e1 : i + 0 = n := e1
    rw [F_X9_bitsOfUse_L41, if_pos (nI_le (by omega) (by omega))]
    rfl
  | cons e T ih =>
    intro i g acc e1 e2 e3 e4
    obtain ⟨g, rfl⟩ : ∃ h, g = h + 1 := ⟨g - 1, by omega⟩
    have e1 : i + (T.length + 1) = n := e1
    have e2 : T.length + 1 < g + 1 := e2
    obtain ⟨g1, g2, g3⟩ := e3
    obtain ⟨k1, k2⟩ := e4
    have go : ∀ a, F_X9_bitsOfUse_L41 fu (nI u) (nI f) x4 (nI n) us nu g (nI a) (nI (i + 1)) = some (nI (a + wd u f T)) := fun a => ih (i + 1) g a (by omega) (by omega) g3 k2
    rw [F_X9_bitsOfUse_L41, if_neg (nI_ge (by omega) (by omega)), ck_t (bn_nI (show i < 400 by omega) (by decide)), ck_t (bn_nI (show i < 400 by omega) (by decide)), clampN (by omega), g1, g2, if_cg (nI_eq (show e.1 < 2 ^ 31 by omega) (show u < 2 ^ 31 by omega)), M_lengthIn (by omega) h10 (by omega), bd_some, nI_add, i_add0, nI_1, go, go]
    show _ = some (nI (acc + ((if e.1 = u then ln f e.2 else 0) + wd u f T)))
    by_cases c : e.1 = u
    · rw [if_pos c, if_pos c, Nat.add_assoc]
    · rw [if_neg c, if_neg c, Nat.zero_add]
theorem M_use {fu nn u f : Nat} {ro : AJ} {no mki mfr : AI} {K D E : NN} {ns ld : Int32} {us nu li mot mbl : AI} (hf : 1000 ≤ fu) (hn : nn ≤ 48) (hP : RP nn ro no) (hu : u < 8) (h10 : f < 10) (hK : ∀ y, y < nn → mki y = nI (K y) ∧ mfr y = nI (D y)) (hV : VR nn ro K D E) : ∃ (ns2 ld2 : Int32) (us2 nu2 li2 mot2 mbl2 : AI), F_X9_bitsOfUse fu (nI u) (nI f) (nI nn) mki mfr ns us nu ld no li mot mbl = some (nI (wd u f (als ro K D nn)), ns2, us2, nu2, ld2, li2, mot2, mbl2) := by
  have L : ∀ (q x g : Nat) (ns ld : Int32) (us nu li mot mbl : AI), x + q = nn → q < g → ∃ (ns2 ld2 : Int32) (us2 nu2 li2 mot2 mbl2 : AI), F_X9_bitsOfUse_L5 fu (nI u) (nI f) (nI nn) mki mfr no g (nI (wd u f (als ro K D x))) (nI x) ns us nu ld li mot mbl = some (nI (wd u f (als ro K D nn)), ns2, us2, nu2, ld2, li2, mot2, mbl2) := by
    intro q
    induction q with
    | zero =>
      intro x g ns ld us nu li mot mbl e1 e2
      obtain ⟨g, rfl⟩ : ∃ h, g = h + 1 := ⟨g - 1, by omega⟩
      have e1 : x = nn := by omega
      subst e1
      rw [F_X9_bitsOfUse_L5, if_pos (nI_le (by omega) (by omega))]
      exact ⟨_, _, _, _, _, _, _, rfl⟩
    | succ q ih =>
      intro x g ns ld us nu li mot mbl e1 e2
      obtain ⟨g, rfl⟩ : ∃ h, g = h + 1 := ⟨g - 1, by omega⟩
      have hx : x < nn := by omega
      have v1 := hV x hx
      obtain ⟨o1, o2⟩ := vr1_tl v1 (fun b hb => hP.2 x hx b (by omega)) (by omega)
      obtain ⟨vs2, vu2, li2, mot2, mbl2, ld2, d1, d2⟩ := M_tell (fu := fu) (ns := ns) (ld := ld) (us := us) (nu := nu) (li := li) (mot := mot) (mbl := mbl) (kk := nI (D x)) (kd := K x) (k := D x) hf hn hP hx v1.1 (fun q => ⟨rfl, (v1.2.2.1 q).1, (v1.2.2.1 q).2.1⟩) v1.2.2.2.2
      have u1 := M_useL (fu := fu) (us := vs2) (nu := vu2) (x4 := nI x) hf o2 hu h10 (tl ro x (K x) (D x)) 0 fu (wd u f (als ro K D x)) (by omega) (by omega) d2 o1
      rw [← wd_app, ← als_s] at u1
      have u1 : F_X9_bitsOfUse_L41 fu (nI u) (nI f) (nI x) (nI (tl ro x (K x) (D x)).length) vs2 vu2 fu (nI (wd u f (als ro K D x))) 0 = some (nI (wd u f (als ro K D (x + 1)))) := u1
      obtain ⟨ns3, ld3, us3, nu3, li3, mot3, mbl3, k1⟩ := ih (x + 1) g (nI (tl ro x (K x) (D x)).length) ld2 vs2 vu2 li2 mot2 mbl2 (by omega) (by omega)
      refine ⟨ns3, ld3, us3, nu3, li3, mot3, mbl3, ?_⟩
      rw [F_X9_bitsOfUse_L5, if_neg (nI_ge hx (by omega)), ck_t (bn_nI (show x < 48 by omega) (by decide)), ck_t (bn_nI (show x < 48 by omega) (by decide)), clampN (by omega), (hK x hx).1, (hK x hx).2, d1, bd_some]
      dsimp only
      rw [u1, bd_some, nI_1]
      exact k1
  obtain ⟨ns2, ld2, us2, nu2, li2, mot2, mbl2, a1⟩ := L nn 0 fu ns ld us nu li mot mbl (by omega) (by omega)
  unfold F_X9_bitsOfUse
  rw [show F_X9_bitsOfUse_L5 fu (nI u) (nI f) (nI nn) mki mfr no fu 0 0 ns us nu ld li mot mbl = _ from a1, bd_some]
  exact ⟨_, _, _, _, _, _, _, rfl⟩
theorem ok_would {fu : Nat} (hf : 20000 ≤ fu) : OK_would fu (Rel BKd) := by
  intro nn X M x1 x2 hR
  obtain ⟨h1, hn, hmn, hP, hRR, hB⟩ := id hR
  suffices h : ∃ (r ns2 ld2 : Int32) (us2 nu2 li2 mot2 mbl2 : AI), F_X8_would fu x1 x2 (xth_ X) (xta_ X) = some r ∧ F_X9_would fu x1 x2 (mth_ M) (mib_ M) (mn_ M) (mki_ M) (mfr_ M) (mns_ M) (mus_ M) (mnu_ M) (mld_ M) (mpk_ M) (mli_ M) (mot_ M) (mbl_ M) = some (r, 0, ns2, us2, nu2, ld2, li2, mot2, mbl2) by
    obtain ⟨r, ns2, ld2, us2, nu2, li2, mot2, mbl2, a, b⟩ := h
    unfold SX_would SM_would
    rw [a, b, bd_some, bd_some]
    exact ⟨_, _, _, rfl, rfl, h1, hn, hmn, hP, hRR, hB⟩
  unfold F_X8_would F_X9_would
  rw [hmn, show (8 : Int32) = nI 8 from rfl, show (10 : Int32) = nI 10 from rfl, X8_isBelow (by decide), X8_isBelow (by decide), X9_in0 (k := 8) x1 (by decide), X9_in0 (k := 10) x2 (by decide)]
  simp only [bd_some, if10']
  by_cases e1 : tg 8 x1 = true
  · by_cases e2 : tg 10 x2 = true
    · simp only [if_pos e1, if_pos e2]
      rcases hB with ⟨t1, t2, t3⟩ | ⟨t1, t2, t4, t5, t6, t7⟩
      · rw [t1, t2, isThere0, bd_some, if_pos rfl, if_pos rfl]
        exact ⟨_, _, _, _, _, _, _, _, rfl, rfl⟩
      · obtain ⟨K, D, E, φ, N, W, s, T, b1, b2, b3, b4, b5, b6, b7, b8, b9, b10⟩ := id t7
        obtain ⟨u, hu, rfl⟩ := tg_of e1
        obtain ⟨f, h10, rfl⟩ := tg_of e2
        obtain ⟨o1, o2⟩ := als_ok hn t4.2 b2 (Nat.le_refl nn)
        obtain ⟨ns2, ld2, us2, nu2, li2, mot2, mbl2, a1⟩ := M_use (fu := fu) (ns := mns_ M) (ld := mld_ M) (us := mus_ M) (nu := mnu_ M) (li := mli_ M) (mot := mot_ M) (mbl := mbl_ M) (by omega) hn t4 hu h10 (fun y hy => ⟨(b1 y hy).1.2, (b1 y hy).2.1.2⟩) b2
        rw [t1, t2, isThere1, bd_some, if_neg n10, if_neg n10, X_use (by omega) hu h10 o1 b6, a1, bd_some, bd_some]
        exact ⟨_, _, _, _, _, _, _, _, rfl, rfl⟩
    · simp only [if_pos e1, if_neg e2]
      exact ⟨_, _, _, _, _, _, _, _, rfl, rfl⟩
  · simp only [if_neg e1]
    exact ⟨_, _, _, _, _, _, _, _, rfl, rfl⟩

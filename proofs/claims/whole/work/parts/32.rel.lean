/-! ===== pure: what class and reference have in common ===== -/
abbrev AI : Type := Nat → Int32
abbrev AJ : Type := Nat → Int64
/-- the pairs -/
def RP (nn : Nat) (ro : AJ) (no : AI) : Prop := (∀ a, a < nn → ∀ b, b < nn → no (48 * a + b) = if bt (ro a) b = true then 1 else 0) ∧ ∀ a, a < nn → ∀ b, nn ≤ b → bt (ro a) b = false
def sm (f : Nat → Nat) : Nat → Nat
  | 0 => 0
  | n + 1 => sm f n + f n
theorem sm_succ (f : Nat → Nat) (n : Nat) : sm f (n + 1) = sm f n + f n := rfl
theorem sm_cong {f g : Nat → Nat} : ∀ {n : Nat}, (∀ k, k < n → f k = g k) → sm f n = sm g n
  | 0, _ => rfl
  | n + 1, h => by rw [sm_succ, sm_succ, sm_cong (fun k hk => h k (by omega)), h n (by omega)]
theorem sm_le {f : Nat → Nat} {c : Nat} : ∀ {n : Nat}, (∀ k, k < n → f k ≤ c) → sm f n ≤ n * c
  | 0, _ => by simp [sm]
  | n + 1, h => by
    have h1 := sm_le (n := n) (fun k hk => h k (by omega))
    have h2 := h n (by omega)
    rw [sm_succ, Nat.succ_mul]
    omega
theorem sm_upd {f g : Nat → Nat} {i : Nat} (hne : ∀ k, k ≠ i → f k = g k) : ∀ {n : Nat}, i < n → sm f n + g i = sm g n + f i
  | 0, h => absurd h (Nat.not_lt_zero i)
  | n + 1, h => by
    rw [sm_succ, sm_succ]
    rcases Nat.lt_or_ge i n with e | e
    · have := sm_upd hne e
      have := hne n (by omega)
      omega
    · have e2 : i = n := by omega
      subst e2
      have := sm_cong (f := f) (g := g) (n := i) (fun k hk => hne k (by omega))
      omega
/-- how many pairs are not as they were packed -/
def dif (nn : Nat) (pr ro : AJ) : Nat := sm (fun a => pc (pr a ^^^ ro a)) nn
def RR (fo va mfo : AI) (mwi mch mst : Int32) : Prop := (∀ u, u < 8 → fo u = mfo u ∧ ∃ f : Nat, f < 10 ∧ fo u = nI f) ∧ (∃ w : Nat, w ≤ 7 ∧ va 0 = nI w ∧ mwi = nI w) ∧ (∃ r : Nat, r ≤ 5 ∧ va 1 = nI r ∧ mch = nI r) ∧ ∃ s : Nat, 1 ≤ s ∧ s ≤ 9 ∧ va 2 = nI s ∧ mst = nI s
/-- what is said of a book: nn, sp pr bs wr no ki di de st ta, msz mps mbi mwr mki mfr mde mbe -/
abbrev BKT : Type := Nat → Int32 → AJ → Int32 → AI → AI → AI → AI → AI → AI → AI → Int32 → Int32 → AI → AI → AI → AI → AI → AI → Prop
def RB (BK : BKT) (nn : Nat) (ro : AJ) (th sp : Int32) (pr : AJ) (bs : Int32) (wr no ki di de st ta : AI) (mib mpa msz mps : Int32) (mpk mbi mwr mki mfr mde mbe : AI) : Prop :=
  (th = 0 ∧ mib = 0 ∧ mpa = 0) ∨ (th = 1 ∧ mib = 1 ∧ RP nn pr mpk ∧ mpa = nI (dif nn pr ro) ∧ dif nn pr ro ≤ 40 ∧ BK nn sp pr bs wr no ki di de st ta msz mps mbi mwr mki mfr mde mbe)
def RelC (BK : BKT) (nn : Nat) (ro : AJ) (fo va : AI) (th sp : Int32) (pr : AJ) (bs : Int32) (wr no ki di de st ta : AI) (mn mib mpa mwi mch mst msz mps : Int32) (mno mpk mfo mbi mwr mki mfr mde mbe : AI) : Prop :=
  1 ≤ nn ∧ nn ≤ 48 ∧ mn = nI nn ∧ RP nn ro mno ∧ RR fo va mfo mwi mch mst ∧ RB BK nn ro th sp pr bs wr no ki di de st ta mib mpa msz mps mpk mbi mwr mki mfr mde mbe
def Rel (BK : BKT) (nn : Nat) (X : XS) (M : MS) : Prop := RelC BK nn (xro_ X) (xfo_ X) (xva_ X) (xth_ X) (xsp_ X) (xpr_ X) (xbs_ X) (xwr_ X) (xno_ X) (xki_ X) (xdi_ X) (xde_ X) (xst_ X) (xta_ X) (mn_ M) (mib_ M) (mpa_ M) (mwi_ M) (mch_ M) (mst_ M) (msz_ M) (mps_ M) (mno_ M) (mpk_ M) (mfo_ M) (mbi_ M) (mwr_ M) (mki_ M) (mfr_ M) (mde_ M) (mbe_ M)
/-! reads -/
theorem i_add0 (x : Int32) : x + 0 = x := Int32.add_zero x
theorem bd_some {α β : Type} (a : α) (f : α → Option β) : (some a).bind f = f a := rfl
theorem X4_joined {nn a b : Nat} (ha : a < nn) (hb : b < nn) (hn : nn ≤ 48) (ro : AJ) : F_X4_joined nn (nI a) (nI b) ro = some (if bt (ro a) b = true then 1 else 0) := by
  unfold F_X4_joined
  rw [X4_rowOf ha hn, bd_some, X8_isIn _ _ (by omega), bd_some, ck_t (zb_if _), if_cg (show (b < 48 ∧ bt (ro a) b = true) ↔ bt (ro a) b = true from ⟨fun h => h.2, fun h => ⟨by omega, h⟩⟩)]
theorem fu_s {P : Nat → Prop} {r fuel : Nat} (h : r < fuel) (k : ∀ f, fuel = f + 1 → r ≤ f → P (f + 1)) : P fuel := by
  obtain ⟨f, rfl⟩ : ∃ f, fuel = f + 1 := ⟨fuel - 1, by omega⟩
  exact k f rfl (by omega)
theorem M_rowSize_L {a nn : Nat} {no : AI} {p : Nat → Bool} (ha : a < 48) (hn : nn ≤ 48) (hp : ∀ b, b < nn → no (48 * a + b) = if p b = true then 1 else 0) : ∀ (r fuel j : Nat), j + r = nn → r < fuel → F_X9_rowSize_L4 (nI a) (nI nn) no fuel (nI (ct p j)) (nI j) = some (nI (ct p nn)) := by
  intro r
  induction r with
  | zero =>
    intro fuel j h1 h2
    refine fu_s (P := fun q => F_X9_rowSize_L4 (nI a) (nI nn) no q _ _ = _) h2 (fun f _ _ => ?_)
    have : j = nn := by omega
    subst this
    rw [F_X9_rowSize_L4, if_pos (nI_le (Nat.le_refl _) (by omega))]
  | succ r ih =>
    intro fuel j h1 h2
    refine fu_s (P := fun q => F_X9_rowSize_L4 (nI a) (nI nn) no q _ _ = _) h2 (fun f _ hf => ?_)
    rw [F_X9_rowSize_L4, if_neg (nI_ge (by omega) (by omega)), ix48, ck_t (bn_nI (by omega) (by decide)), clampN (by omega), hp j (by omega), if10', i_add0]
    have := ih f (j + 1) (by omega) (by omega)
    rw [ct_succ] at this
    by_cases e : p j = true
    · rw [if_pos e] at this ⊢
      simp only [nI_1]
      exact this
    · rw [if_neg e] at this ⊢
      simp only [nI_1]
      exact this
theorem pc_nn {nn : Nat} {x : Int64} (hn : nn ≤ 48) (h : ∀ b, nn ≤ b → bt x b = false) : pc x = ct (bt x) nn := ct_ext (by omega) (fun k hk _ => h k hk)
theorem M_rowSize {fu a nn : Nat} {ro : AJ} {no : AI} (hf : 100 ≤ fu) (ha : a < nn) (hn : nn ≤ 48) (h : RP nn ro no) : F_X9_rowSize fu (nI a) (nI nn) no = some (nI (pc (ro a))) := by
  unfold F_X9_rowSize
  have := M_rowSize_L (a := a) (p := bt (ro a)) (by omega) hn (fun b hb => h.1 a ha b hb) nn fu 0 (by omega) (by omega)
  rw [show (0 : Int32) = nI (ct (bt (ro a)) 0) from rfl, show nI (ct (bt (ro a)) 0) = nI 0 from rfl] at *
  rw [this, bd_some, pc_nn hn (h.2 a ha)]
/-! pair, drop -/
theorem X4_countOther {fu nn : Nat} {pr ro : AJ} (hf : 100 ≤ fu) (hn : nn ≤ 48) : F_X4_countOther fu nn pr ro = some (nI (dif nn pr ro)) := by
  have L : ∀ (r fuel j : Nat), j + r = nn → r < fuel → F_X4_countOther_L4 nn pr ro fuel (nI (dif j pr ro)) (nI j) = some (nI (dif nn pr ro)) := by
    intro r
    induction r with
    | zero =>
      intro fuel j h1 h2
      refine fu_s (P := fun q => F_X4_countOther_L4 nn pr ro q _ _ = _) h2 (fun f _ _ => ?_)
      have : j = nn := by omega
      subst this
      rw [F_X4_countOther_L4, if_pos (nI_le (Nat.le_refl _) (by omega))]
    | succ r ih =>
      intro fuel j h1 h2
      refine fu_s (P := fun q => F_X4_countOther_L4 nn pr ro q _ _ = _) h2 (fun f _ hf => ?_)
      rw [F_X4_countOther_L4, if_neg (nI_ge (by omega) (by omega)), ck_t (bn_nI (by omega) (by omega)), X4_rowOf (by omega) hn, bd_some, clampN (by omega), X_bitCount, bd_some, nI_add, nI_1]
      exact ih f (j + 1) (by omega) (by omega)
  unfold F_X4_countOther
  rw [show (0 : Int32) = nI (dif 0 pr ro) from rfl, show nI (dif 0 pr ro) = nI 0 from rfl] at *
  rw [show F_X4_countOther_L4 nn pr ro fu (nI 0) (nI 0) = _ from L nn fu 0 (by omega) (by omega)]
  rfl
theorem X4_flip {nn a b : Nat} (ha : a < nn) (hb : b < nn) (hn : nn ≤ 48) (ro : AJ) : F_X4_flip nn (nI a) (nI b) ro = some (vp_updL ro a (ro a ^^^ ((1 : Int64) <<< ((nI b).toInt64 &&& 63)))) := by
  unfold F_X4_flip
  rw [X4_isThing hn, bd_some, if10', if_pos (tg_nI ha (by omega)), X4_isThing hn, bd_some, if10', if_pos (tg_nI hb (by omega)), ck_t (bn_nI ha (by omega)), ck_t (bn_nI ha (by omega)), clampN (by omega)]
theorem bt_flip {nn a b : Nat} (hb : b < nn) (hn : nn ≤ 48) (ro : AJ) (c i : Nat) : bt (vp_updL ro a (ro a ^^^ ((1 : Int64) <<< ((nI b).toInt64 &&& 63))) c) i = if c = a ∧ i = b then !bt (ro a) b else bt (ro c) i := by
  rw [updL_if]
  by_cases e : c = a
  · subst e
    rw [if_pos rfl, bt_xor, bt_bit (by omega)]
    by_cases e2 : i = b
    · subst e2; simp
    · simp [e2]
  · rw [if_neg e, if_neg (by omega)]
theorem RP_flip {nn a b : Nat} {ro : AJ} {no : AI} {v : Int32} (h : RP nn ro no) (ha : a < nn) (hb : b < nn) (hn : nn ≤ 48) (hv : v = if (!bt (ro a) b) = true then 1 else 0) : RP nn (vp_updL ro a (ro a ^^^ ((1 : Int64) <<< ((nI b).toInt64 &&& 63)))) (upd no (48 * a + b) v) := by
  refine ⟨fun c hc i hi => ?_, fun c hc i hi => ?_⟩
  · rw [bt_flip hb hn, upd_if]
    by_cases e : c = a ∧ i = b
    · obtain ⟨rfl, rfl⟩ := e
      rw [if_pos (show 48 * c + i = 48 * c + i from rfl), hv]
      simp only [and_self, if_true]
    · rw [if_neg (by omega), if_neg e]
      exact h.1 c hc i hi
  · rw [bt_flip hb hn, if_neg (by omega)]
    exact h.2 c hc i hi
theorem dif_flip {nn a b : Nat} {pr ro : AJ} (ha : a < nn) (hb : b < nn) (hn : nn ≤ 48) : dif nn pr (vp_updL ro a (ro a ^^^ ((1 : Int64) <<< ((nI b).toInt64 &&& 63)))) + (if bt (pr a) b = bt (ro a) b then 0 else 1) = dif nn pr ro + (if bt (pr a) b = bt (ro a) b then 1 else 0) := by
  unfold dif
  have h1 := sm_upd (f := fun c => pc (pr c ^^^ vp_updL ro a (ro a ^^^ ((1 : Int64) <<< ((nI b).toInt64 &&& 63))) c)) (g := fun c => pc (pr c ^^^ ro c)) (i := a) (fun k hk => by rw [updL_if, if_neg hk]) ha
  have h2 := ct_flip (p := bt (pr a ^^^ vp_updL ro a (ro a ^^^ ((1 : Int64) <<< ((nI b).toInt64 &&& 63))) a)) (q := bt (pr a ^^^ ro a)) (i := b) (by rw [bt_xor, bt_xor, bt_flip hb hn, if_pos ⟨rfl, rfl⟩]; cases bt (pr a) b <;> cases bt (ro a) b <;> rfl) (fun k hk => by rw [bt_xor, bt_xor, bt_flip hb hn, if_neg (by omega)]) (n := 64) (by omega)
  have h3 : bt (pr a ^^^ ro a) b = (bt (pr a) b ^^ bt (ro a) b) := bt_xor _ _ _
  have h4 : bt (pr a ^^^ vp_updL ro a (ro a ^^^ ((1 : Int64) <<< ((nI b).toInt64 &&& 63))) a) b = (bt (pr a) b ^^ !bt (ro a) b) := by rw [bt_xor, bt_flip hb hn, if_pos ⟨rfl, rfl⟩]
  rw [h3, h4] at h2
  unfold pc at h1 ⊢
  revert h2
  cases bt (pr a) b <;> cases bt (ro a) b <;> simp <;> intro h2 <;> omega
theorem M_turn {a b : Nat} {no pk : AI} {mib mpa v : Int32} {p g bv : Bool} (ha : a < 48) (hb : b < 48) (hno : no (48 * a + b) = if g = true then 1 else 0) (hpk : mib = 1 → pk (48 * a + b) = if p = true then 1 else 0) (hv : v = if bv = true then 1 else 0) (hm : mib = 0 ∨ mib = 1) : F_X9_turn (nI a) (nI b) v no mib mpa pk = some (if g = bv then (0, mpa, no) else if mib = 0 then (1, mpa, upd no (48 * a + b) v) else if p = bv then (1, mpa + (-1), upd no (48 * a + b) v) else if mpa = 40 then (-4, mpa, no) else (1, mpa + 1, upd no (48 * a + b) v)) := by
  unfold F_X9_turn
  have hbn : bn (nI (48 * a + b)) 2304 = true := bn_nI (by omega) (by decide)
  have hcl : (nI (48 * a + b)).toNatClampNeg = 48 * a + b := clampN (by omega)
  have hz : vp_nar .boolean v = v := by rw [hv]; cases bv <;> rfl
  simp only [ix48, hcl, ck_t hbn, hno, hz, i_add0]
  rcases hm with rfl | rfl
  · cases g <;> cases bv <;> simp [hv]
  · rw [hpk rfl]
    cases g <;> cases bv <;> cases p <;> simp [hv] <;> (split <;> rfl)
theorem X8_change {fu nn a b : Nat} {ro pr : AJ} {th v : Int32} {bv : Bool} (hf : 100 ≤ fu) (ha : a < nn) (hb : b < nn) (hn : nn ≤ 48) (hv : v = if bv = true then 1 else 0) (hth : th = 0 ∨ th = 1) (hd : dif nn pr ro ≤ 40 ∨ th = 0) : F_X8_change fu nn (nI a) (nI b) v ro th pr = some (if bt (ro a) b = bv then (0, ro) else if th = 0 then (1, vp_updL ro a (ro a ^^^ ((1 : Int64) <<< ((nI b).toInt64 &&& 63)))) else if bt (pr a) b = bv then (1, vp_updL ro a (ro a ^^^ ((1 : Int64) <<< ((nI b).toInt64 &&& 63)))) else if dif nn pr ro = 40 then (-4, ro) else (1, vp_updL ro a (ro a ^^^ ((1 : Int64) <<< ((nI b).toInt64 &&& 63))))) := by
  unfold F_X8_change F_X1_isThere F_X1_isPatch F_X1_patchesTo
  simp only [X4_isThing hn, bd_some, if10', if_pos (tg_nI ha (show nn < 2 ^ 31 by omega)), if_pos (tg_nI hb (show nn < 2 ^ 31 by omega)), X4_joined ha hb hn, X4_flip ha hb hn, X4_countOther hf hn]
  rcases hth with rfl | rfl
  · cases hg : bt (ro a) b <;> cases bv <;> simp [hv, ck, zb]
  · have hd : dif nn pr ro ≤ 40 := by rcases hd with h | h; exact h; cases h
    have hlt : (nI (dif nn pr ro) < (40 : Int32)) ↔ ¬ dif nn pr ro = 40 := by
      rw [show (40 : Int32) = nI 40 from rfl, nI_ltI (by omega) (by decide)]
      omega
    cases hg : bt (ro a) b <;> cases bv <;> cases hp : bt (pr a) b <;> simp [hv, ck, zb, hlt] <;> (split <;> simp_all)

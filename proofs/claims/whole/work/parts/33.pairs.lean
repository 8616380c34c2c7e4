/-! ===== pure: pair, drop, has, next, degree, meet, back ===== -/
theorem X8_change_out {fu nn : Nat} {x1 x2 v th : Int32} {ro pr : AJ} (hn : nn ≤ 48) (h : ¬ (tg nn x1 = true ∧ tg nn x2 = true)) : F_X8_change fu nn x1 x2 v ro th pr = some (-2, ro) := by
  unfold F_X8_change
  rw [X4_isThing hn, bd_some, if10']
  by_cases h1 : tg nn x1 = true
  · rw [if_pos h1, X4_isThing hn, bd_some, if10', if_neg (fun h2 => h ⟨h1, h2⟩)]
  · rw [if_neg h1]
theorem RB_flip {BK : BKT} {nn a b : Nat} {ro pr : AJ} {th sp bs mib mpa msz mps : Int32} {wr no ki di de st ta mpk mbi mwr mki mfr mde mbe : AI} {bv : Bool} (ha : a < nn) (hb : b < nn) (hn : nn ≤ 48) (hne : ¬ bt (ro a) b = bv) (h : RB BK nn ro th sp pr bs wr no ki di de st ta mib mpa msz mps mpk mbi mwr mki mfr mde mbe) (hx : ¬ (th = 1 ∧ ¬ bt (pr a) b = bv ∧ dif nn pr ro = 40)) : RB BK nn (vp_updL ro a (ro a ^^^ ((1 : Int64) <<< ((nI b).toInt64 &&& 63)))) th sp pr bs wr no ki di de st ta mib (if mib = 0 then mpa else if bt (pr a) b = bv then mpa + (-1) else mpa + 1) msz mps mpk mbi mwr mki mfr mde mbe := by
  rcases h with ⟨h1, h2, h3⟩ | ⟨h1, h2, h3, h4, h5, h6⟩
  · exact Or.inl ⟨h1, h2, by rw [if_pos h2]; exact h3⟩
  · right
    have hd := dif_flip (pr := pr) (ro := ro) ha hb hn
    refine ⟨h1, h2, h3, ?_, ?_, h6⟩
    · rw [h2, if_neg (by decide), h4]
      by_cases e : bt (pr a) b = bv
      · have : ¬ bt (pr a) b = bt (ro a) b := fun z => hne (z ▸ e)
        rw [if_neg this, if_neg this] at hd
        have hd2 : dif nn pr ro = dif nn pr (vp_updL ro a (ro a ^^^ ((1 : Int64) <<< ((nI b).toInt64 &&& 63)))) + 1 := by omega
        rw [if_pos e, hd2]
        exact pk_m1 _
      · have : bt (pr a) b = bt (ro a) b := by revert e hne; cases bt (pr a) b <;> cases bt (ro a) b <;> cases bv <;> simp
        rw [if_pos this, if_pos this, Nat.add_zero] at hd
        rw [if_neg e, hd, nI_1]
    · by_cases e : bt (pr a) b = bv
      · have : ¬ bt (pr a) b = bt (ro a) b := fun z => hne (z ▸ e)
        rw [if_neg this, if_neg this] at hd
        omega
      · have : bt (pr a) b = bt (ro a) b := by revert e hne; cases bt (pr a) b <;> cases bt (ro a) b <;> cases bv <;> simp
        rw [if_pos this, if_pos this, Nat.add_zero] at hd
        have : dif nn pr ro ≠ 40 := fun z => hx ⟨h1, e, z⟩
        omega
theorem RB_th {BK : BKT} {nn : Nat} {ro pr : AJ} {th sp bs mib mpa msz mps : Int32} {wr no ki di de st ta mpk mbi mwr mki mfr mde mbe : AI} (h : RB BK nn ro th sp pr bs wr no ki di de st ta mib mpa msz mps mpk mbi mwr mki mfr mde mbe) : (th = 0 ∨ th = 1) ∧ th = mib ∧ (dif nn pr ro ≤ 40 ∨ th = 0) ∧ (mib = 1 → RP nn pr mpk ∧ mpa = nI (dif nn pr ro) ∧ dif nn pr ro ≤ 40) := by
  rcases h with ⟨h1, h2, h3⟩ | ⟨h1, h2, h3, h4, h5, h6⟩
  · exact ⟨Or.inl h1, by rw [h1, h2], Or.inr h1, fun z => by rw [h2] at z; cases z⟩
  · exact ⟨Or.inr h1, by rw [h1, h2], Or.inl h5, fun _ => ⟨h3, h4, h5⟩⟩
theorem chg_core {BK : BKT} {fu nn a b : Nat} {ro pr : AJ} {th sp bs mib mpa msz mps v : Int32} {wr no ki di de st ta mno mpk mbi mwr mki mfr mde mbe : AI} {bv : Bool} (hf : 100 ≤ fu) (ha : a < nn) (hb : b < nn) (hn : nn ≤ 48) (hv : v = if bv = true then 1 else 0) (hP : RP nn ro mno) (h : RB BK nn ro th sp pr bs wr no ki di de st ta mib mpa msz mps mpk mbi mwr mki mfr mde mbe) : ∃ (r : Int32) (ro2 : AJ) (mpa2 : Int32) (mno2 : AI), F_X8_change fu nn (nI a) (nI b) v ro th pr = some (r, ro2) ∧ F_X9_turn (nI a) (nI b) v mno mib mpa mpk = some (r, mpa2, mno2) ∧ RP nn ro2 mno2 ∧ RB BK nn ro2 th sp pr bs wr no ki di de st ta mib mpa2 msz mps mpk mbi mwr mki mfr mde mbe := by
  obtain ⟨t1, t2, t3, t4⟩ := RB_th h
  have hX := X8_change hf ha hb hn hv t1 t3
  have hM := M_turn (a := a) (b := b) (mpa := mpa) (v := v) (pk := mpk) (p := bt (pr a) b) (by omega) (by omega) (hP.1 a ha b hb) (fun z => (t4 z).1.1 a ha b hb) hv (t2 ▸ t1)
  by_cases e1 : bt (ro a) b = bv
  · rw [if_pos e1] at hX hM
    exact ⟨_, _, _, _, hX, hM, hP, h⟩
  · rw [if_neg e1] at hX hM
    have hP2 : RP nn (vp_updL ro a (ro a ^^^ ((1 : Int64) <<< ((nI b).toInt64 &&& 63)))) (upd mno (48 * a + b) v) := RP_flip hP ha hb hn (by rw [hv]; revert e1; cases bt (ro a) b <;> cases bv <;> simp)
    by_cases e2 : mib = 0
    · rw [if_pos (t2.trans e2)] at hX
      rw [if_pos e2] at hM
      have := RB_flip ha hb hn e1 h (fun z => by rw [t2, e2] at z; cases z.1)
      rw [if_pos e2] at this
      exact ⟨_, _, _, _, hX, hM, hP2, this⟩
    · rw [if_neg (fun z => e2 (t2 ▸ z))] at hX
      rw [if_neg e2] at hM
      have hm1 : mib = 1 := by rcases t1 with z | z; exact absurd (t2 ▸ z) e2; exact t2 ▸ z
      obtain ⟨t5, t6, t7⟩ := t4 hm1
      by_cases e3 : bt (pr a) b = bv
      · rw [if_pos e3] at hX hM
        have := RB_flip ha hb hn e1 h (fun z => z.2.1 e3)
        rw [if_neg e2, if_pos e3] at this
        exact ⟨_, _, _, _, hX, hM, hP2, this⟩
      · rw [if_neg e3] at hX hM
        by_cases e4 : dif nn pr ro = 40
        · rw [if_pos e4] at hX
          rw [if_pos (by rw [t6, e4]; rfl)] at hM
          exact ⟨_, _, _, _, hX, hM, hP, h⟩
        · rw [if_neg e4] at hX
          rw [if_neg (by rw [t6, show (40 : Int32) = nI 40 from rfl, nI_eq (by omega) (by decide)]; exact e4)] at hM
          have := RB_flip ha hb hn e1 h (fun z => e4 z.2.2)
          rw [if_neg e2, if_neg e3] at this
          exact ⟨_, _, _, _, hX, hM, hP2, this⟩
theorem ok_pair (BK : BKT) {fu : Nat} (hf : 20000 ≤ fu) : OK_pair fu (Rel BK) := by
  intro nn X M x1 x2 hR
  obtain ⟨h1, hn, hmn, hP, hRR, hB⟩ := id hR
  unfold SX_pair SM_pair F_X8_pair F_X9_pair
  rw [hmn, X9_isThing h1 hn, X9_isThing h1 hn]
  by_cases e1 : tg nn x1 = true
  · by_cases e2 : tg nn x2 = true
    · obtain ⟨a, ha, rfl⟩ := tg_of e1
      obtain ⟨b, hb, rfl⟩ := tg_of e2
      obtain ⟨r, ro2, mpa2, mno2, c1, c2, c3, c4⟩ := chg_core (v := 1) (bv := true) (fu := fu) (by omega) ha hb hn rfl hP hB
      rw [c1, bd_some, bd_some, bd_some, if10', if_pos e1, bd_some, if10', if_pos e2, c2]
      exact ⟨_, _, _, rfl, rfl, h1, hn, rfl, c3, hRR, c4⟩
    · rw [X8_change_out hn (fun z => e2 z.2), bd_some, bd_some, bd_some, if10', if_pos e1, bd_some, if10', if_neg e2]
      exact ⟨_, _, _, rfl, rfl, h1, hn, rfl, hP, hRR, hB⟩
  · rw [X8_change_out hn (fun z => e1 z.1), bd_some, bd_some, bd_some, if10', if_neg e1]
    exact ⟨_, _, _, rfl, rfl, h1, hn, rfl, hP, hRR, hB⟩
theorem ok_drop (BK : BKT) {fu : Nat} (hf : 20000 ≤ fu) : OK_drop fu (Rel BK) := by
  intro nn X M x1 x2 hR
  obtain ⟨h1, hn, hmn, hP, hRR, hB⟩ := id hR
  unfold SX_drop SM_drop F_X8_drop F_X9_drop
  rw [hmn, X9_isThing h1 hn, X9_isThing h1 hn]
  by_cases e1 : tg nn x1 = true
  · by_cases e2 : tg nn x2 = true
    · obtain ⟨a, ha, rfl⟩ := tg_of e1
      obtain ⟨b, hb, rfl⟩ := tg_of e2
      obtain ⟨r, ro2, mpa2, mno2, c1, c2, c3, c4⟩ := chg_core (v := 0) (bv := false) (fu := fu) (by omega) ha hb hn rfl hP hB
      rw [c1, bd_some, bd_some, bd_some, if10', if_pos e1, bd_some, if10', if_pos e2, c2]
      exact ⟨_, _, _, rfl, rfl, h1, hn, rfl, c3, hRR, c4⟩
    · rw [X8_change_out hn (fun z => e2 z.2), bd_some, bd_some, bd_some, if10', if_pos e1, bd_some, if10', if_neg e2]
      exact ⟨_, _, _, rfl, rfl, h1, hn, rfl, hP, hRR, hB⟩
  · rw [X8_change_out hn (fun z => e1 z.1), bd_some, bd_some, bd_some, if10', if_neg e1]
    exact ⟨_, _, _, rfl, rfl, h1, hn, rfl, hP, hRR, hB⟩
theorem ok_has (BK : BKT) {fu : Nat} (hf : 20000 ≤ fu) : OK_has fu (Rel BK) := by
  intro nn X M x1 x2 hR
  obtain ⟨h1, hn, hmn, hP, hRR, hB⟩ := id hR
  unfold SX_has SM_has F_X8_has F_X9_has
  rw [hmn, X9_isThing h1 hn, X9_isThing h1 hn, X4_isThing hn, X4_isThing hn, bd_some, if10', bd_some, if10', bd_some, if10', bd_some, if10']
  by_cases e1 : tg nn x1 = true
  · by_cases e2 : tg nn x2 = true
    · rw [if_pos e1, if_pos e1, if_pos e2, if_pos e2]
      obtain ⟨a, ha, rfl⟩ := tg_of e1
      obtain ⟨b, hb, rfl⟩ := tg_of e2
      rw [X4_joined ha hb hn, bd_some, if10', ix48, ck_t (bn_nI (by omega) (by decide)), clampN (by omega), hP.1 a ha b hb, if10']
      cases bt (xro_ X a) b
      · exact ⟨_, _, _, rfl, rfl, h1, hn, rfl, hP, hRR, hB⟩
      · exact ⟨_, _, _, rfl, rfl, h1, hn, rfl, hP, hRR, hB⟩
    · rw [if_pos e1, if_pos e1, if_neg e2, if_neg e2]
      exact ⟨_, _, _, rfl, rfl, h1, hn, rfl, hP, hRR, hB⟩
  · rw [if_neg e1, if_neg e1]
    exact ⟨_, _, _, rfl, rfl, h1, hn, rfl, hP, hRR, hB⟩

set_option maxHeartbeats 4000000 in
set_option maxRecDepth 100000 in
theorem c_X8_isBelow {κ : xb_k} {ws : va_W}  {x0 : Int32} {x1 : Int32}  {o : Int32} (hF : F_X8_isBelow x0 x1 = some o) : Met κ.1 yX8_isBelow [Cond.code yX8_isBelow cX8_isBelow 2 (some .boolean)] { frames := 0, cells := 0, slots := 0, locals := 0 } (xb_P κ [.int x0, .int x1] ws) (xb_Qi κ o ws) 0 0 κ.2.2.1 := by
  refine x_enter (own := RX8) (lv0 := [(0, .int x0), (1, .int x1)]) (by decide) rfl rfl rfl (fun Γ C E => ?_)
  unfold F_X8_isBelow at hF
  refine x_iload_n C dX8_isBelow_0 0 rfl ?_
  refine x_if_lt (tgt := 13) C dX8_isBelow_1 (by decide) (fun hc => ?_) (fun hc => ?_)
  · replace hF := ifp hc hF
    refine x_iconst (v := 0) C dX8_isBelow_13 (by decide) ?_
    cases hF
    exact x_zret C E rfl dX8_isBelow_14
  · replace hF := ifn hc hF
    refine x_iload_n C dX8_isBelow_4 0 rfl ?_
    refine x_iload_n C dX8_isBelow_5 1 rfl ?_
    refine x_icmp_ge (tgt := 13) C dX8_isBelow_6 (by decide) (fun hc => ?_) (fun hc => ?_)
    · replace hF := ifp hc hF
      refine x_iconst (v := 0) C dX8_isBelow_13 (by decide) ?_
      cases hF
      exact x_zret C E rfl dX8_isBelow_14
    · replace hF := ifn hc hF
      refine x_iconst (v := 1) C dX8_isBelow_9 (by decide) ?_
      refine x_goto (tgt := 14) C dX8_isBelow_10 (by decide) ?_
      cases hF
      exact x_zret C E rfl dX8_isBelow_14
set_option maxHeartbeats 4000000 in
set_option maxRecDepth 100000 in
theorem w_X4_columnOf_L5 {κ : xb_k} {Γ : xb_X} {q : Nat → Nat} {nn : Nat} {xro : (Nat → Int64)} {xrn : (Nat → Int64)} {xfo : (Nat → Int32)} {xva : (Nat → Int32)} {xts : Int32} {xus : (Nat → Int32)} {xnu : (Nat → Int32)} {xth : Int32} {xsp : Int32} {xpr : (Nat → Int64)} {xpn : (Nat → Int64)} {xbs : Int32} {xwr : (Nat → Int32)} {xno : (Nat → Int32)} {xki : (Nat → Int32)} {xdi : (Nat → Int32)} {xde : (Nat → Int32)} {xst : (Nat → Int32)} {xta : (Nat → Int32)} {xcb : Int32} {xcd : Int32} {xbe : (Nat → Int32)} {xli : (Nat → Int32)} {xke : (Nat → Int32)} {xne : (Nat → Int64)} {x1 : Int32}  (C : xb_C κ Γ 5 cX4_columnOf RX4 { frames := 1, cells := 0, slots := 0, locals := 22 }) : ∀ (n : Nat) (x2 : Int64) (x4 : Int32) (o : Int64), F_X4_columnOf_L5 nn x1 xro n x2 x4 = some o → xb_W κ Γ 5 0 0 42 [(2, .long o)] [] (xw κ q nn xro xrn xfo xva xts xus xnu xth xsp xpr xpn xbs xwr xno xki xdi xde xst xta xcb xcd xbe xli xke xne) → xb_W κ Γ 5 0 0 5 [(0, .ref (q 1)), (1, .int x1), (2, .long x2), (4, .int x4)] [] (xw κ q nn xro xrn xfo xva xts xus xnu xth xsp xpr xpn xbs xwr xno xki xdi xde xst xta xcb xcd xbe xli xke xne) := by
  intro n
  induction n with
  | zero =>
    intro x2 x4 o hF K
    rw [F_X4_columnOf_L5] at hF
    cases hF
  | succ n ih =>
    intro x2 x4 o hF K
    rw [F_X4_columnOf_L5] at hF
    refine x_iload C dX4_columnOf_5 3 rfl ?_
    refine x_aload_n C dX4_columnOf_7 0 rfl ?_
    refine gf_X4_7 C 1 rfl rfl dX4_columnOf_8 ?_
    refine x_alen (v := nI nn) C 2 1 rfl rfl rfl dX4_columnOf_11 ?_
    refine x_icmp_ge (tgt := 42) C dX4_columnOf_12 (by decide) (fun hc => ?_) (fun hc => ?_)
    · replace hF := ifp hc hF
      cases hF
      exact x_sub [2] rfl K
    · replace hF := ifn hc hF
      refine x_aload_n C dX4_columnOf_15 0 rfl ?_
      refine gf_X4_7 C 1 rfl rfl dX4_columnOf_16 ?_
      refine x_iload C dX4_columnOf_19 3 rfl ?_
      obtain ⟨b1, hF⟩ := ck_s hF
      refine x_lald C 2 rfl b1 dX4_columnOf_21 ?_
      refine x_iload_n C dX4_columnOf_22 1 rfl ?_
      obtain ⟨o2, h3, hF⟩ := bd_s hF
      refine x_callNi (st := []) C (c_X8_isIn h3) xm_X8_isIn mn_X4_16 rfl rfl rfl rfl dX4_columnOf_23 ⟨rfl, rfl⟩ ?_
      refine x_if_eq (tgt := 36) C dX4_columnOf_26 (by decide) (fun hc => ?_) (fun hc => ?_)
      · replace hF := ifp hc hF
        refine x_iinc (v := x4 + 1) (lv2 := [(4, .int (x4 + 1)), (0, .ref (q 1)), (1, .int x1), (2, .long x2)]) C dX4_columnOf_36 3 rfl rfl (by decide) rfl ?_
        refine x_goto (tgt := 5) C dX4_columnOf_39 (by decide) ?_
        exact x_sub [1, 2, 3, 0] rfl (ih _ _ _ hF K)
      · replace hF := ifn hc hF
        refine x_lload_n C dX4_columnOf_29 2 rfl ?_
        refine x_lconst (v := 1) C dX4_columnOf_30 (by decide) ?_
        refine x_iload C dX4_columnOf_31 3 rfl ?_
        refine x_lshl C dX4_columnOf_33 ?_
        refine x_lor C dX4_columnOf_34 ?_
        refine x_lstore_n (lv2 := [(2, .long (x2 ||| ((1 : Int64) <<< (x4.toInt64 &&& 63)))), (0, .ref (q 1)), (1, .int x1), (4, .int x4)]) C dX4_columnOf_35 rfl (by decide) rfl ?_
        refine x_iinc (v := x4 + 1) (lv2 := [(4, .int (x4 + 1)), (2, .long (x2 ||| ((1 : Int64) <<< (x4.toInt64 &&& 63)))), (0, .ref (q 1)), (1, .int x1)]) C dX4_columnOf_36 3 rfl rfl (by decide) rfl ?_
        refine x_goto (tgt := 5) C dX4_columnOf_39 (by decide) ?_
        exact x_sub [2, 3, 1, 0] rfl (ih _ _ _ hF K)
set_option maxHeartbeats 4000000 in
set_option maxRecDepth 100000 in
theorem c_X4_columnOf {κ : xb_k} {q : Nat → Nat} {nn : Nat} {xro : (Nat → Int64)} {xrn : (Nat → Int64)} {xfo : (Nat → Int32)} {xva : (Nat → Int32)} {xts : Int32} {xus : (Nat → Int32)} {xnu : (Nat → Int32)} {xth : Int32} {xsp : Int32} {xpr : (Nat → Int64)} {xpn : (Nat → Int64)} {xbs : Int32} {xwr : (Nat → Int32)} {xno : (Nat → Int32)} {xki : (Nat → Int32)} {xdi : (Nat → Int32)} {xde : (Nat → Int32)} {xst : (Nat → Int32)} {xta : (Nat → Int32)} {xcb : Int32} {xcd : Int32} {xbe : (Nat → Int32)} {xli : (Nat → Int32)} {xke : (Nat → Int32)} {xne : (Nat → Int64)} {x1 : Int32} {fu : Nat} {o : Int64} (hF : F_X4_columnOf fu nn x1 xro = some o) : Met κ.1 yX4_columnOf [Cond.code yX4_columnOf cX4_columnOf 5 (some .long)] { frames := 1, cells := 0, slots := 0, locals := 22 } (xb_P κ [.ref (q 1), .int x1] (xw κ q nn xro xrn xfo xva xts xus xnu xth xsp xpr xpn xbs xwr xno xki xdi xde xst xta xcb xcd xbe xli xke xne)) (xb_Ql κ o (xw κ q nn xro xrn xfo xva xts xus xnu xth xsp xpr xpn xbs xwr xno xki xdi xde xst xta xcb xcd xbe xli xke xne)) 0 0 κ.2.2.1 := by
  refine x_enter (own := RX4) (lv0 := [(0, .ref (q 1)), (1, .int x1)]) (by decide) rfl rfl rfl (fun Γ C E => ?_)
  unfold F_X4_columnOf at hF
  refine x_lconst (v := 0) C dX4_columnOf_0 (by decide) ?_
  refine x_lstore_n (lv2 := [(2, .long (0 : Int64)), (0, .ref (q 1)), (1, .int x1)]) C dX4_columnOf_1 rfl (by decide) rfl ?_
  refine x_iconst (v := 0) C dX4_columnOf_2 (by decide) ?_
  refine x_istore (lv2 := [(4, .int (0 : Int32)), (2, .long (0 : Int64)), (0, .ref (q 1)), (1, .int x1)]) C dX4_columnOf_3 (by decide) rfl ?_
  obtain ⟨o4, h5, hF⟩ := bd_s hF
  refine x_sub [2, 3, 1, 0] rfl (w_X4_columnOf_L5 C fu _ _ _ h5 ?_)
  refine x_lload_n C dX4_columnOf_42 0 rfl ?_
  cases hF
  exact x_lret C E dX4_columnOf_43
set_option maxHeartbeats 4000000 in
set_option maxRecDepth 100000 in
theorem c_X8_degree {κ : xb_k} {q : Nat → Nat} {nn : Nat} {xro : (Nat → Int64)} {xrn : (Nat → Int64)} {xfo : (Nat → Int32)} {xva : (Nat → Int32)} {xts : Int32} {xus : (Nat → Int32)} {xnu : (Nat → Int32)} {xth : Int32} {xsp : Int32} {xpr : (Nat → Int64)} {xpn : (Nat → Int64)} {xbs : Int32} {xwr : (Nat → Int32)} {xno : (Nat → Int32)} {xki : (Nat → Int32)} {xdi : (Nat → Int32)} {xde : (Nat → Int32)} {xst : (Nat → Int32)} {xta : (Nat → Int32)} {xcb : Int32} {xcd : Int32} {xbe : (Nat → Int32)} {xli : (Nat → Int32)} {xke : (Nat → Int32)} {xne : (Nat → Int64)} {x1 : Int32} {x2 : Int32} {fu : Nat} {o : Int32} (hF : F_X8_degree fu nn x1 x2 xro = some o) : Met κ.1 yX8_degree [Cond.code yX8_degree cX8_degree 3 (some .int)] { frames := 2, cells := 0, slots := 0, locals := 46 } (xb_P κ [.ref (q 0), .int x1, .int x2] (xw κ q nn xro xrn xfo xva xts xus xnu xth xsp xpr xpn xbs xwr xno xki xdi xde xst xta xcb xcd xbe xli xke xne)) (xb_Qi κ o (xw κ q nn xro xrn xfo xva xts xus xnu xth xsp xpr xpn xbs xwr xno xki xdi xde xst xta xcb xcd xbe xli xke xne)) 0 0 κ.2.2.1 := by
  refine x_enter (own := RX8) (lv0 := [(0, .ref (q 0)), (1, .int x1), (2, .int x2)]) (by decide) rfl rfl rfl (fun Γ C E => ?_)
  unfold F_X8_degree at hF
  refine x_aload_n C dX8_degree_0 0 rfl ?_
  refine gf_X8_23 C 0 rfl rfl dX8_degree_1 ?_
  refine x_iload_n C dX8_degree_4 1 rfl ?_
  obtain ⟨o1, h2, hF⟩ := bd_s hF
  refine x_callVi (st := []) C (c_X4_isThing h2) xm_X4_isThing ml_X8_73 1 rfl rfl rfl rfl rfl rfl dX8_degree_5 ⟨rfl, rfl⟩ ?_
  refine x_if_eq (tgt := 19) C dX8_degree_8 (by decide) (fun hc => ?_) (fun hc => ?_)
  · replace hF := ifp hc hF
    refine x_bipush (v := (-2)) C dX8_degree_19 (by decide) ?_
    cases hF
    exact x_iret C E dX8_degree_21
  · replace hF := ifn hc hF
    refine x_iload_n C dX8_degree_11 2 rfl ?_
    refine x_iconst (v := 2) C dX8_degree_12 (by decide) ?_
    obtain ⟨o3, h4, hF⟩ := bd_s hF
    refine x_callSi (st := []) C (c_X8_isBelow h4) xm_X8_isBelow ml_X8_89 rfl rfl rfl rfl dX8_degree_13 ⟨rfl, rfl⟩ ?_
    refine x_if_ne (tgt := 22) C dX8_degree_16 (by decide) (fun hc => ?_) (fun hc => ?_)
    · replace hF := ifn hc hF
      refine x_iload_n C dX8_degree_22 2 rfl ?_
      refine x_if_ne (tgt := 37) C dX8_degree_23 (by decide) (fun hc => ?_) (fun hc => ?_)
      · replace hF := ifn hc hF
        refine x_aload_n C dX8_degree_37 0 rfl ?_
        refine gf_X8_23 C 0 rfl rfl dX8_degree_38 ?_
        refine x_iload_n C dX8_degree_41 1 rfl ?_
        obtain ⟨o5, h6, hF⟩ := bd_s hF
        refine x_callVl (st := []) C (c_X4_columnOf h6) xm_X4_columnOf ml_X8_92 1 rfl rfl rfl rfl rfl rfl dX8_degree_42 ⟨rfl, rfl⟩ ?_
        obtain ⟨o7, h8, hF⟩ := bd_s hF
        refine x_callSi (st := []) C (c_J13_bitCount_95d88 h8) xm_J13_bitCount_95d88 ml_X8_95 rfl rfl rfl rfl dX8_degree_45 ⟨rfl, rfl⟩ ?_
        cases hF
        exact x_iret C E dX8_degree_48
      · replace hF := ifp hc hF
        refine x_aload_n C dX8_degree_26 0 rfl ?_
        refine gf_X8_23 C 0 rfl rfl dX8_degree_27 ?_
        refine x_iload_n C dX8_degree_30 1 rfl ?_
        obtain ⟨o9, h10, hF⟩ := bd_s hF
        refine x_callVl (st := []) C (c_X4_rowOf h10) xm_X4_rowOf ml_X8_81 1 rfl rfl rfl rfl rfl rfl dX8_degree_31 ⟨rfl, rfl⟩ ?_
        refine x_goto (tgt := 45) C dX8_degree_34 (by decide) ?_
        obtain ⟨o11, h12, hF⟩ := bd_s hF
        refine x_callSi (st := []) C (c_J13_bitCount_95d88 h12) xm_J13_bitCount_95d88 ml_X8_95 rfl rfl rfl rfl dX8_degree_45 ⟨rfl, rfl⟩ ?_
        cases hF
        exact x_iret C E dX8_degree_48
    · replace hF := ifp hc hF
      refine x_bipush (v := (-2)) C dX8_degree_19 (by decide) ?_
      cases hF
      exact x_iret C E dX8_degree_21
set_option maxHeartbeats 4000000 in
set_option maxRecDepth 100000 in
theorem c_X8_meet {κ : xb_k} {q : Nat → Nat} {nn : Nat} {xro : (Nat → Int64)} {xrn : (Nat → Int64)} {xfo : (Nat → Int32)} {xva : (Nat → Int32)} {xts : Int32} {xus : (Nat → Int32)} {xnu : (Nat → Int32)} {xth : Int32} {xsp : Int32} {xpr : (Nat → Int64)} {xpn : (Nat → Int64)} {xbs : Int32} {xwr : (Nat → Int32)} {xno : (Nat → Int32)} {xki : (Nat → Int32)} {xdi : (Nat → Int32)} {xde : (Nat → Int32)} {xst : (Nat → Int32)} {xta : (Nat → Int32)} {xcb : Int32} {xcd : Int32} {xbe : (Nat → Int32)} {xli : (Nat → Int32)} {xke : (Nat → Int32)} {xne : (Nat → Int64)} {x1 : Int32} {x2 : Int32}  {o : Int32} (hF : F_X8_meet nn x1 x2 xro = some o) : Met κ.1 yX8_meet [Cond.code yX8_meet cX8_meet 3 (some .int)] { frames := 1, cells := 0, slots := 0, locals := 21 } (xb_P κ [.ref (q 0), .int x1, .int x2] (xw κ q nn xro xrn xfo xva xts xus xnu xth xsp xpr xpn xbs xwr xno xki xdi xde xst xta xcb xcd xbe xli xke xne)) (xb_Qi κ o (xw κ q nn xro xrn xfo xva xts xus xnu xth xsp xpr xpn xbs xwr xno xki xdi xde xst xta xcb xcd xbe xli xke xne)) 0 0 κ.2.2.1 := by
  refine x_enter (own := RX8) (lv0 := [(0, .ref (q 0)), (1, .int x1), (2, .int x2)]) (by decide) rfl rfl rfl (fun Γ C E => ?_)
  unfold F_X8_meet at hF
  refine x_aload_n C dX8_meet_0 0 rfl ?_
  refine gf_X8_23 C 0 rfl rfl dX8_meet_1 ?_
  refine x_iload_n C dX8_meet_4 1 rfl ?_
  obtain ⟨o1, h2, hF⟩ := bd_s hF
  refine x_callVi (st := []) C (c_X4_isThing h2) xm_X4_isThing ml_X8_73 1 rfl rfl rfl rfl rfl rfl dX8_meet_5 ⟨rfl, rfl⟩ ?_
  refine x_if_eq (tgt := 22) C dX8_meet_8 (by decide) (fun hc => ?_) (fun hc => ?_)
  · replace hF := ifp hc hF
    refine x_bipush (v := (-2)) C dX8_meet_22 (by decide) ?_
    cases hF
    exact x_iret C E dX8_meet_24
  · replace hF := ifn hc hF
    refine x_aload_n C dX8_meet_11 0 rfl ?_
    refine gf_X8_23 C 0 rfl rfl dX8_meet_12 ?_
    refine x_iload_n C dX8_meet_15 2 rfl ?_
    obtain ⟨o3, h4, hF⟩ := bd_s hF
    refine x_callVi (st := []) C (c_X4_isThing h4) xm_X4_isThing ml_X8_73 1 rfl rfl rfl rfl rfl rfl dX8_meet_16 ⟨rfl, rfl⟩ ?_
    refine x_if_ne (tgt := 25) C dX8_meet_19 (by decide) (fun hc => ?_) (fun hc => ?_)
    · replace hF := ifn hc hF
      refine x_aload_n C dX8_meet_25 0 rfl ?_
      refine gf_X8_23 C 0 rfl rfl dX8_meet_26 ?_
      refine x_iload_n C dX8_meet_29 1 rfl ?_
      obtain ⟨o5, h6, hF⟩ := bd_s hF
      refine x_callVl (st := []) C (c_X4_rowOf h6) xm_X4_rowOf ml_X8_81 1 rfl rfl rfl rfl rfl rfl dX8_meet_30 ⟨rfl, rfl⟩ ?_
      refine x_aload_n C dX8_meet_33 0 rfl ?_
      refine gf_X8_23 C 0 rfl rfl dX8_meet_34 ?_
      refine x_iload_n C dX8_meet_37 2 rfl ?_
      obtain ⟨o7, h8, hF⟩ := bd_s hF
      refine x_callVl (st := [.long o5]) C (c_X4_rowOf h8) xm_X4_rowOf ml_X8_81 1 rfl rfl rfl rfl rfl rfl dX8_meet_38 ⟨rfl, rfl⟩ ?_
      refine x_land C dX8_meet_41 ?_
      obtain ⟨o9, h10, hF⟩ := bd_s hF
      refine x_callSi (st := []) C (c_J13_bitCount_95d88 h10) xm_J13_bitCount_95d88 ml_X8_95 rfl rfl rfl rfl dX8_meet_42 ⟨rfl, rfl⟩ ?_
      cases hF
      exact x_iret C E dX8_meet_45
    · replace hF := ifp hc hF
      refine x_bipush (v := (-2)) C dX8_meet_22 (by decide) ?_
      cases hF
      exact x_iret C E dX8_meet_24
set_option maxHeartbeats 4000000 in
set_option maxRecDepth 100000 in
theorem w_X8_thingAt_L5 {κ : xb_k} {Γ : xb_X} {ws : va_W}  {x0 : Int64} {x2 : Int32}  (C : xb_C κ Γ 5 cX8_thingAt RX8 { frames := 1, cells := 0, slots := 0, locals := 22 }) : ∀ (n : Nat) (x3 : Int32) (x4 : Int32) (o : Int32), F_X8_thingAt_L5 x0 x2 n x3 x4 = some o → xb_E κ Γ (xb_Qi κ o ws) 0 0 (some .int) → xb_W κ Γ 5 0 0 5 [(0, .long x0), (2, .int x2), (3, .int x3), (4, .int x4)] [] ws := by
  intro n
  induction n with
  | zero =>
    intro x3 x4 o hF E
    rw [F_X8_thingAt_L5] at hF
    cases hF
  | succ n ih =>
    intro x3 x4 o hF E
    rw [F_X8_thingAt_L5] at hF
    refine x_iload C dX8_thingAt_5 3 rfl ?_
    refine x_bipush (v := 48) C dX8_thingAt_7 (by decide) ?_
    refine x_icmp_ge (tgt := 38) C dX8_thingAt_9 (by decide) (fun hc => ?_) (fun hc => ?_)
    · replace hF := ifp hc hF
      refine x_iconst (v := (-1)) C dX8_thingAt_38 (by decide) ?_
      cases hF
      exact x_iret C E dX8_thingAt_39
    · replace hF := ifn hc hF
      refine x_lload_n C dX8_thingAt_12 0 rfl ?_
      refine x_iload C dX8_thingAt_13 3 rfl ?_
      obtain ⟨o1, h2, hF⟩ := bd_s hF
      refine x_callSi (st := []) C (c_X8_isIn h2) xm_X8_isIn ml_X8_258 rfl rfl rfl rfl dX8_thingAt_15 ⟨rfl, rfl⟩ ?_
      refine x_if_eq (tgt := 32) C dX8_thingAt_18 (by decide) (fun hc => ?_) (fun hc => ?_)
      · replace hF := ifp hc hF
        refine x_iinc (v := x4 + 1) (lv2 := [(4, .int (x4 + 1)), (0, .long x0), (2, .int x2), (3, .int x3)]) C dX8_thingAt_32 3 rfl rfl (by decide) rfl ?_
        refine x_goto (tgt := 5) C dX8_thingAt_35 (by decide) ?_
        exact x_sub [1, 2, 3, 0] rfl (ih _ _ _ hF E)
      · replace hF := ifn hc hF
        refine x_iload_n C dX8_thingAt_21 2 rfl ?_
        refine x_iload_n C dX8_thingAt_22 1 rfl ?_
        refine x_icmp_ne (tgt := 29) C dX8_thingAt_23 (by decide) (fun hc => ?_) (fun hc => ?_)
        · replace hF := ifn hc hF
          refine x_iinc (v := x3 + 1) (lv2 := [(3, .int (x3 + 1)), (0, .long x0), (2, .int x2), (4, .int x4)]) C dX8_thingAt_29 2 rfl rfl (by decide) rfl ?_
          refine x_iinc (v := x4 + 1) (lv2 := [(4, .int (x4 + 1)), (3, .int (x3 + 1)), (0, .long x0), (2, .int x2)]) C dX8_thingAt_32 3 rfl rfl (by decide) rfl ?_
          refine x_goto (tgt := 5) C dX8_thingAt_35 (by decide) ?_
          exact x_sub [2, 3, 1, 0] rfl (ih _ _ _ hF E)
        · replace hF := ifp hc hF
          refine x_iload C dX8_thingAt_26 3 rfl ?_
          cases hF
          exact x_iret C E dX8_thingAt_28
set_option maxHeartbeats 4000000 in
set_option maxRecDepth 100000 in
theorem c_X8_thingAt {κ : xb_k} {ws : va_W}  {x0 : Int64} {x2 : Int32} {fu : Nat} {o : Int32} (hF : F_X8_thingAt fu x0 x2 = some o) : Met κ.1 yX8_thingAt [Cond.code yX8_thingAt cX8_thingAt 5 (some .int)] { frames := 1, cells := 0, slots := 0, locals := 22 } (xb_P κ [.long x0, .int x2] ws) (xb_Qi κ o ws) 0 0 κ.2.2.1 := by
  refine x_enter (own := RX8) (lv0 := [(0, .long x0), (2, .int x2)]) (by decide) rfl rfl rfl (fun Γ C E => ?_)
  unfold F_X8_thingAt at hF
  refine x_iconst (v := 0) C dX8_thingAt_0 (by decide) ?_
  refine x_istore_n (lv2 := [(3, .int (0 : Int32)), (0, .long x0), (2, .int x2)]) C dX8_thingAt_1 rfl (by decide) rfl ?_
  refine x_iconst (v := 0) C dX8_thingAt_2 (by decide) ?_
  refine x_istore (lv2 := [(4, .int (0 : Int32)), (3, .int (0 : Int32)), (0, .long x0), (2, .int x2)]) C dX8_thingAt_3 (by decide) rfl ?_
  exact x_sub [2, 3, 1, 0] rfl (w_X8_thingAt_L5 C fu _ _ _ hF E)
set_option maxHeartbeats 4000000 in
set_option maxRecDepth 100000 in
theorem c_X8_back {κ : xb_k} {q : Nat → Nat} {nn : Nat} {xro : (Nat → Int64)} {xrn : (Nat → Int64)} {xfo : (Nat → Int32)} {xva : (Nat → Int32)} {xts : Int32} {xus : (Nat → Int32)} {xnu : (Nat → Int32)} {xth : Int32} {xsp : Int32} {xpr : (Nat → Int64)} {xpn : (Nat → Int64)} {xbs : Int32} {xwr : (Nat → Int32)} {xno : (Nat → Int32)} {xki : (Nat → Int32)} {xdi : (Nat → Int32)} {xde : (Nat → Int32)} {xst : (Nat → Int32)} {xta : (Nat → Int32)} {xcb : Int32} {xcd : Int32} {xbe : (Nat → Int32)} {xli : (Nat → Int32)} {xke : (Nat → Int32)} {xne : (Nat → Int64)} {x1 : Int32} {x2 : Int32} {fu : Nat} {o : Int32} (hF : F_X8_back fu nn x1 x2 xro = some o) : Met κ.1 yX8_back [Cond.code yX8_back cX8_back 3 (some .int)] { frames := 2, cells := 0, slots := 0, locals := 46 } (xb_P κ [.ref (q 0), .int x1, .int x2] (xw κ q nn xro xrn xfo xva xts xus xnu xth xsp xpr xpn xbs xwr xno xki xdi xde xst xta xcb xcd xbe xli xke xne)) (xb_Qi κ o (xw κ q nn xro xrn xfo xva xts xus xnu xth xsp xpr xpn xbs xwr xno xki xdi xde xst xta xcb xcd xbe xli xke xne)) 0 0 κ.2.2.1 := by
  refine x_enter (own := RX8) (lv0 := [(0, .ref (q 0)), (1, .int x1), (2, .int x2)]) (by decide) rfl rfl rfl (fun Γ C E => ?_)
  unfold F_X8_back at hF
  refine x_aload_n C dX8_back_0 0 rfl ?_
  refine gf_X8_23 C 0 rfl rfl dX8_back_1 ?_
  refine x_iload_n C dX8_back_4 1 rfl ?_
  obtain ⟨o1, h2, hF⟩ := bd_s hF
  refine x_callVi (st := []) C (c_X4_isThing h2) xm_X4_isThing ml_X8_73 1 rfl rfl rfl rfl rfl rfl dX8_back_5 ⟨rfl, rfl⟩ ?_
  refine x_if_ne (tgt := 14) C dX8_back_8 (by decide) (fun hc => ?_) (fun hc => ?_)
  · replace hF := ifn hc hF
    refine x_aload_n C dX8_back_14 0 rfl ?_
    refine gf_X8_23 C 0 rfl rfl dX8_back_15 ?_
    refine x_iload_n C dX8_back_18 1 rfl ?_
    obtain ⟨o3, h4, hF⟩ := bd_s hF
    refine x_callVl (st := []) C (c_X4_columnOf h4) xm_X4_columnOf ml_X8_92 1 rfl rfl rfl rfl rfl rfl dX8_back_19 ⟨rfl, rfl⟩ ?_
    refine x_iload_n C dX8_back_22 2 rfl ?_
    obtain ⟨o5, h6, hF⟩ := bd_s hF
    refine x_callSi (st := []) C (c_X8_thingAt h6) xm_X8_thingAt ml_X8_101 rfl rfl rfl rfl dX8_back_23 ⟨rfl, rfl⟩ ?_
    cases hF
    exact x_iret C E dX8_back_26
  · replace hF := ifp hc hF
    refine x_bipush (v := (-2)) C dX8_back_11 (by decide) ?_
    cases hF
    exact x_iret C E dX8_back_13
set_option maxHeartbeats 4000000 in
set_option maxRecDepth 100000 in
theorem c_X5_formOf {κ : xb_k} {q : Nat → Nat} {nn : Nat} {xro : (Nat → Int64)} {xrn : (Nat → Int64)} {xfo : (Nat → Int32)} {xva : (Nat → Int32)} {xts : Int32} {xus : (Nat → Int32)} {xnu : (Nat → Int32)} {xth : Int32} {xsp : Int32} {xpr : (Nat → Int64)} {xpn : (Nat → Int64)} {xbs : Int32} {xwr : (Nat → Int32)} {xno : (Nat → Int32)} {xki : (Nat → Int32)} {xdi : (Nat → Int32)} {xde : (Nat → Int32)} {xst : (Nat → Int32)} {xta : (Nat → Int32)} {xcb : Int32} {xcd : Int32} {xbe : (Nat → Int32)} {xli : (Nat → Int32)} {xke : (Nat → Int32)} {xne : (Nat → Int64)} {x1 : Int32}  {o : Int32} (hF : F_X5_formOf x1 xfo = some o) : Met κ.1 yX5_formOf [Cond.code yX5_formOf cX5_formOf 2 (some .int)] { frames := 1, cells := 0, slots := 0, locals := 21 } (xb_P κ [.ref (q 4), .int x1] (xw κ q nn xro xrn xfo xva xts xus xnu xth xsp xpr xpn xbs xwr xno xki xdi xde xst xta xcb xcd xbe xli xke xne)) (xb_Qi κ o (xw κ q nn xro xrn xfo xva xts xus xnu xth xsp xpr xpn xbs xwr xno xki xdi xde xst xta xcb xcd xbe xli xke xne)) 0 0 κ.2.2.1 := by
  refine x_enter (own := RX5) (lv0 := [(0, .ref (q 4)), (1, .int x1)]) (by decide) rfl rfl rfl (fun Γ C E => ?_)
  unfold F_X5_formOf at hF
  refine x_aload_n C dX5_formOf_0 0 rfl ?_
  refine gf_X5_7 C 4 rfl rfl dX5_formOf_1 ?_
  refine x_iload_n C dX5_formOf_4 1 rfl ?_
  refine x_callNi (st := []) C (c_element κ 5 rfl (by decide)) xm_X8_element mn_X5_16 rfl rfl rfl rfl dX5_formOf_5 ⟨rfl, rfl⟩ ?_
  cases hF
  exact x_iret C E dX5_formOf_8
set_option maxHeartbeats 4000000 in
set_option maxRecDepth 100000 in
theorem c_X5_setForm {κ : xb_k} {q : Nat → Nat} {nn : Nat} {xro : (Nat → Int64)} {xrn : (Nat → Int64)} {xfo : (Nat → Int32)} {xva : (Nat → Int32)} {xts : Int32} {xus : (Nat → Int32)} {xnu : (Nat → Int32)} {xth : Int32} {xsp : Int32} {xpr : (Nat → Int64)} {xpn : (Nat → Int64)} {xbs : Int32} {xwr : (Nat → Int32)} {xno : (Nat → Int32)} {xki : (Nat → Int32)} {xdi : (Nat → Int32)} {xde : (Nat → Int32)} {xst : (Nat → Int32)} {xta : (Nat → Int32)} {xcb : Int32} {xcd : Int32} {xbe : (Nat → Int32)} {xli : (Nat → Int32)} {xke : (Nat → Int32)} {xne : (Nat → Int64)} {x1 : Int32} {x2 : Int32}  {o : (Nat → Int32)} (hF : F_X5_setForm x1 x2 xfo = some o) : Met κ.1 yX5_setForm [Cond.code yX5_setForm cX5_setForm 3 none] { frames := 0, cells := 0, slots := 0, locals := 0 } (xb_P κ [.ref (q 4), .int x1, .int x2] (xw κ q nn xro xrn xfo xva xts xus xnu xth xsp xpr xpn xbs xwr xno xki xdi xde xst xta xcb xcd xbe xli xke xne)) (xb_Qv κ (xw κ q nn xro xrn o xva xts xus xnu xth xsp xpr xpn xbs xwr xno xki xdi xde xst xta xcb xcd xbe xli xke xne)) 0 0 κ.2.2.1 := by
  refine x_enter (own := RX5) (lv0 := [(0, .ref (q 4)), (1, .int x1), (2, .int x2)]) (by decide) rfl rfl rfl (fun Γ C E => ?_)
  unfold F_X5_setForm at hF
  refine x_iload_n C dX5_setForm_0 1 rfl ?_
  refine x_if_lt (tgt := 20) C dX5_setForm_1 (by decide) (fun hc => ?_) (fun hc => ?_)
  · replace hF := ifp hc hF
    cases hF
    exact x_vret C E dX5_setForm_20
  · replace hF := ifn hc hF
    refine x_iload_n C dX5_setForm_4 1 rfl ?_
    refine x_aload_n C dX5_setForm_5 0 rfl ?_
    refine gf_X5_7 C 4 rfl rfl dX5_setForm_6 ?_
    refine x_alen (v := nI 8) C 5 0 rfl rfl rfl dX5_setForm_9 ?_
    refine x_icmp_ge (tgt := 20) C dX5_setForm_10 (by decide) (fun hc => ?_) (fun hc => ?_)
    · replace hF := ifp hc hF
      cases hF
      exact x_vret C E dX5_setForm_20
    · replace hF := ifn hc hF
      refine x_aload_n C dX5_setForm_13 0 rfl ?_
      refine gf_X5_7 C 4 rfl rfl dX5_setForm_14 ?_
      refine x_iload_n C dX5_setForm_17 1 rfl ?_
      refine x_iload_n C dX5_setForm_18 2 rfl ?_
      obtain ⟨b1, hF⟩ := ck_s hF
      refine x_iast (ws2 := (xw κ q nn xro xrn (upd xfo x1.toNatClampNeg x2) xva xts xus xnu xth xsp xpr xpn xbs xwr xno xki xdi xde xst xta xcb xcd xbe xli xke xne)) C 5 rfl b1 dX5_setForm_19 rfl ?_
      cases hF
      exact x_vret C E dX5_setForm_20
set_option maxHeartbeats 4000000 in
set_option maxRecDepth 100000 in
theorem c_X8_form {κ : xb_k} {q : Nat → Nat} {nn : Nat} {xro : (Nat → Int64)} {xrn : (Nat → Int64)} {xfo : (Nat → Int32)} {xva : (Nat → Int32)} {xts : Int32} {xus : (Nat → Int32)} {xnu : (Nat → Int32)} {xth : Int32} {xsp : Int32} {xpr : (Nat → Int64)} {xpn : (Nat → Int64)} {xbs : Int32} {xwr : (Nat → Int32)} {xno : (Nat → Int32)} {xki : (Nat → Int32)} {xdi : (Nat → Int32)} {xde : (Nat → Int32)} {xst : (Nat → Int32)} {xta : (Nat → Int32)} {xcb : Int32} {xcd : Int32} {xbe : (Nat → Int32)} {xli : (Nat → Int32)} {xke : (Nat → Int32)} {xne : (Nat → Int64)} {x1 : Int32} {x2 : Int32}  {o : Int32 × (Nat → Int32)} (hF : F_X8_form x1 x2 xfo = some o) : Met κ.1 yX8_form [Cond.code yX8_form cX8_form 4 (some .int)] { frames := 2, cells := 0, slots := 0, locals := 42 } (xb_P κ [.ref (q 0), .int x1, .int x2] (xw κ q nn xro xrn xfo xva xts xus xnu xth xsp xpr xpn xbs xwr xno xki xdi xde xst xta xcb xcd xbe xli xke xne)) (xb_Qi κ o.1 (xw κ q nn xro xrn o.2 xva xts xus xnu xth xsp xpr xpn xbs xwr xno xki xdi xde xst xta xcb xcd xbe xli xke xne)) 0 0 κ.2.2.1 := by
  refine x_enter (own := RX8) (lv0 := [(0, .ref (q 0)), (1, .int x1), (2, .int x2)]) (by decide) rfl rfl rfl (fun Γ C E => ?_)
  unfold F_X8_form at hF
  refine x_iload_n C dX8_form_0 1 rfl ?_
  refine x_bipush (v := 8) C dX8_form_1 (by decide) ?_
  obtain ⟨o1, h2, hF⟩ := bd_s hF
  refine x_callSi (st := []) C (c_X8_isBelow h2) xm_X8_isBelow ml_X8_89 rfl rfl rfl rfl dX8_form_3 ⟨rfl, rfl⟩ ?_
  refine x_if_eq (tgt := 18) C dX8_form_6 (by decide) (fun hc => ?_) (fun hc => ?_)
  · replace hF := ifp hc hF
    refine x_bipush (v := (-2)) C dX8_form_18 (by decide) ?_
    cases hF
    exact x_iret C E dX8_form_20
  · replace hF := ifn hc hF
    refine x_iload_n C dX8_form_9 2 rfl ?_
    refine x_bipush (v := 10) C dX8_form_10 (by decide) ?_
    obtain ⟨o3, h4, hF⟩ := bd_s hF
    refine x_callSi (st := []) C (c_X8_isBelow h4) xm_X8_isBelow ml_X8_89 rfl rfl rfl rfl dX8_form_12 ⟨rfl, rfl⟩ ?_
    refine x_if_ne (tgt := 21) C dX8_form_15 (by decide) (fun hc => ?_) (fun hc => ?_)
    · replace hF := ifn hc hF
      refine x_aload_n C dX8_form_21 0 rfl ?_
      refine gf_X8_30 C 0 rfl rfl dX8_form_22 ?_
      refine x_iload_n C dX8_form_25 1 rfl ?_
      obtain ⟨o5, h6, hF⟩ := bd_s hF
      refine x_callVi (st := []) C (c_X5_formOf h6) xm_X5_formOf ml_X8_104 4 rfl rfl rfl rfl rfl rfl dX8_form_26 ⟨rfl, rfl⟩ ?_
      refine x_istore_n (lv2 := [(3, .int o5), (0, .ref (q 0)), (1, .int x1), (2, .int x2)]) C dX8_form_29 rfl (by decide) rfl ?_
      refine x_aload_n C dX8_form_30 1 rfl ?_
      refine gf_X8_30 C 0 rfl rfl dX8_form_31 ?_
      refine x_iload_n C dX8_form_34 2 rfl ?_
      refine x_iload_n C dX8_form_35 3 rfl ?_
      obtain ⟨o7, h8, hF⟩ := bd_s hF
      refine x_callVv (st := []) C (c_X5_setForm h8) xm_X5_setForm ml_X8_108 4 rfl rfl rfl rfl rfl rfl dX8_form_36 ⟨rfl, rfl⟩ ?_
      refine x_iload_n C dX8_form_39 0 rfl ?_
      cases hF
      exact x_iret C E dX8_form_40
    · replace hF := ifp hc hF
      refine x_bipush (v := (-2)) C dX8_form_18 (by decide) ?_
      cases hF
      exact x_iret C E dX8_form_20
set_option maxHeartbeats 4000000 in
set_option maxRecDepth 100000 in
theorem c_X5_allows {κ : xb_k} {q : Nat → Nat} {nn : Nat} {xro : (Nat → Int64)} {xrn : (Nat → Int64)} {xfo : (Nat → Int32)} {xva : (Nat → Int32)} {xts : Int32} {xus : (Nat → Int32)} {xnu : (Nat → Int32)} {xth : Int32} {xsp : Int32} {xpr : (Nat → Int64)} {xpn : (Nat → Int64)} {xbs : Int32} {xwr : (Nat → Int32)} {xno : (Nat → Int32)} {xki : (Nat → Int32)} {xdi : (Nat → Int32)} {xde : (Nat → Int32)} {xst : (Nat → Int32)} {xta : (Nat → Int32)} {xcb : Int32} {xcd : Int32} {xbe : (Nat → Int32)} {xli : (Nat → Int32)} {xke : (Nat → Int32)} {xne : (Nat → Int64)} {x1 : Int32} {x2 : Int32}  {o : Int32} (hF : F_X5_allows x1 x2 = some o) : Met κ.1 yX5_allows [Cond.code yX5_allows cX5_allows 3 (some .boolean)] { frames := 1, cells := 0, slots := 0, locals := 21 } (xb_P κ [.ref (q 4), .int x1, .int x2] (xw κ q nn xro xrn xfo xva xts xus xnu xth xsp xpr xpn xbs xwr xno xki xdi xde xst xta xcb xcd xbe xli xke xne)) (xb_Qi κ o (xw κ q nn xro xrn xfo xva xts xus xnu xth xsp xpr xpn xbs xwr xno xki xdi xde xst xta xcb xcd xbe xli xke xne)) 0 0 κ.2.2.1 := by
  refine x_enter (own := RX5) (lv0 := [(0, .ref (q 4)), (1, .int x1), (2, .int x2)]) (by decide) rfl rfl rfl (fun Γ C E => ?_)
  unfold F_X5_allows at hF
  refine x_iload_n C dX5_allows_0 1 rfl ?_
  refine x_aload_n C dX5_allows_1 0 rfl ?_
  refine gf_X5_13 C 4 rfl rfl dX5_allows_2 ?_
  refine x_alen (v := nI 3) C 6 0 rfl rfl rfl dX5_allows_5 ?_
  obtain ⟨o1, h2, hF⟩ := bd_s hF
  refine x_callNi (st := []) C (c_X8_isBelow h2) xm_X8_isBelow mn_X5_22 rfl rfl rfl rfl dX5_allows_6 ⟨rfl, rfl⟩ ?_
  refine x_if_eq (tgt := 38) C dX5_allows_9 (by decide) (fun hc => ?_) (fun hc => ?_)
  · replace hF := ifp hc hF
    refine x_iconst (v := 0) C dX5_allows_38 (by decide) ?_
    cases hF
    exact x_zret C E rfl dX5_allows_39
  · replace hF := ifn hc hF
    refine x_iload_n C dX5_allows_12 2 rfl ?_
    refine x_getsL C dX5_allows_13 ?_
    refine x_iload_n C dX5_allows_16 1 rfl ?_
    refine x_callNi (st := [.int x2]) C (c_elementL κ) xm_X8_element mn_X5_16 rfl rfl rfl rfl dX5_allows_17 ⟨rfl, rfl⟩ ?_
    refine x_icmp_lt (tgt := 38) C dX5_allows_20 (by decide) (fun hc => ?_) (fun hc => ?_)
    · replace hF := ifp hc hF
      refine x_iconst (v := 0) C dX5_allows_38 (by decide) ?_
      cases hF
      exact x_zret C E rfl dX5_allows_39
    · replace hF := ifn hc hF
      refine x_iload_n C dX5_allows_23 2 rfl ?_
      refine x_getsM C dX5_allows_24 ?_
      refine x_iload_n C dX5_allows_27 1 rfl ?_
      refine x_callNi (st := [.int x2]) C (c_elementM κ) xm_X8_element mn_X5_16 rfl rfl rfl rfl dX5_allows_28 ⟨rfl, rfl⟩ ?_
      refine x_icmp_gt (tgt := 38) C dX5_allows_31 (by decide) (fun hc => ?_) (fun hc => ?_)
      · replace hF := ifp hc hF
        refine x_iconst (v := 0) C dX5_allows_38 (by decide) ?_
        cases hF
        exact x_zret C E rfl dX5_allows_39
      · replace hF := ifn hc hF
        refine x_iconst (v := 1) C dX5_allows_34 (by decide) ?_
        refine x_goto (tgt := 39) C dX5_allows_35 (by decide) ?_
        cases hF
        exact x_zret C E rfl dX5_allows_39
set_option maxHeartbeats 4000000 in
set_option maxRecDepth 100000 in
theorem c_X5_valueOf {κ : xb_k} {q : Nat → Nat} {nn : Nat} {xro : (Nat → Int64)} {xrn : (Nat → Int64)} {xfo : (Nat → Int32)} {xva : (Nat → Int32)} {xts : Int32} {xus : (Nat → Int32)} {xnu : (Nat → Int32)} {xth : Int32} {xsp : Int32} {xpr : (Nat → Int64)} {xpn : (Nat → Int64)} {xbs : Int32} {xwr : (Nat → Int32)} {xno : (Nat → Int32)} {xki : (Nat → Int32)} {xdi : (Nat → Int32)} {xde : (Nat → Int32)} {xst : (Nat → Int32)} {xta : (Nat → Int32)} {xcb : Int32} {xcd : Int32} {xbe : (Nat → Int32)} {xli : (Nat → Int32)} {xke : (Nat → Int32)} {xne : (Nat → Int64)} {x1 : Int32}  {o : Int32} (hF : F_X5_valueOf x1 xva = some o) : Met κ.1 yX5_valueOf [Cond.code yX5_valueOf cX5_valueOf 2 (some .int)] { frames := 1, cells := 0, slots := 0, locals := 21 } (xb_P κ [.ref (q 4), .int x1] (xw κ q nn xro xrn xfo xva xts xus xnu xth xsp xpr xpn xbs xwr xno xki xdi xde xst xta xcb xcd xbe xli xke xne)) (xb_Qi κ o (xw κ q nn xro xrn xfo xva xts xus xnu xth xsp xpr xpn xbs xwr xno xki xdi xde xst xta xcb xcd xbe xli xke xne)) 0 0 κ.2.2.1 := by
  refine x_enter (own := RX5) (lv0 := [(0, .ref (q 4)), (1, .int x1)]) (by decide) rfl rfl rfl (fun Γ C E => ?_)
  unfold F_X5_valueOf at hF
  refine x_aload_n C dX5_valueOf_0 0 rfl ?_
  refine gf_X5_13 C 4 rfl rfl dX5_valueOf_1 ?_
  refine x_iload_n C dX5_valueOf_4 1 rfl ?_
  refine x_callNi (st := []) C (c_element κ 6 rfl (by decide)) xm_X8_element mn_X5_16 rfl rfl rfl rfl dX5_valueOf_5 ⟨rfl, rfl⟩ ?_
  cases hF
  exact x_iret C E dX5_valueOf_8
set_option maxHeartbeats 4000000 in
set_option maxRecDepth 100000 in
theorem c_X5_setValue {κ : xb_k} {q : Nat → Nat} {nn : Nat} {xro : (Nat → Int64)} {xrn : (Nat → Int64)} {xfo : (Nat → Int32)} {xva : (Nat → Int32)} {xts : Int32} {xus : (Nat → Int32)} {xnu : (Nat → Int32)} {xth : Int32} {xsp : Int32} {xpr : (Nat → Int64)} {xpn : (Nat → Int64)} {xbs : Int32} {xwr : (Nat → Int32)} {xno : (Nat → Int32)} {xki : (Nat → Int32)} {xdi : (Nat → Int32)} {xde : (Nat → Int32)} {xst : (Nat → Int32)} {xta : (Nat → Int32)} {xcb : Int32} {xcd : Int32} {xbe : (Nat → Int32)} {xli : (Nat → Int32)} {xke : (Nat → Int32)} {xne : (Nat → Int64)} {x1 : Int32} {x2 : Int32}  {o : (Nat → Int32)} (hF : F_X5_setValue x1 x2 xva = some o) : Met κ.1 yX5_setValue [Cond.code yX5_setValue cX5_setValue 3 none] { frames := 0, cells := 0, slots := 0, locals := 0 } (xb_P κ [.ref (q 4), .int x1, .int x2] (xw κ q nn xro xrn xfo xva xts xus xnu xth xsp xpr xpn xbs xwr xno xki xdi xde xst xta xcb xcd xbe xli xke xne)) (xb_Qv κ (xw κ q nn xro xrn xfo o xts xus xnu xth xsp xpr xpn xbs xwr xno xki xdi xde xst xta xcb xcd xbe xli xke xne)) 0 0 κ.2.2.1 := by
  refine x_enter (own := RX5) (lv0 := [(0, .ref (q 4)), (1, .int x1), (2, .int x2)]) (by decide) rfl rfl rfl (fun Γ C E => ?_)
  unfold F_X5_setValue at hF
  refine x_iload_n C dX5_setValue_0 1 rfl ?_
  refine x_if_lt (tgt := 20) C dX5_setValue_1 (by decide) (fun hc => ?_) (fun hc => ?_)
  · replace hF := ifp hc hF
    cases hF
    exact x_vret C E dX5_setValue_20
  · replace hF := ifn hc hF
    refine x_iload_n C dX5_setValue_4 1 rfl ?_
    refine x_aload_n C dX5_setValue_5 0 rfl ?_
    refine gf_X5_13 C 4 rfl rfl dX5_setValue_6 ?_
    refine x_alen (v := nI 3) C 6 0 rfl rfl rfl dX5_setValue_9 ?_
    refine x_icmp_ge (tgt := 20) C dX5_setValue_10 (by decide) (fun hc => ?_) (fun hc => ?_)
    · replace hF := ifp hc hF
      cases hF
      exact x_vret C E dX5_setValue_20
    · replace hF := ifn hc hF
      refine x_aload_n C dX5_setValue_13 0 rfl ?_
      refine gf_X5_13 C 4 rfl rfl dX5_setValue_14 ?_
      refine x_iload_n C dX5_setValue_17 1 rfl ?_
      refine x_iload_n C dX5_setValue_18 2 rfl ?_
      obtain ⟨b1, hF⟩ := ck_s hF
      refine x_iast (ws2 := (xw κ q nn xro xrn xfo (upd xva x1.toNatClampNeg x2) xts xus xnu xth xsp xpr xpn xbs xwr xno xki xdi xde xst xta xcb xcd xbe xli xke xne)) C 6 rfl b1 dX5_setValue_19 rfl ?_
      cases hF
      exact x_vret C E dX5_setValue_20
set_option maxHeartbeats 4000000 in
set_option maxRecDepth 100000 in
theorem c_X8_setting {κ : xb_k} {q : Nat → Nat} {nn : Nat} {xro : (Nat → Int64)} {xrn : (Nat → Int64)} {xfo : (Nat → Int32)} {xva : (Nat → Int32)} {xts : Int32} {xus : (Nat → Int32)} {xnu : (Nat → Int32)} {xth : Int32} {xsp : Int32} {xpr : (Nat → Int64)} {xpn : (Nat → Int64)} {xbs : Int32} {xwr : (Nat → Int32)} {xno : (Nat → Int32)} {xki : (Nat → Int32)} {xdi : (Nat → Int32)} {xde : (Nat → Int32)} {xst : (Nat → Int32)} {xta : (Nat → Int32)} {xcb : Int32} {xcd : Int32} {xbe : (Nat → Int32)} {xli : (Nat → Int32)} {xke : (Nat → Int32)} {xne : (Nat → Int64)} {x1 : Int32} {x2 : Int32}  {o : Int32 × (Nat → Int32)} (hF : F_X8_setting x1 x2 xva = some o) : Met κ.1 yX8_setting [Cond.code yX8_setting cX8_setting 4 (some .int)] { frames := 2, cells := 0, slots := 0, locals := 43 } (xb_P κ [.ref (q 0), .int x1, .int x2] (xw κ q nn xro xrn xfo xva xts xus xnu xth xsp xpr xpn xbs xwr xno xki xdi xde xst xta xcb xcd xbe xli xke xne)) (xb_Qi κ o.1 (xw κ q nn xro xrn xfo o.2 xts xus xnu xth xsp xpr xpn xbs xwr xno xki xdi xde xst xta xcb xcd xbe xli xke xne)) 0 0 κ.2.2.1 := by
  refine x_enter (own := RX8) (lv0 := [(0, .ref (q 0)), (1, .int x1), (2, .int x2)]) (by decide) rfl rfl rfl (fun Γ C E => ?_)
  unfold F_X8_setting at hF
  refine x_aload_n C dX8_setting_0 0 rfl ?_
  refine gf_X8_30 C 0 rfl rfl dX8_setting_1 ?_
  refine x_iload_n C dX8_setting_4 1 rfl ?_
  refine x_iload_n C dX8_setting_5 2 rfl ?_
  obtain ⟨o1, h2, hF⟩ := bd_s hF
  refine x_callVi (st := []) C (c_X5_allows h2) xm_X5_allows ml_X8_112 4 rfl rfl rfl rfl rfl rfl dX8_setting_6 ⟨rfl, rfl⟩ ?_
  refine x_if_ne (tgt := 15) C dX8_setting_9 (by decide) (fun hc => ?_) (fun hc => ?_)
  · replace hF := ifn hc hF
    refine x_aload_n C dX8_setting_15 0 rfl ?_
    refine gf_X8_30 C 0 rfl rfl dX8_setting_16 ?_
    refine x_iload_n C dX8_setting_19 1 rfl ?_
    obtain ⟨o3, h4, hF⟩ := bd_s hF
    refine x_callVi (st := []) C (c_X5_valueOf h4) xm_X5_valueOf ml_X8_115 4 rfl rfl rfl rfl rfl rfl dX8_setting_20 ⟨rfl, rfl⟩ ?_
    refine x_istore_n (lv2 := [(3, .int o3), (0, .ref (q 0)), (1, .int x1), (2, .int x2)]) C dX8_setting_23 rfl (by decide) rfl ?_
    refine x_aload_n C dX8_setting_24 1 rfl ?_
    refine gf_X8_30 C 0 rfl rfl dX8_setting_25 ?_
    refine x_iload_n C dX8_setting_28 2 rfl ?_
    refine x_iload_n C dX8_setting_29 3 rfl ?_
    obtain ⟨o5, h6, hF⟩ := bd_s hF
    refine x_callVv (st := []) C (c_X5_setValue h6) xm_X5_setValue ml_X8_118 4 rfl rfl rfl rfl rfl rfl dX8_setting_30 ⟨rfl, rfl⟩ ?_
    refine x_iload_n C dX8_setting_33 0 rfl ?_
    cases hF
    exact x_iret C E dX8_setting_34
  · replace hF := ifp hc hF
    refine x_bipush (v := (-2)) C dX8_setting_12 (by decide) ?_
    cases hF
    exact x_iret C E dX8_setting_14
set_option maxHeartbeats 4000000 in
set_option maxRecDepth 100000 in
theorem w_X8_digitsOf_L2 {κ : xb_k} {Γ : xb_X} {ws : va_W}  {x0 : Int32}  (C : xb_C κ Γ 2 cX8_digitsOf RX8 { frames := 0, cells := 0, slots := 0, locals := 0 }) : ∀ (n : Nat) (x1 : Int32) (o : Int32), F_X8_digitsOf_L2 x0 n x1 = some o → xb_W κ Γ 2 0 0 20 [(1, .int o)] [] ws → xb_W κ Γ 2 0 0 2 [(0, .int x0), (1, .int x1)] [] ws := by
  intro n
  induction n with
  | zero =>
    intro x1 o hF K
    rw [F_X8_digitsOf_L2] at hF
    cases hF
  | succ n ih =>
    intro x1 o hF K
    rw [F_X8_digitsOf_L2] at hF
    refine x_iload_n C dX8_digitsOf_2 1 rfl ?_
    refine x_bipush (v := 31) C dX8_digitsOf_3 (by decide) ?_
    refine x_icmp_ge (tgt := 20) C dX8_digitsOf_5 (by decide) (fun hc => ?_) (fun hc => ?_)
    · replace hF := ifp hc hF
      cases hF
      exact x_sub [1] rfl K
    · replace hF := ifn hc hF
      refine x_iload_n C dX8_digitsOf_8 0 rfl ?_
      refine x_iload_n C dX8_digitsOf_9 1 rfl ?_
      refine x_ishr C dX8_digitsOf_10 ?_
      refine x_if_le (tgt := 20) C dX8_digitsOf_11 (by decide) (fun hc => ?_) (fun hc => ?_)
      · replace hF := ifp hc hF
        cases hF
        exact x_sub [1] rfl K
      · replace hF := ifn hc hF
        refine x_iinc (v := x1 + 1) (lv2 := [(1, .int (x1 + 1)), (0, .int x0)]) C dX8_digitsOf_14 1 rfl rfl (by decide) rfl ?_
        refine x_goto (tgt := 2) C dX8_digitsOf_17 (by decide) ?_
        exact x_sub [1, 0] rfl (ih _ _ hF K)
set_option maxHeartbeats 4000000 in
set_option maxRecDepth 100000 in
theorem c_X8_digitsOf {κ : xb_k} {ws : va_W}  {x0 : Int32} {fu : Nat} {o : Int32} (hF : F_X8_digitsOf fu x0 = some o) : Met κ.1 yX8_digitsOf [Cond.code yX8_digitsOf cX8_digitsOf 2 (some .int)] { frames := 0, cells := 0, slots := 0, locals := 0 } (xb_P κ [.int x0] ws) (xb_Qi κ o ws) 0 0 κ.2.2.1 := by
  refine x_enter (own := RX8) (lv0 := [(0, .int x0)]) (by decide) rfl rfl rfl (fun Γ C E => ?_)
  unfold F_X8_digitsOf at hF
  refine x_iconst (v := 1) C dX8_digitsOf_0 (by decide) ?_
  refine x_istore_n (lv2 := [(1, .int (1 : Int32)), (0, .int x0)]) C dX8_digitsOf_1 rfl (by decide) rfl ?_
  obtain ⟨o1, h2, hF⟩ := bd_s hF
  refine x_sub [1, 0] rfl (w_X8_digitsOf_L2 C fu _ _ h2 ?_)
  refine x_iload_n C dX8_digitsOf_20 0 rfl ?_
  cases hF
  exact x_iret C E dX8_digitsOf_21
set_option maxHeartbeats 4000000 in
set_option maxRecDepth 100000 in
theorem c_X8_bitsIn {κ : xb_k} {ws : va_W}  {x0 : Int32} {x1 : Int32} {fu : Nat} {o : Int32} (hF : F_X8_bitsIn fu x0 x1 = some o) : Met κ.1 yX8_bitsIn [Cond.code yX8_bitsIn cX8_bitsIn 4 (some .int)] { frames := 1, cells := 0, slots := 0, locals := 21 } (xb_P κ [.int x0, .int x1] ws) (xb_Qi κ o ws) 0 0 κ.2.2.1 := by
  refine x_enter (own := RX8) (lv0 := [(0, .int x0), (1, .int x1)]) (by decide) rfl rfl rfl (fun Γ C E => ?_)
  unfold F_X8_bitsIn at hF
  refine x_iload_n C dX8_bitsIn_0 0 rfl ?_
  by_cases hs1_0 : x0 = 0
  · replace hF := ifp hs1_0 hF
    refine x_tswIn (off := 27) (tgt := 28) 0 C dX8_bitsIn_1 hs1_0 (by decide) (by decide) rfl (by decide) ?_
    refine x_iload_n C dX8_bitsIn_28 1 rfl ?_
    refine x_iconst (v := 1) C dX8_bitsIn_29 (by decide) ?_
    refine x_iadd C dX8_bitsIn_30 ?_
    cases hF
    exact x_iret C E dX8_bitsIn_31
  · replace hF := ifn hs1_0 hF
    by_cases hs1_1 : x0 = 1
    · replace hF := ifp hs1_1 hF
      refine x_tswIn (off := 31) (tgt := 32) 1 C dX8_bitsIn_1 hs1_1 (by decide) (by decide) rfl (by decide) ?_
      refine x_iconst (v := 2) C dX8_bitsIn_32 (by decide) ?_
      refine x_iload_n C dX8_bitsIn_33 1 rfl ?_
      refine x_iconst (v := 1) C dX8_bitsIn_34 (by decide) ?_
      refine x_iadd C dX8_bitsIn_35 ?_
      obtain ⟨o1, h2, hF⟩ := bd_s hF
      refine x_callSi (st := [.int (2 : Int32)]) C (c_X8_digitsOf h2) xm_X8_digitsOf ml_X8_262 rfl rfl rfl rfl dX8_bitsIn_36 ⟨rfl, rfl⟩ ?_
      refine x_imul C dX8_bitsIn_39 ?_
      refine x_iconst (v := 1) C dX8_bitsIn_40 (by decide) ?_
      refine x_isub C dX8_bitsIn_41 ?_
      cases hF
      exact x_iret C E dX8_bitsIn_42
    · replace hF := ifn hs1_1 hF
      by_cases hs1_2 : x0 = 2
      · replace hF := ifp hs1_2 hF
        refine x_tswIn (off := 42) (tgt := 43) 2 C dX8_bitsIn_1 hs1_2 (by decide) (by decide) rfl (by decide) ?_
        refine x_iload_n C dX8_bitsIn_43 1 rfl ?_
        refine x_iconst (v := 1) C dX8_bitsIn_44 (by decide) ?_
        refine x_iadd C dX8_bitsIn_45 ?_
        obtain ⟨o3, h4, hF⟩ := bd_s hF
        refine x_callSi (st := []) C (c_X8_digitsOf h4) xm_X8_digitsOf ml_X8_262 rfl rfl rfl rfl dX8_bitsIn_46 ⟨rfl, rfl⟩ ?_
        refine x_iconst (v := 1) C dX8_bitsIn_49 (by decide) ?_
        refine x_isub C dX8_bitsIn_50 ?_
        refine x_istore_n (lv2 := [(2, .int (o3 - (1 : Int32))), (0, .int x0), (1, .int x1)]) C dX8_bitsIn_51 rfl (by decide) rfl ?_
        refine x_iconst (v := 2) C dX8_bitsIn_52 (by decide) ?_
        refine x_iload_n C dX8_bitsIn_53 0 rfl ?_
        refine x_iconst (v := 1) C dX8_bitsIn_54 (by decide) ?_
        refine x_iadd C dX8_bitsIn_55 ?_
        obtain ⟨o5, h6, hF⟩ := bd_s hF
        refine x_callSi (st := [.int (2 : Int32)]) C (c_X8_digitsOf h6) xm_X8_digitsOf ml_X8_262 rfl rfl rfl rfl dX8_bitsIn_56 ⟨rfl, rfl⟩ ?_
        refine x_imul C dX8_bitsIn_59 ?_
        refine x_iconst (v := 1) C dX8_bitsIn_60 (by decide) ?_
        refine x_isub C dX8_bitsIn_61 ?_
        refine x_iload_n C dX8_bitsIn_62 0 rfl ?_
        refine x_iadd C dX8_bitsIn_63 ?_
        cases hF
        exact x_iret C E dX8_bitsIn_64
      · replace hF := ifn hs1_2 hF
        refine x_tswOut (tgt := 65) C dX8_bitsIn_1 (ts_out 2 (by decide) (fun k hk => by match k, hk with | 0, _ => exact hs1_0 | 1, _ => exact hs1_1 | 2, _ => exact hs1_2 | (k + 3), hk => exact absurd hk (by omega))) (by decide) ?_
        refine x_iload_n C dX8_bitsIn_65 0 rfl ?_
        refine x_iconst (v := 3) C dX8_bitsIn_66 (by decide) ?_
        refine x_isub C dX8_bitsIn_67 ?_
        refine x_istore_n (lv2 := [(3, .int (x0 - (3 : Int32))), (0, .int x0), (1, .int x1)]) C dX8_bitsIn_68 rfl (by decide) rfl ?_
        refine x_iload_n C dX8_bitsIn_69 2 rfl ?_
        refine x_iload_n C dX8_bitsIn_70 0 rfl ?_
        refine x_ishr C dX8_bitsIn_71 ?_
        refine x_iconst (v := 1) C dX8_bitsIn_72 (by decide) ?_
        refine x_iadd C dX8_bitsIn_73 ?_
        refine x_iload_n C dX8_bitsIn_74 0 rfl ?_
        refine x_iadd C dX8_bitsIn_75 ?_
        cases hF
        exact x_iret C E dX8_bitsIn_76
set_option maxHeartbeats 4000000 in
set_option maxRecDepth 100000 in
theorem c_X8_length {κ : xb_k} {q : Nat → Nat} {nn : Nat} {xro : (Nat → Int64)} {xrn : (Nat → Int64)} {xfo : (Nat → Int32)} {xva : (Nat → Int32)} {xts : Int32} {xus : (Nat → Int32)} {xnu : (Nat → Int32)} {xth : Int32} {xsp : Int32} {xpr : (Nat → Int64)} {xpn : (Nat → Int64)} {xbs : Int32} {xwr : (Nat → Int32)} {xno : (Nat → Int32)} {xki : (Nat → Int32)} {xdi : (Nat → Int32)} {xde : (Nat → Int32)} {xst : (Nat → Int32)} {xta : (Nat → Int32)} {xcb : Int32} {xcd : Int32} {xbe : (Nat → Int32)} {xli : (Nat → Int32)} {xke : (Nat → Int32)} {xne : (Nat → Int64)} {x1 : Int32} {x2 : Int32} {fu : Nat} {o : Int32} (hF : F_X8_length fu x1 x2 = some o) : Met κ.1 yX8_length [Cond.code yX8_length cX8_length 3 (some .int)] { frames := 2, cells := 0, slots := 0, locals := 44 } (xb_P κ [.ref (q 0), .int x1, .int x2] (xw κ q nn xro xrn xfo xva xts xus xnu xth xsp xpr xpn xbs xwr xno xki xdi xde xst xta xcb xcd xbe xli xke xne)) (xb_Qi κ o (xw κ q nn xro xrn xfo xva xts xus xnu xth xsp xpr xpn xbs xwr xno xki xdi xde xst xta xcb xcd xbe xli xke xne)) 0 0 κ.2.2.1 := by
  refine x_enter (own := RX8) (lv0 := [(0, .ref (q 0)), (1, .int x1), (2, .int x2)]) (by decide) rfl rfl rfl (fun Γ C E => ?_)
  unfold F_X8_length at hF
  refine x_iload_n C dX8_length_0 1 rfl ?_
  refine x_bipush (v := 10) C dX8_length_1 (by decide) ?_
  obtain ⟨o1, h2, hF⟩ := bd_s hF
  refine x_callSi (st := []) C (c_X8_isBelow h2) xm_X8_isBelow ml_X8_89 rfl rfl rfl rfl dX8_length_3 ⟨rfl, rfl⟩ ?_
  refine x_if_eq (tgt := 19) C dX8_length_6 (by decide) (fun hc => ?_) (fun hc => ?_)
  · replace hF := ifp hc hF
    refine x_bipush (v := (-2)) C dX8_length_19 (by decide) ?_
    cases hF
    exact x_iret C E dX8_length_21
  · replace hF := ifn hc hF
    refine x_iload_n C dX8_length_9 2 rfl ?_
    refine x_if_lt (tgt := 19) C dX8_length_10 (by decide) (fun hc => ?_) (fun hc => ?_)
    · replace hF := ifp hc hF
      refine x_bipush (v := (-2)) C dX8_length_19 (by decide) ?_
      cases hF
      exact x_iret C E dX8_length_21
    · replace hF := ifn hc hF
      refine x_iload_n C dX8_length_13 2 rfl ?_
      refine x_ldc C dX8_length_14 kk_X8_121 ?_
      refine x_icmp_le (tgt := 22) C dX8_length_16 (by decide) (fun hc => ?_) (fun hc => ?_)
      · replace hF := ifp hc hF
        refine x_iload_n C dX8_length_22 1 rfl ?_
        refine x_iload_n C dX8_length_23 2 rfl ?_
        obtain ⟨o3, h4, hF⟩ := bd_s hF
        refine x_callSi (st := []) C (c_X8_bitsIn h4) xm_X8_bitsIn ml_X8_122 rfl rfl rfl rfl dX8_length_24 ⟨rfl, rfl⟩ ?_
        cases hF
        exact x_iret C E dX8_length_27
      · replace hF := ifn hc hF
        refine x_bipush (v := (-2)) C dX8_length_19 (by decide) ?_
        cases hF
        exact x_iret C E dX8_length_21
set_option maxHeartbeats 4000000 in
set_option maxRecDepth 100000 in
theorem c_X8_isCopy {κ : xb_k} {ws : va_W}  {x0 : Int32}  {o : Int32} (hF : F_X8_isCopy x0 = some o) : Met κ.1 yX8_isCopy [Cond.code yX8_isCopy cX8_isCopy 1 (some .boolean)] { frames := 0, cells := 0, slots := 0, locals := 0 } (xb_P κ [.int x0] ws) (xb_Qi κ o ws) 0 0 κ.2.2.1 := by
  refine x_enter (own := RX8) (lv0 := [(0, .int x0)]) (by decide) rfl rfl rfl (fun Γ C E => ?_)
  unfold F_X8_isCopy at hF
  refine x_iload_n C dX8_isCopy_0 0 rfl ?_
  refine x_iconst (v := 2) C dX8_isCopy_1 (by decide) ?_
  refine x_icmp_eq (tgt := 10) C dX8_isCopy_2 (by decide) (fun hc => ?_) (fun hc => ?_)
  · replace hF := ifp hc hF
    refine x_iconst (v := 1) C dX8_isCopy_10 (by decide) ?_
    refine x_goto (tgt := 15) C dX8_isCopy_11 (by decide) ?_
    cases hF
    exact x_zret C E rfl dX8_isCopy_15
  · replace hF := ifn hc hF
    refine x_iload_n C dX8_isCopy_5 0 rfl ?_
    refine x_iconst (v := 3) C dX8_isCopy_6 (by decide) ?_
    refine x_icmp_ne (tgt := 14) C dX8_isCopy_7 (by decide) (fun hc => ?_) (fun hc => ?_)
    · replace hF := ifn hc hF
      refine x_iconst (v := 0) C dX8_isCopy_14 (by decide) ?_
      cases hF
      exact x_zret C E rfl dX8_isCopy_15
    · replace hF := ifp hc hF
      refine x_iconst (v := 1) C dX8_isCopy_10 (by decide) ?_
      refine x_goto (tgt := 15) C dX8_isCopy_11 (by decide) ?_
      cases hF
      exact x_zret C E rfl dX8_isCopy_15
set_option maxHeartbeats 4000000 in
set_option maxRecDepth 100000 in
theorem c_X6_add {κ : xb_k} {q : Nat → Nat} {nn : Nat} {xro : (Nat → Int64)} {xrn : (Nat → Int64)} {xfo : (Nat → Int32)} {xva : (Nat → Int32)} {xts : Int32} {xus : (Nat → Int32)} {xnu : (Nat → Int32)} {xth : Int32} {xsp : Int32} {xpr : (Nat → Int64)} {xpn : (Nat → Int64)} {xbs : Int32} {xwr : (Nat → Int32)} {xno : (Nat → Int32)} {xki : (Nat → Int32)} {xdi : (Nat → Int32)} {xde : (Nat → Int32)} {xst : (Nat → Int32)} {xta : (Nat → Int32)} {xcb : Int32} {xcd : Int32} {xbe : (Nat → Int32)} {xli : (Nat → Int32)} {xke : (Nat → Int32)} {xne : (Nat → Int64)} {x1 : Int32} {x2 : Int32}  {o : (Nat → Int32) × (Nat → Int32) × Int32} (hF : F_X6_add x1 x2 xts xus xnu = some o) : Met κ.1 yX6_add [Cond.code yX6_add cX6_add 3 none] { frames := 0, cells := 0, slots := 0, locals := 0 } (xb_P κ [.ref (q 7), .int x1, .int x2] (xw κ q nn xro xrn xfo xva xts xus xnu xth xsp xpr xpn xbs xwr xno xki xdi xde xst xta xcb xcd xbe xli xke xne)) (xb_Qv κ (xw κ q nn xro xrn xfo xva o.2.2 o.1 o.2.1 xth xsp xpr xpn xbs xwr xno xki xdi xde xst xta xcb xcd xbe xli xke xne)) 0 0 κ.2.2.1 := by
  refine x_enter (own := RX6) (lv0 := [(0, .ref (q 7)), (1, .int x1), (2, .int x2)]) (by decide) rfl rfl rfl (fun Γ C E => ?_)
  unfold F_X6_add at hF
  refine x_aload_n C dX6_add_0 0 rfl ?_
  refine gf_X6_18 C 7 rfl rfl dX6_add_1 ?_
  refine x_if_lt (tgt := 61) C dX6_add_4 (by decide) (fun hc => ?_) (fun hc => ?_)
  · replace hF := ifp hc hF
    cases hF
    exact x_vret C E dX6_add_61
  · replace hF := ifn hc hF
    refine x_aload_n C dX6_add_7 0 rfl ?_
    refine gf_X6_18 C 7 rfl rfl dX6_add_8 ?_
    refine x_aload_n C dX6_add_11 0 rfl ?_
    refine gf_X6_11 C 7 rfl rfl dX6_add_12 ?_
    refine x_alen (v := nI 160) C 8 0 rfl rfl rfl dX6_add_15 ?_
    refine x_icmp_ge (tgt := 61) C dX6_add_16 (by decide) (fun hc => ?_) (fun hc => ?_)
    · replace hF := ifp hc hF
      cases hF
      exact x_vret C E dX6_add_61
    · replace hF := ifn hc hF
      refine x_aload_n C dX6_add_19 0 rfl ?_
      refine gf_X6_18 C 7 rfl rfl dX6_add_20 ?_
      refine x_aload_n C dX6_add_23 0 rfl ?_
      refine gf_X6_15 C 7 rfl rfl dX6_add_24 ?_
      refine x_alen (v := nI 160) C 9 0 rfl rfl rfl dX6_add_27 ?_
      refine x_icmp_ge (tgt := 61) C dX6_add_28 (by decide) (fun hc => ?_) (fun hc => ?_)
      · replace hF := ifp hc hF
        cases hF
        exact x_vret C E dX6_add_61
      · replace hF := ifn hc hF
        refine x_aload_n C dX6_add_31 0 rfl ?_
        refine gf_X6_11 C 7 rfl rfl dX6_add_32 ?_
        refine x_aload_n C dX6_add_35 0 rfl ?_
        refine gf_X6_18 C 7 rfl rfl dX6_add_36 ?_
        refine x_iload_n C dX6_add_39 1 rfl ?_
        obtain ⟨b1, hF⟩ := ck_s hF
        refine x_iast (ws2 := (xw κ q nn xro xrn xfo xva xts (upd xus xts.toNatClampNeg x1) xnu xth xsp xpr xpn xbs xwr xno xki xdi xde xst xta xcb xcd xbe xli xke xne)) C 8 rfl b1 dX6_add_40 rfl ?_
        refine x_aload_n C dX6_add_41 0 rfl ?_
        refine gf_X6_15 C 7 rfl rfl dX6_add_42 ?_
        refine x_aload_n C dX6_add_45 0 rfl ?_
        refine gf_X6_18 C 7 rfl rfl dX6_add_46 ?_
        refine x_iload_n C dX6_add_49 2 rfl ?_
        obtain ⟨b2, hF⟩ := ck_s hF
        refine x_iast (ws2 := (xw κ q nn xro xrn xfo xva xts (upd xus xts.toNatClampNeg x1) (upd xnu xts.toNatClampNeg x2) xth xsp xpr xpn xbs xwr xno xki xdi xde xst xta xcb xcd xbe xli xke xne)) C 9 rfl b2 dX6_add_50 rfl ?_
        refine x_aload_n C dX6_add_51 0 rfl ?_
        refine x_dup C dX6_add_52 rfl ?_
        refine gf_X6_18 C 7 rfl rfl dX6_add_53 ?_
        refine x_iconst (v := 1) C dX6_add_56 (by decide) ?_
        refine x_iadd C dX6_add_57 ?_
        refine pf_X6_18 (ws2 := (xw κ q nn xro xrn xfo xva (xts + (1 : Int32)) (upd xus xts.toNatClampNeg x1) (upd xnu xts.toNatClampNeg x2) xth xsp xpr xpn xbs xwr xno xki xdi xde xst xta xcb xcd xbe xli xke xne)) C 7 rfl dX6_add_58 rfl rfl ?_
        cases hF
        exact x_vret C E dX6_add_61
set_option maxHeartbeats 4000000 in
set_option maxRecDepth 100000 in
theorem c_X8_folded {κ : xb_k} {ws : va_W}  {x0 : Int32}  {o : Int32} (hF : F_X8_folded x0 = some o) : Met κ.1 yX8_folded [Cond.code yX8_folded cX8_folded 1 (some .int)] { frames := 0, cells := 0, slots := 0, locals := 0 } (xb_P κ [.int x0] ws) (xb_Qi κ o ws) 0 0 κ.2.2.1 := by
  refine x_enter (own := RX8) (lv0 := [(0, .int x0)]) (by decide) rfl rfl rfl (fun Γ C E => ?_)
  unfold F_X8_folded at hF
  refine x_iload_n C dX8_folded_0 0 rfl ?_
  refine x_if_ge (tgt := 13) C dX8_folded_1 (by decide) (fun hc => ?_) (fun hc => ?_)
  · replace hF := ifp hc hF
    refine x_iconst (v := 2) C dX8_folded_13 (by decide) ?_
    refine x_iload_n C dX8_folded_14 0 rfl ?_
    refine x_imul C dX8_folded_15 ?_
    cases hF
    exact x_iret C E dX8_folded_16
  · replace hF := ifn hc hF
    refine x_bipush (v := (-2)) C dX8_folded_4 (by decide) ?_
    refine x_iload_n C dX8_folded_6 0 rfl ?_
    refine x_imul C dX8_folded_7 ?_
    refine x_iconst (v := 1) C dX8_folded_8 (by decide) ?_
    refine x_isub C dX8_folded_9 ?_
    refine x_goto (tgt := 16) C dX8_folded_10 (by decide) ?_
    cases hF
    exact x_iret C E dX8_folded_16
set_option maxHeartbeats 4000000 in
set_option maxRecDepth 100000 in
theorem w_X6_tellPlain_L15 {κ : xb_k} {Γ : xb_X} {q : Nat → Nat} {nn : Nat} {xro : (Nat → Int64)} {xrn : (Nat → Int64)} {xfo : (Nat → Int32)} {xva : (Nat → Int32)} {xth : Int32} {xsp : Int32} {xpr : (Nat → Int64)} {xpn : (Nat → Int64)} {xbs : Int32} {xwr : (Nat → Int32)} {xno : (Nat → Int32)} {xki : (Nat → Int32)} {xdi : (Nat → Int32)} {xde : (Nat → Int32)} {xst : (Nat → Int32)} {xta : (Nat → Int32)} {xcb : Int32} {xcd : Int32} {xbe : (Nat → Int32)} {xli : (Nat → Int32)} {xke : (Nat → Int32)} {xne : (Nat → Int64)} {x1 : Int32} {x2 : Int64}  (C : xb_C κ Γ 6 cX6_tellPlain RX6 { frames := 1, cells := 0, slots := 0, locals := 22 }) : ∀ (n : Nat) (x4 : Int32) (x5 : Int32) (xus : (Nat → Int32)) (xnu : (Nat → Int32)) (xts : Int32) (o : (Nat → Int32) × (Nat → Int32) × Int32), F_X6_tellPlain_L15 x1 x2 n x4 x5 xus xnu xts = some o → xb_W κ Γ 6 0 0 74 [] [] (xw κ q nn xro xrn xfo xva o.2.2 o.1 o.2.1 xth xsp xpr xpn xbs xwr xno xki xdi xde xst xta xcb xcd xbe xli xke xne) → xb_W κ Γ 6 0 0 15 [(0, .ref (q 7)), (1, .int x1), (2, .long x2), (4, .int x4), (5, .int x5)] [] (xw κ q nn xro xrn xfo xva xts xus xnu xth xsp xpr xpn xbs xwr xno xki xdi xde xst xta xcb xcd xbe xli xke xne) := by
  intro n
  induction n with
  | zero =>
    intro x4 x5 xus xnu xts o hF K
    rw [F_X6_tellPlain_L15] at hF
    cases hF
  | succ n ih =>
    intro x4 x5 xus xnu xts o hF K
    rw [F_X6_tellPlain_L15] at hF
    refine x_iload C dX6_tellPlain_15 4 rfl ?_
    refine x_bipush (v := 48) C dX6_tellPlain_17 (by decide) ?_
    refine x_icmp_ge (tgt := 74) C dX6_tellPlain_19 (by decide) (fun hc => ?_) (fun hc => ?_)
    · replace hF := ifp hc hF
      cases hF
      exact x_sub [] rfl K
    · replace hF := ifn hc hF
      refine x_lload_n C dX6_tellPlain_22 2 rfl ?_
      refine x_iload C dX6_tellPlain_23 4 rfl ?_
      obtain ⟨o5, h6, hF⟩ := bd_s hF
      refine x_callNi (st := []) C (c_X8_isIn h6) xm_X8_isIn mn_X6_80 rfl rfl rfl rfl dX6_tellPlain_25 ⟨rfl, rfl⟩ ?_
      refine x_if_eq (tgt := 68) C dX6_tellPlain_28 (by decide) (fun hc => ?_) (fun hc => ?_)
      · replace hF := ifp hc hF
        refine x_iinc (v := x5 + 1) (lv2 := [(5, .int (x5 + 1)), (0, .ref (q 7)), (1, .int x1), (2, .long x2), (4, .int x4)]) C dX6_tellPlain_68 4 rfl rfl (by decide) rfl ?_
        refine x_goto (tgt := 15) C dX6_tellPlain_71 (by decide) ?_
        exact x_sub [1, 2, 3, 4, 0] rfl (ih _ _ _ _ _ _ hF K)
      · replace hF := ifn hc hF
        refine x_iload C dX6_tellPlain_31 3 rfl ?_
        refine x_iconst (v := (-1)) C dX6_tellPlain_33 (by decide) ?_
        refine x_icmp_ne (tgt := 52) C dX6_tellPlain_34 (by decide) (fun hc => ?_) (fun hc => ?_)
        · replace hF := ifn hc hF
          refine x_aload_n C dX6_tellPlain_52 0 rfl ?_
          refine x_iconst (v := 3) C dX6_tellPlain_53 (by decide) ?_
          refine x_iload C dX6_tellPlain_54 4 rfl ?_
          refine x_iload C dX6_tellPlain_56 3 rfl ?_
          refine x_isub C dX6_tellPlain_58 ?_
          refine x_iconst (v := 1) C dX6_tellPlain_59 (by decide) ?_
          refine x_isub C dX6_tellPlain_60 ?_
          obtain ⟨o7, h8, hF⟩ := bd_s hF
          refine x_callVv (st := []) C (c_X6_add h8) xm_X6_add ml_X6_32 7 rfl rfl rfl rfl rfl rfl dX6_tellPlain_61 ⟨rfl, rfl⟩ ?_
          refine x_iload C dX6_tellPlain_64 4 rfl ?_
          refine x_istore (lv2 := [(4, .int x5), (0, .ref (q 7)), (1, .int x1), (2, .long x2), (5, .int x5)]) C dX6_tellPlain_66 (by decide) rfl ?_
          refine x_iinc (v := x5 + 1) (lv2 := [(5, .int (x5 + 1)), (4, .int x5), (0, .ref (q 7)), (1, .int x1), (2, .long x2)]) C dX6_tellPlain_68 4 rfl rfl (by decide) rfl ?_
          refine x_goto (tgt := 15) C dX6_tellPlain_71 (by decide) ?_
          exact x_sub [2, 3, 4, 1, 0] rfl (ih _ _ _ _ _ _ hF K)
        · replace hF := ifp hc hF
          refine x_aload_n C dX6_tellPlain_37 0 rfl ?_
          refine x_iconst (v := 2) C dX6_tellPlain_38 (by decide) ?_
          refine x_iload C dX6_tellPlain_39 4 rfl ?_
          refine x_iload_n C dX6_tellPlain_41 1 rfl ?_
          refine x_isub C dX6_tellPlain_42 ?_
          obtain ⟨o9, h10, hF⟩ := bd_s hF
          refine x_callNi (st := [.int (2 : Int32), .ref (q 7)]) C (c_X8_folded h10) xm_X8_folded mn_X6_84 rfl rfl rfl rfl dX6_tellPlain_43 ⟨rfl, rfl⟩ ?_
          obtain ⟨o11, h12, hF⟩ := bd_s hF
          refine x_callVv (st := []) C (c_X6_add h12) xm_X6_add ml_X6_32 7 rfl rfl rfl rfl rfl rfl dX6_tellPlain_46 ⟨rfl, rfl⟩ ?_
          refine x_goto (tgt := 64) C dX6_tellPlain_49 (by decide) ?_
          refine x_iload C dX6_tellPlain_64 4 rfl ?_
          refine x_istore (lv2 := [(4, .int x5), (0, .ref (q 7)), (1, .int x1), (2, .long x2), (5, .int x5)]) C dX6_tellPlain_66 (by decide) rfl ?_
          refine x_iinc (v := x5 + 1) (lv2 := [(5, .int (x5 + 1)), (4, .int x5), (0, .ref (q 7)), (1, .int x1), (2, .long x2)]) C dX6_tellPlain_68 4 rfl rfl (by decide) rfl ?_
          refine x_goto (tgt := 15) C dX6_tellPlain_71 (by decide) ?_
          exact x_sub [2, 3, 4, 1, 0] rfl (ih _ _ _ _ _ _ hF K)
set_option maxHeartbeats 4000000 in
set_option maxRecDepth 100000 in
theorem c_X6_tellPlain {κ : xb_k} {q : Nat → Nat} {nn : Nat} {xro : (Nat → Int64)} {xrn : (Nat → Int64)} {xfo : (Nat → Int32)} {xva : (Nat → Int32)} {xts : Int32} {xus : (Nat → Int32)} {xnu : (Nat → Int32)} {xth : Int32} {xsp : Int32} {xpr : (Nat → Int64)} {xpn : (Nat → Int64)} {xbs : Int32} {xwr : (Nat → Int32)} {xno : (Nat → Int32)} {xki : (Nat → Int32)} {xdi : (Nat → Int32)} {xde : (Nat → Int32)} {xst : (Nat → Int32)} {xta : (Nat → Int32)} {xcb : Int32} {xcd : Int32} {xbe : (Nat → Int32)} {xli : (Nat → Int32)} {xke : (Nat → Int32)} {xne : (Nat → Int64)} {x1 : Int32} {x2 : Int64} {fu : Nat} {o : (Nat → Int32) × (Nat → Int32) × Int32} (hF : F_X6_tellPlain fu x1 x2 xts xus xnu = some o) : Met κ.1 yX6_tellPlain [Cond.code yX6_tellPlain cX6_tellPlain 6 none] { frames := 1, cells := 0, slots := 0, locals := 22 } (xb_P κ [.ref (q 7), .int x1, .long x2] (xw κ q nn xro xrn xfo xva xts xus xnu xth xsp xpr xpn xbs xwr xno xki xdi xde xst xta xcb xcd xbe xli xke xne)) (xb_Qv κ (xw κ q nn xro xrn xfo xva o.2.2 o.1 o.2.1 xth xsp xpr xpn xbs xwr xno xki xdi xde xst xta xcb xcd xbe xli xke xne)) 0 0 κ.2.2.1 := by
  refine x_enter (own := RX6) (lv0 := [(0, .ref (q 7)), (1, .int x1), (2, .long x2)]) (by decide) rfl rfl rfl (fun Γ C E => ?_)
  unfold F_X6_tellPlain at hF
  refine x_aload_n C dX6_tellPlain_0 0 rfl ?_
  refine x_iconst (v := 1) C dX6_tellPlain_1 (by decide) ?_
  refine x_lload_n C dX6_tellPlain_2 2 rfl ?_
  obtain ⟨o1, h2, hF⟩ := bd_s hF
  refine x_callSi (st := [.int (1 : Int32), .ref (q 7)]) C (c_J13_bitCount_95d88 h2) xm_J13_bitCount_95d88 ml_X6_74 rfl rfl rfl rfl dX6_tellPlain_3 ⟨rfl, rfl⟩ ?_
  obtain ⟨o3, h4, hF⟩ := bd_s hF
  refine x_callVv (st := []) C (c_X6_add h4) xm_X6_add ml_X6_32 7 rfl rfl rfl rfl rfl rfl dX6_tellPlain_6 ⟨rfl, rfl⟩ ?_
  refine x_iconst (v := (-1)) C dX6_tellPlain_9 (by decide) ?_
  refine x_istore (lv2 := [(4, .int (-1 : Int32)), (0, .ref (q 7)), (1, .int x1), (2, .long x2)]) C dX6_tellPlain_10 (by decide) rfl ?_
  refine x_iconst (v := 0) C dX6_tellPlain_12 (by decide) ?_
  refine x_istore (lv2 := [(5, .int (0 : Int32)), (4, .int (-1 : Int32)), (0, .ref (q 7)), (1, .int x1), (2, .long x2)]) C dX6_tellPlain_13 (by decide) rfl ?_
  obtain ⟨o13, h14, hF⟩ := bd_s hF
  refine x_sub [2, 3, 4, 1, 0] rfl (w_X6_tellPlain_L15 C fu _ _ _ _ _ _ h14 ?_)
  cases hF
  exact x_vret C E dX6_tellPlain_74
set_option maxHeartbeats 4000000 in
set_option maxRecDepth 100000 in
theorem w_X6_tellSpans_L70 {κ : xb_k} {Γ : xb_X} {q : Nat → Nat} {nn : Nat} {xro : (Nat → Int64)} {xrn : (Nat → Int64)} {xfo : (Nat → Int32)} {xva : (Nat → Int32)} {xth : Int32} {xsp : Int32} {xpr : (Nat → Int64)} {xpn : (Nat → Int64)} {xbs : Int32} {xwr : (Nat → Int32)} {xno : (Nat → Int32)} {xki : (Nat → Int32)} {xdi : (Nat → Int32)} {xde : (Nat → Int32)} {xst : (Nat → Int32)} {xta : (Nat → Int32)} {xcb : Int32} {xcd : Int32} {xbe : (Nat → Int32)} {xli : (Nat → Int32)} {xke : (Nat → Int32)} {xne : (Nat → Int64)} {x1 : Int32} {x2 : Int64} {x6 : Int64} {x8 : Int64} {x10 : Int64}  (C : xb_C κ Γ 15 cX6_tellSpans RX6 { frames := 1, cells := 0, slots := 0, locals := 22 }) : ∀ (n : Nat) (x12 : Int32) (x13 : Int32) (x14 : Int32) (xus : (Nat → Int32)) (xnu : (Nat → Int32)) (xts : Int32) (o : (Nat → Int32) × (Nat → Int32) × Int32), F_X6_tellSpans_L70 x1 x2 x6 x8 x10 n x12 x13 x14 xus xnu xts = some o → xb_W κ Γ 15 0 0 160 [(2, .long x2), (6, .long x6)] [] (xw κ q nn xro xrn xfo xva o.2.2 o.1 o.2.1 xth xsp xpr xpn xbs xwr xno xki xdi xde xst xta xcb xcd xbe xli xke xne) → xb_W κ Γ 15 0 0 70 [(0, .ref (q 7)), (1, .int x1), (2, .long x2), (6, .long x6), (8, .long x8), (10, .long x10), (12, .int x12), (13, .int x13), (14, .int x14)] [] (xw κ q nn xro xrn xfo xva xts xus xnu xth xsp xpr xpn xbs xwr xno xki xdi xde xst xta xcb xcd xbe xli xke xne) := by
  intro n
  induction n with
  | zero =>
    intro x12 x13 x14 xus xnu xts o hF K
    rw [F_X6_tellSpans_L70] at hF
    cases hF
  | succ n ih =>
    intro x12 x13 x14 xus xnu xts o hF K
    rw [F_X6_tellSpans_L70] at hF
    refine x_iload C dX6_tellSpans_70 8 rfl ?_
    refine x_bipush (v := 48) C dX6_tellSpans_72 (by decide) ?_
    refine x_icmp_ge (tgt := 160) C dX6_tellSpans_74 (by decide) (fun hc => ?_) (fun hc => ?_)
    · replace hF := ifp hc hF
      cases hF
      exact x_sub [2, 3] rfl K
    · replace hF := ifn hc hF
      refine x_lload C dX6_tellSpans_77 4 rfl ?_
      refine x_iload C dX6_tellSpans_79 8 rfl ?_
      obtain ⟨o11, h12, hF⟩ := bd_s hF
      refine x_callNi (st := []) C (c_X8_isIn h12) xm_X8_isIn mn_X6_80 rfl rfl rfl rfl dX6_tellSpans_81 ⟨rfl, rfl⟩ ?_
      refine x_if_eq (tgt := 125) C dX6_tellSpans_84 (by decide) (fun hc => ?_) (fun hc => ?_)
      · replace hF := ifp hc hF
        refine x_lload C dX6_tellSpans_125 5 rfl ?_
        refine x_iload C dX6_tellSpans_127 8 rfl ?_
        obtain ⟨o13, h14, hF⟩ := bd_s hF
        refine x_callNi (st := []) C (c_X8_isIn h14) xm_X8_isIn mn_X6_80 rfl rfl rfl rfl dX6_tellSpans_129 ⟨rfl, rfl⟩ ?_
        refine x_if_eq (tgt := 154) C dX6_tellSpans_132 (by decide) (fun hc => ?_) (fun hc => ?_)
        · replace hF := ifp hc hF
          refine x_iinc (v := x14 + 1) (lv2 := [(14, .int (x14 + 1)), (0, .ref (q 7)), (1, .int x1), (2, .long x2), (6, .long x6), (8, .long x8), (10, .long x10), (12, .int x12), (13, .int x13)]) C dX6_tellSpans_154 8 rfl rfl (by decide) rfl ?_
          refine x_goto (tgt := 70) C dX6_tellSpans_157 (by decide) ?_
          exact x_sub [1, 2, 3, 4, 5, 6, 7, 8, 0] rfl (ih _ _ _ _ _ _ _ hF K)
        · replace hF := ifn hc hF
          refine x_aload_n C dX6_tellSpans_135 0 rfl ?_
          refine x_bipush (v := 7) C dX6_tellSpans_136 (by decide) ?_
          refine x_iload C dX6_tellSpans_138 8 rfl ?_
          refine x_iload C dX6_tellSpans_140 6 rfl ?_
          refine x_isub C dX6_tellSpans_142 ?_
          refine x_iconst (v := 1) C dX6_tellSpans_143 (by decide) ?_
          refine x_iadd C dX6_tellSpans_144 ?_
          refine x_iconst (v := 3) C dX6_tellSpans_145 (by decide) ?_
          refine x_isub C dX6_tellSpans_146 ?_
          obtain ⟨o15, h16, hF⟩ := bd_s hF
          refine x_callVv (st := []) C (c_X6_add h16) xm_X6_add ml_X6_32 7 rfl rfl rfl rfl rfl rfl dX6_tellSpans_147 ⟨rfl, rfl⟩ ?_
          refine x_iload C dX6_tellSpans_150 8 rfl ?_
          refine x_istore (lv2 := [(13, .int x14), (0, .ref (q 7)), (1, .int x1), (2, .long x2), (6, .long x6), (8, .long x8), (10, .long x10), (12, .int x12), (14, .int x14)]) C dX6_tellSpans_152 (by decide) rfl ?_
          refine x_iinc (v := x14 + 1) (lv2 := [(14, .int (x14 + 1)), (13, .int x14), (0, .ref (q 7)), (1, .int x1), (2, .long x2), (6, .long x6), (8, .long x8), (10, .long x10), (12, .int x12)]) C dX6_tellSpans_154 8 rfl rfl (by decide) rfl ?_
          refine x_goto (tgt := 70) C dX6_tellSpans_157 (by decide) ?_
          exact x_sub [2, 3, 4, 5, 6, 7, 8, 1, 0] rfl (ih _ _ _ _ _ _ _ hF K)
      · replace hF := ifn hc hF
        refine x_iload C dX6_tellSpans_87 7 rfl ?_
        refine x_iconst (v := (-1)) C dX6_tellSpans_89 (by decide) ?_
        refine x_icmp_ne (tgt := 109) C dX6_tellSpans_90 (by decide) (fun hc => ?_) (fun hc => ?_)
        · replace hF := ifn hc hF
          refine x_aload_n C dX6_tellSpans_109 0 rfl ?_
          refine x_iconst (v := 3) C dX6_tellSpans_110 (by decide) ?_
          refine x_iload C dX6_tellSpans_111 8 rfl ?_
          refine x_iload C dX6_tellSpans_113 7 rfl ?_
          refine x_isub C dX6_tellSpans_115 ?_
          refine x_iconst (v := 2) C dX6_tellSpans_116 (by decide) ?_
          refine x_isub C dX6_tellSpans_117 ?_
          obtain ⟨o17, h18, hF⟩ := bd_s hF
          refine x_callVv (st := []) C (c_X6_add h18) xm_X6_add ml_X6_32 7 rfl rfl rfl rfl rfl rfl dX6_tellSpans_118 ⟨rfl, rfl⟩ ?_
          refine x_iload C dX6_tellSpans_121 8 rfl ?_
          refine x_istore (lv2 := [(12, .int x14), (0, .ref (q 7)), (1, .int x1), (2, .long x2), (6, .long x6), (8, .long x8), (10, .long x10), (13, .int x13), (14, .int x14)]) C dX6_tellSpans_123 (by decide) rfl ?_
          refine x_lload C dX6_tellSpans_125 6 rfl ?_
          refine x_iload C dX6_tellSpans_127 8 rfl ?_
          obtain ⟨o19, h20, hF⟩ := bd_s hF
          refine x_callNi (st := []) C (c_X8_isIn h20) xm_X8_isIn mn_X6_80 rfl rfl rfl rfl dX6_tellSpans_129 ⟨rfl, rfl⟩ ?_
          refine x_if_eq (tgt := 154) C dX6_tellSpans_132 (by decide) (fun hc => ?_) (fun hc => ?_)
          · replace hF := ifp hc hF
            refine x_iinc (v := x14 + 1) (lv2 := [(14, .int (x14 + 1)), (12, .int x14), (0, .ref (q 7)), (1, .int x1), (2, .long x2), (6, .long x6), (8, .long x8), (10, .long x10), (13, .int x13)]) C dX6_tellSpans_154 8 rfl rfl (by decide) rfl ?_
            refine x_goto (tgt := 70) C dX6_tellSpans_157 (by decide) ?_
            exact x_sub [2, 3, 4, 5, 6, 7, 1, 8, 0] rfl (ih _ _ _ _ _ _ _ hF K)
          · replace hF := ifn hc hF
            refine x_aload_n C dX6_tellSpans_135 1 rfl ?_
            refine x_bipush (v := 7) C dX6_tellSpans_136 (by decide) ?_
            refine x_iload C dX6_tellSpans_138 8 rfl ?_
            refine x_iload C dX6_tellSpans_140 0 rfl ?_
            refine x_isub C dX6_tellSpans_142 ?_
            refine x_iconst (v := 1) C dX6_tellSpans_143 (by decide) ?_
            refine x_iadd C dX6_tellSpans_144 ?_
            refine x_iconst (v := 3) C dX6_tellSpans_145 (by decide) ?_
            refine x_isub C dX6_tellSpans_146 ?_
            obtain ⟨o21, h22, hF⟩ := bd_s hF
            refine x_callVv (st := []) C (c_X6_add h22) xm_X6_add ml_X6_32 7 rfl rfl rfl rfl rfl rfl dX6_tellSpans_147 ⟨rfl, rfl⟩ ?_
            refine x_iload C dX6_tellSpans_150 8 rfl ?_
            refine x_istore (lv2 := [(13, .int x14), (12, .int x14), (0, .ref (q 7)), (1, .int x1), (2, .long x2), (6, .long x6), (8, .long x8), (10, .long x10), (14, .int x14)]) C dX6_tellSpans_152 (by decide) rfl ?_
            refine x_iinc (v := x14 + 1) (lv2 := [(14, .int (x14 + 1)), (13, .int x14), (12, .int x14), (0, .ref (q 7)), (1, .int x1), (2, .long x2), (6, .long x6), (8, .long x8), (10, .long x10)]) C dX6_tellSpans_154 8 rfl rfl (by decide) rfl ?_
            refine x_goto (tgt := 70) C dX6_tellSpans_157 (by decide) ?_
            exact x_sub [3, 4, 5, 6, 7, 8, 2, 1, 0] rfl (ih _ _ _ _ _ _ _ hF K)
        · replace hF := ifp hc hF
          refine x_aload_n C dX6_tellSpans_93 0 rfl ?_
          refine x_bipush (v := 6) C dX6_tellSpans_94 (by decide) ?_
          refine x_iload C dX6_tellSpans_96 8 rfl ?_
          refine x_iload_n C dX6_tellSpans_98 1 rfl ?_
          refine x_isub C dX6_tellSpans_99 ?_
          obtain ⟨o23, h24, hF⟩ := bd_s hF
          refine x_callNi (st := [.int (6 : Int32), .ref (q 7)]) C (c_X8_folded h24) xm_X8_folded mn_X6_84 rfl rfl rfl rfl dX6_tellSpans_100 ⟨rfl, rfl⟩ ?_
          obtain ⟨o25, h26, hF⟩ := bd_s hF
          refine x_callVv (st := []) C (c_X6_add h26) xm_X6_add ml_X6_32 7 rfl rfl rfl rfl rfl rfl dX6_tellSpans_103 ⟨rfl, rfl⟩ ?_
          refine x_goto (tgt := 121) C dX6_tellSpans_106 (by decide) ?_
          refine x_iload C dX6_tellSpans_121 8 rfl ?_
          refine x_istore (lv2 := [(12, .int x14), (0, .ref (q 7)), (1, .int x1), (2, .long x2), (6, .long x6), (8, .long x8), (10, .long x10), (13, .int x13), (14, .int x14)]) C dX6_tellSpans_123 (by decide) rfl ?_
          refine x_lload C dX6_tellSpans_125 6 rfl ?_
          refine x_iload C dX6_tellSpans_127 8 rfl ?_
          obtain ⟨o27, h28, hF⟩ := bd_s hF
          refine x_callNi (st := []) C (c_X8_isIn h28) xm_X8_isIn mn_X6_80 rfl rfl rfl rfl dX6_tellSpans_129 ⟨rfl, rfl⟩ ?_
          refine x_if_eq (tgt := 154) C dX6_tellSpans_132 (by decide) (fun hc => ?_) (fun hc => ?_)
          · replace hF := ifp hc hF
            refine x_iinc (v := x14 + 1) (lv2 := [(14, .int (x14 + 1)), (12, .int x14), (0, .ref (q 7)), (1, .int x1), (2, .long x2), (6, .long x6), (8, .long x8), (10, .long x10), (13, .int x13)]) C dX6_tellSpans_154 8 rfl rfl (by decide) rfl ?_
            refine x_goto (tgt := 70) C dX6_tellSpans_157 (by decide) ?_
            exact x_sub [2, 3, 4, 5, 6, 7, 1, 8, 0] rfl (ih _ _ _ _ _ _ _ hF K)
          · replace hF := ifn hc hF
            refine x_aload_n C dX6_tellSpans_135 1 rfl ?_
            refine x_bipush (v := 7) C dX6_tellSpans_136 (by decide) ?_
            refine x_iload C dX6_tellSpans_138 8 rfl ?_
            refine x_iload C dX6_tellSpans_140 0 rfl ?_
            refine x_isub C dX6_tellSpans_142 ?_
            refine x_iconst (v := 1) C dX6_tellSpans_143 (by decide) ?_
            refine x_iadd C dX6_tellSpans_144 ?_
            refine x_iconst (v := 3) C dX6_tellSpans_145 (by decide) ?_
            refine x_isub C dX6_tellSpans_146 ?_
            obtain ⟨o29, h30, hF⟩ := bd_s hF
            refine x_callVv (st := []) C (c_X6_add h30) xm_X6_add ml_X6_32 7 rfl rfl rfl rfl rfl rfl dX6_tellSpans_147 ⟨rfl, rfl⟩ ?_
            refine x_iload C dX6_tellSpans_150 8 rfl ?_
            refine x_istore (lv2 := [(13, .int x14), (12, .int x14), (0, .ref (q 7)), (1, .int x1), (2, .long x2), (6, .long x6), (8, .long x8), (10, .long x10), (14, .int x14)]) C dX6_tellSpans_152 (by decide) rfl ?_
            refine x_iinc (v := x14 + 1) (lv2 := [(14, .int (x14 + 1)), (13, .int x14), (12, .int x14), (0, .ref (q 7)), (1, .int x1), (2, .long x2), (6, .long x6), (8, .long x8), (10, .long x10)]) C dX6_tellSpans_154 8 rfl rfl (by decide) rfl ?_
            refine x_goto (tgt := 70) C dX6_tellSpans_157 (by decide) ?_
            exact x_sub [3, 4, 5, 6, 7, 8, 2, 1, 0] rfl (ih _ _ _ _ _ _ _ hF K)
set_option maxHeartbeats 4000000 in
set_option maxRecDepth 100000 in
theorem c_X6_tellSpans {κ : xb_k} {q : Nat → Nat} {nn : Nat} {xro : (Nat → Int64)} {xrn : (Nat → Int64)} {xfo : (Nat → Int32)} {xva : (Nat → Int32)} {xts : Int32} {xus : (Nat → Int32)} {xnu : (Nat → Int32)} {xth : Int32} {xsp : Int32} {xpr : (Nat → Int64)} {xpn : (Nat → Int64)} {xbs : Int32} {xwr : (Nat → Int32)} {xno : (Nat → Int32)} {xki : (Nat → Int32)} {xdi : (Nat → Int32)} {xde : (Nat → Int32)} {xst : (Nat → Int32)} {xta : (Nat → Int32)} {xcb : Int32} {xcd : Int32} {xbe : (Nat → Int32)} {xli : (Nat → Int32)} {xke : (Nat → Int32)} {xne : (Nat → Int64)} {x1 : Int32} {x2 : Int64} {fu : Nat} {o : Int64 × (Nat → Int32) × (Nat → Int32) × Int32} (hF : F_X6_tellSpans fu x1 x2 xts xus xnu = some o) : Met κ.1 yX6_tellSpans [Cond.code yX6_tellSpans cX6_tellSpans 15 (some .long)] { frames := 1, cells := 0, slots := 0, locals := 22 } (xb_P κ [.ref (q 7), .int x1, .long x2] (xw κ q nn xro xrn xfo xva xts xus xnu xth xsp xpr xpn xbs xwr xno xki xdi xde xst xta xcb xcd xbe xli xke xne)) (xb_Ql κ o.1 (xw κ q nn xro xrn xfo xva o.2.2.2 o.2.1 o.2.2.1 xth xsp xpr xpn xbs xwr xno xki xdi xde xst xta xcb xcd xbe xli xke xne)) 0 0 κ.2.2.1 := by
  refine x_enter (own := RX6) (lv0 := [(0, .ref (q 7)), (1, .int x1), (2, .long x2)]) (by decide) rfl rfl rfl (fun Γ C E => ?_)
  unfold F_X6_tellSpans at hF
  refine x_lload_n C dX6_tellSpans_0 2 rfl ?_
  refine x_lload_n C dX6_tellSpans_1 2 rfl ?_
  refine x_iconst (v := 1) C dX6_tellSpans_2 (by decide) ?_
  refine x_lshl C dX6_tellSpans_3 ?_
  refine x_land C dX6_tellSpans_4 ?_
  refine x_lload_n C dX6_tellSpans_5 2 rfl ?_
  refine x_iconst (v := 1) C dX6_tellSpans_6 (by decide) ?_
  refine x_lushr C dX6_tellSpans_7 ?_
  refine x_land C dX6_tellSpans_8 ?_
  obtain ⟨v1, e2, hF⟩ := nm_s hF
  refine x_topl e2 ?_
  refine x_lstore (lv2 := [(4, .long v1), (0, .ref (q 7)), (1, .int x1), (2, .long x2)]) C dX6_tellSpans_9 (by decide) rfl ?_
  refine x_lload C dX6_tellSpans_11 0 rfl ?_
  refine x_lload C dX6_tellSpans_13 0 rfl ?_
  refine x_iconst (v := 1) C dX6_tellSpans_15 (by decide) ?_
  refine x_lshl C dX6_tellSpans_16 ?_
  refine x_lor C dX6_tellSpans_17 ?_
  refine x_lload C dX6_tellSpans_18 0 rfl ?_
  refine x_iconst (v := 1) C dX6_tellSpans_20 (by decide) ?_
  refine x_lushr C dX6_tellSpans_21 ?_
  refine x_lor C dX6_tellSpans_22 ?_
  obtain ⟨v3, e4, hF⟩ := nm_s hF
  refine x_topl e4 ?_
  refine x_lstore (lv2 := [(6, .long v3), (4, .long v1), (0, .ref (q 7)), (1, .int x1), (2, .long x2)]) C dX6_tellSpans_23 (by decide) rfl ?_
  refine x_lload C dX6_tellSpans_25 0 rfl ?_
  refine x_lload C dX6_tellSpans_27 0 rfl ?_
  refine x_iconst (v := 1) C dX6_tellSpans_29 (by decide) ?_
  refine x_lshl C dX6_tellSpans_30 ?_
  refine x_ldc2 C dX6_tellSpans_31 kl_X6_48 ?_
  refine x_lxor C dX6_tellSpans_34 ?_
  refine x_land C dX6_tellSpans_35 ?_
  obtain ⟨v5, e6, hF⟩ := nm_s hF
  refine x_topl e6 ?_
  refine x_lstore (lv2 := [(8, .long v5), (6, .long v3), (4, .long v1), (0, .ref (q 7)), (1, .int x1), (2, .long x2)]) C dX6_tellSpans_36 (by decide) rfl ?_
  refine x_lload C dX6_tellSpans_38 1 rfl ?_
  refine x_lload C dX6_tellSpans_40 1 rfl ?_
  refine x_iconst (v := 1) C dX6_tellSpans_42 (by decide) ?_
  refine x_lushr C dX6_tellSpans_43 ?_
  refine x_ldc2 C dX6_tellSpans_44 kl_X6_48 ?_
  refine x_lxor C dX6_tellSpans_47 ?_
  refine x_land C dX6_tellSpans_48 ?_
  refine x_lstore (lv2 := [(10, .long (v3 &&& ((xb_ushr v3 (1 : Int32)) ^^^ (-1 : Int64)))), (8, .long v5), (6, .long v3), (4, .long v1), (0, .ref (q 7)), (1, .int x1), (2, .long x2)]) C dX6_tellSpans_49 (by decide) rfl ?_
  refine x_aload_n C dX6_tellSpans_51 4 rfl ?_
  refine x_iconst (v := 1) C dX6_tellSpans_52 (by decide) ?_
  refine x_lload C dX6_tellSpans_53 1 rfl ?_
  obtain ⟨o7, h8, hF⟩ := bd_s hF
  refine x_callSi (st := [.int (1 : Int32), .ref (q 7)]) C (c_J13_bitCount_95d88 h8) xm_J13_bitCount_95d88 ml_X6_74 rfl rfl rfl rfl dX6_tellSpans_55 ⟨rfl, rfl⟩ ?_
  obtain ⟨o9, h10, hF⟩ := bd_s hF
  refine x_callVv (st := []) C (c_X6_add h10) xm_X6_add ml_X6_32 7 rfl rfl rfl rfl rfl rfl dX6_tellSpans_58 ⟨rfl, rfl⟩ ?_
  refine x_iconst (v := 0) C dX6_tellSpans_61 (by decide) ?_
  refine x_istore (lv2 := [(12, .int (0 : Int32)), (10, .long (v3 &&& ((xb_ushr v3 (1 : Int32)) ^^^ (-1 : Int64)))), (8, .long v5), (6, .long v3), (4, .long v1), (0, .ref (q 7)), (1, .int x1), (2, .long x2)]) C dX6_tellSpans_62 (by decide) rfl ?_
  refine x_iconst (v := (-1)) C dX6_tellSpans_64 (by decide) ?_
  refine x_istore (lv2 := [(13, .int (-1 : Int32)), (12, .int (0 : Int32)), (10, .long (v3 &&& ((xb_ushr v3 (1 : Int32)) ^^^ (-1 : Int64)))), (8, .long v5), (6, .long v3), (4, .long v1), (0, .ref (q 7)), (1, .int x1), (2, .long x2)]) C dX6_tellSpans_65 (by decide) rfl ?_
  refine x_iconst (v := 0) C dX6_tellSpans_67 (by decide) ?_
  refine x_istore (lv2 := [(14, .int (0 : Int32)), (13, .int (-1 : Int32)), (12, .int (0 : Int32)), (10, .long (v3 &&& ((xb_ushr v3 (1 : Int32)) ^^^ (-1 : Int64)))), (8, .long v5), (6, .long v3), (4, .long v1), (0, .ref (q 7)), (1, .int x1), (2, .long x2)]) C dX6_tellSpans_68 (by decide) rfl ?_
  obtain ⟨o31, h32, hF⟩ := bd_s hF
  refine x_sub [7, 8, 9, 5, 4, 3, 2, 1, 0] rfl (w_X6_tellSpans_L70 C fu _ _ _ _ _ _ _ h32 ?_)
  refine x_lload_n C dX6_tellSpans_160 0 rfl ?_
  refine x_lload C dX6_tellSpans_161 1 rfl ?_
  refine x_ldc2 C dX6_tellSpans_163 kl_X6_48 ?_
  refine x_lxor C dX6_tellSpans_166 ?_
  refine x_land C dX6_tellSpans_167 ?_
  cases hF
  exact x_lret C E dX6_tellSpans_168
set_option maxHeartbeats 4000000 in
set_option maxRecDepth 100000 in
theorem w_X6_tellBlocks_L24 {κ : xb_k} {Γ : xb_X} {q : Nat → Nat} {nn : Nat} {xro : (Nat → Int64)} {xrn : (Nat → Int64)} {xfo : (Nat → Int32)} {xva : (Nat → Int32)} {xth : Int32} {xsp : Int32} {xpr : (Nat → Int64)} {xpn : (Nat → Int64)} {xbs : Int32} {xwr : (Nat → Int32)} {xno : (Nat → Int32)} {xki : (Nat → Int32)} {xdi : (Nat → Int32)} {xde : (Nat → Int32)} {xst : (Nat → Int32)} {xta : (Nat → Int32)} {xcb : Int32} {xcd : Int32} {xbe : (Nat → Int32)} {xli : (Nat → Int32)} {xke : (Nat → Int32)} {xne : (Nat → Int64)} {x1 : Int64} {x3 : Int64} {x5 : Int32}  (C : xb_C κ Γ 10 cX6_tellBlocks RX6 { frames := 1, cells := 0, slots := 0, locals := 22 }) : ∀ (n : Nat) (x6 : Int32) (x7 : Int32) (x8 : Int32) (x9 : Int32) (xus : (Nat → Int32)) (xnu : (Nat → Int32)) (xts : Int32) (o : Int32 × (Nat → Int32) × (Nat → Int32) × Int32), F_X6_tellBlocks_L24 x1 x3 x5 n x6 x7 x8 x9 xus xnu xts = some o → xb_W κ Γ 10 0 0 100 [(0, .ref (q 7)), (5, .int x5), (8, .int o.1)] [] (xw κ q nn xro xrn xfo xva o.2.2.2 o.2.1 o.2.2.1 xth xsp xpr xpn xbs xwr xno xki xdi xde xst xta xcb xcd xbe xli xke xne) → xb_W κ Γ 10 0 0 24 [(0, .ref (q 7)), (1, .long x1), (3, .long x3), (5, .int x5), (6, .int x6), (7, .int x7), (8, .int x8), (9, .int x9)] [] (xw κ q nn xro xrn xfo xva xts xus xnu xth xsp xpr xpn xbs xwr xno xki xdi xde xst xta xcb xcd xbe xli xke xne) := by
  intro n
  induction n with
  | zero =>
    intro x6 x7 x8 x9 xus xnu xts o hF K
    rw [F_X6_tellBlocks_L24] at hF
    cases hF
  | succ n ih =>
    intro x6 x7 x8 x9 xus xnu xts o hF K
    rw [F_X6_tellBlocks_L24] at hF
    refine x_iload C dX6_tellBlocks_24 7 rfl ?_
    refine x_bipush (v := 48) C dX6_tellBlocks_26 (by decide) ?_
    refine x_icmp_ge (tgt := 100) C dX6_tellBlocks_28 (by decide) (fun hc => ?_) (fun hc => ?_)
    · replace hF := ifp hc hF
      cases hF
      exact x_sub [0, 3, 6] rfl K
    · replace hF := ifn hc hF
      refine x_lload_n C dX6_tellBlocks_31 2 rfl ?_
      refine x_iload C dX6_tellBlocks_32 7 rfl ?_
      obtain ⟨o3, h4, hF⟩ := bd_s hF
      refine x_callNi (st := []) C (c_X8_isIn h4) xm_X8_isIn mn_X6_80 rfl rfl rfl rfl dX6_tellBlocks_34 ⟨rfl, rfl⟩ ?_
      refine x_if_eq (tgt := 94) C dX6_tellBlocks_37 (by decide) (fun hc => ?_) (fun hc => ?_)
      · replace hF := ifp hc hF
        refine x_iinc (v := x9 + 1) (lv2 := [(9, .int (x9 + 1)), (0, .ref (q 7)), (1, .long x1), (3, .long x3), (5, .int x5), (6, .int x6), (7, .int x7), (8, .int x8)]) C dX6_tellBlocks_94 7 rfl rfl (by decide) rfl ?_
        refine x_goto (tgt := 24) C dX6_tellBlocks_97 (by decide) ?_
        exact x_sub [1, 2, 3, 4, 5, 6, 7, 0] rfl (ih _ _ _ _ _ _ _ _ hF K)
      · replace hF := ifn hc hF
        refine x_lload_n C dX6_tellBlocks_40 1 rfl ?_
        refine x_iload C dX6_tellBlocks_41 7 rfl ?_
        obtain ⟨o5, h6, hF⟩ := bd_s hF
        refine x_callNi (st := []) C (c_X8_isIn h6) xm_X8_isIn mn_X6_80 rfl rfl rfl rfl dX6_tellBlocks_43 ⟨rfl, rfl⟩ ?_
        refine x_iload C dX6_tellBlocks_46 4 rfl ?_
        refine x_icmp_ne (tgt := 57) C dX6_tellBlocks_48 (by decide) (fun hc => ?_) (fun hc => ?_)
        · replace hF := ifn hc hF
          refine x_aload_n C dX6_tellBlocks_57 0 rfl ?_
          refine x_iconst (v := 5) C dX6_tellBlocks_58 (by decide) ?_
          refine x_iload C dX6_tellBlocks_59 6 rfl ?_
          refine x_if_ne (tgt := 69) C dX6_tellBlocks_61 (by decide) (fun hc => ?_) (fun hc => ?_)
          · replace hF := ifn hc hF
            refine x_iload C dX6_tellBlocks_69 5 rfl ?_
            refine x_iconst (v := 1) C dX6_tellBlocks_71 (by decide) ?_
            refine x_isub C dX6_tellBlocks_72 ?_
            obtain ⟨o7, h8, hF⟩ := bd_s hF
            refine x_callVv (st := []) C (c_X6_add h8) xm_X6_add ml_X6_32 7 rfl rfl rfl rfl rfl rfl dX6_tellBlocks_73 ⟨rfl, rfl⟩ ?_
            refine x_iinc (v := x8 + 1) (lv2 := [(8, .int (x8 + 1)), (0, .ref (q 7)), (1, .long x1), (3, .long x3), (5, .int x5), (6, .int x6), (7, .int x7), (9, .int x9)]) C dX6_tellBlocks_76 6 rfl rfl (by decide) rfl ?_
            refine x_iload C dX6_tellBlocks_79 5 rfl ?_
            refine x_if_ne (tgt := 88) C dX6_tellBlocks_81 (by decide) (fun hc => ?_) (fun hc => ?_)
            · replace hF := ifn hc hF
              refine x_iconst (v := 0) C dX6_tellBlocks_88 (by decide) ?_
              refine x_istore (lv2 := [(6, .int (0 : Int32)), (8, .int (x8 + 1)), (0, .ref (q 7)), (1, .long x1), (3, .long x3), (5, .int x5), (7, .int x7), (9, .int x9)]) C dX6_tellBlocks_89 (by decide) rfl ?_
              refine x_iconst (v := 1) C dX6_tellBlocks_91 (by decide) ?_
              refine x_istore (lv2 := [(7, .int (1 : Int32)), (6, .int (0 : Int32)), (8, .int (x8 + 1)), (0, .ref (q 7)), (1, .long x1), (3, .long x3), (5, .int x5), (9, .int x9)]) C dX6_tellBlocks_92 (by decide) rfl ?_
              refine x_iinc (v := x9 + 1) (lv2 := [(9, .int (x9 + 1)), (7, .int (1 : Int32)), (6, .int (0 : Int32)), (8, .int (x8 + 1)), (0, .ref (q 7)), (1, .long x1), (3, .long x3), (5, .int x5)]) C dX6_tellBlocks_94 7 rfl rfl (by decide) rfl ?_
              refine x_goto (tgt := 24) C dX6_tellBlocks_97 (by decide) ?_
              exact x_sub [4, 5, 6, 7, 2, 1, 3, 0] rfl (ih _ _ _ _ _ _ _ _ hF K)
            · replace hF := ifp hc hF
              refine x_iconst (v := 1) C dX6_tellBlocks_84 (by decide) ?_
              refine x_goto (tgt := 89) C dX6_tellBlocks_85 (by decide) ?_
              refine x_istore (lv2 := [(6, .int (1 : Int32)), (8, .int (x8 + 1)), (0, .ref (q 7)), (1, .long x1), (3, .long x3), (5, .int x5), (7, .int x7), (9, .int x9)]) C dX6_tellBlocks_89 (by decide) rfl ?_
              refine x_iconst (v := 1) C dX6_tellBlocks_91 (by decide) ?_
              refine x_istore (lv2 := [(7, .int (1 : Int32)), (6, .int (1 : Int32)), (8, .int (x8 + 1)), (0, .ref (q 7)), (1, .long x1), (3, .long x3), (5, .int x5), (9, .int x9)]) C dX6_tellBlocks_92 (by decide) rfl ?_
              refine x_iinc (v := x9 + 1) (lv2 := [(9, .int (x9 + 1)), (7, .int (1 : Int32)), (6, .int (1 : Int32)), (8, .int (x8 + 1)), (0, .ref (q 7)), (1, .long x1), (3, .long x3), (5, .int x5)]) C dX6_tellBlocks_94 7 rfl rfl (by decide) rfl ?_
              refine x_goto (tgt := 24) C dX6_tellBlocks_97 (by decide) ?_
              exact x_sub [4, 5, 6, 7, 2, 1, 3, 0] rfl (ih _ _ _ _ _ _ _ _ hF K)
          · replace hF := ifp hc hF
            refine x_iload C dX6_tellBlocks_64 5 rfl ?_
            refine x_goto (tgt := 73) C dX6_tellBlocks_66 (by decide) ?_
            obtain ⟨o9, h10, hF⟩ := bd_s hF
            refine x_callVv (st := []) C (c_X6_add h10) xm_X6_add ml_X6_32 7 rfl rfl rfl rfl rfl rfl dX6_tellBlocks_73 ⟨rfl, rfl⟩ ?_
            refine x_iinc (v := x8 + 1) (lv2 := [(8, .int (x8 + 1)), (0, .ref (q 7)), (1, .long x1), (3, .long x3), (5, .int x5), (6, .int x6), (7, .int x7), (9, .int x9)]) C dX6_tellBlocks_76 6 rfl rfl (by decide) rfl ?_
            refine x_iload C dX6_tellBlocks_79 5 rfl ?_
            refine x_if_ne (tgt := 88) C dX6_tellBlocks_81 (by decide) (fun hc => ?_) (fun hc => ?_)
            · replace hF := ifn hc hF
              refine x_iconst (v := 0) C dX6_tellBlocks_88 (by decide) ?_
              refine x_istore (lv2 := [(6, .int (0 : Int32)), (8, .int (x8 + 1)), (0, .ref (q 7)), (1, .long x1), (3, .long x3), (5, .int x5), (7, .int x7), (9, .int x9)]) C dX6_tellBlocks_89 (by decide) rfl ?_
              refine x_iconst (v := 1) C dX6_tellBlocks_91 (by decide) ?_
              refine x_istore (lv2 := [(7, .int (1 : Int32)), (6, .int (0 : Int32)), (8, .int (x8 + 1)), (0, .ref (q 7)), (1, .long x1), (3, .long x3), (5, .int x5), (9, .int x9)]) C dX6_tellBlocks_92 (by decide) rfl ?_
              refine x_iinc (v := x9 + 1) (lv2 := [(9, .int (x9 + 1)), (7, .int (1 : Int32)), (6, .int (0 : Int32)), (8, .int (x8 + 1)), (0, .ref (q 7)), (1, .long x1), (3, .long x3), (5, .int x5)]) C dX6_tellBlocks_94 7 rfl rfl (by decide) rfl ?_
              refine x_goto (tgt := 24) C dX6_tellBlocks_97 (by decide) ?_
              exact x_sub [4, 5, 6, 7, 2, 1, 3, 0] rfl (ih _ _ _ _ _ _ _ _ hF K)
            · replace hF := ifp hc hF
              refine x_iconst (v := 1) C dX6_tellBlocks_84 (by decide) ?_
              refine x_goto (tgt := 89) C dX6_tellBlocks_85 (by decide) ?_
              refine x_istore (lv2 := [(6, .int (1 : Int32)), (8, .int (x8 + 1)), (0, .ref (q 7)), (1, .long x1), (3, .long x3), (5, .int x5), (7, .int x7), (9, .int x9)]) C dX6_tellBlocks_89 (by decide) rfl ?_
              refine x_iconst (v := 1) C dX6_tellBlocks_91 (by decide) ?_
              refine x_istore (lv2 := [(7, .int (1 : Int32)), (6, .int (1 : Int32)), (8, .int (x8 + 1)), (0, .ref (q 7)), (1, .long x1), (3, .long x3), (5, .int x5), (9, .int x9)]) C dX6_tellBlocks_92 (by decide) rfl ?_
              refine x_iinc (v := x9 + 1) (lv2 := [(9, .int (x9 + 1)), (7, .int (1 : Int32)), (6, .int (1 : Int32)), (8, .int (x8 + 1)), (0, .ref (q 7)), (1, .long x1), (3, .long x3), (5, .int x5)]) C dX6_tellBlocks_94 7 rfl rfl (by decide) rfl ?_
              refine x_goto (tgt := 24) C dX6_tellBlocks_97 (by decide) ?_
              exact x_sub [4, 5, 6, 7, 2, 1, 3, 0] rfl (ih _ _ _ _ _ _ _ _ hF K)
        · replace hF := ifp hc hF
          refine x_iinc (v := x7 + 1) (lv2 := [(7, .int (x7 + 1)), (0, .ref (q 7)), (1, .long x1), (3, .long x3), (5, .int x5), (6, .int x6), (8, .int x8), (9, .int x9)]) C dX6_tellBlocks_51 5 rfl rfl (by decide) rfl ?_
          refine x_goto (tgt := 94) C dX6_tellBlocks_54 (by decide) ?_
          refine x_iinc (v := x9 + 1) (lv2 := [(9, .int (x9 + 1)), (7, .int (x7 + 1)), (0, .ref (q 7)), (1, .long x1), (3, .long x3), (5, .int x5), (6, .int x6), (8, .int x8)]) C dX6_tellBlocks_94 7 rfl rfl (by decide) rfl ?_
          refine x_goto (tgt := 24) C dX6_tellBlocks_97 (by decide) ?_
          exact x_sub [2, 3, 4, 5, 6, 1, 7, 0] rfl (ih _ _ _ _ _ _ _ _ hF K)
set_option maxHeartbeats 4000000 in
set_option maxRecDepth 100000 in
theorem c_X6_tellBlocks {κ : xb_k} {q : Nat → Nat} {nn : Nat} {xro : (Nat → Int64)} {xrn : (Nat → Int64)} {xfo : (Nat → Int32)} {xva : (Nat → Int32)} {xts : Int32} {xus : (Nat → Int32)} {xnu : (Nat → Int32)} {xth : Int32} {xsp : Int32} {xpr : (Nat → Int64)} {xpn : (Nat → Int64)} {xbs : Int32} {xwr : (Nat → Int32)} {xno : (Nat → Int32)} {xki : (Nat → Int32)} {xdi : (Nat → Int32)} {xde : (Nat → Int32)} {xst : (Nat → Int32)} {xta : (Nat → Int32)} {xcb : Int32} {xcd : Int32} {xbe : (Nat → Int32)} {xli : (Nat → Int32)} {xke : (Nat → Int32)} {xne : (Nat → Int64)} {x1 : Int64} {x3 : Int64} {fu : Nat} {o : (Nat → Int32) × (Nat → Int32) × Int32} (hF : F_X6_tellBlocks fu x1 x3 xts xus xnu = some o) : Met κ.1 yX6_tellBlocks [Cond.code yX6_tellBlocks cX6_tellBlocks 10 none] { frames := 1, cells := 0, slots := 0, locals := 22 } (xb_P κ [.ref (q 7), .long x1, .long x3] (xw κ q nn xro xrn xfo xva xts xus xnu xth xsp xpr xpn xbs xwr xno xki xdi xde xst xta xcb xcd xbe xli xke xne)) (xb_Qv κ (xw κ q nn xro xrn xfo xva o.2.2 o.1 o.2.1 xth xsp xpr xpn xbs xwr xno xki xdi xde xst xta xcb xcd xbe xli xke xne)) 0 0 κ.2.2.1 := by
  refine x_enter (own := RX6) (lv0 := [(0, .ref (q 7)), (1, .long x1), (3, .long x3)]) (by decide) rfl rfl rfl (fun Γ C E => ?_)
  unfold F_X6_tellBlocks at hF
  refine x_aload_n C dX6_tellBlocks_0 0 rfl ?_
  refine gf_X6_18 C 7 rfl rfl dX6_tellBlocks_1 ?_
  refine x_istore (lv2 := [(5, .int xts), (0, .ref (q 7)), (1, .long x1), (3, .long x3)]) C dX6_tellBlocks_4 (by decide) rfl ?_
  refine x_aload_n C dX6_tellBlocks_6 1 rfl ?_
  refine x_iconst (v := 1) C dX6_tellBlocks_7 (by decide) ?_
  refine x_iconst (v := 0) C dX6_tellBlocks_8 (by decide) ?_
  obtain ⟨o1, h2, hF⟩ := bd_s hF
  refine x_callVv (st := []) C (c_X6_add h2) xm_X6_add ml_X6_32 7 rfl rfl rfl rfl rfl rfl dX6_tellBlocks_9 ⟨rfl, rfl⟩ ?_
  refine x_iconst (v := 1) C dX6_tellBlocks_12 (by decide) ?_
  refine x_istore (lv2 := [(6, .int (1 : Int32)), (5, .int xts), (0, .ref (q 7)), (1, .long x1), (3, .long x3)]) C dX6_tellBlocks_13 (by decide) rfl ?_
  refine x_iconst (v := 0) C dX6_tellBlocks_15 (by decide) ?_
  refine x_istore (lv2 := [(7, .int (0 : Int32)), (6, .int (1 : Int32)), (5, .int xts), (0, .ref (q 7)), (1, .long x1), (3, .long x3)]) C dX6_tellBlocks_16 (by decide) rfl ?_
  refine x_iconst (v := 0) C dX6_tellBlocks_18 (by decide) ?_
  refine x_istore (lv2 := [(8, .int (0 : Int32)), (7, .int (0 : Int32)), (6, .int (1 : Int32)), (5, .int xts), (0, .ref (q 7)), (1, .long x1), (3, .long x3)]) C dX6_tellBlocks_19 (by decide) rfl ?_
  refine x_iconst (v := 0) C dX6_tellBlocks_21 (by decide) ?_
  refine x_istore (lv2 := [(9, .int (0 : Int32)), (8, .int (0 : Int32)), (7, .int (0 : Int32)), (6, .int (1 : Int32)), (5, .int xts), (0, .ref (q 7)), (1, .long x1), (3, .long x3)]) C dX6_tellBlocks_22 (by decide) rfl ?_
  obtain ⟨o11, h12, hF⟩ := bd_s hF
  refine x_sub [5, 6, 7, 4, 3, 2, 1, 0] rfl (w_X6_tellBlocks_L24 C fu _ _ _ _ _ _ _ _ h12 ?_)
  refine x_iload C dX6_tellBlocks_100 1 rfl ?_
  refine x_if_lt (tgt := 124) C dX6_tellBlocks_102 (by decide) (fun hc => ?_) (fun hc => ?_)
  · replace hF := ifp hc hF
    cases hF
    exact x_vret C E dX6_tellBlocks_124
  · replace hF := ifn hc hF
    refine x_iload C dX6_tellBlocks_105 1 rfl ?_
    refine x_aload_n C dX6_tellBlocks_107 0 rfl ?_
    refine gf_X6_15 C 7 rfl rfl dX6_tellBlocks_108 ?_
    refine x_alen (v := nI 160) C 9 0 rfl rfl rfl dX6_tellBlocks_111 ?_
    refine x_icmp_ge (tgt := 124) C dX6_tellBlocks_112 (by decide) (fun hc => ?_) (fun hc => ?_)
    · replace hF := ifp hc hF
      cases hF
      exact x_vret C E dX6_tellBlocks_124
    · replace hF := ifn hc hF
      refine x_aload_n C dX6_tellBlocks_115 0 rfl ?_
      refine gf_X6_15 C 7 rfl rfl dX6_tellBlocks_116 ?_
      refine x_iload C dX6_tellBlocks_119 1 rfl ?_
      refine x_iload C dX6_tellBlocks_121 2 rfl ?_
      obtain ⟨b13, hF⟩ := ck_s hF
      refine x_iast (ws2 := (xw κ q nn xro xrn xfo xva o11.2.2.2 o11.2.1 (upd o11.2.2.1 xts.toNatClampNeg o11.1) xth xsp xpr xpn xbs xwr xno xki xdi xde xst xta xcb xcd xbe xli xke xne)) C 9 rfl b13 dX6_tellBlocks_123 rfl ?_
      cases hF
      exact x_vret C E dX6_tellBlocks_124
set_option maxHeartbeats 4000000 in
set_option maxRecDepth 100000 in
theorem w_X8_lastOf_L3 {κ : xb_k} {Γ : xb_X} {ws : va_W}  {x0 : Int64}  (C : xb_C κ Γ 3 cX8_lastOf RX8 { frames := 0, cells := 0, slots := 0, locals := 0 }) : ∀ (n : Nat) (x2 : Int32) (o : Int32), F_X8_lastOf_L3 x0 n x2 = some o → xb_E κ Γ (xb_Qi κ o ws) 0 0 (some .int) → xb_W κ Γ 3 0 0 3 [(0, .long x0), (2, .int x2)] [] ws := by
  intro n
  induction n with
  | zero =>
    intro x2 o hF E
    rw [F_X8_lastOf_L3] at hF
    cases hF
  | succ n ih =>
    intro x2 o hF E
    rw [F_X8_lastOf_L3] at hF
    refine x_iload_n C dX8_lastOf_3 1 rfl ?_
    refine x_if_lt (tgt := 25) C dX8_lastOf_4 (by decide) (fun hc => ?_) (fun hc => ?_)
    · replace hF := ifp hc hF
      refine x_iconst (v := (-1)) C dX8_lastOf_25 (by decide) ?_
      cases hF
      exact x_iret C E dX8_lastOf_26
    · replace hF := ifn hc hF
      refine x_lload_n C dX8_lastOf_7 0 rfl ?_
      refine x_iload_n C dX8_lastOf_8 1 rfl ?_
      refine x_lushr C dX8_lastOf_9 ?_
      refine x_lconst (v := 1) C dX8_lastOf_10 (by decide) ?_
      refine x_land C dX8_lastOf_11 ?_
      refine x_lconst (v := 0) C dX8_lastOf_12 (by decide) ?_
      refine x_lcmp C dX8_lastOf_13 ?_
      refine x_if_eq (tgt := 19) C dX8_lastOf_14 (by decide) (fun hc => ?_) (fun hc => ?_)
      · replace hF := ifp hc hF
        refine x_iinc (v := x2 + (-1)) (lv2 := [(2, .int (x2 + (-1))), (0, .long x0)]) C dX8_lastOf_19 1 rfl rfl (by decide) rfl ?_
        refine x_goto (tgt := 3) C dX8_lastOf_22 (by decide) ?_
        exact x_sub [1, 0] rfl (ih _ _ hF E)
      · replace hF := ifn hc hF
        refine x_iload_n C dX8_lastOf_17 1 rfl ?_
        cases hF
        exact x_iret C E dX8_lastOf_18
set_option maxHeartbeats 4000000 in
set_option maxRecDepth 100000 in
theorem c_X8_lastOf {κ : xb_k} {ws : va_W}  {x0 : Int64} {fu : Nat} {o : Int32} (hF : F_X8_lastOf fu x0 = some o) : Met κ.1 yX8_lastOf [Cond.code yX8_lastOf cX8_lastOf 3 (some .int)] { frames := 0, cells := 0, slots := 0, locals := 0 } (xb_P κ [.long x0] ws) (xb_Qi κ o ws) 0 0 κ.2.2.1 := by
  refine x_enter (own := RX8) (lv0 := [(0, .long x0)]) (by decide) rfl rfl rfl (fun Γ C E => ?_)
  unfold F_X8_lastOf at hF
  refine x_bipush (v := 47) C dX8_lastOf_0 (by decide) ?_
  refine x_istore_n (lv2 := [(2, .int (47 : Int32)), (0, .long x0)]) C dX8_lastOf_2 rfl (by decide) rfl ?_
  exact x_sub [1, 0] rfl (w_X8_lastOf_L3 C fu _ _ hF E)
set_option maxHeartbeats 4000000 in
set_option maxRecDepth 100000 in
theorem w_X6_tellDense_L41 {κ : xb_k} {Γ : xb_X} {q : Nat → Nat} {nn : Nat} {xro : (Nat → Int64)} {xrn : (Nat → Int64)} {xfo : (Nat → Int32)} {xva : (Nat → Int32)} {xth : Int32} {xsp : Int32} {xpr : (Nat → Int64)} {xpn : (Nat → Int64)} {xbs : Int32} {xwr : (Nat → Int32)} {xno : (Nat → Int32)} {xki : (Nat → Int32)} {xdi : (Nat → Int32)} {xde : (Nat → Int32)} {xst : (Nat → Int32)} {xta : (Nat → Int32)} {xcb : Int32} {xcd : Int32} {xbe : (Nat → Int32)} {xli : (Nat → Int32)} {xke : (Nat → Int32)} {xne : (Nat → Int64)} {x2 : Int64} {x5 : Int32}  (C : xb_C κ Γ 7 cX6_tellDense RX6 { frames := 2, cells := 0, slots := 0, locals := 44 }) : ∀ (n : Nat) (x6 : Int32) (xus : (Nat → Int32)) (xnu : (Nat → Int32)) (xts : Int32) (o : (Nat → Int32) × (Nat → Int32) × Int32), F_X6_tellDense_L41 x2 x5 n x6 xus xnu xts = some o → xb_W κ Γ 7 0 0 74 [] [] (xw κ q nn xro xrn xfo xva o.2.2 o.1 o.2.1 xth xsp xpr xpn xbs xwr xno xki xdi xde xst xta xcb xcd xbe xli xke xne) → xb_W κ Γ 7 0 0 41 [(0, .ref (q 7)), (2, .long x2), (5, .int x5), (6, .int x6)] [] (xw κ q nn xro xrn xfo xva xts xus xnu xth xsp xpr xpn xbs xwr xno xki xdi xde xst xta xcb xcd xbe xli xke xne) := by
  intro n
  induction n with
  | zero =>
    intro x6 xus xnu xts o hF K
    rw [F_X6_tellDense_L41] at hF
    cases hF
  | succ n ih =>
    intro x6 xus xnu xts o hF K
    rw [F_X6_tellDense_L41] at hF
    refine x_iload C dX6_tellDense_41 3 rfl ?_
    refine x_iload C dX6_tellDense_43 2 rfl ?_
    refine x_icmp_ge (tgt := 74) C dX6_tellDense_45 (by decide) (fun hc => ?_) (fun hc => ?_)
    · replace hF := ifp hc hF
      cases hF
      exact x_sub [] rfl K
    · replace hF := ifn hc hF
      refine x_aload_n C dX6_tellDense_48 0 rfl ?_
      refine x_bipush (v := 8) C dX6_tellDense_49 (by decide) ?_
      refine x_lload_n C dX6_tellDense_51 1 rfl ?_
      refine x_iload C dX6_tellDense_52 3 rfl ?_
      obtain ⟨o11, h12, hF⟩ := bd_s hF
      refine x_callNi (st := [.int (8 : Int32), .ref (q 7)]) C (c_X8_isIn h12) xm_X8_isIn mn_X6_80 rfl rfl rfl rfl dX6_tellDense_54 ⟨rfl, rfl⟩ ?_
      refine x_if_eq (tgt := 64) C dX6_tellDense_57 (by decide) (fun hc => ?_) (fun hc => ?_)
      · replace hF := ifp hc hF
        refine x_iconst (v := 0) C dX6_tellDense_64 (by decide) ?_
        obtain ⟨o13, h14, hF⟩ := bd_s hF
        refine x_callVv (st := []) C (c_X6_add h14) xm_X6_add ml_X6_32 7 rfl rfl rfl rfl rfl rfl dX6_tellDense_65 ⟨rfl, rfl⟩ ?_
        refine x_iinc (v := x6 + 1) (lv2 := [(6, .int (x6 + 1)), (0, .ref (q 7)), (2, .long x2), (5, .int x5)]) C dX6_tellDense_68 3 rfl rfl (by decide) rfl ?_
        refine x_goto (tgt := 41) C dX6_tellDense_71 (by decide) ?_
        exact x_sub [1, 2, 3, 0] rfl (ih _ _ _ _ _ hF K)
      · replace hF := ifn hc hF
        refine x_iconst (v := 1) C dX6_tellDense_60 (by decide) ?_
        refine x_goto (tgt := 65) C dX6_tellDense_61 (by decide) ?_
        obtain ⟨o15, h16, hF⟩ := bd_s hF
        refine x_callVv (st := []) C (c_X6_add h16) xm_X6_add ml_X6_32 7 rfl rfl rfl rfl rfl rfl dX6_tellDense_65 ⟨rfl, rfl⟩ ?_
        refine x_iinc (v := x6 + 1) (lv2 := [(6, .int (x6 + 1)), (0, .ref (q 7)), (2, .long x2), (5, .int x5)]) C dX6_tellDense_68 3 rfl rfl (by decide) rfl ?_
        refine x_goto (tgt := 41) C dX6_tellDense_71 (by decide) ?_
        exact x_sub [1, 2, 3, 0] rfl (ih _ _ _ _ _ hF K)
set_option maxHeartbeats 4000000 in
set_option maxRecDepth 100000 in
theorem c_X6_tellDense {κ : xb_k} {q : Nat → Nat} {nn : Nat} {xro : (Nat → Int64)} {xrn : (Nat → Int64)} {xfo : (Nat → Int32)} {xva : (Nat → Int32)} {xts : Int32} {xus : (Nat → Int32)} {xnu : (Nat → Int32)} {xth : Int32} {xsp : Int32} {xpr : (Nat → Int64)} {xpn : (Nat → Int64)} {xbs : Int32} {xwr : (Nat → Int32)} {xno : (Nat → Int32)} {xki : (Nat → Int32)} {xdi : (Nat → Int32)} {xde : (Nat → Int32)} {xst : (Nat → Int32)} {xta : (Nat → Int32)} {xcb : Int32} {xcd : Int32} {xbe : (Nat → Int32)} {xli : (Nat → Int32)} {xke : (Nat → Int32)} {xne : (Nat → Int64)} {x1 : Int32} {x2 : Int64} {fu : Nat} {o : (Nat → Int32) × (Nat → Int32) × Int32} (hF : F_X6_tellDense fu x1 x2 xts xus xnu = some o) : Met κ.1 yX6_tellDense [Cond.code yX6_tellDense cX6_tellDense 7 none] { frames := 2, cells := 0, slots := 0, locals := 44 } (xb_P κ [.ref (q 7), .int x1, .long x2] (xw κ q nn xro xrn xfo xva xts xus xnu xth xsp xpr xpn xbs xwr xno xki xdi xde xst xta xcb xcd xbe xli xke xne)) (xb_Qv κ (xw κ q nn xro xrn xfo xva o.2.2 o.1 o.2.1 xth xsp xpr xpn xbs xwr xno xki xdi xde xst xta xcb xcd xbe xli xke xne)) 0 0 κ.2.2.1 := by
  refine x_enter (own := RX6) (lv0 := [(0, .ref (q 7)), (1, .int x1), (2, .long x2)]) (by decide) rfl rfl rfl (fun Γ C E => ?_)
  unfold F_X6_tellDense at hF
  refine x_lload_n C dX6_tellDense_0 2 rfl ?_
  refine x_iconst (v := 0) C dX6_tellDense_1 (by decide) ?_
  obtain ⟨o1, h2, hF⟩ := bd_s hF
  refine x_callNi (st := []) C (c_X8_firstFrom h2) xm_X8_firstFrom mn_X6_87 rfl rfl rfl rfl dX6_tellDense_2 ⟨rfl, rfl⟩ ?_
  refine x_istore (lv2 := [(4, .int o1), (0, .ref (q 7)), (1, .int x1), (2, .long x2)]) C dX6_tellDense_5 (by decide) rfl ?_
  refine x_lload_n C dX6_tellDense_7 3 rfl ?_
  obtain ⟨o3, h4, hF⟩ := bd_s hF
  refine x_callNi (st := []) C (c_X8_lastOf h4) xm_X8_lastOf mn_X6_91 rfl rfl rfl rfl dX6_tellDense_8 ⟨rfl, rfl⟩ ?_
  refine x_istore (lv2 := [(5, .int o3), (4, .int o1), (0, .ref (q 7)), (1, .int x1), (2, .long x2)]) C dX6_tellDense_11 (by decide) rfl ?_
  refine x_aload_n C dX6_tellDense_13 2 rfl ?_
  refine x_iconst (v := 2) C dX6_tellDense_14 (by decide) ?_
  refine x_iload C dX6_tellDense_15 1 rfl ?_
  refine x_iload_n C dX6_tellDense_17 3 rfl ?_
  refine x_isub C dX6_tellDense_18 ?_
  obtain ⟨o5, h6, hF⟩ := bd_s hF
  refine x_callNi (st := [.int (2 : Int32), .ref (q 7)]) C (c_X8_folded h6) xm_X8_folded mn_X6_84 rfl rfl rfl rfl dX6_tellDense_19 ⟨rfl, rfl⟩ ?_
  obtain ⟨o7, h8, hF⟩ := bd_s hF
  refine x_callVv (st := []) C (c_X6_add h8) xm_X6_add ml_X6_32 7 rfl rfl rfl rfl rfl rfl dX6_tellDense_22 ⟨rfl, rfl⟩ ?_
  refine x_aload_n C dX6_tellDense_25 2 rfl ?_
  refine x_iconst (v := 1) C dX6_tellDense_26 (by decide) ?_
  refine x_iload C dX6_tellDense_27 0 rfl ?_
  refine x_iload C dX6_tellDense_29 1 rfl ?_
  refine x_isub C dX6_tellDense_31 ?_
  obtain ⟨o9, h10, hF⟩ := bd_s hF
  refine x_callVv (st := []) C (c_X6_add h10) xm_X6_add ml_X6_32 7 rfl rfl rfl rfl rfl rfl dX6_tellDense_32 ⟨rfl, rfl⟩ ?_
  refine x_iload C dX6_tellDense_35 1 rfl ?_
  refine x_iconst (v := 1) C dX6_tellDense_37 (by decide) ?_
  refine x_iadd C dX6_tellDense_38 ?_
  refine x_istore (lv2 := [(6, .int (o1 + (1 : Int32))), (5, .int o3), (4, .int o1), (0, .ref (q 7)), (1, .int x1), (2, .long x2)]) C dX6_tellDense_39 (by decide) rfl ?_
  obtain ⟨o17, h18, hF⟩ := bd_s hF
  refine x_sub [3, 5, 1, 0] rfl (w_X6_tellDense_L41 C fu _ _ _ _ _ h18 ?_)
  cases hF
  exact x_vret C E dX6_tellDense_74
set_option maxHeartbeats 4000000 in
set_option maxRecDepth 100000 in
theorem c_X6_tell {κ : xb_k} {q : Nat → Nat} {nn : Nat} {xro : (Nat → Int64)} {xrn : (Nat → Int64)} {xfo : (Nat → Int32)} {xva : (Nat → Int32)} {xts : Int32} {xus : (Nat → Int32)} {xnu : (Nat → Int32)} {xth : Int32} {xsp : Int32} {xpr : (Nat → Int64)} {xpn : (Nat → Int64)} {xbs : Int32} {xwr : (Nat → Int32)} {xno : (Nat → Int32)} {xki : (Nat → Int32)} {xdi : (Nat → Int32)} {xde : (Nat → Int32)} {xst : (Nat → Int32)} {xta : (Nat → Int32)} {xcb : Int32} {xcd : Int32} {xbe : (Nat → Int32)} {xli : (Nat → Int32)} {xke : (Nat → Int32)} {xne : (Nat → Int64)} {x2 : Int32} {x3 : Int32} {x4 : Int32} {fu : Nat} {o : Int32 × Int32 × (Nat → Int32) × (Nat → Int32)} (hF : F_X6_tell fu nn x2 x3 x4 xro xts xus xnu = some o) : Met κ.1 yX6_tell [Cond.code yX6_tell cX6_tell 9 (some .boolean)] { frames := 3, cells := 0, slots := 0, locals := 70 } (xb_P κ [.ref (q 7), .ref (q 1), .int x2, .int x3, .int x4] (xw κ q nn xro xrn xfo xva xts xus xnu xth xsp xpr xpn xbs xwr xno xki xdi xde xst xta xcb xcd xbe xli xke xne)) (xb_Qi κ o.1 (xw κ q nn xro xrn xfo xva o.2.1 o.2.2.1 o.2.2.2 xth xsp xpr xpn xbs xwr xno xki xdi xde xst xta xcb xcd xbe xli xke xne)) 0 0 κ.2.2.1 := by
  refine x_enter (own := RX6) (lv0 := [(0, .ref (q 7)), (1, .ref (q 1)), (2, .int x2), (3, .int x3), (4, .int x4)]) (by decide) rfl rfl rfl (fun Γ C E => ?_)
  unfold F_X6_tell at hF
  refine x_aload_n C dX6_tell_0 1 rfl ?_
  refine x_iload_n C dX6_tell_1 2 rfl ?_
  obtain ⟨o1, h2, hF⟩ := bd_s hF
  refine x_callVl (st := []) C (c_X4_rowOf h2) xm_X4_rowOf ml_X6_26 1 rfl rfl rfl rfl rfl rfl dX6_tell_2 ⟨rfl, rfl⟩ ?_
  refine x_lstore (lv2 := [(5, .long o1), (0, .ref (q 7)), (1, .ref (q 1)), (2, .int x2), (3, .int x3), (4, .int x4)]) C dX6_tell_5 (by decide) rfl ?_
  refine x_aload_n C dX6_tell_7 1 rfl ?_
  refine x_iconst (v := 0) C dX6_tell_8 (by decide) ?_
  refine pf_X6_18 (ws2 := (xw κ q nn xro xrn xfo xva (0 : Int32) xus xnu xth xsp xpr xpn xbs xwr xno xki xdi xde xst xta xcb xcd xbe xli xke xne)) C 7 rfl dX6_tell_9 rfl rfl ?_
  refine x_aload_n C dX6_tell_12 1 rfl ?_
  refine x_iconst (v := 0) C dX6_tell_13 (by decide) ?_
  refine x_iload_n C dX6_tell_14 4 rfl ?_
  obtain ⟨o3, h4, hF⟩ := bd_s hF
  refine x_callVv (st := []) C (c_X6_add h4) xm_X6_add ml_X6_32 7 rfl rfl rfl rfl rfl rfl dX6_tell_15 ⟨rfl, rfl⟩ ?_
  refine x_iload_n C dX6_tell_18 4 rfl ?_
  by_cases hs19_0 : x3 = 0
  · replace hF := ifp hs19_0 hF
    refine x_tswIn (off := 33) (tgt := 52) 0 C dX6_tell_19 hs19_0 (by decide) (by decide) rfl (by decide) ?_
    refine x_aload_n C dX6_tell_52 1 rfl ?_
    refine x_iload_n C dX6_tell_53 3 rfl ?_
    refine x_lload C dX6_tell_54 0 rfl ?_
    obtain ⟨o5, h6, hF⟩ := bd_s hF
    refine x_callVv (st := []) C (c_X6_tellPlain h6) xm_X6_tellPlain ml_X6_36 7 rfl rfl rfl rfl rfl rfl dX6_tell_56 ⟨rfl, rfl⟩ ?_
    refine x_iconst (v := 1) C dX6_tell_59 (by decide) ?_
    cases hF
    exact x_zret C E rfl dX6_tell_60
  · replace hF := ifn hs19_0 hF
    by_cases hs19_1 : x3 = 1
    · replace hF := ifp hs19_1 hF
      refine x_tswIn (off := 42) (tgt := 61) 1 C dX6_tell_19 hs19_1 (by decide) (by decide) rfl (by decide) ?_
      refine x_aload_n C dX6_tell_61 1 rfl ?_
      refine x_iload_n C dX6_tell_62 3 rfl ?_
      refine x_aload_n C dX6_tell_63 1 rfl ?_
      refine x_iload_n C dX6_tell_64 3 rfl ?_
      refine x_lload C dX6_tell_65 0 rfl ?_
      obtain ⟨o7, h8, hF⟩ := bd_s hF
      refine x_callVl (st := [.int x2, .ref (q 7)]) C (c_X6_tellSpans h8) xm_X6_tellSpans ml_X6_40 7 rfl rfl rfl rfl rfl rfl dX6_tell_67 ⟨rfl, rfl⟩ ?_
      obtain ⟨o9, h10, hF⟩ := bd_s hF
      refine x_callVv (st := []) C (c_X6_tellPlain h10) xm_X6_tellPlain ml_X6_36 7 rfl rfl rfl rfl rfl rfl dX6_tell_70 ⟨rfl, rfl⟩ ?_
      refine x_iconst (v := 1) C dX6_tell_73 (by decide) ?_
      cases hF
      exact x_zret C E rfl dX6_tell_74
    · replace hF := ifn hs19_1 hF
      by_cases hs19_2 : x3 = 2
      · replace hF := ifp hs19_2 hF
        refine x_tswIn (off := 56) (tgt := 75) 2 C dX6_tell_19 hs19_2 (by decide) (by decide) rfl (by decide) ?_
        refine x_aload_n C dX6_tell_75 2 rfl ?_
        refine x_iload_n C dX6_tell_76 3 rfl ?_
        refine x_iload C dX6_tell_77 5 rfl ?_
        refine x_isub C dX6_tell_79 ?_
        obtain ⟨o11, h12, hF⟩ := bd_s hF
        refine x_callVl (st := []) C (c_X4_rowOf h12) xm_X4_rowOf ml_X6_26 1 rfl rfl rfl rfl rfl rfl dX6_tell_80 ⟨rfl, rfl⟩ ?_
        refine x_lstore (lv2 := [(7, .long o11), (5, .long o1), (0, .ref (q 7)), (1, .ref (q 1)), (2, .int x2), (3, .int x3), (4, .int x4)]) C dX6_tell_83 (by decide) rfl ?_
        refine x_aload_n C dX6_tell_85 2 rfl ?_
        refine x_iconst (v := 4) C dX6_tell_86 (by decide) ?_
        refine x_iload C dX6_tell_87 6 rfl ?_
        refine x_iconst (v := 1) C dX6_tell_89 (by decide) ?_
        refine x_isub C dX6_tell_90 ?_
        obtain ⟨o13, h14, hF⟩ := bd_s hF
        refine x_callVv (st := []) C (c_X6_add h14) xm_X6_add ml_X6_32 7 rfl rfl rfl rfl rfl rfl dX6_tell_91 ⟨rfl, rfl⟩ ?_
        refine x_aload_n C dX6_tell_94 2 rfl ?_
        refine x_lload C dX6_tell_95 1 rfl ?_
        refine x_lload C dX6_tell_97 0 rfl ?_
        obtain ⟨o15, h16, hF⟩ := bd_s hF
        refine x_callVv (st := []) C (c_X6_tellBlocks h16) xm_X6_tellBlocks ml_X6_44 7 rfl rfl rfl rfl rfl rfl dX6_tell_99 ⟨rfl, rfl⟩ ?_
        refine x_aload_n C dX6_tell_102 2 rfl ?_
        refine x_iload_n C dX6_tell_103 4 rfl ?_
        refine x_aload_n C dX6_tell_104 2 rfl ?_
        refine x_iload_n C dX6_tell_105 4 rfl ?_
        refine x_lload C dX6_tell_106 1 rfl ?_
        refine x_lload C dX6_tell_108 0 rfl ?_
        refine x_ldc2 C dX6_tell_110 kl_X6_48 ?_
        refine x_lxor C dX6_tell_113 ?_
        refine x_land C dX6_tell_114 ?_
        obtain ⟨o17, h18, hF⟩ := bd_s hF
        refine x_callVl (st := [.int x2, .ref (q 7)]) C (c_X6_tellSpans h18) xm_X6_tellSpans ml_X6_40 7 rfl rfl rfl rfl rfl rfl dX6_tell_115 ⟨rfl, rfl⟩ ?_
        obtain ⟨o19, h20, hF⟩ := bd_s hF
        refine x_callVv (st := []) C (c_X6_tellPlain h20) xm_X6_tellPlain ml_X6_36 7 rfl rfl rfl rfl rfl rfl dX6_tell_118 ⟨rfl, rfl⟩ ?_
        refine x_iconst (v := 1) C dX6_tell_121 (by decide) ?_
        cases hF
        exact x_zret C E rfl dX6_tell_122
      · replace hF := ifn hs19_2 hF
        by_cases hs19_3 : x3 = 3
        · replace hF := ifp hs19_3 hF
          refine x_tswIn (off := 104) (tgt := 123) 3 C dX6_tell_19 hs19_3 (by decide) (by decide) rfl (by decide) ?_
          refine x_aload_n C dX6_tell_123 1 rfl ?_
          refine x_iconst (v := 4) C dX6_tell_124 (by decide) ?_
          refine x_iload C dX6_tell_125 5 rfl ?_
          refine x_iconst (v := 1) C dX6_tell_127 (by decide) ?_
          refine x_isub C dX6_tell_128 ?_
          obtain ⟨o21, h22, hF⟩ := bd_s hF
          refine x_callVv (st := []) C (c_X6_add h22) xm_X6_add ml_X6_32 7 rfl rfl rfl rfl rfl rfl dX6_tell_129 ⟨rfl, rfl⟩ ?_
          refine x_lload C dX6_tell_132 0 rfl ?_
          refine x_aload_n C dX6_tell_134 2 rfl ?_
          refine x_iload_n C dX6_tell_135 3 rfl ?_
          refine x_iload C dX6_tell_136 5 rfl ?_
          refine x_isub C dX6_tell_138 ?_
          obtain ⟨o23, h24, hF⟩ := bd_s hF
          refine x_callVl (st := [.long o1]) C (c_X4_rowOf h24) xm_X4_rowOf ml_X6_26 1 rfl rfl rfl rfl rfl rfl dX6_tell_139 ⟨rfl, rfl⟩ ?_
          refine x_lcmp C dX6_tell_142 ?_
          refine x_if_ne (tgt := 150) C dX6_tell_143 (by decide) (fun hc => ?_) (fun hc => ?_)
          · replace hF := ifn hc hF
            refine x_iconst (v := 0) C dX6_tell_150 (by decide) ?_
            cases hF
            exact x_zret C E rfl dX6_tell_151
          · replace hF := ifp hc hF
            refine x_iconst (v := 1) C dX6_tell_146 (by decide) ?_
            refine x_goto (tgt := 151) C dX6_tell_147 (by decide) ?_
            cases hF
            exact x_zret C E rfl dX6_tell_151
        · replace hF := ifn hs19_3 hF
          by_cases hs19_4 : x3 = 4
          · replace hF := ifp hs19_4 hF
            refine x_tswIn (off := 133) (tgt := 152) 4 C dX6_tell_19 hs19_4 (by decide) (by decide) rfl (by decide) ?_
            refine x_aload_n C dX6_tell_152 1 rfl ?_
            refine x_iload_n C dX6_tell_153 3 rfl ?_
            refine x_lload C dX6_tell_154 0 rfl ?_
            obtain ⟨o25, h26, hF⟩ := bd_s hF
            refine x_callVv (st := []) C (c_X6_tellDense h26) xm_X6_tellDense ml_X6_50 7 rfl rfl rfl rfl rfl rfl dX6_tell_156 ⟨rfl, rfl⟩ ?_
            refine x_lload C dX6_tell_159 0 rfl ?_
            refine x_lconst (v := 0) C dX6_tell_161 (by decide) ?_
            refine x_lcmp C dX6_tell_162 ?_
            refine x_if_eq (tgt := 170) C dX6_tell_163 (by decide) (fun hc => ?_) (fun hc => ?_)
            · replace hF := ifp hc hF
              refine x_iconst (v := 0) C dX6_tell_170 (by decide) ?_
              cases hF
              exact x_zret C E rfl dX6_tell_171
            · replace hF := ifn hc hF
              refine x_iconst (v := 1) C dX6_tell_166 (by decide) ?_
              refine x_goto (tgt := 171) C dX6_tell_167 (by decide) ?_
              cases hF
              exact x_zret C E rfl dX6_tell_171
          · replace hF := ifn hs19_4 hF
            refine x_tswOut (tgt := 172) C dX6_tell_19 (ts_out 4 (by decide) (fun k hk => by match k, hk with | 0, _ => exact hs19_0 | 1, _ => exact hs19_1 | 2, _ => exact hs19_2 | 3, _ => exact hs19_3 | 4, _ => exact hs19_4 | (k + 5), hk => exact absurd hk (by omega))) (by decide) ?_
            refine x_iconst (v := 0) C dX6_tell_172 (by decide) ?_
            cases hF
            exact x_zret C E rfl dX6_tell_173

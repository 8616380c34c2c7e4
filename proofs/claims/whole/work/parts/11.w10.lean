set_option maxHeartbeats 4000000 in
set_option maxRecDepth 100000 in
theorem c_X8_threes {κ : xb_k} {q : Nat → Nat} {nn : Nat} {xro : (Nat → Int64)} {xrn : (Nat → Int64)} {xfo : (Nat → Int32)} {xva : (Nat → Int32)} {xts : Int32} {xus : (Nat → Int32)} {xnu : (Nat → Int32)} {xth : Int32} {xsp : Int32} {xpr : (Nat → Int64)} {xpn : (Nat → Int64)} {xbs : Int32} {xwr : (Nat → Int32)} {xno : (Nat → Int32)} {xki : (Nat → Int32)} {xdi : (Nat → Int32)} {xde : (Nat → Int32)} {xst : (Nat → Int32)} {xta : (Nat → Int32)} {xcb : Int32} {xcd : Int32} {xbe : (Nat → Int32)} {xli : (Nat → Int32)} {xke : (Nat → Int32)} {xne : (Nat → Int64)}  {fu : Nat} {o : Int32 × (Nat → Int64)} (hF : F_X8_threes fu nn xro xne = some o) : Met κ.1 yX8_threes [Cond.code yX8_threes cX8_threes 1 (some .int)] { frames := 4, cells := 0, slots := 0, locals := 94 } (xb_P κ [.ref (q 0)] (xw κ q nn xro xrn xfo xva xts xus xnu xth xsp xpr xpn xbs xwr xno xki xdi xde xst xta xcb xcd xbe xli xke xne)) (xb_Qi κ o.1 (xw κ q nn xro xrn xfo xva xts xus xnu xth xsp xpr xpn xbs xwr xno xki xdi xde xst xta xcb xcd xbe xli xke o.2)) 0 0 κ.2.2.1 := by
  refine x_enter (own := RX8) (lv0 := [(0, .ref (q 0))]) (by decide) rfl rfl rfl (fun Γ C E => ?_)
  unfold F_X8_threes at hF
  refine x_aload_n C dX8_threes_0 0 rfl ?_
  refine gf_X8_65 C 0 rfl rfl dX8_threes_1 ?_
  refine x_aload_n C dX8_threes_4 0 rfl ?_
  refine gf_X8_23 C 0 rfl rfl dX8_threes_5 ?_
  obtain ⟨o1, h2, hF⟩ := bd_s hF
  refine x_callVi (st := []) C (c_X7_countThrees h2) xm_X7_countThrees ml_X8_222 27 rfl rfl rfl rfl rfl rfl dX8_threes_8 ⟨rfl, rfl⟩ ?_
  cases hF
  exact x_iret C E dX8_threes_11
set_option maxHeartbeats 4000000 in
set_option maxRecDepth 100000 in
theorem w_X7_partOf_L23 {κ : xb_k} {Γ : xb_X} {q : Nat → Nat} {nn : Nat} {xro : (Nat → Int64)} {xrn : (Nat → Int64)} {xfo : (Nat → Int32)} {xva : (Nat → Int32)} {xts : Int32} {xus : (Nat → Int32)} {xnu : (Nat → Int32)} {xth : Int32} {xsp : Int32} {xpr : (Nat → Int64)} {xpn : (Nat → Int64)} {xbs : Int32} {xwr : (Nat → Int32)} {xno : (Nat → Int32)} {xki : (Nat → Int32)} {xdi : (Nat → Int32)} {xde : (Nat → Int32)} {xst : (Nat → Int32)} {xta : (Nat → Int32)} {xcb : Int32} {xcd : Int32} {xbe : (Nat → Int32)} {xli : (Nat → Int32)} {xke : (Nat → Int32)} {xne : (Nat → Int64)} {x2 : Int64} {x4 : Int32}  (C : xb_C κ Γ 8 cX7_partOf RX7 { frames := 1, cells := 0, slots := 0, locals := 22 }) : ∀ (n : Nat) (x5 : Int64) (x7 : Int32) (o : Int64), F_X7_partOf_L23 nn x2 x4 xne n x5 x7 = some o → xb_W κ Γ 8 0 0 60 [(0, .ref (q 27)), (2, .long x2), (4, .int x4), (5, .long o)] [] (xw κ q nn xro xrn xfo xva xts xus xnu xth xsp xpr xpn xbs xwr xno xki xdi xde xst xta xcb xcd xbe xli xke xne) → xb_W κ Γ 8 0 0 23 [(0, .ref (q 27)), (2, .long x2), (4, .int x4), (5, .long x5), (7, .int x7)] [] (xw κ q nn xro xrn xfo xva xts xus xnu xth xsp xpr xpn xbs xwr xno xki xdi xde xst xta xcb xcd xbe xli xke xne) := by
  intro n
  induction n with
  | zero =>
    intro x5 x7 o hF K
    rw [F_X7_partOf_L23] at hF
    cases hF
  | succ n ih =>
    intro x5 x7 o hF K
    rw [F_X7_partOf_L23] at hF
    refine x_iload C dX7_partOf_23 4 rfl ?_
    refine x_aload_n C dX7_partOf_25 0 rfl ?_
    refine gf_X7_9 C 27 rfl rfl dX7_partOf_26 ?_
    refine x_alen (v := nI nn) C 28 1 rfl rfl rfl dX7_partOf_29 ?_
    refine x_icmp_ge (tgt := 60) C dX7_partOf_30 (by decide) (fun hc => ?_) (fun hc => ?_)
    · replace hF := ifp hc hF
      cases hF
      exact x_sub [0, 1, 2, 3] rfl K
    · replace hF := ifn hc hF
      refine x_lload_n C dX7_partOf_33 1 rfl ?_
      refine x_iload C dX7_partOf_34 4 rfl ?_
      obtain ⟨o1, h2, hF⟩ := bd_s hF
      refine x_callNi (st := []) C (c_X8_isIn h2) xm_X8_isIn mn_X7_19 rfl rfl rfl rfl dX7_partOf_36 ⟨rfl, rfl⟩ ?_
      refine x_if_eq (tgt := 54) C dX7_partOf_39 (by decide) (fun hc => ?_) (fun hc => ?_)
      · replace hF := ifp hc hF
        refine x_iinc (v := x7 + 1) (lv2 := [(7, .int (x7 + 1)), (0, .ref (q 27)), (2, .long x2), (4, .int x4), (5, .long x5)]) C dX7_partOf_54 4 rfl rfl (by decide) rfl ?_
        refine x_goto (tgt := 23) C dX7_partOf_57 (by decide) ?_
        exact x_sub [1, 2, 3, 4, 0] rfl (ih _ _ _ hF K)
      · replace hF := ifn hc hF
        refine x_lload C dX7_partOf_42 3 rfl ?_
        refine x_aload_n C dX7_partOf_44 0 rfl ?_
        refine gf_X7_9 C 27 rfl rfl dX7_partOf_45 ?_
        refine x_iload C dX7_partOf_48 4 rfl ?_
        obtain ⟨b3, hF⟩ := ck_s hF
        refine x_lald C 28 rfl b3 dX7_partOf_50 ?_
        refine x_lor C dX7_partOf_51 ?_
        refine x_lstore (lv2 := [(5, .long (x5 ||| (xne x7.toNatClampNeg))), (0, .ref (q 27)), (2, .long x2), (4, .int x4), (7, .int x7)]) C dX7_partOf_52 (by decide) rfl ?_
        refine x_iinc (v := x7 + 1) (lv2 := [(7, .int (x7 + 1)), (5, .long (x5 ||| (xne x7.toNatClampNeg))), (0, .ref (q 27)), (2, .long x2), (4, .int x4)]) C dX7_partOf_54 4 rfl rfl (by decide) rfl ?_
        refine x_goto (tgt := 23) C dX7_partOf_57 (by decide) ?_
        exact x_sub [2, 3, 4, 1, 0] rfl (ih _ _ _ hF K)
set_option maxHeartbeats 4000000 in
set_option maxRecDepth 100000 in
theorem w_X7_partOf_L7 {κ : xb_k} {Γ : xb_X} {q : Nat → Nat} {nn : Nat} {xro : (Nat → Int64)} {xrn : (Nat → Int64)} {xfo : (Nat → Int32)} {xva : (Nat → Int32)} {xts : Int32} {xus : (Nat → Int32)} {xnu : (Nat → Int32)} {xth : Int32} {xsp : Int32} {xpr : (Nat → Int64)} {xpn : (Nat → Int64)} {xbs : Int32} {xwr : (Nat → Int32)} {xno : (Nat → Int32)} {xki : (Nat → Int32)} {xdi : (Nat → Int32)} {xde : (Nat → Int32)} {xst : (Nat → Int32)} {xta : (Nat → Int32)} {xcb : Int32} {xcd : Int32} {xbe : (Nat → Int32)} {xli : (Nat → Int32)} {xke : (Nat → Int32)} {xne : (Nat → Int64)}  {fu : Nat} (C : xb_C κ Γ 8 cX7_partOf RX7 { frames := 1, cells := 0, slots := 0, locals := 22 }) : ∀ (n : Nat) (x2 : Int64) (x4 : Int32) (o : Int64), F_X7_partOf_L7 fu nn xne n x2 x4 = some o → xb_W κ Γ 8 0 0 79 [(2, .long o)] [] (xw κ q nn xro xrn xfo xva xts xus xnu xth xsp xpr xpn xbs xwr xno xki xdi xde xst xta xcb xcd xbe xli xke xne) → xb_W κ Γ 8 0 0 7 [(0, .ref (q 27)), (2, .long x2), (4, .int x4)] [] (xw κ q nn xro xrn xfo xva xts xus xnu xth xsp xpr xpn xbs xwr xno xki xdi xde xst xta xcb xcd xbe xli xke xne) := by
  intro n
  induction n with
  | zero =>
    intro x2 x4 o hF K
    rw [F_X7_partOf_L7] at hF
    cases hF
  | succ n ih =>
    intro x2 x4 o hF K
    rw [F_X7_partOf_L7] at hF
    refine x_iload C dX7_partOf_7 2 rfl ?_
    refine x_aload_n C dX7_partOf_9 0 rfl ?_
    refine gf_X7_9 C 27 rfl rfl dX7_partOf_10 ?_
    refine x_alen (v := nI nn) C 28 1 rfl rfl rfl dX7_partOf_13 ?_
    refine x_icmp_ge (tgt := 79) C dX7_partOf_14 (by decide) (fun hc => ?_) (fun hc => ?_)
    · replace hF := ifp hc hF
      cases hF
      exact x_sub [1] rfl K
    · replace hF := ifn hc hF
      refine x_lload_n C dX7_partOf_17 1 rfl ?_
      refine x_lstore (lv2 := [(5, .long x2), (0, .ref (q 27)), (2, .long x2), (4, .int x4)]) C dX7_partOf_18 (by decide) rfl ?_
      refine x_iconst (v := 0) C dX7_partOf_20 (by decide) ?_
      refine x_istore (lv2 := [(7, .int (0 : Int32)), (5, .long x2), (0, .ref (q 27)), (2, .long x2), (4, .int x4)]) C dX7_partOf_21 (by decide) rfl ?_
      obtain ⟨o1, h2, hF⟩ := bd_s hF
      refine x_sub [2, 3, 4, 1, 0] rfl (w_X7_partOf_L23 C fu _ _ _ h2 ?_)
      refine x_lload C dX7_partOf_60 3 rfl ?_
      refine x_lload_n C dX7_partOf_62 1 rfl ?_
      refine x_lcmp C dX7_partOf_63 ?_
      refine x_if_ne (tgt := 70) C dX7_partOf_64 (by decide) (fun hc => ?_) (fun hc => ?_)
      · replace hF := ifn hc hF
        refine x_lload C dX7_partOf_70 3 rfl ?_
        refine x_lstore_n (lv2 := [(2, .long o1), (0, .ref (q 27)), (4, .int x4), (5, .long o1)]) C dX7_partOf_72 rfl (by decide) rfl ?_
        refine x_iinc (v := x4 + 1) (lv2 := [(4, .int (x4 + 1)), (2, .long o1), (0, .ref (q 27)), (5, .long o1)]) C dX7_partOf_73 2 rfl rfl (by decide) rfl ?_
        refine x_goto (tgt := 7) C dX7_partOf_76 (by decide) ?_
        exact x_sub [2, 1, 0] rfl (ih _ _ _ hF K)
      · replace hF := ifp hc hF
        refine x_goto (tgt := 79) C dX7_partOf_67 (by decide) ?_
        cases hF
        exact x_sub [1] rfl K
set_option maxHeartbeats 4000000 in
set_option maxRecDepth 100000 in
theorem c_X7_partOf {κ : xb_k} {q : Nat → Nat} {nn : Nat} {xro : (Nat → Int64)} {xrn : (Nat → Int64)} {xfo : (Nat → Int32)} {xva : (Nat → Int32)} {xts : Int32} {xus : (Nat → Int32)} {xnu : (Nat → Int32)} {xth : Int32} {xsp : Int32} {xpr : (Nat → Int64)} {xpn : (Nat → Int64)} {xbs : Int32} {xwr : (Nat → Int32)} {xno : (Nat → Int32)} {xki : (Nat → Int32)} {xdi : (Nat → Int32)} {xde : (Nat → Int32)} {xst : (Nat → Int32)} {xta : (Nat → Int32)} {xcb : Int32} {xcd : Int32} {xbe : (Nat → Int32)} {xli : (Nat → Int32)} {xke : (Nat → Int32)} {xne : (Nat → Int64)} {x1 : Int32} {fu : Nat} {o : Int64} (hF : F_X7_partOf fu nn x1 xne = some o) : Met κ.1 yX7_partOf [Cond.code yX7_partOf cX7_partOf 8 (some .long)] { frames := 1, cells := 0, slots := 0, locals := 22 } (xb_P κ [.ref (q 27), .int x1] (xw κ q nn xro xrn xfo xva xts xus xnu xth xsp xpr xpn xbs xwr xno xki xdi xde xst xta xcb xcd xbe xli xke xne)) (xb_Ql κ o (xw κ q nn xro xrn xfo xva xts xus xnu xth xsp xpr xpn xbs xwr xno xki xdi xde xst xta xcb xcd xbe xli xke xne)) 0 0 κ.2.2.1 := by
  refine x_enter (own := RX7) (lv0 := [(0, .ref (q 27)), (1, .int x1)]) (by decide) rfl rfl rfl (fun Γ C E => ?_)
  unfold F_X7_partOf at hF
  refine x_lconst (v := 1) C dX7_partOf_0 (by decide) ?_
  refine x_iload_n C dX7_partOf_1 1 rfl ?_
  refine x_lshl C dX7_partOf_2 ?_
  refine x_lstore_n (lv2 := [(2, .long ((1 : Int64) <<< (x1.toInt64 &&& 63))), (0, .ref (q 27)), (1, .int x1)]) C dX7_partOf_3 rfl (by decide) rfl ?_
  refine x_iconst (v := 0) C dX7_partOf_4 (by decide) ?_
  refine x_istore (lv2 := [(4, .int (0 : Int32)), (2, .long ((1 : Int64) <<< (x1.toInt64 &&& 63))), (0, .ref (q 27)), (1, .int x1)]) C dX7_partOf_5 (by decide) rfl ?_
  obtain ⟨o3, h4, hF⟩ := bd_s hF
  refine x_sub [2, 1, 0] rfl (w_X7_partOf_L7 C fu _ _ _ h4 ?_)
  refine x_lload_n C dX7_partOf_79 0 rfl ?_
  cases hF
  exact x_lret C E dX7_partOf_80
set_option maxHeartbeats 4000000 in
set_option maxRecDepth 100000 in
theorem c_X7_sizeOfPart {κ : xb_k} {q : Nat → Nat} {nn : Nat} {xro : (Nat → Int64)} {xrn : (Nat → Int64)} {xfo : (Nat → Int32)} {xva : (Nat → Int32)} {xts : Int32} {xus : (Nat → Int32)} {xnu : (Nat → Int32)} {xth : Int32} {xsp : Int32} {xpr : (Nat → Int64)} {xpn : (Nat → Int64)} {xbs : Int32} {xwr : (Nat → Int32)} {xno : (Nat → Int32)} {xki : (Nat → Int32)} {xdi : (Nat → Int32)} {xde : (Nat → Int32)} {xst : (Nat → Int32)} {xta : (Nat → Int32)} {xcb : Int32} {xcd : Int32} {xbe : (Nat → Int32)} {xli : (Nat → Int32)} {xke : (Nat → Int32)} {xne : (Nat → Int64)} {x2 : Int32} {fu : Nat} {o : Int32 × (Nat → Int64)} (hF : F_X7_sizeOfPart fu nn x2 xro xne = some o) : Met κ.1 yX7_sizeOfPart [Cond.code yX7_sizeOfPart cX7_sizeOfPart 3 (some .int)] { frames := 3, cells := 0, slots := 0, locals := 68 } (xb_P κ [.ref (q 27), .ref (q 1), .int x2] (xw κ q nn xro xrn xfo xva xts xus xnu xth xsp xpr xpn xbs xwr xno xki xdi xde xst xta xcb xcd xbe xli xke xne)) (xb_Qi κ o.1 (xw κ q nn xro xrn xfo xva xts xus xnu xth xsp xpr xpn xbs xwr xno xki xdi xde xst xta xcb xcd xbe xli xke o.2)) 0 0 κ.2.2.1 := by
  refine x_enter (own := RX7) (lv0 := [(0, .ref (q 27)), (1, .ref (q 1)), (2, .int x2)]) (by decide) rfl rfl rfl (fun Γ C E => ?_)
  unfold F_X7_sizeOfPart at hF
  refine x_aload_n C dX7_sizeOfPart_0 0 rfl ?_
  refine x_aload_n C dX7_sizeOfPart_1 1 rfl ?_
  obtain ⟨o1, h2, hF⟩ := bd_s hF
  refine x_callVv (st := []) C (c_X7_findNear h2) xm_X7_findNear ml_X7_15 27 rfl rfl rfl rfl rfl rfl dX7_sizeOfPart_2 ⟨rfl, rfl⟩ ?_
  refine x_aload_n C dX7_sizeOfPart_5 0 rfl ?_
  refine x_iload_n C dX7_sizeOfPart_6 2 rfl ?_
  obtain ⟨o3, h4, hF⟩ := bd_s hF
  refine x_callVl (st := []) C (c_X7_partOf h4) xm_X7_partOf ml_X7_31 27 rfl rfl rfl rfl rfl rfl dX7_sizeOfPart_7 ⟨rfl, rfl⟩ ?_
  obtain ⟨o5, h6, hF⟩ := bd_s hF
  refine x_callSi (st := []) C (c_J13_bitCount_95d88 h6) xm_J13_bitCount_95d88 ml_X7_25 rfl rfl rfl rfl dX7_sizeOfPart_10 ⟨rfl, rfl⟩ ?_
  cases hF
  exact x_iret C E dX7_sizeOfPart_13
set_option maxHeartbeats 4000000 in
set_option maxRecDepth 100000 in
theorem w_X7_countParts_L13 {κ : xb_k} {Γ : xb_X} {q : Nat → Nat} {nn : Nat} {xro : (Nat → Int64)} {xrn : (Nat → Int64)} {xfo : (Nat → Int32)} {xva : (Nat → Int32)} {xts : Int32} {xus : (Nat → Int32)} {xnu : (Nat → Int32)} {xth : Int32} {xsp : Int32} {xpr : (Nat → Int64)} {xpn : (Nat → Int64)} {xbs : Int32} {xwr : (Nat → Int32)} {xno : (Nat → Int32)} {xki : (Nat → Int32)} {xdi : (Nat → Int32)} {xde : (Nat → Int32)} {xst : (Nat → Int32)} {xta : (Nat → Int32)} {xcb : Int32} {xcd : Int32} {xbe : (Nat → Int32)} {xli : (Nat → Int32)} {xke : (Nat → Int32)} {xne : (Nat → Int64)}  {fu : Nat} (C : xb_C κ Γ 6 cX7_countParts RX7 { frames := 3, cells := 0, slots := 0, locals := 68 }) : ∀ (n : Nat) (x2 : Int64) (x4 : Int32) (x5 : Int32) (o : Int32), F_X7_countParts_L13 fu nn xne n x2 x4 x5 = some o → xb_W κ Γ 6 0 0 50 [(4, .int o)] [] (xw κ q nn xro xrn xfo xva xts xus xnu xth xsp xpr xpn xbs xwr xno xki xdi xde xst xta xcb xcd xbe xli xke xne) → xb_W κ Γ 6 0 0 13 [(0, .ref (q 27)), (2, .long x2), (4, .int x4), (5, .int x5)] [] (xw κ q nn xro xrn xfo xva xts xus xnu xth xsp xpr xpn xbs xwr xno xki xdi xde xst xta xcb xcd xbe xli xke xne) := by
  intro n
  induction n with
  | zero =>
    intro x2 x4 x5 o hF K
    rw [F_X7_countParts_L13] at hF
    cases hF
  | succ n ih =>
    intro x2 x4 x5 o hF K
    rw [F_X7_countParts_L13] at hF
    refine x_iload C dX7_countParts_13 3 rfl ?_
    refine x_aload_n C dX7_countParts_15 0 rfl ?_
    refine gf_X7_9 C 27 rfl rfl dX7_countParts_16 ?_
    refine x_alen (v := nI nn) C 28 1 rfl rfl rfl dX7_countParts_19 ?_
    refine x_icmp_ge (tgt := 50) C dX7_countParts_20 (by decide) (fun hc => ?_) (fun hc => ?_)
    · replace hF := ifp hc hF
      cases hF
      exact x_sub [2] rfl K
    · replace hF := ifn hc hF
      refine x_lload_n C dX7_countParts_23 1 rfl ?_
      refine x_iload C dX7_countParts_24 3 rfl ?_
      obtain ⟨o3, h4, hF⟩ := bd_s hF
      refine x_callNi (st := []) C (c_X8_isIn h4) xm_X8_isIn mn_X7_19 rfl rfl rfl rfl dX7_countParts_26 ⟨rfl, rfl⟩ ?_
      refine x_if_ne (tgt := 44) C dX7_countParts_29 (by decide) (fun hc => ?_) (fun hc => ?_)
      · replace hF := ifn hc hF
        refine x_iinc (v := x5 + 1) (lv2 := [(5, .int (x5 + 1)), (0, .ref (q 27)), (2, .long x2), (4, .int x4)]) C dX7_countParts_44 3 rfl rfl (by decide) rfl ?_
        refine x_goto (tgt := 13) C dX7_countParts_47 (by decide) ?_
        exact x_sub [1, 2, 3, 0] rfl (ih _ _ _ _ hF K)
      · replace hF := ifp hc hF
        refine x_lload_n C dX7_countParts_32 1 rfl ?_
        refine x_aload_n C dX7_countParts_33 0 rfl ?_
        refine x_iload C dX7_countParts_34 3 rfl ?_
        obtain ⟨o5, h6, hF⟩ := bd_s hF
        refine x_callVl (st := [.long x2]) C (c_X7_partOf h6) xm_X7_partOf ml_X7_31 27 rfl rfl rfl rfl rfl rfl dX7_countParts_36 ⟨rfl, rfl⟩ ?_
        refine x_lor C dX7_countParts_39 ?_
        refine x_lstore_n (lv2 := [(2, .long (x2 ||| o5)), (0, .ref (q 27)), (4, .int x4), (5, .int x5)]) C dX7_countParts_40 rfl (by decide) rfl ?_
        refine x_iinc (v := x4 + 1) (lv2 := [(4, .int (x4 + 1)), (2, .long (x2 ||| o5)), (0, .ref (q 27)), (5, .int x5)]) C dX7_countParts_41 2 rfl rfl (by decide) rfl ?_
        refine x_iinc (v := x5 + 1) (lv2 := [(5, .int (x5 + 1)), (4, .int (x4 + 1)), (2, .long (x2 ||| o5)), (0, .ref (q 27))]) C dX7_countParts_44 3 rfl rfl (by decide) rfl ?_
        refine x_goto (tgt := 13) C dX7_countParts_47 (by decide) ?_
        exact x_sub [3, 2, 1, 0] rfl (ih _ _ _ _ hF K)
set_option maxHeartbeats 4000000 in
set_option maxRecDepth 100000 in
theorem c_X7_countParts {κ : xb_k} {q : Nat → Nat} {nn : Nat} {xro : (Nat → Int64)} {xrn : (Nat → Int64)} {xfo : (Nat → Int32)} {xva : (Nat → Int32)} {xts : Int32} {xus : (Nat → Int32)} {xnu : (Nat → Int32)} {xth : Int32} {xsp : Int32} {xpr : (Nat → Int64)} {xpn : (Nat → Int64)} {xbs : Int32} {xwr : (Nat → Int32)} {xno : (Nat → Int32)} {xki : (Nat → Int32)} {xdi : (Nat → Int32)} {xde : (Nat → Int32)} {xst : (Nat → Int32)} {xta : (Nat → Int32)} {xcb : Int32} {xcd : Int32} {xbe : (Nat → Int32)} {xli : (Nat → Int32)} {xke : (Nat → Int32)} {xne : (Nat → Int64)}  {fu : Nat} {o : Int32 × (Nat → Int64)} (hF : F_X7_countParts fu nn xro xne = some o) : Met κ.1 yX7_countParts [Cond.code yX7_countParts cX7_countParts 6 (some .int)] { frames := 3, cells := 0, slots := 0, locals := 68 } (xb_P κ [.ref (q 27), .ref (q 1)] (xw κ q nn xro xrn xfo xva xts xus xnu xth xsp xpr xpn xbs xwr xno xki xdi xde xst xta xcb xcd xbe xli xke xne)) (xb_Qi κ o.1 (xw κ q nn xro xrn xfo xva xts xus xnu xth xsp xpr xpn xbs xwr xno xki xdi xde xst xta xcb xcd xbe xli xke o.2)) 0 0 κ.2.2.1 := by
  refine x_enter (own := RX7) (lv0 := [(0, .ref (q 27)), (1, .ref (q 1))]) (by decide) rfl rfl rfl (fun Γ C E => ?_)
  unfold F_X7_countParts at hF
  refine x_aload_n C dX7_countParts_0 0 rfl ?_
  refine x_aload_n C dX7_countParts_1 1 rfl ?_
  obtain ⟨o1, h2, hF⟩ := bd_s hF
  refine x_callVv (st := []) C (c_X7_findNear h2) xm_X7_findNear ml_X7_15 27 rfl rfl rfl rfl rfl rfl dX7_countParts_2 ⟨rfl, rfl⟩ ?_
  refine x_lconst (v := 0) C dX7_countParts_5 (by decide) ?_
  refine x_lstore_n (lv2 := [(2, .long (0 : Int64)), (0, .ref (q 27)), (1, .ref (q 1))]) C dX7_countParts_6 rfl (by decide) rfl ?_
  refine x_iconst (v := 0) C dX7_countParts_7 (by decide) ?_
  refine x_istore (lv2 := [(4, .int (0 : Int32)), (2, .long (0 : Int64)), (0, .ref (q 27)), (1, .ref (q 1))]) C dX7_countParts_8 (by decide) rfl ?_
  refine x_iconst (v := 0) C dX7_countParts_10 (by decide) ?_
  refine x_istore (lv2 := [(5, .int (0 : Int32)), (4, .int (0 : Int32)), (2, .long (0 : Int64)), (0, .ref (q 27)), (1, .ref (q 1))]) C dX7_countParts_11 (by decide) rfl ?_
  obtain ⟨o7, h8, hF⟩ := bd_s hF
  refine x_sub [3, 2, 1, 0] rfl (w_X7_countParts_L13 C fu _ _ _ _ h8 ?_)
  refine x_iload C dX7_countParts_50 0 rfl ?_
  cases hF
  exact x_iret C E dX7_countParts_52
set_option maxHeartbeats 4000000 in
set_option maxRecDepth 100000 in
theorem c_X8_parts {κ : xb_k} {q : Nat → Nat} {nn : Nat} {xro : (Nat → Int64)} {xrn : (Nat → Int64)} {xfo : (Nat → Int32)} {xva : (Nat → Int32)} {xts : Int32} {xus : (Nat → Int32)} {xnu : (Nat → Int32)} {xth : Int32} {xsp : Int32} {xpr : (Nat → Int64)} {xpn : (Nat → Int64)} {xbs : Int32} {xwr : (Nat → Int32)} {xno : (Nat → Int32)} {xki : (Nat → Int32)} {xdi : (Nat → Int32)} {xde : (Nat → Int32)} {xst : (Nat → Int32)} {xta : (Nat → Int32)} {xcb : Int32} {xcd : Int32} {xbe : (Nat → Int32)} {xli : (Nat → Int32)} {xke : (Nat → Int32)} {xne : (Nat → Int64)} {x1 : Int32} {fu : Nat} {o : Int32 × (Nat → Int64)} (hF : F_X8_parts fu nn x1 xro xne = some o) : Met κ.1 yX8_parts [Cond.code yX8_parts cX8_parts 2 (some .int)] { frames := 4, cells := 0, slots := 0, locals := 93 } (xb_P κ [.ref (q 0), .int x1] (xw κ q nn xro xrn xfo xva xts xus xnu xth xsp xpr xpn xbs xwr xno xki xdi xde xst xta xcb xcd xbe xli xke xne)) (xb_Qi κ o.1 (xw κ q nn xro xrn xfo xva xts xus xnu xth xsp xpr xpn xbs xwr xno xki xdi xde xst xta xcb xcd xbe xli xke o.2)) 0 0 κ.2.2.1 := by
  refine x_enter (own := RX8) (lv0 := [(0, .ref (q 0)), (1, .int x1)]) (by decide) rfl rfl rfl (fun Γ C E => ?_)
  unfold F_X8_parts at hF
  refine x_iload_n C dX8_parts_0 1 rfl ?_
  refine x_iconst (v := (-1)) C dX8_parts_1 (by decide) ?_
  refine x_icmp_eq (tgt := 19) C dX8_parts_2 (by decide) (fun hc => ?_) (fun hc => ?_)
  · replace hF := ifp hc hF
    refine x_iload_n C dX8_parts_19 1 rfl ?_
    refine x_iconst (v := (-1)) C dX8_parts_20 (by decide) ?_
    refine x_icmp_ne (tgt := 38) C dX8_parts_21 (by decide) (fun hc => ?_) (fun hc => ?_)
    · replace hF := ifn hc hF
      refine x_aload_n C dX8_parts_38 0 rfl ?_
      refine gf_X8_65 C 0 rfl rfl dX8_parts_39 ?_
      refine x_aload_n C dX8_parts_42 0 rfl ?_
      refine gf_X8_23 C 0 rfl rfl dX8_parts_43 ?_
      refine x_iload_n C dX8_parts_46 1 rfl ?_
      obtain ⟨o1, h2, hF⟩ := bd_s hF
      refine x_callVi (st := []) C (c_X7_sizeOfPart h2) xm_X7_sizeOfPart ml_X8_228 27 rfl rfl rfl rfl rfl rfl dX8_parts_47 ⟨rfl, rfl⟩ ?_
      cases hF
      exact x_iret C E dX8_parts_50
    · replace hF := ifp hc hF
      refine x_aload_n C dX8_parts_24 0 rfl ?_
      refine gf_X8_65 C 0 rfl rfl dX8_parts_25 ?_
      refine x_aload_n C dX8_parts_28 0 rfl ?_
      refine gf_X8_23 C 0 rfl rfl dX8_parts_29 ?_
      obtain ⟨o3, h4, hF⟩ := bd_s hF
      refine x_callVi (st := []) C (c_X7_countParts h4) xm_X7_countParts ml_X8_225 27 rfl rfl rfl rfl rfl rfl dX8_parts_32 ⟨rfl, rfl⟩ ?_
      refine x_goto (tgt := 50) C dX8_parts_35 (by decide) ?_
      cases hF
      exact x_iret C E dX8_parts_50
  · replace hF := ifn hc hF
    refine x_aload_n C dX8_parts_5 0 rfl ?_
    refine gf_X8_23 C 0 rfl rfl dX8_parts_6 ?_
    refine x_iload_n C dX8_parts_9 1 rfl ?_
    obtain ⟨o5, h6, hF⟩ := bd_s hF
    refine x_callVi (st := []) C (c_X4_isThing h6) xm_X4_isThing ml_X8_73 1 rfl rfl rfl rfl rfl rfl dX8_parts_10 ⟨rfl, rfl⟩ ?_
    refine x_if_ne (tgt := 19) C dX8_parts_13 (by decide) (fun hc => ?_) (fun hc => ?_)
    · replace hF := ifn hc hF
      refine x_iload_n C dX8_parts_19 1 rfl ?_
      refine x_iconst (v := (-1)) C dX8_parts_20 (by decide) ?_
      refine x_icmp_ne (tgt := 38) C dX8_parts_21 (by decide) (fun hc => ?_) (fun hc => ?_)
      · replace hF := ifn hc hF
        refine x_aload_n C dX8_parts_38 0 rfl ?_
        refine gf_X8_65 C 0 rfl rfl dX8_parts_39 ?_
        refine x_aload_n C dX8_parts_42 0 rfl ?_
        refine gf_X8_23 C 0 rfl rfl dX8_parts_43 ?_
        refine x_iload_n C dX8_parts_46 1 rfl ?_
        obtain ⟨o7, h8, hF⟩ := bd_s hF
        refine x_callVi (st := []) C (c_X7_sizeOfPart h8) xm_X7_sizeOfPart ml_X8_228 27 rfl rfl rfl rfl rfl rfl dX8_parts_47 ⟨rfl, rfl⟩ ?_
        cases hF
        exact x_iret C E dX8_parts_50
      · replace hF := ifp hc hF
        refine x_aload_n C dX8_parts_24 0 rfl ?_
        refine gf_X8_65 C 0 rfl rfl dX8_parts_25 ?_
        refine x_aload_n C dX8_parts_28 0 rfl ?_
        refine gf_X8_23 C 0 rfl rfl dX8_parts_29 ?_
        obtain ⟨o9, h10, hF⟩ := bd_s hF
        refine x_callVi (st := []) C (c_X7_countParts h10) xm_X7_countParts ml_X8_225 27 rfl rfl rfl rfl rfl rfl dX8_parts_32 ⟨rfl, rfl⟩ ?_
        refine x_goto (tgt := 50) C dX8_parts_35 (by decide) ?_
        cases hF
        exact x_iret C E dX8_parts_50
    · replace hF := ifp hc hF
      refine x_bipush (v := (-2)) C dX8_parts_16 (by decide) ?_
      cases hF
      exact x_iret C E dX8_parts_18
set_option maxHeartbeats 4000000 in
set_option maxRecDepth 100000 in
theorem c_X4_things {κ : xb_k} {q : Nat → Nat} {nn : Nat} {xro : (Nat → Int64)} {xrn : (Nat → Int64)} {xfo : (Nat → Int32)} {xva : (Nat → Int32)} {xts : Int32} {xus : (Nat → Int32)} {xnu : (Nat → Int32)} {xth : Int32} {xsp : Int32} {xpr : (Nat → Int64)} {xpn : (Nat → Int64)} {xbs : Int32} {xwr : (Nat → Int32)} {xno : (Nat → Int32)} {xki : (Nat → Int32)} {xdi : (Nat → Int32)} {xde : (Nat → Int32)} {xst : (Nat → Int32)} {xta : (Nat → Int32)} {xcb : Int32} {xcd : Int32} {xbe : (Nat → Int32)} {xli : (Nat → Int32)} {xke : (Nat → Int32)} {xne : (Nat → Int64)}   {o : Int32} (hF : F_X4_things nn = some o) : Met κ.1 yX4_things [Cond.code yX4_things cX4_things 1 (some .int)] { frames := 0, cells := 0, slots := 0, locals := 0 } (xb_P κ [.ref (q 1)] (xw κ q nn xro xrn xfo xva xts xus xnu xth xsp xpr xpn xbs xwr xno xki xdi xde xst xta xcb xcd xbe xli xke xne)) (xb_Qi κ o (xw κ q nn xro xrn xfo xva xts xus xnu xth xsp xpr xpn xbs xwr xno xki xdi xde xst xta xcb xcd xbe xli xke xne)) 0 0 κ.2.2.1 := by
  refine x_enter (own := RX4) (lv0 := [(0, .ref (q 1))]) (by decide) rfl rfl rfl (fun Γ C E => ?_)
  unfold F_X4_things at hF
  refine x_aload_n C dX4_things_0 0 rfl ?_
  refine gf_X4_7 C 1 rfl rfl dX4_things_1 ?_
  refine x_alen (v := nI nn) C 2 1 rfl rfl rfl dX4_things_4 ?_
  cases hF
  exact x_iret C E dX4_things_5
set_option maxHeartbeats 4000000 in
set_option maxRecDepth 100000 in
theorem w_X7_stepsBetween_L36 {κ : xb_k} {Γ : xb_X} {q : Nat → Nat} {nn : Nat} {xro : (Nat → Int64)} {xrn : (Nat → Int64)} {xfo : (Nat → Int32)} {xva : (Nat → Int32)} {xts : Int32} {xus : (Nat → Int32)} {xnu : (Nat → Int32)} {xth : Int32} {xsp : Int32} {xpr : (Nat → Int64)} {xpn : (Nat → Int64)} {xbs : Int32} {xwr : (Nat → Int32)} {xno : (Nat → Int32)} {xki : (Nat → Int32)} {xdi : (Nat → Int32)} {xde : (Nat → Int32)} {xst : (Nat → Int32)} {xta : (Nat → Int32)} {xcb : Int32} {xcd : Int32} {xbe : (Nat → Int32)} {xli : (Nat → Int32)} {xke : (Nat → Int32)} {xne : (Nat → Int64)} {x3 : Int32} {x4 : Int64} {x6 : Int32}  (C : xb_C κ Γ 10 cX7_stepsBetween RX7 { frames := 1, cells := 0, slots := 0, locals := 22 }) : ∀ (n : Nat) (x7 : Int64) (x9 : Int32) (o : Int64), F_X7_stepsBetween_L36 nn x3 x4 x6 xro n x7 x9 = some o → xb_W κ Γ 10 0 0 72 [(1, .ref (q 1)), (3, .int x3), (6, .int x6), (7, .long o)] [] (xw κ q nn xro xrn xfo xva xts xus xnu xth xsp xpr xpn xbs xwr xno xki xdi xde xst xta xcb xcd xbe xli xke xne) → xb_W κ Γ 10 0 0 36 [(1, .ref (q 1)), (3, .int x3), (4, .long x4), (6, .int x6), (7, .long x7), (9, .int x9)] [] (xw κ q nn xro xrn xfo xva xts xus xnu xth xsp xpr xpn xbs xwr xno xki xdi xde xst xta xcb xcd xbe xli xke xne) := by
  intro n
  induction n with
  | zero =>
    intro x7 x9 o hF K
    rw [F_X7_stepsBetween_L36] at hF
    cases hF
  | succ n ih =>
    intro x7 x9 o hF K
    rw [F_X7_stepsBetween_L36] at hF
    refine x_iload C dX7_stepsBetween_36 5 rfl ?_
    refine x_aload_n C dX7_stepsBetween_38 0 rfl ?_
    obtain ⟨o5, h6, hF⟩ := bd_s hF
    refine x_callVi (st := [.int x9]) C (c_X4_things h6) xm_X4_things ml_X7_35 1 rfl rfl rfl rfl rfl rfl dX7_stepsBetween_39 ⟨rfl, rfl⟩ ?_
    refine x_icmp_ge (tgt := 72) C dX7_stepsBetween_42 (by decide) (fun hc => ?_) (fun hc => ?_)
    · replace hF := ifp hc hF
      cases hF
      exact x_sub [0, 1, 3, 4] rfl K
    · replace hF := ifn hc hF
      refine x_lload C dX7_stepsBetween_45 2 rfl ?_
      refine x_iload C dX7_stepsBetween_47 5 rfl ?_
      obtain ⟨o7, h8, hF⟩ := bd_s hF
      refine x_callNi (st := []) C (c_X8_isIn h8) xm_X8_isIn mn_X7_19 rfl rfl rfl rfl dX7_stepsBetween_49 ⟨rfl, rfl⟩ ?_
      refine x_if_eq (tgt := 66) C dX7_stepsBetween_52 (by decide) (fun hc => ?_) (fun hc => ?_)
      · replace hF := ifp hc hF
        refine x_iinc (v := x9 + 1) (lv2 := [(9, .int (x9 + 1)), (1, .ref (q 1)), (3, .int x3), (4, .long x4), (6, .int x6), (7, .long x7)]) C dX7_stepsBetween_66 5 rfl rfl (by decide) rfl ?_
        refine x_goto (tgt := 36) C dX7_stepsBetween_69 (by decide) ?_
        exact x_sub [1, 2, 3, 4, 5, 0] rfl (ih _ _ _ hF K)
      · replace hF := ifn hc hF
        refine x_lload C dX7_stepsBetween_55 4 rfl ?_
        refine x_aload_n C dX7_stepsBetween_57 0 rfl ?_
        refine x_iload C dX7_stepsBetween_58 5 rfl ?_
        obtain ⟨o9, h10, hF⟩ := bd_s hF
        refine x_callVl (st := [.long x7]) C (c_X4_rowOf h10) xm_X4_rowOf ml_X7_41 1 rfl rfl rfl rfl rfl rfl dX7_stepsBetween_60 ⟨rfl, rfl⟩ ?_
        refine x_lor C dX7_stepsBetween_63 ?_
        refine x_lstore (lv2 := [(7, .long (x7 ||| o9)), (1, .ref (q 1)), (3, .int x3), (4, .long x4), (6, .int x6), (9, .int x9)]) C dX7_stepsBetween_64 (by decide) rfl ?_
        refine x_iinc (v := x9 + 1) (lv2 := [(9, .int (x9 + 1)), (7, .long (x7 ||| o9)), (1, .ref (q 1)), (3, .int x3), (4, .long x4), (6, .int x6)]) C dX7_stepsBetween_66 5 rfl rfl (by decide) rfl ?_
        refine x_goto (tgt := 36) C dX7_stepsBetween_69 (by decide) ?_
        exact x_sub [2, 3, 4, 5, 1, 0] rfl (ih _ _ _ hF K)
set_option maxHeartbeats 4000000 in
set_option maxRecDepth 100000 in
theorem w_X7_stepsBetween_L8 {κ : xb_k} {Γ : xb_X} {q : Nat → Nat} {nn : Nat} {xro : (Nat → Int64)} {xrn : (Nat → Int64)} {xfo : (Nat → Int32)} {xva : (Nat → Int32)} {xts : Int32} {xus : (Nat → Int32)} {xnu : (Nat → Int32)} {xth : Int32} {xsp : Int32} {xpr : (Nat → Int64)} {xpn : (Nat → Int64)} {xbs : Int32} {xwr : (Nat → Int32)} {xno : (Nat → Int32)} {xki : (Nat → Int32)} {xdi : (Nat → Int32)} {xde : (Nat → Int32)} {xst : (Nat → Int32)} {xta : (Nat → Int32)} {xcb : Int32} {xcd : Int32} {xbe : (Nat → Int32)} {xli : (Nat → Int32)} {xke : (Nat → Int32)} {xne : (Nat → Int64)} {x3 : Int32} {fu : Nat} (C : xb_C κ Γ 10 cX7_stepsBetween RX7 { frames := 1, cells := 0, slots := 0, locals := 22 }) : ∀ (n : Nat) (x4 : Int64) (x6 : Int32) (o : Int32), F_X7_stepsBetween_L8 fu nn x3 xro n x4 x6 = some o → xb_E κ Γ (xb_Qi κ o (xw κ q nn xro xrn xfo xva xts xus xnu xth xsp xpr xpn xbs xwr xno xki xdi xde xst xta xcb xcd xbe xli xke xne)) 0 0 (some .int) → xb_W κ Γ 10 0 0 8 [(1, .ref (q 1)), (3, .int x3), (4, .long x4), (6, .int x6)] [] (xw κ q nn xro xrn xfo xva xts xus xnu xth xsp xpr xpn xbs xwr xno xki xdi xde xst xta xcb xcd xbe xli xke xne) := by
  intro n
  induction n with
  | zero =>
    intro x4 x6 o hF E
    rw [F_X7_stepsBetween_L8] at hF
    cases hF
  | succ n ih =>
    intro x4 x6 o hF E
    rw [F_X7_stepsBetween_L8] at hF
    refine x_iload C dX7_stepsBetween_8 3 rfl ?_
    refine x_aload_n C dX7_stepsBetween_10 0 rfl ?_
    obtain ⟨o1, h2, hF⟩ := bd_s hF
    refine x_callVi (st := [.int x6]) C (c_X4_things h2) xm_X4_things ml_X7_35 1 rfl rfl rfl rfl rfl rfl dX7_stepsBetween_11 ⟨rfl, rfl⟩ ?_
    refine x_icmp_ge (tgt := 82) C dX7_stepsBetween_14 (by decide) (fun hc => ?_) (fun hc => ?_)
    · replace hF := ifp hc hF
      refine x_iconst (v := (-1)) C dX7_stepsBetween_82 (by decide) ?_
      cases hF
      exact x_iret C E dX7_stepsBetween_83
    · replace hF := ifn hc hF
      refine x_lload C dX7_stepsBetween_17 2 rfl ?_
      refine x_iload_n C dX7_stepsBetween_19 1 rfl ?_
      obtain ⟨o3, h4, hF⟩ := bd_s hF
      refine x_callNi (st := []) C (c_X8_isIn h4) xm_X8_isIn mn_X7_19 rfl rfl rfl rfl dX7_stepsBetween_20 ⟨rfl, rfl⟩ ?_
      refine x_if_eq (tgt := 29) C dX7_stepsBetween_23 (by decide) (fun hc => ?_) (fun hc => ?_)
      · replace hF := ifp hc hF
        refine x_lload C dX7_stepsBetween_29 2 rfl ?_
        refine x_lstore (lv2 := [(7, .long x4), (1, .ref (q 1)), (3, .int x3), (4, .long x4), (6, .int x6)]) C dX7_stepsBetween_31 (by decide) rfl ?_
        refine x_iconst (v := 0) C dX7_stepsBetween_33 (by decide) ?_
        refine x_istore (lv2 := [(9, .int (0 : Int32)), (7, .long x4), (1, .ref (q 1)), (3, .int x3), (4, .long x4), (6, .int x6)]) C dX7_stepsBetween_34 (by decide) rfl ?_
        obtain ⟨o5, h6, hF⟩ := bd_s hF
        refine x_sub [2, 3, 4, 5, 1, 0] rfl (w_X7_stepsBetween_L36 C fu _ _ _ h6 ?_)
        refine x_lload C dX7_stepsBetween_72 3 rfl ?_
        refine x_lstore (lv2 := [(4, .long o5), (1, .ref (q 1)), (3, .int x3), (6, .int x6), (7, .long o5)]) C dX7_stepsBetween_74 (by decide) rfl ?_
        refine x_iinc (v := x6 + 1) (lv2 := [(6, .int (x6 + 1)), (4, .long o5), (1, .ref (q 1)), (3, .int x3), (7, .long o5)]) C dX7_stepsBetween_76 3 rfl rfl (by decide) rfl ?_
        refine x_goto (tgt := 8) C dX7_stepsBetween_79 (by decide) ?_
        exact x_sub [2, 3, 1, 0] rfl (ih _ _ _ hF E)
      · replace hF := ifn hc hF
        refine x_iload C dX7_stepsBetween_26 3 rfl ?_
        cases hF
        exact x_iret C E dX7_stepsBetween_28
set_option maxHeartbeats 4000000 in
set_option maxRecDepth 100000 in
theorem c_X7_stepsBetween {κ : xb_k} {q : Nat → Nat} {nn : Nat} {xro : (Nat → Int64)} {xrn : (Nat → Int64)} {xfo : (Nat → Int32)} {xva : (Nat → Int32)} {xts : Int32} {xus : (Nat → Int32)} {xnu : (Nat → Int32)} {xth : Int32} {xsp : Int32} {xpr : (Nat → Int64)} {xpn : (Nat → Int64)} {xbs : Int32} {xwr : (Nat → Int32)} {xno : (Nat → Int32)} {xki : (Nat → Int32)} {xdi : (Nat → Int32)} {xde : (Nat → Int32)} {xst : (Nat → Int32)} {xta : (Nat → Int32)} {xcb : Int32} {xcd : Int32} {xbe : (Nat → Int32)} {xli : (Nat → Int32)} {xke : (Nat → Int32)} {xne : (Nat → Int64)} {x2 : Int32} {x3 : Int32} {fu : Nat} {o : Int32} (hF : F_X7_stepsBetween fu nn x2 x3 xro = some o) : Met κ.1 yX7_stepsBetween [Cond.code yX7_stepsBetween cX7_stepsBetween 10 (some .int)] { frames := 1, cells := 0, slots := 0, locals := 22 } (xb_P κ [.ref (q 27), .ref (q 1), .int x2, .int x3] (xw κ q nn xro xrn xfo xva xts xus xnu xth xsp xpr xpn xbs xwr xno xki xdi xde xst xta xcb xcd xbe xli xke xne)) (xb_Qi κ o (xw κ q nn xro xrn xfo xva xts xus xnu xth xsp xpr xpn xbs xwr xno xki xdi xde xst xta xcb xcd xbe xli xke xne)) 0 0 κ.2.2.1 := by
  refine x_enter (own := RX7) (lv0 := [(0, .ref (q 27)), (1, .ref (q 1)), (2, .int x2), (3, .int x3)]) (by decide) rfl rfl rfl (fun Γ C E => ?_)
  unfold F_X7_stepsBetween at hF
  refine x_lconst (v := 1) C dX7_stepsBetween_0 (by decide) ?_
  refine x_iload_n C dX7_stepsBetween_1 2 rfl ?_
  refine x_lshl C dX7_stepsBetween_2 ?_
  refine x_lstore (lv2 := [(4, .long ((1 : Int64) <<< (x2.toInt64 &&& 63))), (0, .ref (q 27)), (1, .ref (q 1)), (2, .int x2), (3, .int x3)]) C dX7_stepsBetween_3 (by decide) rfl ?_
  refine x_iconst (v := 0) C dX7_stepsBetween_5 (by decide) ?_
  refine x_istore (lv2 := [(6, .int (0 : Int32)), (4, .long ((1 : Int64) <<< (x2.toInt64 &&& 63))), (0, .ref (q 27)), (1, .ref (q 1)), (2, .int x2), (3, .int x3)]) C dX7_stepsBetween_6 (by decide) rfl ?_
  exact x_sub [3, 5, 1, 0] rfl (w_X7_stepsBetween_L8 C fu _ _ _ hF E)
set_option maxHeartbeats 4000000 in
set_option maxRecDepth 100000 in
theorem c_X8_far {κ : xb_k} {q : Nat → Nat} {nn : Nat} {xro : (Nat → Int64)} {xrn : (Nat → Int64)} {xfo : (Nat → Int32)} {xva : (Nat → Int32)} {xts : Int32} {xus : (Nat → Int32)} {xnu : (Nat → Int32)} {xth : Int32} {xsp : Int32} {xpr : (Nat → Int64)} {xpn : (Nat → Int64)} {xbs : Int32} {xwr : (Nat → Int32)} {xno : (Nat → Int32)} {xki : (Nat → Int32)} {xdi : (Nat → Int32)} {xde : (Nat → Int32)} {xst : (Nat → Int32)} {xta : (Nat → Int32)} {xcb : Int32} {xcd : Int32} {xbe : (Nat → Int32)} {xli : (Nat → Int32)} {xke : (Nat → Int32)} {xne : (Nat → Int64)} {x1 : Int32} {x2 : Int32} {fu : Nat} {o : Int32} (hF : F_X8_far fu nn x1 x2 xro = some o) : Met κ.1 yX8_far [Cond.code yX8_far cX8_far 3 (some .int)] { frames := 2, cells := 0, slots := 0, locals := 51 } (xb_P κ [.ref (q 0), .int x1, .int x2] (xw κ q nn xro xrn xfo xva xts xus xnu xth xsp xpr xpn xbs xwr xno xki xdi xde xst xta xcb xcd xbe xli xke xne)) (xb_Qi κ o (xw κ q nn xro xrn xfo xva xts xus xnu xth xsp xpr xpn xbs xwr xno xki xdi xde xst xta xcb xcd xbe xli xke xne)) 0 0 κ.2.2.1 := by
  refine x_enter (own := RX8) (lv0 := [(0, .ref (q 0)), (1, .int x1), (2, .int x2)]) (by decide) rfl rfl rfl (fun Γ C E => ?_)
  unfold F_X8_far at hF
  refine x_aload_n C dX8_far_0 0 rfl ?_
  refine gf_X8_23 C 0 rfl rfl dX8_far_1 ?_
  refine x_iload_n C dX8_far_4 1 rfl ?_
  obtain ⟨o1, h2, hF⟩ := bd_s hF
  refine x_callVi (st := []) C (c_X4_isThing h2) xm_X4_isThing ml_X8_73 1 rfl rfl rfl rfl rfl rfl dX8_far_5 ⟨rfl, rfl⟩ ?_
  refine x_if_eq (tgt := 22) C dX8_far_8 (by decide) (fun hc => ?_) (fun hc => ?_)
  · replace hF := ifp hc hF
    refine x_bipush (v := (-2)) C dX8_far_22 (by decide) ?_
    cases hF
    exact x_iret C E dX8_far_24
  · replace hF := ifn hc hF
    refine x_aload_n C dX8_far_11 0 rfl ?_
    refine gf_X8_23 C 0 rfl rfl dX8_far_12 ?_
    refine x_iload_n C dX8_far_15 2 rfl ?_
    obtain ⟨o3, h4, hF⟩ := bd_s hF
    refine x_callVi (st := []) C (c_X4_isThing h4) xm_X4_isThing ml_X8_73 1 rfl rfl rfl rfl rfl rfl dX8_far_16 ⟨rfl, rfl⟩ ?_
    refine x_if_ne (tgt := 25) C dX8_far_19 (by decide) (fun hc => ?_) (fun hc => ?_)
    · replace hF := ifn hc hF
      refine x_aload_n C dX8_far_25 0 rfl ?_
      refine gf_X8_65 C 0 rfl rfl dX8_far_26 ?_
      refine x_aload_n C dX8_far_29 0 rfl ?_
      refine gf_X8_23 C 0 rfl rfl dX8_far_30 ?_
      refine x_iload_n C dX8_far_33 1 rfl ?_
      refine x_iload_n C dX8_far_34 2 rfl ?_
      obtain ⟨o5, h6, hF⟩ := bd_s hF
      refine x_callVi (st := []) C (c_X7_stepsBetween h6) xm_X7_stepsBetween ml_X8_232 27 rfl rfl rfl rfl rfl rfl dX8_far_35 ⟨rfl, rfl⟩ ?_
      cases hF
      exact x_iret C E dX8_far_38
    · replace hF := ifp hc hF
      refine x_bipush (v := (-2)) C dX8_far_22 (by decide) ?_
      cases hF
      exact x_iret C E dX8_far_24
set_option maxHeartbeats 4000000 in
set_option maxRecDepth 100000 in
theorem w_X4_countAll_L4 {κ : xb_k} {Γ : xb_X} {q : Nat → Nat} {nn : Nat} {xro : (Nat → Int64)} {xrn : (Nat → Int64)} {xfo : (Nat → Int32)} {xva : (Nat → Int32)} {xts : Int32} {xus : (Nat → Int32)} {xnu : (Nat → Int32)} {xth : Int32} {xsp : Int32} {xpr : (Nat → Int64)} {xpn : (Nat → Int64)} {xbs : Int32} {xwr : (Nat → Int32)} {xno : (Nat → Int32)} {xki : (Nat → Int32)} {xdi : (Nat → Int32)} {xde : (Nat → Int32)} {xst : (Nat → Int32)} {xta : (Nat → Int32)} {xcb : Int32} {xcd : Int32} {xbe : (Nat → Int32)} {xli : (Nat → Int32)} {xke : (Nat → Int32)} {xne : (Nat → Int64)}   (C : xb_C κ Γ 3 cX4_countAll RX4 { frames := 1, cells := 0, slots := 0, locals := 21 }) : ∀ (n : Nat) (x1 : Int32) (x2 : Int32) (o : Int32), F_X4_countAll_L4 nn xro n x1 x2 = some o → xb_W κ Γ 3 0 0 31 [(1, .int o)] [] (xw κ q nn xro xrn xfo xva xts xus xnu xth xsp xpr xpn xbs xwr xno xki xdi xde xst xta xcb xcd xbe xli xke xne) → xb_W κ Γ 3 0 0 4 [(0, .ref (q 1)), (1, .int x1), (2, .int x2)] [] (xw κ q nn xro xrn xfo xva xts xus xnu xth xsp xpr xpn xbs xwr xno xki xdi xde xst xta xcb xcd xbe xli xke xne) := by
  intro n
  induction n with
  | zero =>
    intro x1 x2 o hF K
    rw [F_X4_countAll_L4] at hF
    cases hF
  | succ n ih =>
    intro x1 x2 o hF K
    rw [F_X4_countAll_L4] at hF
    refine x_iload_n C dX4_countAll_4 2 rfl ?_
    refine x_aload_n C dX4_countAll_5 0 rfl ?_
    refine gf_X4_7 C 1 rfl rfl dX4_countAll_6 ?_
    refine x_alen (v := nI nn) C 2 1 rfl rfl rfl dX4_countAll_9 ?_
    refine x_icmp_ge (tgt := 31) C dX4_countAll_10 (by decide) (fun hc => ?_) (fun hc => ?_)
    · replace hF := ifp hc hF
      cases hF
      exact x_sub [1] rfl K
    · replace hF := ifn hc hF
      refine x_iload_n C dX4_countAll_13 1 rfl ?_
      refine x_aload_n C dX4_countAll_14 0 rfl ?_
      refine gf_X4_7 C 1 rfl rfl dX4_countAll_15 ?_
      refine x_iload_n C dX4_countAll_18 2 rfl ?_
      obtain ⟨b1, hF⟩ := ck_s hF
      refine x_lald C 2 rfl b1 dX4_countAll_19 ?_
      obtain ⟨o2, h3, hF⟩ := bd_s hF
      refine x_callSi (st := [.int x1]) C (c_J13_bitCount_95d88 h3) xm_J13_bitCount_95d88 ml_X4_30 rfl rfl rfl rfl dX4_countAll_20 ⟨rfl, rfl⟩ ?_
      refine x_iadd C dX4_countAll_23 ?_
      refine x_istore_n (lv2 := [(1, .int (x1 + o2)), (0, .ref (q 1)), (2, .int x2)]) C dX4_countAll_24 rfl (by decide) rfl ?_
      refine x_iinc (v := x2 + 1) (lv2 := [(2, .int (x2 + 1)), (1, .int (x1 + o2)), (0, .ref (q 1))]) C dX4_countAll_25 2 rfl rfl (by decide) rfl ?_
      refine x_goto (tgt := 4) C dX4_countAll_28 (by decide) ?_
      exact x_sub [2, 1, 0] rfl (ih _ _ _ hF K)
set_option maxHeartbeats 4000000 in
set_option maxRecDepth 100000 in
theorem c_X4_countAll {κ : xb_k} {q : Nat → Nat} {nn : Nat} {xro : (Nat → Int64)} {xrn : (Nat → Int64)} {xfo : (Nat → Int32)} {xva : (Nat → Int32)} {xts : Int32} {xus : (Nat → Int32)} {xnu : (Nat → Int32)} {xth : Int32} {xsp : Int32} {xpr : (Nat → Int64)} {xpn : (Nat → Int64)} {xbs : Int32} {xwr : (Nat → Int32)} {xno : (Nat → Int32)} {xki : (Nat → Int32)} {xdi : (Nat → Int32)} {xde : (Nat → Int32)} {xst : (Nat → Int32)} {xta : (Nat → Int32)} {xcb : Int32} {xcd : Int32} {xbe : (Nat → Int32)} {xli : (Nat → Int32)} {xke : (Nat → Int32)} {xne : (Nat → Int64)}  {fu : Nat} {o : Int32} (hF : F_X4_countAll fu nn xro = some o) : Met κ.1 yX4_countAll [Cond.code yX4_countAll cX4_countAll 3 (some .int)] { frames := 1, cells := 0, slots := 0, locals := 21 } (xb_P κ [.ref (q 1)] (xw κ q nn xro xrn xfo xva xts xus xnu xth xsp xpr xpn xbs xwr xno xki xdi xde xst xta xcb xcd xbe xli xke xne)) (xb_Qi κ o (xw κ q nn xro xrn xfo xva xts xus xnu xth xsp xpr xpn xbs xwr xno xki xdi xde xst xta xcb xcd xbe xli xke xne)) 0 0 κ.2.2.1 := by
  refine x_enter (own := RX4) (lv0 := [(0, .ref (q 1))]) (by decide) rfl rfl rfl (fun Γ C E => ?_)
  unfold F_X4_countAll at hF
  refine x_iconst (v := 0) C dX4_countAll_0 (by decide) ?_
  refine x_istore_n (lv2 := [(1, .int (0 : Int32)), (0, .ref (q 1))]) C dX4_countAll_1 rfl (by decide) rfl ?_
  refine x_iconst (v := 0) C dX4_countAll_2 (by decide) ?_
  refine x_istore_n (lv2 := [(2, .int (0 : Int32)), (1, .int (0 : Int32)), (0, .ref (q 1))]) C dX4_countAll_3 rfl (by decide) rfl ?_
  obtain ⟨o4, h5, hF⟩ := bd_s hF
  refine x_sub [2, 1, 0] rfl (w_X4_countAll_L4 C fu _ _ _ h5 ?_)
  refine x_iload_n C dX4_countAll_31 0 rfl ?_
  cases hF
  exact x_iret C E dX4_countAll_32
set_option maxHeartbeats 4000000 in
set_option maxRecDepth 100000 in
theorem w_X1_copiedRows_L4 {κ : xb_k} {Γ : xb_X} {q : Nat → Nat} {nn : Nat} {xro : (Nat → Int64)} {xrn : (Nat → Int64)} {xfo : (Nat → Int32)} {xva : (Nat → Int32)} {xts : Int32} {xus : (Nat → Int32)} {xnu : (Nat → Int32)} {xth : Int32} {xsp : Int32} {xpr : (Nat → Int64)} {xpn : (Nat → Int64)} {xbs : Int32} {xwr : (Nat → Int32)} {xno : (Nat → Int32)} {xki : (Nat → Int32)} {xdi : (Nat → Int32)} {xde : (Nat → Int32)} {xst : (Nat → Int32)} {xta : (Nat → Int32)} {xcb : Int32} {xcd : Int32} {xbe : (Nat → Int32)} {xli : (Nat → Int32)} {xke : (Nat → Int32)} {xne : (Nat → Int64)}   (C : xb_C κ Γ 3 cX1_copiedRows RX1 { frames := 1, cells := 0, slots := 0, locals := 20 }) : ∀ (n : Nat) (x1 : Int32) (x2 : Int32) (o : Int32), F_X1_copiedRows_L4 nn xth xki n x1 x2 = some o → xb_W κ Γ 3 0 0 41 [(1, .int o)] [] (xw κ q nn xro xrn xfo xva xts xus xnu xth xsp xpr xpn xbs xwr xno xki xdi xde xst xta xcb xcd xbe xli xke xne) → xb_W κ Γ 3 0 0 4 [(0, .ref (q 10)), (1, .int x1), (2, .int x2)] [] (xw κ q nn xro xrn xfo xva xts xus xnu xth xsp xpr xpn xbs xwr xno xki xdi xde xst xta xcb xcd xbe xli xke xne) := by
  intro n
  induction n with
  | zero =>
    intro x1 x2 o hF K
    rw [F_X1_copiedRows_L4] at hF
    cases hF
  | succ n ih =>
    intro x1 x2 o hF K
    rw [F_X1_copiedRows_L4] at hF
    refine x_aload_n C dX1_copiedRows_4 0 rfl ?_
    refine gf_X1_15 C 10 rfl rfl dX1_copiedRows_5 ?_
    refine x_if_eq (tgt := 41) C dX1_copiedRows_8 (by decide) (fun hc => ?_) (fun hc => ?_)
    · replace hF := ifp hc hF
      cases hF
      exact x_sub [1] rfl K
    · replace hF := ifn hc hF
      refine x_iload_n C dX1_copiedRows_11 2 rfl ?_
      refine x_aload_n C dX1_copiedRows_12 0 rfl ?_
      refine gf_X1_39 C 10 rfl rfl dX1_copiedRows_13 ?_
      refine x_alen (v := nI nn) C 17 0 rfl rfl rfl dX1_copiedRows_16 ?_
      refine x_icmp_ge (tgt := 41) C dX1_copiedRows_17 (by decide) (fun hc => ?_) (fun hc => ?_)
      · replace hF := ifp hc hF
        cases hF
        exact x_sub [1] rfl K
      · replace hF := ifn hc hF
        refine x_aload_n C dX1_copiedRows_20 0 rfl ?_
        refine gf_X1_39 C 10 rfl rfl dX1_copiedRows_21 ?_
        refine x_iload_n C dX1_copiedRows_24 2 rfl ?_
        obtain ⟨b1, hF⟩ := ck_s hF
        refine x_iald C 17 rfl b1 dX1_copiedRows_25 ?_
        obtain ⟨o2, h3, hF⟩ := bd_s hF
        refine x_callNi (st := []) C (c_X8_isCopy h3) xm_X8_isCopy mn_X1_128 rfl rfl rfl rfl dX1_copiedRows_26 ⟨rfl, rfl⟩ ?_
        refine x_if_eq (tgt := 35) C dX1_copiedRows_29 (by decide) (fun hc => ?_) (fun hc => ?_)
        · replace hF := ifp hc hF
          refine x_iinc (v := x2 + 1) (lv2 := [(2, .int (x2 + 1)), (0, .ref (q 10)), (1, .int x1)]) C dX1_copiedRows_35 2 rfl rfl (by decide) rfl ?_
          refine x_goto (tgt := 4) C dX1_copiedRows_38 (by decide) ?_
          exact x_sub [1, 2, 0] rfl (ih _ _ _ hF K)
        · replace hF := ifn hc hF
          refine x_iinc (v := x1 + 1) (lv2 := [(1, .int (x1 + 1)), (0, .ref (q 10)), (2, .int x2)]) C dX1_copiedRows_32 1 rfl rfl (by decide) rfl ?_
          refine x_iinc (v := x2 + 1) (lv2 := [(2, .int (x2 + 1)), (1, .int (x1 + 1)), (0, .ref (q 10))]) C dX1_copiedRows_35 2 rfl rfl (by decide) rfl ?_
          refine x_goto (tgt := 4) C dX1_copiedRows_38 (by decide) ?_
          exact x_sub [2, 1, 0] rfl (ih _ _ _ hF K)
set_option maxHeartbeats 4000000 in
set_option maxRecDepth 100000 in
theorem c_X1_copiedRows {κ : xb_k} {q : Nat → Nat} {nn : Nat} {xro : (Nat → Int64)} {xrn : (Nat → Int64)} {xfo : (Nat → Int32)} {xva : (Nat → Int32)} {xts : Int32} {xus : (Nat → Int32)} {xnu : (Nat → Int32)} {xth : Int32} {xsp : Int32} {xpr : (Nat → Int64)} {xpn : (Nat → Int64)} {xbs : Int32} {xwr : (Nat → Int32)} {xno : (Nat → Int32)} {xki : (Nat → Int32)} {xdi : (Nat → Int32)} {xde : (Nat → Int32)} {xst : (Nat → Int32)} {xta : (Nat → Int32)} {xcb : Int32} {xcd : Int32} {xbe : (Nat → Int32)} {xli : (Nat → Int32)} {xke : (Nat → Int32)} {xne : (Nat → Int64)}  {fu : Nat} {o : Int32} (hF : F_X1_copiedRows fu nn xth xki = some o) : Met κ.1 yX1_copiedRows [Cond.code yX1_copiedRows cX1_copiedRows 3 (some .int)] { frames := 1, cells := 0, slots := 0, locals := 20 } (xb_P κ [.ref (q 10)] (xw κ q nn xro xrn xfo xva xts xus xnu xth xsp xpr xpn xbs xwr xno xki xdi xde xst xta xcb xcd xbe xli xke xne)) (xb_Qi κ o (xw κ q nn xro xrn xfo xva xts xus xnu xth xsp xpr xpn xbs xwr xno xki xdi xde xst xta xcb xcd xbe xli xke xne)) 0 0 κ.2.2.1 := by
  refine x_enter (own := RX1) (lv0 := [(0, .ref (q 10))]) (by decide) rfl rfl rfl (fun Γ C E => ?_)
  unfold F_X1_copiedRows at hF
  refine x_iconst (v := 0) C dX1_copiedRows_0 (by decide) ?_
  refine x_istore_n (lv2 := [(1, .int (0 : Int32)), (0, .ref (q 10))]) C dX1_copiedRows_1 rfl (by decide) rfl ?_
  refine x_iconst (v := 0) C dX1_copiedRows_2 (by decide) ?_
  refine x_istore_n (lv2 := [(2, .int (0 : Int32)), (1, .int (0 : Int32)), (0, .ref (q 10))]) C dX1_copiedRows_3 rfl (by decide) rfl ?_
  obtain ⟨o4, h5, hF⟩ := bd_s hF
  refine x_sub [2, 1, 0] rfl (w_X1_copiedRows_L4 C fu _ _ _ h5 ?_)
  refine x_iload_n C dX1_copiedRows_41 0 rfl ?_
  cases hF
  exact x_iret C E dX1_copiedRows_42
set_option maxHeartbeats 4000000 in
set_option maxRecDepth 100000 in
theorem w_X1_greatestDepth_L4 {κ : xb_k} {Γ : xb_X} {q : Nat → Nat} {nn : Nat} {xro : (Nat → Int64)} {xrn : (Nat → Int64)} {xfo : (Nat → Int32)} {xva : (Nat → Int32)} {xts : Int32} {xus : (Nat → Int32)} {xnu : (Nat → Int32)} {xth : Int32} {xsp : Int32} {xpr : (Nat → Int64)} {xpn : (Nat → Int64)} {xbs : Int32} {xwr : (Nat → Int32)} {xno : (Nat → Int32)} {xki : (Nat → Int32)} {xdi : (Nat → Int32)} {xde : (Nat → Int32)} {xst : (Nat → Int32)} {xta : (Nat → Int32)} {xcb : Int32} {xcd : Int32} {xbe : (Nat → Int32)} {xli : (Nat → Int32)} {xke : (Nat → Int32)} {xne : (Nat → Int64)}   (C : xb_C κ Γ 3 cX1_greatestDepth RX1 { frames := 1, cells := 0, slots := 0, locals := 21 }) : ∀ (n : Nat) (x1 : Int32) (x2 : Int32) (o : Int32), F_X1_greatestDepth_L4 nn xth xde n x1 x2 = some o → xb_W κ Γ 3 0 0 37 [(1, .int o)] [] (xw κ q nn xro xrn xfo xva xts xus xnu xth xsp xpr xpn xbs xwr xno xki xdi xde xst xta xcb xcd xbe xli xke xne) → xb_W κ Γ 3 0 0 4 [(0, .ref (q 10)), (1, .int x1), (2, .int x2)] [] (xw κ q nn xro xrn xfo xva xts xus xnu xth xsp xpr xpn xbs xwr xno xki xdi xde xst xta xcb xcd xbe xli xke xne) := by
  intro n
  induction n with
  | zero =>
    intro x1 x2 o hF K
    rw [F_X1_greatestDepth_L4] at hF
    cases hF
  | succ n ih =>
    intro x1 x2 o hF K
    rw [F_X1_greatestDepth_L4] at hF
    refine x_aload_n C dX1_greatestDepth_4 0 rfl ?_
    refine gf_X1_15 C 10 rfl rfl dX1_greatestDepth_5 ?_
    refine x_if_eq (tgt := 37) C dX1_greatestDepth_8 (by decide) (fun hc => ?_) (fun hc => ?_)
    · replace hF := ifp hc hF
      cases hF
      exact x_sub [1] rfl K
    · replace hF := ifn hc hF
      refine x_iload_n C dX1_greatestDepth_11 2 rfl ?_
      refine x_aload_n C dX1_greatestDepth_12 0 rfl ?_
      refine gf_X1_45 C 10 rfl rfl dX1_greatestDepth_13 ?_
      refine x_alen (v := nI nn) C 19 0 rfl rfl rfl dX1_greatestDepth_16 ?_
      refine x_icmp_ge (tgt := 37) C dX1_greatestDepth_17 (by decide) (fun hc => ?_) (fun hc => ?_)
      · replace hF := ifp hc hF
        cases hF
        exact x_sub [1] rfl K
      · replace hF := ifn hc hF
        refine x_iload_n C dX1_greatestDepth_20 1 rfl ?_
        refine x_aload_n C dX1_greatestDepth_21 0 rfl ?_
        refine gf_X1_45 C 10 rfl rfl dX1_greatestDepth_22 ?_
        refine x_iload_n C dX1_greatestDepth_25 2 rfl ?_
        obtain ⟨b1, hF⟩ := ck_s hF
        refine x_iald C 19 rfl b1 dX1_greatestDepth_26 ?_
        obtain ⟨o2, h3, hF⟩ := bd_s hF
        refine x_callSi (st := []) C (c_J9_max_7cf53 h3) xm_J9_max_7cf53 ml_X1_73 rfl rfl rfl rfl dX1_greatestDepth_27 ⟨rfl, rfl⟩ ?_
        refine x_istore_n (lv2 := [(1, .int o2), (0, .ref (q 10)), (2, .int x2)]) C dX1_greatestDepth_30 rfl (by decide) rfl ?_
        refine x_iinc (v := x2 + 1) (lv2 := [(2, .int (x2 + 1)), (1, .int o2), (0, .ref (q 10))]) C dX1_greatestDepth_31 2 rfl rfl (by decide) rfl ?_
        refine x_goto (tgt := 4) C dX1_greatestDepth_34 (by decide) ?_
        exact x_sub [2, 1, 0] rfl (ih _ _ _ hF K)
set_option maxHeartbeats 4000000 in
set_option maxRecDepth 100000 in
theorem c_X1_greatestDepth {κ : xb_k} {q : Nat → Nat} {nn : Nat} {xro : (Nat → Int64)} {xrn : (Nat → Int64)} {xfo : (Nat → Int32)} {xva : (Nat → Int32)} {xts : Int32} {xus : (Nat → Int32)} {xnu : (Nat → Int32)} {xth : Int32} {xsp : Int32} {xpr : (Nat → Int64)} {xpn : (Nat → Int64)} {xbs : Int32} {xwr : (Nat → Int32)} {xno : (Nat → Int32)} {xki : (Nat → Int32)} {xdi : (Nat → Int32)} {xde : (Nat → Int32)} {xst : (Nat → Int32)} {xta : (Nat → Int32)} {xcb : Int32} {xcd : Int32} {xbe : (Nat → Int32)} {xli : (Nat → Int32)} {xke : (Nat → Int32)} {xne : (Nat → Int64)}  {fu : Nat} {o : Int32} (hF : F_X1_greatestDepth fu nn xth xde = some o) : Met κ.1 yX1_greatestDepth [Cond.code yX1_greatestDepth cX1_greatestDepth 3 (some .int)] { frames := 1, cells := 0, slots := 0, locals := 21 } (xb_P κ [.ref (q 10)] (xw κ q nn xro xrn xfo xva xts xus xnu xth xsp xpr xpn xbs xwr xno xki xdi xde xst xta xcb xcd xbe xli xke xne)) (xb_Qi κ o (xw κ q nn xro xrn xfo xva xts xus xnu xth xsp xpr xpn xbs xwr xno xki xdi xde xst xta xcb xcd xbe xli xke xne)) 0 0 κ.2.2.1 := by
  refine x_enter (own := RX1) (lv0 := [(0, .ref (q 10))]) (by decide) rfl rfl rfl (fun Γ C E => ?_)
  unfold F_X1_greatestDepth at hF
  refine x_iconst (v := 0) C dX1_greatestDepth_0 (by decide) ?_
  refine x_istore_n (lv2 := [(1, .int (0 : Int32)), (0, .ref (q 10))]) C dX1_greatestDepth_1 rfl (by decide) rfl ?_
  refine x_iconst (v := 0) C dX1_greatestDepth_2 (by decide) ?_
  refine x_istore_n (lv2 := [(2, .int (0 : Int32)), (1, .int (0 : Int32)), (0, .ref (q 10))]) C dX1_greatestDepth_3 rfl (by decide) rfl ?_
  obtain ⟨o4, h5, hF⟩ := bd_s hF
  refine x_sub [2, 1, 0] rfl (w_X1_greatestDepth_L4 C fu _ _ _ h5 ?_)
  refine x_iload_n C dX1_greatestDepth_37 0 rfl ?_
  cases hF
  exact x_iret C E dX1_greatestDepth_38
set_option maxHeartbeats 4000000 in
set_option maxRecDepth 100000 in
theorem c_X8_count {κ : xb_k} {q : Nat → Nat} {nn : Nat} {xro : (Nat → Int64)} {xrn : (Nat → Int64)} {xfo : (Nat → Int32)} {xva : (Nat → Int32)} {xts : Int32} {xus : (Nat → Int32)} {xnu : (Nat → Int32)} {xth : Int32} {xsp : Int32} {xpr : (Nat → Int64)} {xpn : (Nat → Int64)} {xbs : Int32} {xwr : (Nat → Int32)} {xno : (Nat → Int32)} {xki : (Nat → Int32)} {xdi : (Nat → Int32)} {xde : (Nat → Int32)} {xst : (Nat → Int32)} {xta : (Nat → Int32)} {xcb : Int32} {xcd : Int32} {xbe : (Nat → Int32)} {xli : (Nat → Int32)} {xke : (Nat → Int32)} {xne : (Nat → Int64)} {x1 : Int32} {fu : Nat} {o : Int32} (hF : F_X8_count fu nn x1 xro xth xpr xbs xsp xki xde = some o) : Met κ.1 yX8_count [Cond.code yX8_count cX8_count 2 (some .int)] { frames := 3, cells := 0, slots := 0, locals := 65 } (xb_P κ [.ref (q 0), .int x1] (xw κ q nn xro xrn xfo xva xts xus xnu xth xsp xpr xpn xbs xwr xno xki xdi xde xst xta xcb xcd xbe xli xke xne)) (xb_Qi κ o (xw κ q nn xro xrn xfo xva xts xus xnu xth xsp xpr xpn xbs xwr xno xki xdi xde xst xta xcb xcd xbe xli xke xne)) 0 0 κ.2.2.1 := by
  refine x_enter (own := RX8) (lv0 := [(0, .ref (q 0)), (1, .int x1)]) (by decide) rfl rfl rfl (fun Γ C E => ?_)
  unfold F_X8_count at hF
  refine x_iload_n C dX8_count_0 1 rfl ?_
  by_cases hs1_0 : x1 = 0
  · replace hF := ifp hs1_0 hF
    refine x_tswIn (off := 43) (tgt := 44) 0 C dX8_count_1 hs1_0 (by decide) (by decide) rfl (by decide) ?_
    refine x_aload_n C dX8_count_44 0 rfl ?_
    refine gf_X8_23 C 0 rfl rfl dX8_count_45 ?_
    obtain ⟨o1, h2, hF⟩ := bd_s hF
    refine x_callVi (st := []) C (c_X4_things h2) xm_X4_things ml_X8_236 1 rfl rfl rfl rfl rfl rfl dX8_count_48 ⟨rfl, rfl⟩ ?_
    cases hF
    exact x_iret C E dX8_count_51
  · replace hF := ifn hs1_0 hF
    by_cases hs1_1 : x1 = 1
    · replace hF := ifp hs1_1 hF
      refine x_tswIn (off := 51) (tgt := 52) 1 C dX8_count_1 hs1_1 (by decide) (by decide) rfl (by decide) ?_
      refine x_aload_n C dX8_count_52 0 rfl ?_
      refine gf_X8_23 C 0 rfl rfl dX8_count_53 ?_
      obtain ⟨o3, h4, hF⟩ := bd_s hF
      refine x_callVi (st := []) C (c_X4_countAll h4) xm_X4_countAll ml_X8_239 1 rfl rfl rfl rfl rfl rfl dX8_count_56 ⟨rfl, rfl⟩ ?_
      cases hF
      exact x_iret C E dX8_count_59
    · replace hF := ifn hs1_1 hF
      by_cases hs1_2 : x1 = 2
      · replace hF := ifp hs1_2 hF
        refine x_tswIn (off := 59) (tgt := 60) 2 C dX8_count_1 hs1_2 (by decide) (by decide) rfl (by decide) ?_
        refine x_aload_n C dX8_count_60 0 rfl ?_
        refine gf_X8_44 C 0 rfl rfl dX8_count_61 ?_
        refine x_aload_n C dX8_count_64 0 rfl ?_
        refine gf_X8_23 C 0 rfl rfl dX8_count_65 ?_
        obtain ⟨o5, h6, hF⟩ := bd_s hF
        refine x_callVi (st := []) C (c_X1_patchesTo h6) xm_X1_patchesTo ml_X8_163 10 rfl rfl rfl rfl rfl rfl dX8_count_68 ⟨rfl, rfl⟩ ?_
        cases hF
        exact x_iret C E dX8_count_71
      · replace hF := ifn hs1_2 hF
        by_cases hs1_3 : x1 = 3
        · replace hF := ifp hs1_3 hF
          refine x_tswIn (off := 71) (tgt := 72) 3 C dX8_count_1 hs1_3 (by decide) (by decide) rfl (by decide) ?_
          refine x_aload_n C dX8_count_72 0 rfl ?_
          refine gf_X8_44 C 0 rfl rfl dX8_count_73 ?_
          obtain ⟨o7, h8, hF⟩ := bd_s hF
          refine x_callVi (st := []) C (c_X1_isThere h8) xm_X1_isThere ml_X8_141 10 rfl rfl rfl rfl rfl rfl dX8_count_76 ⟨rfl, rfl⟩ ?_
          refine x_if_eq (tgt := 95) C dX8_count_79 (by decide) (fun hc => ?_) (fun hc => ?_)
          · replace hF := ifp hc hF
            refine x_iconst (v := 0) C dX8_count_95 (by decide) ?_
            cases hF
            exact x_iret C E dX8_count_96
          · replace hF := ifn hc hF
            refine x_aload_n C dX8_count_82 0 rfl ?_
            refine gf_X8_44 C 0 rfl rfl dX8_count_83 ?_
            obtain ⟨o9, h10, hF⟩ := bd_s hF
            refine x_callVr (st := []) C (c_X1_bits h10) xm_X1_bits ml_X8_174 10 rfl rfl rfl rfl rfl rfl dX8_count_86 ⟨rfl, rfl⟩ ?_
            obtain ⟨o11, h12, hF⟩ := bd_s hF
            refine x_callVi (st := []) C (c_X0_size h12) xm_X0_size ml_X8_242 14 rfl rfl rfl rfl rfl rfl dX8_count_89 ⟨rfl, rfl⟩ ?_
            refine x_goto (tgt := 96) C dX8_count_92 (by decide) ?_
            cases hF
            exact x_iret C E dX8_count_96
        · replace hF := ifn hs1_3 hF
          by_cases hs1_4 : x1 = 4
          · replace hF := ifp hs1_4 hF
            refine x_tswIn (off := 96) (tgt := 97) 4 C dX8_count_1 hs1_4 (by decide) (by decide) rfl (by decide) ?_
            refine x_aload_n C dX8_count_97 0 rfl ?_
            refine gf_X8_44 C 0 rfl rfl dX8_count_98 ?_
            obtain ⟨o13, h14, hF⟩ := bd_s hF
            refine x_callVi (st := []) C (c_X1_placeCount h14) xm_X1_placeCount ml_X8_183 10 rfl rfl rfl rfl rfl rfl dX8_count_101 ⟨rfl, rfl⟩ ?_
            cases hF
            exact x_iret C E dX8_count_104
          · replace hF := ifn hs1_4 hF
            by_cases hs1_5 : x1 = 5
            · replace hF := ifp hs1_5 hF
              refine x_tswIn (off := 104) (tgt := 105) 5 C dX8_count_1 hs1_5 (by decide) (by decide) rfl (by decide) ?_
              refine x_aload_n C dX8_count_105 0 rfl ?_
              refine gf_X8_44 C 0 rfl rfl dX8_count_106 ?_
              obtain ⟨o15, h16, hF⟩ := bd_s hF
              refine x_callVi (st := []) C (c_X1_copiedRows h16) xm_X1_copiedRows ml_X8_245 10 rfl rfl rfl rfl rfl rfl dX8_count_109 ⟨rfl, rfl⟩ ?_
              cases hF
              exact x_iret C E dX8_count_112
            · replace hF := ifn hs1_5 hF
              by_cases hs1_6 : x1 = 6
              · replace hF := ifp hs1_6 hF
                refine x_tswIn (off := 112) (tgt := 113) 6 C dX8_count_1 hs1_6 (by decide) (by decide) rfl (by decide) ?_
                refine x_aload_n C dX8_count_113 0 rfl ?_
                refine gf_X8_44 C 0 rfl rfl dX8_count_114 ?_
                obtain ⟨o17, h18, hF⟩ := bd_s hF
                refine x_callVi (st := []) C (c_X1_greatestDepth h18) xm_X1_greatestDepth ml_X8_248 10 rfl rfl rfl rfl rfl rfl dX8_count_117 ⟨rfl, rfl⟩ ?_
                cases hF
                exact x_iret C E dX8_count_120
              · replace hF := ifn hs1_6 hF
                refine x_tswOut (tgt := 121) C dX8_count_1 (ts_out 6 (by decide) (fun k hk => by match k, hk with | 0, _ => exact hs1_0 | 1, _ => exact hs1_1 | 2, _ => exact hs1_2 | 3, _ => exact hs1_3 | 4, _ => exact hs1_4 | 5, _ => exact hs1_5 | 6, _ => exact hs1_6 | (k + 7), hk => exact absurd hk (by omega))) (by decide) ?_
                refine x_bipush (v := (-2)) C dX8_count_121 (by decide) ?_
                cases hF
                exact x_iret C E dX8_count_123

set_option maxHeartbeats 4000000 in
set_option maxRecDepth 100000 in
theorem c_X0_putNumber {κ : xb_k} {q : Nat → Nat} {nn : Nat} {xro : (Nat → Int64)} {xrn : (Nat → Int64)} {xfo : (Nat → Int32)} {xva : (Nat → Int32)} {xts : Int32} {xus : (Nat → Int32)} {xnu : (Nat → Int32)} {xth : Int32} {xsp : Int32} {xpr : (Nat → Int64)} {xpn : (Nat → Int64)} {xbs : Int32} {xwr : (Nat → Int32)} {xno : (Nat → Int32)} {xki : (Nat → Int32)} {xdi : (Nat → Int32)} {xde : (Nat → Int32)} {xst : (Nat → Int32)} {xta : (Nat → Int32)} {xcb : Int32} {xcd : Int32} {xbe : (Nat → Int32)} {xli : (Nat → Int32)} {xke : (Nat → Int32)} {xne : (Nat → Int64)} {x1 : Int32} {x2 : Int32} {fu : Nat} {o : (Nat → Int32) × (Nat → Int32) × Int32} (hF : F_X0_putNumber fu nn x1 x2 xbs xwr xno = some o) : Met κ.1 yX0_putNumber [Cond.code yX0_putNumber cX0_putNumber 5 none] { frames := 3, cells := 0, slots := 0, locals := 69 } (xb_P κ [.ref (q 14), .int x1, .int x2] (xw κ q nn xro xrn xfo xva xts xus xnu xth xsp xpr xpn xbs xwr xno xki xdi xde xst xta xcb xcd xbe xli xke xne)) (xb_Qv κ (xw κ q nn xro xrn xfo xva xts xus xnu xth xsp xpr xpn o.2.2 o.1 o.2.1 xki xdi xde xst xta xcb xcd xbe xli xke xne)) 0 0 κ.2.2.1 := by
  refine x_enter (own := RX0) (lv0 := [(0, .ref (q 14)), (1, .int x1), (2, .int x2)]) (by decide) rfl rfl rfl (fun Γ C E => ?_)
  unfold F_X0_putNumber at hF
  refine x_iload_n C dX0_putNumber_0 1 rfl ?_
  by_cases hs1_0 : x1 = 0
  · replace hF := ifp hs1_0 hF
    refine x_tswIn (off := 27) (tgt := 28) 0 C dX0_putNumber_1 hs1_0 (by decide) (by decide) rfl (by decide) ?_
    refine x_aload_n C dX0_putNumber_28 0 rfl ?_
    refine x_iload_n C dX0_putNumber_29 2 rfl ?_
    obtain ⟨o1, h2, hF⟩ := bd_s hF
    refine x_callVv (st := []) C (c_X0_putUnary h2) xm_X0_putUnary ml_X0_75 14 rfl rfl rfl rfl rfl rfl dX0_putNumber_30 ⟨rfl, rfl⟩ ?_
    refine x_goto (tgt := 89) C dX0_putNumber_33 (by decide) ?_
    cases hF
    exact x_vret C E dX0_putNumber_89
  · replace hF := ifn hs1_0 hF
    by_cases hs1_1 : x1 = 1
    · replace hF := ifp hs1_1 hF
      refine x_tswIn (off := 35) (tgt := 36) 1 C dX0_putNumber_1 hs1_1 (by decide) (by decide) rfl (by decide) ?_
      refine x_aload_n C dX0_putNumber_36 0 rfl ?_
      refine x_iload_n C dX0_putNumber_37 2 rfl ?_
      obtain ⟨o3, h4, hF⟩ := bd_s hF
      refine x_callVv (st := []) C (c_X0_putDoubled h4) xm_X0_putDoubled ml_X0_78 14 rfl rfl rfl rfl rfl rfl dX0_putNumber_38 ⟨rfl, rfl⟩ ?_
      refine x_goto (tgt := 89) C dX0_putNumber_41 (by decide) ?_
      cases hF
      exact x_vret C E dX0_putNumber_89
    · replace hF := ifn hs1_1 hF
      by_cases hs1_2 : x1 = 2
      · replace hF := ifp hs1_2 hF
        refine x_tswIn (off := 43) (tgt := 44) 2 C dX0_putNumber_1 hs1_2 (by decide) (by decide) rfl (by decide) ?_
        refine x_iload_n C dX0_putNumber_44 2 rfl ?_
        refine x_iconst (v := 1) C dX0_putNumber_45 (by decide) ?_
        refine x_iadd C dX0_putNumber_46 ?_
        obtain ⟨o5, h6, hF⟩ := bd_s hF
        refine x_callNi (st := []) C (c_X8_digitsOf h6) xm_X8_digitsOf mn_X0_81 rfl rfl rfl rfl dX0_putNumber_47 ⟨rfl, rfl⟩ ?_
        refine x_iconst (v := 1) C dX0_putNumber_50 (by decide) ?_
        refine x_isub C dX0_putNumber_51 ?_
        refine x_istore_n (lv2 := [(3, .int (o5 - (1 : Int32))), (0, .ref (q 14)), (1, .int x1), (2, .int x2)]) C dX0_putNumber_52 rfl (by decide) rfl ?_
        refine x_aload_n C dX0_putNumber_53 1 rfl ?_
        refine x_iload_n C dX0_putNumber_54 0 rfl ?_
        obtain ⟨o7, h8, hF⟩ := bd_s hF
        refine x_callVv (st := []) C (c_X0_putDoubled h8) xm_X0_putDoubled ml_X0_78 14 rfl rfl rfl rfl rfl rfl dX0_putNumber_55 ⟨rfl, rfl⟩ ?_
        refine x_aload_n C dX0_putNumber_58 1 rfl ?_
        refine x_iload_n C dX0_putNumber_59 3 rfl ?_
        refine x_iconst (v := 1) C dX0_putNumber_60 (by decide) ?_
        refine x_iadd C dX0_putNumber_61 ?_
        refine x_iload_n C dX0_putNumber_62 0 rfl ?_
        obtain ⟨o9, h10, hF⟩ := bd_s hF
        refine x_callVv (st := []) C (c_X0_putLowest h10) xm_X0_putLowest ml_X0_84 14 rfl rfl rfl rfl rfl rfl dX0_putNumber_63 ⟨rfl, rfl⟩ ?_
        refine x_goto (tgt := 89) C dX0_putNumber_66 (by decide) ?_
        cases hF
        exact x_vret C E dX0_putNumber_89
      · replace hF := ifn hs1_2 hF
        refine x_tswOut (tgt := 69) C dX0_putNumber_1 (ts_out 2 (by decide) (fun k hk => by match k, hk with | 0, _ => exact hs1_0 | 1, _ => exact hs1_1 | 2, _ => exact hs1_2 | (k + 3), hk => exact absurd hk (by omega))) (by decide) ?_
        refine x_iload_n C dX0_putNumber_69 1 rfl ?_
        refine x_iconst (v := 3) C dX0_putNumber_70 (by decide) ?_
        refine x_isub C dX0_putNumber_71 ?_
        refine x_istore (lv2 := [(4, .int (x1 - (3 : Int32))), (0, .ref (q 14)), (1, .int x1), (2, .int x2)]) C dX0_putNumber_72 (by decide) rfl ?_
        refine x_aload_n C dX0_putNumber_74 1 rfl ?_
        refine x_iload_n C dX0_putNumber_75 3 rfl ?_
        refine x_iload C dX0_putNumber_76 0 rfl ?_
        refine x_ishr C dX0_putNumber_78 ?_
        obtain ⟨o11, h12, hF⟩ := bd_s hF
        refine x_callVv (st := []) C (c_X0_putUnary h12) xm_X0_putUnary ml_X0_75 14 rfl rfl rfl rfl rfl rfl dX0_putNumber_79 ⟨rfl, rfl⟩ ?_
        refine x_aload_n C dX0_putNumber_82 1 rfl ?_
        refine x_iload_n C dX0_putNumber_83 3 rfl ?_
        refine x_iload C dX0_putNumber_84 0 rfl ?_
        obtain ⟨o13, h14, hF⟩ := bd_s hF
        refine x_callVv (st := []) C (c_X0_putLowest h14) xm_X0_putLowest ml_X0_84 14 rfl rfl rfl rfl rfl rfl dX0_putNumber_86 ⟨rfl, rfl⟩ ?_
        cases hF
        exact x_vret C E dX0_putNumber_89
set_option maxHeartbeats 4000000 in
set_option maxRecDepth 100000 in
theorem w_X0_write_L2 {κ : xb_k} {Γ : xb_X} {q : Nat → Nat} {nn : Nat} {xro : (Nat → Int64)} {xrn : (Nat → Int64)} {xfo : (Nat → Int32)} {xva : (Nat → Int32)} {xts : Int32} {xus : (Nat → Int32)} {xnu : (Nat → Int32)} {xth : Int32} {xsp : Int32} {xpr : (Nat → Int64)} {xpn : (Nat → Int64)} {xki : (Nat → Int32)} {xdi : (Nat → Int32)} {xde : (Nat → Int32)} {xst : (Nat → Int32)} {xta : (Nat → Int32)} {xcb : Int32} {xcd : Int32} {xbe : (Nat → Int32)} {xli : (Nat → Int32)} {xke : (Nat → Int32)} {xne : (Nat → Int64)}  {fu : Nat} (C : xb_C κ Γ 5 cX0_write RX0 { frames := 4, cells := 0, slots := 0, locals := 93 }) : ∀ (n : Nat) (x3 : Int32) (xwr : (Nat → Int32)) (xno : (Nat → Int32)) (xbs : Int32) (o : (Nat → Int32) × (Nat → Int32) × Int32), F_X0_write_L2 fu nn xts xus xfo xnu n x3 xwr xno xbs = some o → xb_W κ Γ 5 0 0 57 [] [] (xw κ q nn xro xrn xfo xva xts xus xnu xth xsp xpr xpn o.2.2 o.1 o.2.1 xki xdi xde xst xta xcb xcd xbe xli xke xne) → xb_W κ Γ 5 0 0 2 [(0, .ref (q 14)), (1, .ref (q 7)), (2, .ref (q 4)), (3, .int x3)] [] (xw κ q nn xro xrn xfo xva xts xus xnu xth xsp xpr xpn xbs xwr xno xki xdi xde xst xta xcb xcd xbe xli xke xne) := by
  intro n
  induction n with
  | zero =>
    intro x3 xwr xno xbs o hF K
    rw [F_X0_write_L2] at hF
    cases hF
  | succ n ih =>
    intro x3 xwr xno xbs o hF K
    rw [F_X0_write_L2] at hF
    refine x_iload_n C dX0_write_2 3 rfl ?_
    refine x_aload_n C dX0_write_3 1 rfl ?_
    obtain ⟨o1, h2, hF⟩ := bd_s hF
    refine x_callVi (st := [.int x3]) C (c_X6_size h2) xm_X6_size ml_X0_34 7 rfl rfl rfl rfl rfl rfl dX0_write_4 ⟨rfl, rfl⟩ ?_
    refine x_icmp_ge (tgt := 57) C dX0_write_7 (by decide) (fun hc => ?_) (fun hc => ?_)
    · replace hF := ifp hc hF
      cases hF
      exact x_sub [] rfl K
    · replace hF := ifn hc hF
      refine x_aload_n C dX0_write_10 1 rfl ?_
      refine x_iload_n C dX0_write_11 3 rfl ?_
      obtain ⟨o3, h4, hF⟩ := bd_s hF
      refine x_callVi (st := []) C (c_X6_useAt h4) xm_X6_useAt ml_X0_39 7 rfl rfl rfl rfl rfl rfl dX0_write_12 ⟨rfl, rfl⟩ ?_
      refine x_istore (lv2 := [(4, .int o3), (0, .ref (q 14)), (1, .ref (q 7)), (2, .ref (q 4)), (3, .int x3)]) C dX0_write_15 (by decide) rfl ?_
      refine x_iload C dX0_write_17 0 rfl ?_
      refine x_bipush (v := 8) C dX0_write_19 (by decide) ?_
      refine x_icmp_ne (tgt := 36) C dX0_write_21 (by decide) (fun hc => ?_) (fun hc => ?_)
      · replace hF := ifn hc hF
        refine x_aload_n C dX0_write_36 1 rfl ?_
        refine x_aload_n C dX0_write_37 3 rfl ?_
        refine x_iload C dX0_write_38 0 rfl ?_
        obtain ⟨o5, h6, hF⟩ := bd_s hF
        refine x_callVi (st := [.ref (q 14)]) C (c_X5_formOf h6) xm_X5_formOf ml_X0_50 4 rfl rfl rfl rfl rfl rfl dX0_write_40 ⟨rfl, rfl⟩ ?_
        refine x_aload_n C dX0_write_43 2 rfl ?_
        refine x_iload_n C dX0_write_44 4 rfl ?_
        obtain ⟨o7, h8, hF⟩ := bd_s hF
        refine x_callVi (st := [.int o5, .ref (q 14)]) C (c_X6_numberAt h8) xm_X6_numberAt ml_X0_43 7 rfl rfl rfl rfl rfl rfl dX0_write_45 ⟨rfl, rfl⟩ ?_
        obtain ⟨o9, h10, hF⟩ := bd_s hF
        refine x_callVv (st := []) C (c_X0_putNumber h10) xm_X0_putNumber ml_X0_55 14 rfl rfl rfl rfl rfl rfl dX0_write_48 ⟨rfl, rfl⟩ ?_
        refine x_iinc (v := x3 + 1) (lv2 := [(3, .int (x3 + 1)), (4, .int o3), (0, .ref (q 14)), (1, .ref (q 7)), (2, .ref (q 4))]) C dX0_write_51 4 rfl rfl (by decide) rfl ?_
        refine x_goto (tgt := 2) C dX0_write_54 (by decide) ?_
        exact x_sub [2, 3, 4, 0] rfl (ih _ _ _ _ _ hF K)
      · replace hF := ifp hc hF
        refine x_aload_n C dX0_write_24 1 rfl ?_
        refine x_aload_n C dX0_write_25 2 rfl ?_
        refine x_iload_n C dX0_write_26 4 rfl ?_
        obtain ⟨o11, h12, hF⟩ := bd_s hF
        refine x_callVi (st := [.ref (q 14)]) C (c_X6_numberAt h12) xm_X6_numberAt ml_X0_43 7 rfl rfl rfl rfl rfl rfl dX0_write_27 ⟨rfl, rfl⟩ ?_
        obtain ⟨o13, h14, hF⟩ := bd_s hF
        refine x_callVv (st := []) C (c_X0_put h14) xm_X0_put ml_X0_46 14 rfl rfl rfl rfl rfl rfl dX0_write_30 ⟨rfl, rfl⟩ ?_
        refine x_goto (tgt := 51) C dX0_write_33 (by decide) ?_
        refine x_iinc (v := x3 + 1) (lv2 := [(3, .int (x3 + 1)), (4, .int o3), (0, .ref (q 14)), (1, .ref (q 7)), (2, .ref (q 4))]) C dX0_write_51 4 rfl rfl (by decide) rfl ?_
        refine x_goto (tgt := 2) C dX0_write_54 (by decide) ?_
        exact x_sub [2, 3, 4, 0] rfl (ih _ _ _ _ _ hF K)
set_option maxHeartbeats 4000000 in
set_option maxRecDepth 100000 in
theorem c_X0_write {κ : xb_k} {q : Nat → Nat} {nn : Nat} {xro : (Nat → Int64)} {xrn : (Nat → Int64)} {xfo : (Nat → Int32)} {xva : (Nat → Int32)} {xts : Int32} {xus : (Nat → Int32)} {xnu : (Nat → Int32)} {xth : Int32} {xsp : Int32} {xpr : (Nat → Int64)} {xpn : (Nat → Int64)} {xbs : Int32} {xwr : (Nat → Int32)} {xno : (Nat → Int32)} {xki : (Nat → Int32)} {xdi : (Nat → Int32)} {xde : (Nat → Int32)} {xst : (Nat → Int32)} {xta : (Nat → Int32)} {xcb : Int32} {xcd : Int32} {xbe : (Nat → Int32)} {xli : (Nat → Int32)} {xke : (Nat → Int32)} {xne : (Nat → Int64)}  {fu : Nat} {o : (Nat → Int32) × (Nat → Int32) × Int32} (hF : F_X0_write fu nn xts xus xfo xnu xbs xwr xno = some o) : Met κ.1 yX0_write [Cond.code yX0_write cX0_write 5 none] { frames := 4, cells := 0, slots := 0, locals := 93 } (xb_P κ [.ref (q 14), .ref (q 7), .ref (q 4)] (xw κ q nn xro xrn xfo xva xts xus xnu xth xsp xpr xpn xbs xwr xno xki xdi xde xst xta xcb xcd xbe xli xke xne)) (xb_Qv κ (xw κ q nn xro xrn xfo xva xts xus xnu xth xsp xpr xpn o.2.2 o.1 o.2.1 xki xdi xde xst xta xcb xcd xbe xli xke xne)) 0 0 κ.2.2.1 := by
  refine x_enter (own := RX0) (lv0 := [(0, .ref (q 14)), (1, .ref (q 7)), (2, .ref (q 4))]) (by decide) rfl rfl rfl (fun Γ C E => ?_)
  unfold F_X0_write at hF
  refine x_iconst (v := 0) C dX0_write_0 (by decide) ?_
  refine x_istore_n (lv2 := [(3, .int (0 : Int32)), (0, .ref (q 14)), (1, .ref (q 7)), (2, .ref (q 4))]) C dX0_write_1 rfl (by decide) rfl ?_
  obtain ⟨o15, h16, hF⟩ := bd_s hF
  refine x_sub [1, 2, 3, 0] rfl (w_X0_write_L2 C fu _ _ _ _ _ h16 ?_)
  cases hF
  exact x_vret C E dX0_write_57
set_option maxHeartbeats 4000000 in
set_option maxRecDepth 100000 in
theorem w_X1_writeAnew_L9 {κ : xb_k} {Γ : xb_X} {q : Nat → Nat} {nn : Nat} {xro : (Nat → Int64)} {xrn : (Nat → Int64)} {xfo : (Nat → Int32)} {xva : (Nat → Int32)} {xth : Int32} {xsp : Int32} {xpr : (Nat → Int64)} {xpn : (Nat → Int64)} {xki : (Nat → Int32)} {xdi : (Nat → Int32)} {xde : (Nat → Int32)} {xta : (Nat → Int32)} {xcb : Int32} {xcd : Int32} {xbe : (Nat → Int32)} {xli : (Nat → Int32)} {xke : (Nat → Int32)} {xne : (Nat → Int64)}  {fu : Nat} (C : xb_C κ Γ 4 cX1_writeAnew RX1 { frames := 5, cells := 0, slots := 0, locals := 117 }) : ∀ (n : Nat) (x3 : Int32) (xst : (Nat → Int32)) (xts : Int32) (xus : (Nat → Int32)) (xnu : (Nat → Int32)) (xwr : (Nat → Int32)) (xno : (Nat → Int32)) (xbs : Int32) (o : (Nat → Int32) × Int32 × (Nat → Int32) × (Nat → Int32) × (Nat → Int32) × (Nat → Int32) × Int32), F_X1_writeAnew_L9 fu nn xki xdi xpr xfo n x3 xst xts xus xnu xwr xno xbs = some o → xb_W κ Γ 4 0 0 92 [(0, .ref (q 10))] [] (xw κ q nn xro xrn xfo xva o.2.1 o.2.2.1 o.2.2.2.1 xth xsp xpr xpn o.2.2.2.2.2.2 o.2.2.2.2.1 o.2.2.2.2.2.1 xki xdi xde o.1 xta xcb xcd xbe xli xke xne) → xb_W κ Γ 4 0 0 9 [(0, .ref (q 10)), (1, .ref (q 4)), (2, .ref (q 7)), (3, .int x3)] [] (xw κ q nn xro xrn xfo xva xts xus xnu xth xsp xpr xpn xbs xwr xno xki xdi xde xst xta xcb xcd xbe xli xke xne) := by
  intro n
  induction n with
  | zero =>
    intro x3 xst xts xus xnu xwr xno xbs o hF K
    rw [F_X1_writeAnew_L9] at hF
    cases hF
  | succ n ih =>
    intro x3 xst xts xus xnu xwr xno xbs o hF K
    rw [F_X1_writeAnew_L9] at hF
    refine x_iload_n C dX1_writeAnew_9 3 rfl ?_
    refine x_aload_n C dX1_writeAnew_10 0 rfl ?_
    refine gf_X1_39 C 10 rfl rfl dX1_writeAnew_11 ?_
    refine x_alen (v := nI nn) C 17 0 rfl rfl rfl dX1_writeAnew_14 ?_
    refine x_icmp_ge (tgt := 92) C dX1_writeAnew_15 (by decide) (fun hc => ?_) (fun hc => ?_)
    · replace hF := ifp hc hF
      cases hF
      exact x_sub [0] rfl K
    · replace hF := ifn hc hF
      refine x_iload_n C dX1_writeAnew_18 3 rfl ?_
      refine x_iconst (v := 1) C dX1_writeAnew_19 (by decide) ?_
      refine x_iadd C dX1_writeAnew_20 ?_
      refine x_aload_n C dX1_writeAnew_21 0 rfl ?_
      refine gf_X1_48 C 10 rfl rfl dX1_writeAnew_22 ?_
      refine x_alen (v := nI (nn + 1)) C 20 0 rfl rfl rfl dX1_writeAnew_25 ?_
      refine x_icmp_ge (tgt := 92) C dX1_writeAnew_26 (by decide) (fun hc => ?_) (fun hc => ?_)
      · replace hF := ifp hc hF
        cases hF
        exact x_sub [0] rfl K
      · replace hF := ifn hc hF
        refine x_aload_n C dX1_writeAnew_29 0 rfl ?_
        refine gf_X1_48 C 10 rfl rfl dX1_writeAnew_30 ?_
        refine x_iload_n C dX1_writeAnew_33 3 rfl ?_
        refine x_aload_n C dX1_writeAnew_34 0 rfl ?_
        refine gf_X1_35 C 10 rfl rfl dX1_writeAnew_35 ?_
        obtain ⟨o3, h4, hF⟩ := bd_s hF
        refine x_callVi (st := [.int x3, .ref (q 20)]) C (c_X0_size h4) xm_X0_size ml_X1_108 14 rfl rfl rfl rfl rfl rfl dX1_writeAnew_38 ⟨rfl, rfl⟩ ?_
        obtain ⟨b5, hF⟩ := ck_s hF
        refine x_iast (ws2 := (xw κ q nn xro xrn xfo xva xts xus xnu xth xsp xpr xpn xbs xwr xno xki xdi xde (upd xst x3.toNatClampNeg o3) xta xcb xcd xbe xli xke xne)) C 20 rfl b5 dX1_writeAnew_41 rfl ?_
        refine x_aload_n C dX1_writeAnew_42 2 rfl ?_
        refine x_aload_n C dX1_writeAnew_43 0 rfl ?_
        refine gf_X1_28 C 10 rfl rfl dX1_writeAnew_44 ?_
        refine x_iload_n C dX1_writeAnew_47 3 rfl ?_
        refine x_aload_n C dX1_writeAnew_48 0 rfl ?_
        refine x_iload_n C dX1_writeAnew_49 3 rfl ?_
        obtain ⟨o6, h7, hF⟩ := bd_s hF
        refine x_callVi (st := [.int x3, .ref (q 11), .ref (q 7)]) C (c_X1_kindOf h7) xm_X1_kindOf ml_X1_89 10 rfl rfl rfl rfl rfl rfl dX1_writeAnew_50 ⟨rfl, rfl⟩ ?_
        refine x_aload_n C dX1_writeAnew_53 0 rfl ?_
        refine x_iload_n C dX1_writeAnew_54 3 rfl ?_
        obtain ⟨o8, h9, hF⟩ := bd_s hF
        refine x_callVi (st := [.int o6, .int x3, .ref (q 11), .ref (q 7)]) C (c_X1_distanceOf h9) xm_X1_distanceOf ml_X1_92 10 rfl rfl rfl rfl rfl rfl dX1_writeAnew_55 ⟨rfl, rfl⟩ ?_
        obtain ⟨o10, h11, hF⟩ := bd_s hF
        refine x_callVi (st := []) C (c_X6_tell_7_11 h11) xm_X6_tell ml_X1_95 7 rfl rfl rfl rfl rfl rfl dX1_writeAnew_58 ⟨rfl, rfl⟩ ?_
        refine x_pop C dX1_writeAnew_61 rfl ?_
        refine x_aload_n C dX1_writeAnew_62 0 rfl ?_
        refine gf_X1_35 C 10 rfl rfl dX1_writeAnew_63 ?_
        refine x_aload_n C dX1_writeAnew_66 2 rfl ?_
        refine x_aload_n C dX1_writeAnew_67 1 rfl ?_
        obtain ⟨o12, h13, hF⟩ := bd_s hF
        refine x_callVv (st := []) C (c_X0_write h13) xm_X0_write ml_X1_112 14 rfl rfl rfl rfl rfl rfl dX1_writeAnew_68 ⟨rfl, rfl⟩ ?_
        refine x_aload_n C dX1_writeAnew_71 0 rfl ?_
        refine gf_X1_48 C 10 rfl rfl dX1_writeAnew_72 ?_
        refine x_iload_n C dX1_writeAnew_75 3 rfl ?_
        refine x_iconst (v := 1) C dX1_writeAnew_76 (by decide) ?_
        refine x_iadd C dX1_writeAnew_77 ?_
        refine x_aload_n C dX1_writeAnew_78 0 rfl ?_
        refine gf_X1_35 C 10 rfl rfl dX1_writeAnew_79 ?_
        obtain ⟨o14, h15, hF⟩ := bd_s hF
        refine x_callVi (st := [.int (x3 + (1 : Int32)), .ref (q 20)]) C (c_X0_size h15) xm_X0_size ml_X1_108 14 rfl rfl rfl rfl rfl rfl dX1_writeAnew_82 ⟨rfl, rfl⟩ ?_
        obtain ⟨b16, hF⟩ := ck_s hF
        refine x_iast (ws2 := (xw κ q nn xro xrn xfo xva o10.2.1 o10.2.2.1 o10.2.2.2 xth xsp xpr xpn o12.2.2 o12.1 o12.2.1 xki xdi xde (upd (upd xst x3.toNatClampNeg o3) (x3 + (1 : Int32)).toNatClampNeg o14) xta xcb xcd xbe xli xke xne)) C 20 rfl b16 dX1_writeAnew_85 rfl ?_
        refine x_iinc (v := x3 + 1) (lv2 := [(3, .int (x3 + 1)), (0, .ref (q 10)), (1, .ref (q 4)), (2, .ref (q 7))]) C dX1_writeAnew_86 3 rfl rfl (by decide) rfl ?_
        refine x_goto (tgt := 9) C dX1_writeAnew_89 (by decide) ?_
        exact x_sub [1, 2, 3, 0] rfl (ih _ _ _ _ _ _ _ _ _ hF K)
set_option maxHeartbeats 4000000 in
set_option maxRecDepth 100000 in
theorem c_X1_writeAnew {κ : xb_k} {q : Nat → Nat} {nn : Nat} {xro : (Nat → Int64)} {xrn : (Nat → Int64)} {xfo : (Nat → Int32)} {xva : (Nat → Int32)} {xts : Int32} {xus : (Nat → Int32)} {xnu : (Nat → Int32)} {xth : Int32} {xsp : Int32} {xpr : (Nat → Int64)} {xpn : (Nat → Int64)} {xbs : Int32} {xwr : (Nat → Int32)} {xno : (Nat → Int32)} {xki : (Nat → Int32)} {xdi : (Nat → Int32)} {xde : (Nat → Int32)} {xst : (Nat → Int32)} {xta : (Nat → Int32)} {xcb : Int32} {xcd : Int32} {xbe : (Nat → Int32)} {xli : (Nat → Int32)} {xke : (Nat → Int32)} {xne : (Nat → Int64)}  {fu : Nat} {o : Int32 × (Nat → Int32) × (Nat → Int32) × Int32 × (Nat → Int32) × Int32 × (Nat → Int32) × (Nat → Int32)} (hF : F_X1_writeAnew fu nn xwr xno xbs xst xki xdi xpr xts xus xnu xfo = some o) : Met κ.1 yX1_writeAnew [Cond.code yX1_writeAnew cX1_writeAnew 4 (some .int)] { frames := 5, cells := 0, slots := 0, locals := 117 } (xb_P κ [.ref (q 10), .ref (q 4), .ref (q 7)] (xw κ q nn xro xrn xfo xva xts xus xnu xth xsp xpr xpn xbs xwr xno xki xdi xde xst xta xcb xcd xbe xli xke xne)) (xb_Qi κ o.1 (xw κ q nn xro xrn xfo xva o.2.2.2.2.2.1 o.2.2.2.2.2.2.1 o.2.2.2.2.2.2.2 xth xsp xpr xpn o.2.2.2.1 o.2.1 o.2.2.1 xki xdi xde o.2.2.2.2.1 xta xcb xcd xbe xli xke xne)) 0 0 κ.2.2.1 := by
  refine x_enter (own := RX1) (lv0 := [(0, .ref (q 10)), (1, .ref (q 4)), (2, .ref (q 7))]) (by decide) rfl rfl rfl (fun Γ C E => ?_)
  unfold F_X1_writeAnew at hF
  refine x_aload_n C dX1_writeAnew_0 0 rfl ?_
  refine gf_X1_35 C 10 rfl rfl dX1_writeAnew_1 ?_
  obtain ⟨o1, h2, hF⟩ := bd_s hF
  refine x_callVv (st := []) C (c_X0_clear h2) xm_X0_clear ml_X1_105 14 rfl rfl rfl rfl rfl rfl dX1_writeAnew_4 ⟨rfl, rfl⟩ ?_
  refine x_iconst (v := 0) C dX1_writeAnew_7 (by decide) ?_
  refine x_istore_n (lv2 := [(3, .int (0 : Int32)), (0, .ref (q 10)), (1, .ref (q 4)), (2, .ref (q 7))]) C dX1_writeAnew_8 rfl (by decide) rfl ?_
  obtain ⟨o17, h18, hF⟩ := bd_s hF
  refine x_sub [1, 2, 3, 0] rfl (w_X1_writeAnew_L9 C fu _ _ _ _ _ _ _ _ _ h18 ?_)
  refine x_aload_n C dX1_writeAnew_92 0 rfl ?_
  refine gf_X1_35 C 10 rfl rfl dX1_writeAnew_93 ?_
  obtain ⟨o19, h20, hF⟩ := bd_s hF
  refine x_callVi (st := []) C (c_X0_size h20) xm_X0_size ml_X1_108 14 rfl rfl rfl rfl rfl rfl dX1_writeAnew_96 ⟨rfl, rfl⟩ ?_
  cases hF
  exact x_iret C E dX1_writeAnew_99
set_option maxHeartbeats 4000000 in
set_option maxRecDepth 100000 in
theorem c_X8_pack {κ : xb_k} {q : Nat → Nat} {nn : Nat} {xro : (Nat → Int64)} {xrn : (Nat → Int64)} {xfo : (Nat → Int32)} {xva : (Nat → Int32)} {xts : Int32} {xus : (Nat → Int32)} {xnu : (Nat → Int32)} {xth : Int32} {xsp : Int32} {xpr : (Nat → Int64)} {xpn : (Nat → Int64)} {xbs : Int32} {xwr : (Nat → Int32)} {xno : (Nat → Int32)} {xki : (Nat → Int32)} {xdi : (Nat → Int32)} {xde : (Nat → Int32)} {xst : (Nat → Int32)} {xta : (Nat → Int32)} {xcb : Int32} {xcd : Int32} {xbe : (Nat → Int32)} {xli : (Nat → Int32)} {xke : (Nat → Int32)} {xne : (Nat → Int64)}  {fu : Nat} {o : Int32 × (Nat → Int64) × Int32 × (Nat → Int32) × Int32 × (Nat → Int32) × (Nat → Int32) × (Nat → Int32) × (Nat → Int32) × (Nat → Int32) × Int32 × (Nat → Int32) × (Nat → Int32) × Int32 × (Nat → Int32)} (hF : F_X8_pack fu nn xro xpr xva xsp xta xts xus xnu xfo xki xdi xde xth xwr xno xbs xst = some o) : Met κ.1 yX8_pack [Cond.code yX8_pack cX8_pack 1 (some .int)] { frames := 7, cells := 0, slots := 0, locals := 180 } (xb_P κ [.ref (q 0)] (xw κ q nn xro xrn xfo xva xts xus xnu xth xsp xpr xpn xbs xwr xno xki xdi xde xst xta xcb xcd xbe xli xke xne)) (xb_Qi κ o.1 (xw κ q nn xro xrn xfo xva o.2.2.2.2.1 o.2.2.2.2.2.1 o.2.2.2.2.2.2.1 o.2.2.2.2.2.2.2.2.2.2.1 o.2.2.1 o.2.1 xpn o.2.2.2.2.2.2.2.2.2.2.2.2.2.1 o.2.2.2.2.2.2.2.2.2.2.2.1 o.2.2.2.2.2.2.2.2.2.2.2.2.1 o.2.2.2.2.2.2.2.1 o.2.2.2.2.2.2.2.2.1 o.2.2.2.2.2.2.2.2.2.1 o.2.2.2.2.2.2.2.2.2.2.2.2.2.2 o.2.2.2.1 xcb xcd xbe xli xke xne)) 0 0 κ.2.2.1 := by
  refine x_enter (own := RX8) (lv0 := [(0, .ref (q 0))]) (by decide) rfl rfl rfl (fun Γ C E => ?_)
  unfold F_X8_pack at hF
  refine x_aload_n C dX8_pack_0 0 rfl ?_
  refine gf_X8_44 C 0 rfl rfl dX8_pack_1 ?_
  refine x_aload_n C dX8_pack_4 0 rfl ?_
  refine gf_X8_23 C 0 rfl rfl dX8_pack_5 ?_
  refine x_aload_n C dX8_pack_8 0 rfl ?_
  refine gf_X8_30 C 0 rfl rfl dX8_pack_9 ?_
  refine x_aload_n C dX8_pack_12 0 rfl ?_
  refine gf_X8_37 C 0 rfl rfl dX8_pack_13 ?_
  obtain ⟨o1, h2, hF⟩ := bd_s hF
  refine x_callVv (st := []) C (c_X1_decideAll h2) xm_X1_decideAll ml_X8_133 10 rfl rfl rfl rfl rfl rfl dX8_pack_16 ⟨rfl, rfl⟩ ?_
  refine x_aload_n C dX8_pack_19 0 rfl ?_
  refine gf_X8_44 C 0 rfl rfl dX8_pack_20 ?_
  refine x_aload_n C dX8_pack_23 0 rfl ?_
  refine gf_X8_30 C 0 rfl rfl dX8_pack_24 ?_
  refine x_aload_n C dX8_pack_27 0 rfl ?_
  refine gf_X8_37 C 0 rfl rfl dX8_pack_28 ?_
  obtain ⟨o3, h4, hF⟩ := bd_s hF
  refine x_callVi (st := []) C (c_X1_writeAnew h4) xm_X1_writeAnew ml_X8_137 10 rfl rfl rfl rfl rfl rfl dX8_pack_31 ⟨rfl, rfl⟩ ?_
  cases hF
  exact x_iret C E dX8_pack_34
set_option maxHeartbeats 4000000 in
set_option maxRecDepth 100000 in
theorem c_X1_startOf {κ : xb_k} {q : Nat → Nat} {nn : Nat} {xro : (Nat → Int64)} {xrn : (Nat → Int64)} {xfo : (Nat → Int32)} {xva : (Nat → Int32)} {xts : Int32} {xus : (Nat → Int32)} {xnu : (Nat → Int32)} {xth : Int32} {xsp : Int32} {xpr : (Nat → Int64)} {xpn : (Nat → Int64)} {xbs : Int32} {xwr : (Nat → Int32)} {xno : (Nat → Int32)} {xki : (Nat → Int32)} {xdi : (Nat → Int32)} {xde : (Nat → Int32)} {xst : (Nat → Int32)} {xta : (Nat → Int32)} {xcb : Int32} {xcd : Int32} {xbe : (Nat → Int32)} {xli : (Nat → Int32)} {xke : (Nat → Int32)} {xne : (Nat → Int64)} {x1 : Int32}  {o : Int32} (hF : F_X1_startOf nn x1 xst = some o) : Met κ.1 yX1_startOf [Cond.code yX1_startOf cX1_startOf 2 (some .int)] { frames := 1, cells := 0, slots := 0, locals := 21 } (xb_P κ [.ref (q 10), .int x1] (xw κ q nn xro xrn xfo xva xts xus xnu xth xsp xpr xpn xbs xwr xno xki xdi xde xst xta xcb xcd xbe xli xke xne)) (xb_Qi κ o (xw κ q nn xro xrn xfo xva xts xus xnu xth xsp xpr xpn xbs xwr xno xki xdi xde xst xta xcb xcd xbe xli xke xne)) 0 0 κ.2.2.1 := by
  refine x_enter (own := RX1) (lv0 := [(0, .ref (q 10)), (1, .int x1)]) (by decide) rfl rfl rfl (fun Γ C E => ?_)
  unfold F_X1_startOf at hF
  refine x_aload_n C dX1_startOf_0 0 rfl ?_
  refine gf_X1_48 C 10 rfl rfl dX1_startOf_1 ?_
  refine x_iload_n C dX1_startOf_4 1 rfl ?_
  obtain ⟨b1, hF⟩ := ck_s hF
  replace b1 := Nat.le_of_ble_eq_true b1
  refine x_callNi (st := []) C (c_element κ 20 rfl (by omega)) xm_X8_element mn_X1_51 rfl rfl rfl rfl dX1_startOf_5 ⟨rfl, rfl⟩ ?_
  cases hF
  exact x_iret C E dX1_startOf_8
set_option maxHeartbeats 4000000 in
set_option maxRecDepth 100000 in
theorem c_X8_told {κ : xb_k} {q : Nat → Nat} {nn : Nat} {xro : (Nat → Int64)} {xrn : (Nat → Int64)} {xfo : (Nat → Int32)} {xva : (Nat → Int32)} {xts : Int32} {xus : (Nat → Int32)} {xnu : (Nat → Int32)} {xth : Int32} {xsp : Int32} {xpr : (Nat → Int64)} {xpn : (Nat → Int64)} {xbs : Int32} {xwr : (Nat → Int32)} {xno : (Nat → Int32)} {xki : (Nat → Int32)} {xdi : (Nat → Int32)} {xde : (Nat → Int32)} {xst : (Nat → Int32)} {xta : (Nat → Int32)} {xcb : Int32} {xcd : Int32} {xbe : (Nat → Int32)} {xli : (Nat → Int32)} {xke : (Nat → Int32)} {xne : (Nat → Int64)} {x1 : Int32} {x2 : Int32}  {o : Int32} (hF : F_X8_told nn x1 x2 xth xki xdi xde xst = some o) : Met κ.1 yX8_told [Cond.code yX8_told cX8_told 3 (some .int)] { frames := 2, cells := 0, slots := 0, locals := 42 } (xb_P κ [.ref (q 0), .int x1, .int x2] (xw κ q nn xro xrn xfo xva xts xus xnu xth xsp xpr xpn xbs xwr xno xki xdi xde xst xta xcb xcd xbe xli xke xne)) (xb_Qi κ o (xw κ q nn xro xrn xfo xva xts xus xnu xth xsp xpr xpn xbs xwr xno xki xdi xde xst xta xcb xcd xbe xli xke xne)) 0 0 κ.2.2.1 := by
  refine x_enter (own := RX8) (lv0 := [(0, .ref (q 0)), (1, .int x1), (2, .int x2)]) (by decide) rfl rfl rfl (fun Γ C E => ?_)
  unfold F_X8_told at hF
  refine x_aload_n C dX8_told_0 0 rfl ?_
  refine gf_X8_23 C 0 rfl rfl dX8_told_1 ?_
  refine x_iload_n C dX8_told_4 1 rfl ?_
  obtain ⟨o1, h2, hF⟩ := bd_s hF
  refine x_callVi (st := []) C (c_X4_isThing h2) xm_X4_isThing ml_X8_73 1 rfl rfl rfl rfl rfl rfl dX8_told_5 ⟨rfl, rfl⟩ ?_
  refine x_if_eq (tgt := 19) C dX8_told_8 (by decide) (fun hc => ?_) (fun hc => ?_)
  · replace hF := ifp hc hF
    refine x_bipush (v := (-2)) C dX8_told_19 (by decide) ?_
    cases hF
    exact x_iret C E dX8_told_21
  · replace hF := ifn hc hF
    refine x_iload_n C dX8_told_11 2 rfl ?_
    refine x_iconst (v := 5) C dX8_told_12 (by decide) ?_
    obtain ⟨o3, h4, hF⟩ := bd_s hF
    refine x_callSi (st := []) C (c_X8_isBelow h4) xm_X8_isBelow ml_X8_89 rfl rfl rfl rfl dX8_told_13 ⟨rfl, rfl⟩ ?_
    refine x_if_ne (tgt := 22) C dX8_told_16 (by decide) (fun hc => ?_) (fun hc => ?_)
    · replace hF := ifn hc hF
      refine x_aload_n C dX8_told_22 0 rfl ?_
      refine gf_X8_44 C 0 rfl rfl dX8_told_23 ?_
      obtain ⟨o5, h6, hF⟩ := bd_s hF
      refine x_callVi (st := []) C (c_X1_isThere h6) xm_X1_isThere ml_X8_141 10 rfl rfl rfl rfl rfl rfl dX8_told_26 ⟨rfl, rfl⟩ ?_
      refine x_if_ne (tgt := 35) C dX8_told_29 (by decide) (fun hc => ?_) (fun hc => ?_)
      · replace hF := ifn hc hF
        refine x_iload_n C dX8_told_35 2 rfl ?_
        by_cases hs36_0 : x2 = 0
        · replace hF := ifp hs36_0 hF
          refine x_tswIn (off := 32) (tgt := 68) 0 C dX8_told_36 hs36_0 (by decide) (by decide) rfl (by decide) ?_
          refine x_aload_n C dX8_told_68 0 rfl ?_
          refine gf_X8_44 C 0 rfl rfl dX8_told_69 ?_
          refine x_iload_n C dX8_told_72 1 rfl ?_
          obtain ⟨o7, h8, hF⟩ := bd_s hF
          refine x_callVi (st := []) C (c_X1_kindOf h8) xm_X1_kindOf ml_X8_145 10 rfl rfl rfl rfl rfl rfl dX8_told_73 ⟨rfl, rfl⟩ ?_
          cases hF
          exact x_iret C E dX8_told_76
        · replace hF := ifn hs36_0 hF
          by_cases hs36_1 : x2 = 1
          · replace hF := ifp hs36_1 hF
            refine x_tswIn (off := 41) (tgt := 77) 1 C dX8_told_36 hs36_1 (by decide) (by decide) rfl (by decide) ?_
            refine x_aload_n C dX8_told_77 0 rfl ?_
            refine gf_X8_44 C 0 rfl rfl dX8_told_78 ?_
            refine x_iload_n C dX8_told_81 1 rfl ?_
            obtain ⟨o9, h10, hF⟩ := bd_s hF
            refine x_callVi (st := []) C (c_X1_distanceOf h10) xm_X1_distanceOf ml_X8_148 10 rfl rfl rfl rfl rfl rfl dX8_told_82 ⟨rfl, rfl⟩ ?_
            cases hF
            exact x_iret C E dX8_told_85
          · replace hF := ifn hs36_1 hF
            by_cases hs36_2 : x2 = 2
            · replace hF := ifp hs36_2 hF
              refine x_tswIn (off := 50) (tgt := 86) 2 C dX8_told_36 hs36_2 (by decide) (by decide) rfl (by decide) ?_
              refine x_aload_n C dX8_told_86 0 rfl ?_
              refine gf_X8_44 C 0 rfl rfl dX8_told_87 ?_
              refine x_iload_n C dX8_told_90 1 rfl ?_
              obtain ⟨o11, h12, hF⟩ := bd_s hF
              refine x_callVi (st := []) C (c_X1_depthOf h12) xm_X1_depthOf ml_X8_151 10 rfl rfl rfl rfl rfl rfl dX8_told_91 ⟨rfl, rfl⟩ ?_
              cases hF
              exact x_iret C E dX8_told_94
            · replace hF := ifn hs36_2 hF
              by_cases hs36_3 : x2 = 3
              · replace hF := ifp hs36_3 hF
                refine x_tswIn (off := 59) (tgt := 95) 3 C dX8_told_36 hs36_3 (by decide) (by decide) rfl (by decide) ?_
                refine x_aload_n C dX8_told_95 0 rfl ?_
                refine gf_X8_44 C 0 rfl rfl dX8_told_96 ?_
                refine x_iload_n C dX8_told_99 1 rfl ?_
                obtain ⟨o13, h14, hF⟩ := bd_s hF
                refine x_callVi (st := []) C (c_X1_startOf h14) xm_X1_startOf ml_X8_154 10 rfl rfl rfl rfl rfl rfl dX8_told_100 ⟨rfl, rfl⟩ ?_
                cases hF
                exact x_iret C E dX8_told_103
              · replace hF := ifn hs36_3 hF
                refine x_tswOut (tgt := 104) C dX8_told_36 (ts_out 3 (by decide) (fun k hk => by match k, hk with | 0, _ => exact hs36_0 | 1, _ => exact hs36_1 | 2, _ => exact hs36_2 | 3, _ => exact hs36_3 | (k + 4), hk => exact absurd hk (by omega))) (by decide) ?_
                refine x_aload_n C dX8_told_104 0 rfl ?_
                refine gf_X8_44 C 0 rfl rfl dX8_told_105 ?_
                refine x_iload_n C dX8_told_108 1 rfl ?_
                refine x_iconst (v := 1) C dX8_told_109 (by decide) ?_
                refine x_iadd C dX8_told_110 ?_
                obtain ⟨o15, h16, hF⟩ := bd_s hF
                refine x_callVi (st := []) C (c_X1_startOf h16) xm_X1_startOf ml_X8_154 10 rfl rfl rfl rfl rfl rfl dX8_told_111 ⟨rfl, rfl⟩ ?_
                refine x_aload_n C dX8_told_114 0 rfl ?_
                refine gf_X8_44 C 0 rfl rfl dX8_told_115 ?_
                refine x_iload_n C dX8_told_118 1 rfl ?_
                obtain ⟨o17, h18, hF⟩ := bd_s hF
                refine x_callVi (st := [.int o15]) C (c_X1_startOf h18) xm_X1_startOf ml_X8_154 10 rfl rfl rfl rfl rfl rfl dX8_told_119 ⟨rfl, rfl⟩ ?_
                refine x_isub C dX8_told_122 ?_
                cases hF
                exact x_iret C E dX8_told_123
      · replace hF := ifp hc hF
        refine x_bipush (v := (-3)) C dX8_told_32 (by decide) ?_
        cases hF
        exact x_iret C E dX8_told_34
    · replace hF := ifp hc hF
      refine x_bipush (v := (-2)) C dX8_told_19 (by decide) ?_
      cases hF
      exact x_iret C E dX8_told_21
set_option maxHeartbeats 4000000 in
set_option maxRecDepth 100000 in
theorem c_J9_floorMod_7cf53 {κ : xb_k} {ws : va_W}  {x0 : Int32} {x1 : Int32}  {o : Int32} (hF : F_J9_floorMod_7cf53 x0 x1 = some o) : Met κ.1 yJ9_floorMod_7cf53 [Cond.code yJ9_floorMod_7cf53 cJ9_floorMod_7cf53 3 (some .int)] { frames := 0, cells := 0, slots := 0, locals := 0 } (xb_P κ [.int x0, .int x1] ws) (xb_Qi κ o ws) 0 0 κ.2.2.1 := by
  refine x_enterF (own := RJ9) (lv0 := [(0, .int x0), (1, .int x1)]) (by decide +kernel) rfl rfl rfl (fun Γ C E => ?_)
  unfold F_J9_floorMod_7cf53 at hF
  refine x_iload_n C dJ9_floorMod_7cf53_0 0 rfl ?_
  refine x_iload_n C dJ9_floorMod_7cf53_1 1 rfl ?_
  obtain ⟨b1, hF⟩ := ck_s hF
  refine x_irem C dJ9_floorMod_7cf53_2 (nz_ne b1) ?_
  refine x_istore_n (lv2 := [(2, .int (x0 - x0 / x1 * x1)), (0, .int x0), (1, .int x1)]) C dJ9_floorMod_7cf53_3 rfl (by decide) rfl ?_
  refine x_iload_n C dJ9_floorMod_7cf53_4 1 rfl ?_
  refine x_iload_n C dJ9_floorMod_7cf53_5 2 rfl ?_
  refine x_ixor C dJ9_floorMod_7cf53_6 ?_
  refine x_if_ge (tgt := 18) C dJ9_floorMod_7cf53_7 (by decide) (fun hc => ?_) (fun hc => ?_)
  · replace hF := ifp hc hF
    refine x_iload_n C dJ9_floorMod_7cf53_18 0 rfl ?_
    cases hF
    exact x_iret C E dJ9_floorMod_7cf53_19
  · replace hF := ifn hc hF
    refine x_iload_n C dJ9_floorMod_7cf53_10 0 rfl ?_
    refine x_if_eq (tgt := 18) C dJ9_floorMod_7cf53_11 (by decide) (fun hc => ?_) (fun hc => ?_)
    · replace hF := ifp hc hF
      refine x_iload_n C dJ9_floorMod_7cf53_18 0 rfl ?_
      cases hF
      exact x_iret C E dJ9_floorMod_7cf53_19
    · replace hF := ifn hc hF
      refine x_iload_n C dJ9_floorMod_7cf53_14 0 rfl ?_
      refine x_iload_n C dJ9_floorMod_7cf53_15 2 rfl ?_
      refine x_iadd C dJ9_floorMod_7cf53_16 ?_
      cases hF
      exact x_iret C E dJ9_floorMod_7cf53_17
set_option maxHeartbeats 4000000 in
set_option maxRecDepth 100000 in
theorem w_X1_bitsToRead_L7 {κ : xb_k} {Γ : xb_X} {q : Nat → Nat} {nn : Nat} {xro : (Nat → Int64)} {xrn : (Nat → Int64)} {xfo : (Nat → Int32)} {xva : (Nat → Int32)} {xts : Int32} {xus : (Nat → Int32)} {xnu : (Nat → Int32)} {xth : Int32} {xsp : Int32} {xpr : (Nat → Int64)} {xpn : (Nat → Int64)} {xbs : Int32} {xwr : (Nat → Int32)} {xno : (Nat → Int32)} {xki : (Nat → Int32)} {xdi : (Nat → Int32)} {xde : (Nat → Int32)} {xst : (Nat → Int32)} {xta : (Nat → Int32)} {xcb : Int32} {xcd : Int32} {xbe : (Nat → Int32)} {xli : (Nat → Int32)} {xke : (Nat → Int32)} {xne : (Nat → Int64)}   (C : xb_C κ Γ 5 cX1_bitsToRead RX1 { frames := 2, cells := 0, slots := 0, locals := 42 }) : ∀ (n : Nat) (x2 : Int32) (x3 : Int32) (x4 : Int32) (o : Int32), F_X1_bitsToRead_L7 nn xst xsp xki xdi n x2 x3 x4 = some o → xb_W κ Γ 5 0 0 70 [(2, .int o)] [] (xw κ q nn xro xrn xfo xva xts xus xnu xth xsp xpr xpn xbs xwr xno xki xdi xde xst xta xcb xcd xbe xli xke xne) → xb_W κ Γ 5 0 0 7 [(0, .ref (q 10)), (2, .int x2), (3, .int x3), (4, .int x4)] [] (xw κ q nn xro xrn xfo xva xts xus xnu xth xsp xpr xpn xbs xwr xno xki xdi xde xst xta xcb xcd xbe xli xke xne) := by
  intro n
  induction n with
  | zero =>
    intro x2 x3 x4 o hF K
    rw [F_X1_bitsToRead_L7] at hF
    cases hF
  | succ n ih =>
    intro x2 x3 x4 o hF K
    rw [F_X1_bitsToRead_L7] at hF
    refine x_iload C dX1_bitsToRead_7 3 rfl ?_
    refine x_iconst (v := 5) C dX1_bitsToRead_9 (by decide) ?_
    refine x_icmp_gt (tgt := 70) C dX1_bitsToRead_10 (by decide) (fun hc => ?_) (fun hc => ?_)
    · replace hF := ifp hc hF
      cases hF
      exact x_sub [1] rfl K
    · replace hF := ifn hc hF
      refine x_iload_n C dX1_bitsToRead_13 1 rfl ?_
      refine x_aload_n C dX1_bitsToRead_14 0 rfl ?_
      refine x_iload_n C dX1_bitsToRead_15 2 rfl ?_
      refine x_iconst (v := 1) C dX1_bitsToRead_16 (by decide) ?_
      refine x_iadd C dX1_bitsToRead_17 ?_
      obtain ⟨o1, h2, hF⟩ := bd_s hF
      refine x_callVi (st := [.int x2]) C (c_X1_startOf h2) xm_X1_startOf ml_X1_122 10 rfl rfl rfl rfl rfl rfl dX1_bitsToRead_18 ⟨rfl, rfl⟩ ?_
      refine x_aload_n C dX1_bitsToRead_21 0 rfl ?_
      refine x_iload_n C dX1_bitsToRead_22 2 rfl ?_
      refine x_iload_n C dX1_bitsToRead_23 2 rfl ?_
      refine x_iconst (v := 1) C dX1_bitsToRead_24 (by decide) ?_
      refine x_aload_n C dX1_bitsToRead_25 0 rfl ?_
      refine gf_X1_19 C 10 rfl rfl dX1_bitsToRead_26 ?_
      obtain ⟨o3, h4, hF⟩ := bd_s hF
      refine x_callSi (st := [.int x3, .int x3, .ref (q 10), .int o1, .int x2]) C (c_J9_max_7cf53 h4) xm_J9_max_7cf53 ml_X1_73 rfl rfl rfl rfl dX1_bitsToRead_29 ⟨rfl, rfl⟩ ?_
      obtain ⟨o5, h6, hF⟩ := bd_s hF
      refine x_callSi (st := [.int x3, .ref (q 10), .int o1, .int x2]) C (c_J9_floorMod_7cf53 h6) xm_J9_floorMod_7cf53 ml_X1_125 rfl rfl rfl rfl dX1_bitsToRead_32 ⟨rfl, rfl⟩ ?_
      refine x_isub C dX1_bitsToRead_35 ?_
      obtain ⟨o7, h8, hF⟩ := bd_s hF
      refine x_callVi (st := [.int o1, .int x2]) C (c_X1_startOf h8) xm_X1_startOf ml_X1_122 10 rfl rfl rfl rfl rfl rfl dX1_bitsToRead_36 ⟨rfl, rfl⟩ ?_
      refine x_isub C dX1_bitsToRead_39 ?_
      refine x_iadd C dX1_bitsToRead_40 ?_
      refine x_istore_n (lv2 := [(2, .int (x2 + (o1 - o7))), (0, .ref (q 10)), (3, .int x3), (4, .int x4)]) C dX1_bitsToRead_41 rfl (by decide) rfl ?_
      refine x_aload_n C dX1_bitsToRead_42 1 rfl ?_
      refine x_iload_n C dX1_bitsToRead_43 2 rfl ?_
      obtain ⟨o9, h10, hF⟩ := bd_s hF
      refine x_callVi (st := []) C (c_X1_kindOf h10) xm_X1_kindOf ml_X1_89 10 rfl rfl rfl rfl rfl rfl dX1_bitsToRead_44 ⟨rfl, rfl⟩ ?_
      obtain ⟨o11, h12, hF⟩ := bd_s hF
      refine x_callNi (st := []) C (c_X8_isCopy h12) xm_X8_isCopy mn_X1_128 rfl rfl rfl rfl dX1_bitsToRead_47 ⟨rfl, rfl⟩ ?_
      refine x_if_ne (tgt := 56) C dX1_bitsToRead_50 (by decide) (fun hc => ?_) (fun hc => ?_)
      · replace hF := ifn hc hF
        refine x_iload_n C dX1_bitsToRead_56 2 rfl ?_
        refine x_aload_n C dX1_bitsToRead_57 1 rfl ?_
        refine x_iload_n C dX1_bitsToRead_58 2 rfl ?_
        obtain ⟨o13, h14, hF⟩ := bd_s hF
        refine x_callVi (st := [.int x3]) C (c_X1_distanceOf h14) xm_X1_distanceOf ml_X1_92 10 rfl rfl rfl rfl rfl rfl dX1_bitsToRead_59 ⟨rfl, rfl⟩ ?_
        refine x_isub C dX1_bitsToRead_62 ?_
        refine x_istore_n (lv2 := [(3, .int (x3 - o13)), (2, .int (x2 + (o1 - o7))), (0, .ref (q 10)), (4, .int x4)]) C dX1_bitsToRead_63 rfl (by decide) rfl ?_
        refine x_iinc (v := x4 + 1) (lv2 := [(4, .int (x4 + 1)), (3, .int (x3 - o13)), (2, .int (x2 + (o1 - o7))), (0, .ref (q 10))]) C dX1_bitsToRead_64 3 rfl rfl (by decide) rfl ?_
        refine x_goto (tgt := 7) C dX1_bitsToRead_67 (by decide) ?_
        exact x_sub [3, 2, 1, 0] rfl (ih _ _ _ _ hF K)
      · replace hF := ifp hc hF
        refine x_goto (tgt := 70) C dX1_bitsToRead_53 (by decide) ?_
        cases hF
        exact x_sub [0] rfl K
set_option maxHeartbeats 4000000 in
set_option maxRecDepth 100000 in
theorem c_X1_bitsToRead {κ : xb_k} {q : Nat → Nat} {nn : Nat} {xro : (Nat → Int64)} {xrn : (Nat → Int64)} {xfo : (Nat → Int32)} {xva : (Nat → Int32)} {xts : Int32} {xus : (Nat → Int32)} {xnu : (Nat → Int32)} {xth : Int32} {xsp : Int32} {xpr : (Nat → Int64)} {xpn : (Nat → Int64)} {xbs : Int32} {xwr : (Nat → Int32)} {xno : (Nat → Int32)} {xki : (Nat → Int32)} {xdi : (Nat → Int32)} {xde : (Nat → Int32)} {xst : (Nat → Int32)} {xta : (Nat → Int32)} {xcb : Int32} {xcd : Int32} {xbe : (Nat → Int32)} {xli : (Nat → Int32)} {xke : (Nat → Int32)} {xne : (Nat → Int64)} {x1 : Int32} {fu : Nat} {o : Int32} (hF : F_X1_bitsToRead fu nn x1 xst xsp xki xdi = some o) : Met κ.1 yX1_bitsToRead [Cond.code yX1_bitsToRead cX1_bitsToRead 5 (some .int)] { frames := 2, cells := 0, slots := 0, locals := 42 } (xb_P κ [.ref (q 10), .int x1] (xw κ q nn xro xrn xfo xva xts xus xnu xth xsp xpr xpn xbs xwr xno xki xdi xde xst xta xcb xcd xbe xli xke xne)) (xb_Qi κ o (xw κ q nn xro xrn xfo xva xts xus xnu xth xsp xpr xpn xbs xwr xno xki xdi xde xst xta xcb xcd xbe xli xke xne)) 0 0 κ.2.2.1 := by
  refine x_enter (own := RX1) (lv0 := [(0, .ref (q 10)), (1, .int x1)]) (by decide) rfl rfl rfl (fun Γ C E => ?_)
  unfold F_X1_bitsToRead at hF
  refine x_iconst (v := 0) C dX1_bitsToRead_0 (by decide) ?_
  refine x_istore_n (lv2 := [(2, .int (0 : Int32)), (0, .ref (q 10)), (1, .int x1)]) C dX1_bitsToRead_1 rfl (by decide) rfl ?_
  refine x_iload_n C dX1_bitsToRead_2 2 rfl ?_
  refine x_istore_n (lv2 := [(3, .int x1), (2, .int (0 : Int32)), (0, .ref (q 10)), (1, .int x1)]) C dX1_bitsToRead_3 rfl (by decide) rfl ?_
  refine x_iconst (v := 0) C dX1_bitsToRead_4 (by decide) ?_
  refine x_istore (lv2 := [(4, .int (0 : Int32)), (3, .int x1), (2, .int (0 : Int32)), (0, .ref (q 10)), (1, .int x1)]) C dX1_bitsToRead_5 (by decide) rfl ?_
  obtain ⟨o15, h16, hF⟩ := bd_s hF
  refine x_sub [3, 2, 1, 0] rfl (w_X1_bitsToRead_L7 C fu _ _ _ _ h16 ?_)
  refine x_iload_n C dX1_bitsToRead_70 0 rfl ?_
  cases hF
  exact x_iret C E dX1_bitsToRead_71
set_option maxHeartbeats 4000000 in
set_option maxRecDepth 100000 in
theorem c_X8_looked {κ : xb_k} {q : Nat → Nat} {nn : Nat} {xro : (Nat → Int64)} {xrn : (Nat → Int64)} {xfo : (Nat → Int32)} {xva : (Nat → Int32)} {xts : Int32} {xus : (Nat → Int32)} {xnu : (Nat → Int32)} {xth : Int32} {xsp : Int32} {xpr : (Nat → Int64)} {xpn : (Nat → Int64)} {xbs : Int32} {xwr : (Nat → Int32)} {xno : (Nat → Int32)} {xki : (Nat → Int32)} {xdi : (Nat → Int32)} {xde : (Nat → Int32)} {xst : (Nat → Int32)} {xta : (Nat → Int32)} {xcb : Int32} {xcd : Int32} {xbe : (Nat → Int32)} {xli : (Nat → Int32)} {xke : (Nat → Int32)} {xne : (Nat → Int64)} {x1 : Int32} {fu : Nat} {o : Int32} (hF : F_X8_looked fu nn x1 xth xst xsp xki xdi = some o) : Met κ.1 yX8_looked [Cond.code yX8_looked cX8_looked 2 (some .int)] { frames := 3, cells := 0, slots := 0, locals := 66 } (xb_P κ [.ref (q 0), .int x1] (xw κ q nn xro xrn xfo xva xts xus xnu xth xsp xpr xpn xbs xwr xno xki xdi xde xst xta xcb xcd xbe xli xke xne)) (xb_Qi κ o (xw κ q nn xro xrn xfo xva xts xus xnu xth xsp xpr xpn xbs xwr xno xki xdi xde xst xta xcb xcd xbe xli xke xne)) 0 0 κ.2.2.1 := by
  refine x_enter (own := RX8) (lv0 := [(0, .ref (q 0)), (1, .int x1)]) (by decide) rfl rfl rfl (fun Γ C E => ?_)
  unfold F_X8_looked at hF
  refine x_aload_n C dX8_looked_0 0 rfl ?_
  refine gf_X8_23 C 0 rfl rfl dX8_looked_1 ?_
  refine x_iload_n C dX8_looked_4 1 rfl ?_
  obtain ⟨o1, h2, hF⟩ := bd_s hF
  refine x_callVi (st := []) C (c_X4_isThing h2) xm_X4_isThing ml_X8_73 1 rfl rfl rfl rfl rfl rfl dX8_looked_5 ⟨rfl, rfl⟩ ?_
  refine x_if_ne (tgt := 14) C dX8_looked_8 (by decide) (fun hc => ?_) (fun hc => ?_)
  · replace hF := ifn hc hF
    refine x_aload_n C dX8_looked_14 0 rfl ?_
    refine gf_X8_44 C 0 rfl rfl dX8_looked_15 ?_
    obtain ⟨o3, h4, hF⟩ := bd_s hF
    refine x_callVi (st := []) C (c_X1_isThere h4) xm_X1_isThere ml_X8_141 10 rfl rfl rfl rfl rfl rfl dX8_looked_18 ⟨rfl, rfl⟩ ?_
    refine x_if_eq (tgt := 35) C dX8_looked_21 (by decide) (fun hc => ?_) (fun hc => ?_)
    · replace hF := ifp hc hF
      refine x_bipush (v := (-3)) C dX8_looked_35 (by decide) ?_
      cases hF
      exact x_iret C E dX8_looked_37
    · replace hF := ifn hc hF
      refine x_aload_n C dX8_looked_24 0 rfl ?_
      refine gf_X8_44 C 0 rfl rfl dX8_looked_25 ?_
      refine x_iload_n C dX8_looked_28 1 rfl ?_
      obtain ⟨o5, h6, hF⟩ := bd_s hF
      refine x_callVi (st := []) C (c_X1_bitsToRead h6) xm_X1_bitsToRead ml_X8_157 10 rfl rfl rfl rfl rfl rfl dX8_looked_29 ⟨rfl, rfl⟩ ?_
      refine x_goto (tgt := 37) C dX8_looked_32 (by decide) ?_
      cases hF
      exact x_iret C E dX8_looked_37
  · replace hF := ifp hc hF
    refine x_bipush (v := (-2)) C dX8_looked_11 (by decide) ?_
    cases hF
    exact x_iret C E dX8_looked_13
set_option maxHeartbeats 4000000 in
set_option maxRecDepth 100000 in
theorem w_X1_bitsOfUse_L5 {κ : xb_k} {Γ : xb_X} {q : Nat → Nat} {nn : Nat} {xro : (Nat → Int64)} {xrn : (Nat → Int64)} {xfo : (Nat → Int32)} {xva : (Nat → Int32)} {xts : Int32} {xus : (Nat → Int32)} {xnu : (Nat → Int32)} {xth : Int32} {xsp : Int32} {xpr : (Nat → Int64)} {xpn : (Nat → Int64)} {xbs : Int32} {xwr : (Nat → Int32)} {xno : (Nat → Int32)} {xki : (Nat → Int32)} {xdi : (Nat → Int32)} {xde : (Nat → Int32)} {xst : (Nat → Int32)} {xta : (Nat → Int32)} {xcb : Int32} {xcd : Int32} {xbe : (Nat → Int32)} {xli : (Nat → Int32)} {xke : (Nat → Int32)} {xne : (Nat → Int64)} {x1 : Int32} {x2 : Int32} {fu : Nat} (C : xb_C κ Γ 5 cX1_bitsOfUse RX1 { frames := 2, cells := 0, slots := 0, locals := 44 }) : ∀ (n : Nat) (x3 : Int32) (x4 : Int32) (o : Int32), F_X1_bitsOfUse_L5 fu x1 x2 xta n x3 x4 = some o → xb_W κ Γ 5 0 0 42 [(3, .int o)] [] (xw κ q nn xro xrn xfo xva xts xus xnu xth xsp xpr xpn xbs xwr xno xki xdi xde xst xta xcb xcd xbe xli xke xne) → xb_W κ Γ 5 0 0 5 [(0, .ref (q 10)), (1, .int x1), (2, .int x2), (3, .int x3), (4, .int x4)] [] (xw κ q nn xro xrn xfo xva xts xus xnu xth xsp xpr xpn xbs xwr xno xki xdi xde xst xta xcb xcd xbe xli xke xne) := by
  intro n
  induction n with
  | zero =>
    intro x3 x4 o hF K
    rw [F_X1_bitsOfUse_L5] at hF
    cases hF
  | succ n ih =>
    intro x3 x4 o hF K
    rw [F_X1_bitsOfUse_L5] at hF
    refine x_iload C dX1_bitsOfUse_5 4 rfl ?_
    refine x_bipush (v := 96) C dX1_bitsOfUse_7 (by decide) ?_
    refine x_icmp_ge (tgt := 42) C dX1_bitsOfUse_9 (by decide) (fun hc => ?_) (fun hc => ?_)
    · replace hF := ifp hc hF
      cases hF
      exact x_sub [3] rfl K
    · replace hF := ifn hc hF
      refine x_iload_n C dX1_bitsOfUse_12 3 rfl ?_
      refine x_aload_n C dX1_bitsOfUse_13 0 rfl ?_
      refine gf_X1_11 C 10 rfl rfl dX1_bitsOfUse_14 ?_
      refine x_iload_n C dX1_bitsOfUse_17 1 rfl ?_
      refine x_bipush (v := 96) C dX1_bitsOfUse_18 (by decide) ?_
      refine x_imul C dX1_bitsOfUse_20 ?_
      refine x_iload C dX1_bitsOfUse_21 4 rfl ?_
      refine x_iadd C dX1_bitsOfUse_23 ?_
      refine x_callNi (st := [.int x3]) C (c_element κ 21 rfl (by decide)) xm_X8_element mn_X1_51 rfl rfl rfl rfl dX1_bitsOfUse_24 ⟨rfl, rfl⟩ ?_
      refine x_iload_n C dX1_bitsOfUse_27 2 rfl ?_
      refine x_iload C dX1_bitsOfUse_28 4 rfl ?_
      obtain ⟨o1, h2, hF⟩ := bd_s hF
      refine x_callNi (st := [.int (el 768 xta ((x1 * (96 : Int32)) + x4)), .int x3]) C (c_X8_bitsIn h2) xm_X8_bitsIn mn_X1_116 rfl rfl rfl rfl dX1_bitsOfUse_30 ⟨rfl, rfl⟩ ?_
      refine x_imul C dX1_bitsOfUse_33 ?_
      refine x_iadd C dX1_bitsOfUse_34 ?_
      refine x_istore_n (lv2 := [(3, .int (x3 + ((el 768 xta ((x1 * (96 : Int32)) + x4)) * o1))), (0, .ref (q 10)), (1, .int x1), (2, .int x2), (4, .int x4)]) C dX1_bitsOfUse_35 rfl (by decide) rfl ?_
      refine x_iinc (v := x4 + 1) (lv2 := [(4, .int (x4 + 1)), (3, .int (x3 + ((el 768 xta ((x1 * (96 : Int32)) + x4)) * o1))), (0, .ref (q 10)), (1, .int x1), (2, .int x2)]) C dX1_bitsOfUse_36 4 rfl rfl (by decide) rfl ?_
      refine x_goto (tgt := 5) C dX1_bitsOfUse_39 (by decide) ?_
      exact x_sub [2, 3, 4, 1, 0] rfl (ih _ _ _ hF K)
set_option maxHeartbeats 4000000 in
set_option maxRecDepth 100000 in
theorem c_X1_bitsOfUse {κ : xb_k} {q : Nat → Nat} {nn : Nat} {xro : (Nat → Int64)} {xrn : (Nat → Int64)} {xfo : (Nat → Int32)} {xva : (Nat → Int32)} {xts : Int32} {xus : (Nat → Int32)} {xnu : (Nat → Int32)} {xth : Int32} {xsp : Int32} {xpr : (Nat → Int64)} {xpn : (Nat → Int64)} {xbs : Int32} {xwr : (Nat → Int32)} {xno : (Nat → Int32)} {xki : (Nat → Int32)} {xdi : (Nat → Int32)} {xde : (Nat → Int32)} {xst : (Nat → Int32)} {xta : (Nat → Int32)} {xcb : Int32} {xcd : Int32} {xbe : (Nat → Int32)} {xli : (Nat → Int32)} {xke : (Nat → Int32)} {xne : (Nat → Int64)} {x1 : Int32} {x2 : Int32} {fu : Nat} {o : Int32} (hF : F_X1_bitsOfUse fu x1 x2 xta = some o) : Met κ.1 yX1_bitsOfUse [Cond.code yX1_bitsOfUse cX1_bitsOfUse 5 (some .int)] { frames := 2, cells := 0, slots := 0, locals := 44 } (xb_P κ [.ref (q 10), .int x1, .int x2] (xw κ q nn xro xrn xfo xva xts xus xnu xth xsp xpr xpn xbs xwr xno xki xdi xde xst xta xcb xcd xbe xli xke xne)) (xb_Qi κ o (xw κ q nn xro xrn xfo xva xts xus xnu xth xsp xpr xpn xbs xwr xno xki xdi xde xst xta xcb xcd xbe xli xke xne)) 0 0 κ.2.2.1 := by
  refine x_enter (own := RX1) (lv0 := [(0, .ref (q 10)), (1, .int x1), (2, .int x2)]) (by decide) rfl rfl rfl (fun Γ C E => ?_)
  unfold F_X1_bitsOfUse at hF
  refine x_iconst (v := 0) C dX1_bitsOfUse_0 (by decide) ?_
  refine x_istore_n (lv2 := [(3, .int (0 : Int32)), (0, .ref (q 10)), (1, .int x1), (2, .int x2)]) C dX1_bitsOfUse_1 rfl (by decide) rfl ?_
  refine x_iconst (v := 0) C dX1_bitsOfUse_2 (by decide) ?_
  refine x_istore (lv2 := [(4, .int (0 : Int32)), (3, .int (0 : Int32)), (0, .ref (q 10)), (1, .int x1), (2, .int x2)]) C dX1_bitsOfUse_3 (by decide) rfl ?_
  obtain ⟨o3, h4, hF⟩ := bd_s hF
  refine x_sub [2, 3, 4, 1, 0] rfl (w_X1_bitsOfUse_L5 C fu _ _ _ h4 ?_)
  refine x_iload_n C dX1_bitsOfUse_42 0 rfl ?_
  cases hF
  exact x_iret C E dX1_bitsOfUse_43
set_option maxHeartbeats 4000000 in
set_option maxRecDepth 100000 in
theorem c_X8_would {κ : xb_k} {q : Nat → Nat} {nn : Nat} {xro : (Nat → Int64)} {xrn : (Nat → Int64)} {xfo : (Nat → Int32)} {xva : (Nat → Int32)} {xts : Int32} {xus : (Nat → Int32)} {xnu : (Nat → Int32)} {xth : Int32} {xsp : Int32} {xpr : (Nat → Int64)} {xpn : (Nat → Int64)} {xbs : Int32} {xwr : (Nat → Int32)} {xno : (Nat → Int32)} {xki : (Nat → Int32)} {xdi : (Nat → Int32)} {xde : (Nat → Int32)} {xst : (Nat → Int32)} {xta : (Nat → Int32)} {xcb : Int32} {xcd : Int32} {xbe : (Nat → Int32)} {xli : (Nat → Int32)} {xke : (Nat → Int32)} {xne : (Nat → Int64)} {x1 : Int32} {x2 : Int32} {fu : Nat} {o : Int32} (hF : F_X8_would fu x1 x2 xth xta = some o) : Met κ.1 yX8_would [Cond.code yX8_would cX8_would 3 (some .int)] { frames := 3, cells := 0, slots := 0, locals := 68 } (xb_P κ [.ref (q 0), .int x1, .int x2] (xw κ q nn xro xrn xfo xva xts xus xnu xth xsp xpr xpn xbs xwr xno xki xdi xde xst xta xcb xcd xbe xli xke xne)) (xb_Qi κ o (xw κ q nn xro xrn xfo xva xts xus xnu xth xsp xpr xpn xbs xwr xno xki xdi xde xst xta xcb xcd xbe xli xke xne)) 0 0 κ.2.2.1 := by
  refine x_enter (own := RX8) (lv0 := [(0, .ref (q 0)), (1, .int x1), (2, .int x2)]) (by decide) rfl rfl rfl (fun Γ C E => ?_)
  unfold F_X8_would at hF
  refine x_iload_n C dX8_would_0 1 rfl ?_
  refine x_bipush (v := 8) C dX8_would_1 (by decide) ?_
  obtain ⟨o1, h2, hF⟩ := bd_s hF
  refine x_callSi (st := []) C (c_X8_isBelow h2) xm_X8_isBelow ml_X8_89 rfl rfl rfl rfl dX8_would_3 ⟨rfl, rfl⟩ ?_
  refine x_if_eq (tgt := 18) C dX8_would_6 (by decide) (fun hc => ?_) (fun hc => ?_)
  · replace hF := ifp hc hF
    refine x_bipush (v := (-2)) C dX8_would_18 (by decide) ?_
    cases hF
    exact x_iret C E dX8_would_20
  · replace hF := ifn hc hF
    refine x_iload_n C dX8_would_9 2 rfl ?_
    refine x_bipush (v := 10) C dX8_would_10 (by decide) ?_
    obtain ⟨o3, h4, hF⟩ := bd_s hF
    refine x_callSi (st := []) C (c_X8_isBelow h4) xm_X8_isBelow ml_X8_89 rfl rfl rfl rfl dX8_would_12 ⟨rfl, rfl⟩ ?_
    refine x_if_ne (tgt := 21) C dX8_would_15 (by decide) (fun hc => ?_) (fun hc => ?_)
    · replace hF := ifn hc hF
      refine x_aload_n C dX8_would_21 0 rfl ?_
      refine gf_X8_44 C 0 rfl rfl dX8_would_22 ?_
      obtain ⟨o5, h6, hF⟩ := bd_s hF
      refine x_callVi (st := []) C (c_X1_isThere h6) xm_X1_isThere ml_X8_141 10 rfl rfl rfl rfl rfl rfl dX8_would_25 ⟨rfl, rfl⟩ ?_
      refine x_if_eq (tgt := 43) C dX8_would_28 (by decide) (fun hc => ?_) (fun hc => ?_)
      · replace hF := ifp hc hF
        refine x_bipush (v := (-3)) C dX8_would_43 (by decide) ?_
        cases hF
        exact x_iret C E dX8_would_45
      · replace hF := ifn hc hF
        refine x_aload_n C dX8_would_31 0 rfl ?_
        refine gf_X8_44 C 0 rfl rfl dX8_would_32 ?_
        refine x_iload_n C dX8_would_35 1 rfl ?_
        refine x_iload_n C dX8_would_36 2 rfl ?_
        obtain ⟨o7, h8, hF⟩ := bd_s hF
        refine x_callVi (st := []) C (c_X1_bitsOfUse h8) xm_X1_bitsOfUse ml_X8_160 10 rfl rfl rfl rfl rfl rfl dX8_would_37 ⟨rfl, rfl⟩ ?_
        refine x_goto (tgt := 45) C dX8_would_40 (by decide) ?_
        cases hF
        exact x_iret C E dX8_would_45
    · replace hF := ifp hc hF
      refine x_bipush (v := (-2)) C dX8_would_18 (by decide) ?_
      cases hF
      exact x_iret C E dX8_would_20
set_option maxHeartbeats 4000000 in
set_option maxRecDepth 100000 in
theorem w_X1_cheapestForm_L4 {κ : xb_k} {Γ : xb_X} {q : Nat → Nat} {nn : Nat} {xro : (Nat → Int64)} {xrn : (Nat → Int64)} {xfo : (Nat → Int32)} {xva : (Nat → Int32)} {xts : Int32} {xus : (Nat → Int32)} {xnu : (Nat → Int32)} {xth : Int32} {xsp : Int32} {xpr : (Nat → Int64)} {xpn : (Nat → Int64)} {xbs : Int32} {xwr : (Nat → Int32)} {xno : (Nat → Int32)} {xki : (Nat → Int32)} {xdi : (Nat → Int32)} {xde : (Nat → Int32)} {xst : (Nat → Int32)} {xta : (Nat → Int32)} {xcb : Int32} {xcd : Int32} {xbe : (Nat → Int32)} {xli : (Nat → Int32)} {xke : (Nat → Int32)} {xne : (Nat → Int64)} {x1 : Int32} {fu : Nat} (C : xb_C κ Γ 4 cX1_cheapestForm RX1 { frames := 3, cells := 0, slots := 0, locals := 68 }) : ∀ (n : Nat) (x2 : Int32) (x3 : Int32) (o : Int32), F_X1_cheapestForm_L4 fu x1 xta n x2 x3 = some o → xb_W κ Γ 4 0 0 33 [(2, .int o)] [] (xw κ q nn xro xrn xfo xva xts xus xnu xth xsp xpr xpn xbs xwr xno xki xdi xde xst xta xcb xcd xbe xli xke xne) → xb_W κ Γ 4 0 0 4 [(0, .ref (q 10)), (1, .int x1), (2, .int x2), (3, .int x3)] [] (xw κ q nn xro xrn xfo xva xts xus xnu xth xsp xpr xpn xbs xwr xno xki xdi xde xst xta xcb xcd xbe xli xke xne) := by
  intro n
  induction n with
  | zero =>
    intro x2 x3 o hF K
    rw [F_X1_cheapestForm_L4] at hF
    cases hF
  | succ n ih =>
    intro x2 x3 o hF K
    rw [F_X1_cheapestForm_L4] at hF
    refine x_iload_n C dX1_cheapestForm_4 3 rfl ?_
    refine x_bipush (v := 10) C dX1_cheapestForm_5 (by decide) ?_
    refine x_icmp_ge (tgt := 33) C dX1_cheapestForm_7 (by decide) (fun hc => ?_) (fun hc => ?_)
    · replace hF := ifp hc hF
      cases hF
      exact x_sub [2] rfl K
    · replace hF := ifn hc hF
      refine x_aload_n C dX1_cheapestForm_10 0 rfl ?_
      refine x_iload_n C dX1_cheapestForm_11 1 rfl ?_
      refine x_iload_n C dX1_cheapestForm_12 3 rfl ?_
      obtain ⟨o1, h2, hF⟩ := bd_s hF
      refine x_callVi (st := []) C (c_X1_bitsOfUse h2) xm_X1_bitsOfUse ml_X1_119 10 rfl rfl rfl rfl rfl rfl dX1_cheapestForm_13 ⟨rfl, rfl⟩ ?_
      refine x_aload_n C dX1_cheapestForm_16 0 rfl ?_
      refine x_iload_n C dX1_cheapestForm_17 1 rfl ?_
      refine x_iload_n C dX1_cheapestForm_18 2 rfl ?_
      obtain ⟨o3, h4, hF⟩ := bd_s hF
      refine x_callVi (st := [.int o1]) C (c_X1_bitsOfUse h4) xm_X1_bitsOfUse ml_X1_119 10 rfl rfl rfl rfl rfl rfl dX1_cheapestForm_19 ⟨rfl, rfl⟩ ?_
      refine x_icmp_ge (tgt := 27) C dX1_cheapestForm_22 (by decide) (fun hc => ?_) (fun hc => ?_)
      · replace hF := ifp hc hF
        refine x_iinc (v := x3 + 1) (lv2 := [(3, .int (x3 + 1)), (0, .ref (q 10)), (1, .int x1), (2, .int x2)]) C dX1_cheapestForm_27 3 rfl rfl (by decide) rfl ?_
        refine x_goto (tgt := 4) C dX1_cheapestForm_30 (by decide) ?_
        exact x_sub [1, 2, 3, 0] rfl (ih _ _ _ hF K)
      · replace hF := ifn hc hF
        refine x_iload_n C dX1_cheapestForm_25 3 rfl ?_
        refine x_istore_n (lv2 := [(2, .int x3), (0, .ref (q 10)), (1, .int x1), (3, .int x3)]) C dX1_cheapestForm_26 rfl (by decide) rfl ?_
        refine x_iinc (v := x3 + 1) (lv2 := [(3, .int (x3 + 1)), (2, .int x3), (0, .ref (q 10)), (1, .int x1)]) C dX1_cheapestForm_27 3 rfl rfl (by decide) rfl ?_
        refine x_goto (tgt := 4) C dX1_cheapestForm_30 (by decide) ?_
        exact x_sub [2, 3, 1, 0] rfl (ih _ _ _ hF K)
set_option maxHeartbeats 4000000 in
set_option maxRecDepth 100000 in
theorem c_X1_cheapestForm {κ : xb_k} {q : Nat → Nat} {nn : Nat} {xro : (Nat → Int64)} {xrn : (Nat → Int64)} {xfo : (Nat → Int32)} {xva : (Nat → Int32)} {xts : Int32} {xus : (Nat → Int32)} {xnu : (Nat → Int32)} {xth : Int32} {xsp : Int32} {xpr : (Nat → Int64)} {xpn : (Nat → Int64)} {xbs : Int32} {xwr : (Nat → Int32)} {xno : (Nat → Int32)} {xki : (Nat → Int32)} {xdi : (Nat → Int32)} {xde : (Nat → Int32)} {xst : (Nat → Int32)} {xta : (Nat → Int32)} {xcb : Int32} {xcd : Int32} {xbe : (Nat → Int32)} {xli : (Nat → Int32)} {xke : (Nat → Int32)} {xne : (Nat → Int64)} {x1 : Int32} {fu : Nat} {o : Int32} (hF : F_X1_cheapestForm fu x1 xta = some o) : Met κ.1 yX1_cheapestForm [Cond.code yX1_cheapestForm cX1_cheapestForm 4 (some .int)] { frames := 3, cells := 0, slots := 0, locals := 68 } (xb_P κ [.ref (q 10), .int x1] (xw κ q nn xro xrn xfo xva xts xus xnu xth xsp xpr xpn xbs xwr xno xki xdi xde xst xta xcb xcd xbe xli xke xne)) (xb_Qi κ o (xw κ q nn xro xrn xfo xva xts xus xnu xth xsp xpr xpn xbs xwr xno xki xdi xde xst xta xcb xcd xbe xli xke xne)) 0 0 κ.2.2.1 := by
  refine x_enter (own := RX1) (lv0 := [(0, .ref (q 10)), (1, .int x1)]) (by decide) rfl rfl rfl (fun Γ C E => ?_)
  unfold F_X1_cheapestForm at hF
  refine x_iconst (v := 0) C dX1_cheapestForm_0 (by decide) ?_
  refine x_istore_n (lv2 := [(2, .int (0 : Int32)), (0, .ref (q 10)), (1, .int x1)]) C dX1_cheapestForm_1 rfl (by decide) rfl ?_
  refine x_iconst (v := 1) C dX1_cheapestForm_2 (by decide) ?_
  refine x_istore_n (lv2 := [(3, .int (1 : Int32)), (2, .int (0 : Int32)), (0, .ref (q 10)), (1, .int x1)]) C dX1_cheapestForm_3 rfl (by decide) rfl ?_
  obtain ⟨o5, h6, hF⟩ := bd_s hF
  refine x_sub [2, 3, 1, 0] rfl (w_X1_cheapestForm_L4 C fu _ _ _ h6 ?_)
  refine x_iload_n C dX1_cheapestForm_33 0 rfl ?_
  cases hF
  exact x_iret C E dX1_cheapestForm_34
set_option maxHeartbeats 4000000 in
set_option maxRecDepth 100000 in
theorem w_X8_forms_L29 {κ : xb_k} {Γ : xb_X} {q : Nat → Nat} {nn : Nat} {xro : (Nat → Int64)} {xrn : (Nat → Int64)} {xva : (Nat → Int32)} {xts : Int32} {xus : (Nat → Int32)} {xnu : (Nat → Int32)} {xth : Int32} {xsp : Int32} {xpr : (Nat → Int64)} {xpn : (Nat → Int64)} {xbs : Int32} {xwr : (Nat → Int32)} {xno : (Nat → Int32)} {xki : (Nat → Int32)} {xdi : (Nat → Int32)} {xde : (Nat → Int32)} {xst : (Nat → Int32)} {xta : (Nat → Int32)} {xcb : Int32} {xcd : Int32} {xbe : (Nat → Int32)} {xli : (Nat → Int32)} {xke : (Nat → Int32)} {xne : (Nat → Int64)}  {fu : Nat} (C : xb_C κ Γ 2 cX8_forms RX8 { frames := 6, cells := 0, slots := 0, locals := 140 }) : ∀ (n : Nat) (x1 : Int32) (xfo : (Nat → Int32)) (o : (Nat → Int32)), F_X8_forms_L29 fu xta n x1 xfo = some o → xb_W κ Γ 2 0 0 57 [(0, .ref (q 0))] [] (xw κ q nn xro xrn o xva xts xus xnu xth xsp xpr xpn xbs xwr xno xki xdi xde xst xta xcb xcd xbe xli xke xne) → xb_W κ Γ 2 0 0 29 [(0, .ref (q 0)), (1, .int x1)] [] (xw κ q nn xro xrn xfo xva xts xus xnu xth xsp xpr xpn xbs xwr xno xki xdi xde xst xta xcb xcd xbe xli xke xne) := by
  intro n
  induction n with
  | zero =>
    intro x1 xfo o hF K
    rw [F_X8_forms_L29] at hF
    cases hF
  | succ n ih =>
    intro x1 xfo o hF K
    rw [F_X8_forms_L29] at hF
    refine x_iload_n C dX8_forms_29 1 rfl ?_
    refine x_bipush (v := 8) C dX8_forms_30 (by decide) ?_
    refine x_icmp_ge (tgt := 57) C dX8_forms_32 (by decide) (fun hc => ?_) (fun hc => ?_)
    · replace hF := ifp hc hF
      cases hF
      exact x_sub [0] rfl K
    · replace hF := ifn hc hF
      refine x_aload_n C dX8_forms_35 0 rfl ?_
      refine gf_X8_30 C 0 rfl rfl dX8_forms_36 ?_
      refine x_iload_n C dX8_forms_39 1 rfl ?_
      refine x_aload_n C dX8_forms_40 0 rfl ?_
      refine gf_X8_44 C 0 rfl rfl dX8_forms_41 ?_
      refine x_iload_n C dX8_forms_44 1 rfl ?_
      obtain ⟨o5, h6, hF⟩ := bd_s hF
      refine x_callVi (st := [.int x1, .ref (q 4)]) C (c_X1_cheapestForm h6) xm_X1_cheapestForm ml_X8_167 10 rfl rfl rfl rfl rfl rfl dX8_forms_45 ⟨rfl, rfl⟩ ?_
      obtain ⟨o7, h8, hF⟩ := bd_s hF
      refine x_callVv (st := []) C (c_X5_setForm h8) xm_X5_setForm ml_X8_108 4 rfl rfl rfl rfl rfl rfl dX8_forms_48 ⟨rfl, rfl⟩ ?_
      refine x_iinc (v := x1 + 1) (lv2 := [(1, .int (x1 + 1)), (0, .ref (q 0))]) C dX8_forms_51 1 rfl rfl (by decide) rfl ?_
      refine x_goto (tgt := 29) C dX8_forms_54 (by decide) ?_
      exact x_sub [1, 0] rfl (ih _ _ _ hF K)
set_option maxHeartbeats 4000000 in
set_option maxRecDepth 100000 in
theorem c_X8_forms {κ : xb_k} {q : Nat → Nat} {nn : Nat} {xro : (Nat → Int64)} {xrn : (Nat → Int64)} {xfo : (Nat → Int32)} {xva : (Nat → Int32)} {xts : Int32} {xus : (Nat → Int32)} {xnu : (Nat → Int32)} {xth : Int32} {xsp : Int32} {xpr : (Nat → Int64)} {xpn : (Nat → Int64)} {xbs : Int32} {xwr : (Nat → Int32)} {xno : (Nat → Int32)} {xki : (Nat → Int32)} {xdi : (Nat → Int32)} {xde : (Nat → Int32)} {xst : (Nat → Int32)} {xta : (Nat → Int32)} {xcb : Int32} {xcd : Int32} {xbe : (Nat → Int32)} {xli : (Nat → Int32)} {xke : (Nat → Int32)} {xne : (Nat → Int64)}  {fu : Nat} {o : Int32 × (Nat → Int32) × (Nat → Int32) × (Nat → Int32) × Int32 × (Nat → Int32) × Int32 × (Nat → Int32) × (Nat → Int32)} (hF : F_X8_forms fu nn xth xpr xro xta xfo xwr xno xbs xst xki xdi xts xus xnu = some o) : Met κ.1 yX8_forms [Cond.code yX8_forms cX8_forms 2 (some .int)] { frames := 6, cells := 0, slots := 0, locals := 140 } (xb_P κ [.ref (q 0)] (xw κ q nn xro xrn xfo xva xts xus xnu xth xsp xpr xpn xbs xwr xno xki xdi xde xst xta xcb xcd xbe xli xke xne)) (xb_Qi κ o.1 (xw κ q nn xro xrn o.2.1 xva o.2.2.2.2.2.2.1 o.2.2.2.2.2.2.2.1 o.2.2.2.2.2.2.2.2 xth xsp xpr xpn o.2.2.2.2.1 o.2.2.1 o.2.2.2.1 xki xdi xde o.2.2.2.2.2.1 xta xcb xcd xbe xli xke xne)) 0 0 κ.2.2.1 := by
  refine x_enter (own := RX8) (lv0 := [(0, .ref (q 0))]) (by decide) rfl rfl rfl (fun Γ C E => ?_)
  unfold F_X8_forms at hF
  refine x_aload_n C dX8_forms_0 0 rfl ?_
  refine gf_X8_44 C 0 rfl rfl dX8_forms_1 ?_
  obtain ⟨o1, h2, hF⟩ := bd_s hF
  refine x_callVi (st := []) C (c_X1_isThere h2) xm_X1_isThere ml_X8_141 10 rfl rfl rfl rfl rfl rfl dX8_forms_4 ⟨rfl, rfl⟩ ?_
  refine x_if_eq (tgt := 24) C dX8_forms_7 (by decide) (fun hc => ?_) (fun hc => ?_)
  · replace hF := ifp hc hF
    refine x_bipush (v := (-3)) C dX8_forms_24 (by decide) ?_
    cases hF
    exact x_iret C E dX8_forms_26
  · replace hF := ifn hc hF
    refine x_aload_n C dX8_forms_10 0 rfl ?_
    refine gf_X8_44 C 0 rfl rfl dX8_forms_11 ?_
    refine x_aload_n C dX8_forms_14 0 rfl ?_
    refine gf_X8_23 C 0 rfl rfl dX8_forms_15 ?_
    obtain ⟨o3, h4, hF⟩ := bd_s hF
    refine x_callVi (st := []) C (c_X1_patchesTo h4) xm_X1_patchesTo ml_X8_163 10 rfl rfl rfl rfl rfl rfl dX8_forms_18 ⟨rfl, rfl⟩ ?_
    refine x_if_le (tgt := 27) C dX8_forms_21 (by decide) (fun hc => ?_) (fun hc => ?_)
    · replace hF := ifp hc hF
      refine x_iconst (v := 0) C dX8_forms_27 (by decide) ?_
      refine x_istore_n (lv2 := [(1, .int (0 : Int32)), (0, .ref (q 0))]) C dX8_forms_28 rfl (by decide) rfl ?_
      obtain ⟨o9, h10, hF⟩ := bd_s hF
      refine x_sub [1, 0] rfl (w_X8_forms_L29 C fu _ _ _ h10 ?_)
      refine x_aload_n C dX8_forms_57 0 rfl ?_
      refine gf_X8_44 C 0 rfl rfl dX8_forms_58 ?_
      refine x_aload_n C dX8_forms_61 0 rfl ?_
      refine gf_X8_30 C 0 rfl rfl dX8_forms_62 ?_
      refine x_aload_n C dX8_forms_65 0 rfl ?_
      refine gf_X8_37 C 0 rfl rfl dX8_forms_66 ?_
      obtain ⟨o11, h12, hF⟩ := bd_s hF
      refine x_callVi (st := []) C (c_X1_writeAnew h12) xm_X1_writeAnew ml_X8_137 10 rfl rfl rfl rfl rfl rfl dX8_forms_69 ⟨rfl, rfl⟩ ?_
      cases hF
      exact x_iret C E dX8_forms_72
    · replace hF := ifn hc hF
      refine x_bipush (v := (-3)) C dX8_forms_24 (by decide) ?_
      cases hF
      exact x_iret C E dX8_forms_26
set_option maxHeartbeats 4000000 in
set_option maxRecDepth 100000 in
theorem w_X2_bitsAlone_L7 {κ : xb_k} {Γ : xb_X} {q : Nat → Nat} {nn : Nat} {xro : (Nat → Int64)} {xrn : (Nat → Int64)} {xfo : (Nat → Int32)} {xva : (Nat → Int32)} {xth : Int32} {xsp : Int32} {xpr : (Nat → Int64)} {xpn : (Nat → Int64)} {xbs : Int32} {xwr : (Nat → Int32)} {xno : (Nat → Int32)} {xki : (Nat → Int32)} {xdi : (Nat → Int32)} {xde : (Nat → Int32)} {xst : (Nat → Int32)} {xta : (Nat → Int32)} {xcb : Int32} {xcd : Int32} {xbe : (Nat → Int32)} {xli : (Nat → Int32)} {xke : (Nat → Int32)} {xne : (Nat → Int64)} {x1 : Int32} {fu : Nat} (C : xb_C κ Γ 6 cX2_bitsAlone RX2 { frames := 5, cells := 0, slots := 0, locals := 126 }) : ∀ (n : Nat) (x4 : Int32) (x5 : Int32) (xts : Int32) (xus : (Nat → Int32)) (xnu : (Nat → Int32)) (o : Int32 × Int32 × (Nat → Int32) × (Nat → Int32)), F_X2_bitsAlone_L7 fu nn x1 xro xfo n x4 x5 xts xus xnu = some o → xb_W κ Γ 6 0 0 44 [(4, .int o.1)] [] (xw κ q nn xro xrn xfo xva o.2.1 o.2.2.1 o.2.2.2 xth xsp xpr xpn xbs xwr xno xki xdi xde xst xta xcb xcd xbe xli xke xne) → xb_W κ Γ 6 0 0 7 [(0, .ref (q 1)), (1, .int x1), (2, .ref (q 4)), (3, .ref (q 7)), (4, .int x4), (5, .int x5)] [] (xw κ q nn xro xrn xfo xva xts xus xnu xth xsp xpr xpn xbs xwr xno xki xdi xde xst xta xcb xcd xbe xli xke xne) := by
  intro n
  induction n with
  | zero =>
    intro x4 x5 xts xus xnu o hF K
    rw [F_X2_bitsAlone_L7] at hF
    cases hF
  | succ n ih =>
    intro x4 x5 xts xus xnu o hF K
    rw [F_X2_bitsAlone_L7] at hF
    refine x_iload C dX2_bitsAlone_7 5 rfl ?_
    refine x_iconst (v := 5) C dX2_bitsAlone_9 (by decide) ?_
    refine x_icmp_ge (tgt := 44) C dX2_bitsAlone_10 (by decide) (fun hc => ?_) (fun hc => ?_)
    · replace hF := ifp hc hF
      cases hF
      exact x_sub [4] rfl K
    · replace hF := ifn hc hF
      refine x_iload C dX2_bitsAlone_13 5 rfl ?_
      obtain ⟨o1, h2, hF⟩ := bd_s hF
      refine x_callNi (st := []) C (c_X8_isCopy h2) xm_X8_isCopy mn_X2_63 rfl rfl rfl rfl dX2_bitsAlone_15 ⟨rfl, rfl⟩ ?_
      refine x_if_ne (tgt := 38) C dX2_bitsAlone_18 (by decide) (fun hc => ?_) (fun hc => ?_)
      · replace hF := ifn hc hF
        refine x_iinc (v := x5 + 1) (lv2 := [(5, .int (x5 + 1)), (0, .ref (q 1)), (1, .int x1), (2, .ref (q 4)), (3, .ref (q 7)), (4, .int x4)]) C dX2_bitsAlone_38 5 rfl rfl (by decide) rfl ?_
        refine x_goto (tgt := 7) C dX2_bitsAlone_41 (by decide) ?_
        exact x_sub [1, 2, 3, 4, 5, 0] rfl (ih _ _ _ _ _ _ hF K)
      · replace hF := ifp hc hF
        refine x_iload C dX2_bitsAlone_21 4 rfl ?_
        refine x_aload_n C dX2_bitsAlone_23 3 rfl ?_
        refine x_aload_n C dX2_bitsAlone_24 0 rfl ?_
        refine x_iload_n C dX2_bitsAlone_25 1 rfl ?_
        refine x_iload C dX2_bitsAlone_26 5 rfl ?_
        refine x_iconst (v := 0) C dX2_bitsAlone_28 (by decide) ?_
        refine x_aload_n C dX2_bitsAlone_29 2 rfl ?_
        obtain ⟨o3, h4, hF⟩ := bd_s hF
        refine x_callVi (st := [.int x4]) C (c_X6_bitsToTell h4) xm_X6_bitsToTell ml_X2_67 7 rfl rfl rfl rfl rfl rfl dX2_bitsAlone_30 ⟨rfl, rfl⟩ ?_
        obtain ⟨o5, h6, hF⟩ := bd_s hF
        refine x_callSi (st := []) C (c_J9_min_7cf53 h6) xm_J9_min_7cf53 ml_X2_53 rfl rfl rfl rfl dX2_bitsAlone_33 ⟨rfl, rfl⟩ ?_
        refine x_istore (lv2 := [(4, .int o5), (0, .ref (q 1)), (1, .int x1), (2, .ref (q 4)), (3, .ref (q 7)), (5, .int x5)]) C dX2_bitsAlone_36 (by decide) rfl ?_
        refine x_iinc (v := x5 + 1) (lv2 := [(5, .int (x5 + 1)), (4, .int o5), (0, .ref (q 1)), (1, .int x1), (2, .ref (q 4)), (3, .ref (q 7))]) C dX2_bitsAlone_38 5 rfl rfl (by decide) rfl ?_
        refine x_goto (tgt := 7) C dX2_bitsAlone_41 (by decide) ?_
        exact x_sub [2, 3, 4, 5, 1, 0] rfl (ih _ _ _ _ _ _ hF K)
set_option maxHeartbeats 4000000 in
set_option maxRecDepth 100000 in
theorem c_X2_bitsAlone {κ : xb_k} {q : Nat → Nat} {nn : Nat} {xro : (Nat → Int64)} {xrn : (Nat → Int64)} {xfo : (Nat → Int32)} {xva : (Nat → Int32)} {xts : Int32} {xus : (Nat → Int32)} {xnu : (Nat → Int32)} {xth : Int32} {xsp : Int32} {xpr : (Nat → Int64)} {xpn : (Nat → Int64)} {xbs : Int32} {xwr : (Nat → Int32)} {xno : (Nat → Int32)} {xki : (Nat → Int32)} {xdi : (Nat → Int32)} {xde : (Nat → Int32)} {xst : (Nat → Int32)} {xta : (Nat → Int32)} {xcb : Int32} {xcd : Int32} {xbe : (Nat → Int32)} {xli : (Nat → Int32)} {xke : (Nat → Int32)} {xne : (Nat → Int64)} {x1 : Int32} {fu : Nat} {o : Int32 × Int32 × (Nat → Int32) × (Nat → Int32)} (hF : F_X2_bitsAlone fu nn x1 xro xts xus xnu xfo = some o) : Met κ.1 yX2_bitsAlone [Cond.code yX2_bitsAlone cX2_bitsAlone 6 (some .int)] { frames := 5, cells := 0, slots := 0, locals := 126 } (xb_P κ [.ref (q 1), .int x1, .ref (q 4), .ref (q 7)] (xw κ q nn xro xrn xfo xva xts xus xnu xth xsp xpr xpn xbs xwr xno xki xdi xde xst xta xcb xcd xbe xli xke xne)) (xb_Qi κ o.1 (xw κ q nn xro xrn xfo xva o.2.1 o.2.2.1 o.2.2.2 xth xsp xpr xpn xbs xwr xno xki xdi xde xst xta xcb xcd xbe xli xke xne)) 0 0 κ.2.2.1 := by
  refine x_enter (own := RX2) (lv0 := [(0, .ref (q 1)), (1, .int x1), (2, .ref (q 4)), (3, .ref (q 7))]) (by decide) rfl rfl rfl (fun Γ C E => ?_)
  unfold F_X2_bitsAlone at hF
  refine x_ldc C dX2_bitsAlone_0 kk_X2_62 ?_
  refine x_istore (lv2 := [(4, .int (1000000 : Int32)), (0, .ref (q 1)), (1, .int x1), (2, .ref (q 4)), (3, .ref (q 7))]) C dX2_bitsAlone_2 (by decide) rfl ?_
  refine x_iconst (v := 0) C dX2_bitsAlone_4 (by decide) ?_
  refine x_istore (lv2 := [(5, .int (0 : Int32)), (4, .int (1000000 : Int32)), (0, .ref (q 1)), (1, .int x1), (2, .ref (q 4)), (3, .ref (q 7))]) C dX2_bitsAlone_5 (by decide) rfl ?_
  obtain ⟨o7, h8, hF⟩ := bd_s hF
  refine x_sub [2, 3, 4, 5, 1, 0] rfl (w_X2_bitsAlone_L7 C fu _ _ _ _ _ _ h8 ?_)
  refine x_iload C dX2_bitsAlone_44 0 rfl ?_
  cases hF
  exact x_iret C E dX2_bitsAlone_46
set_option maxHeartbeats 4000000 in
set_option maxRecDepth 100000 in
theorem c_X2_belowOf {κ : xb_k} {q : Nat → Nat} {nn : Nat} {xro : (Nat → Int64)} {xrn : (Nat → Int64)} {xfo : (Nat → Int32)} {xva : (Nat → Int32)} {xts : Int32} {xus : (Nat → Int32)} {xnu : (Nat → Int32)} {xth : Int32} {xsp : Int32} {xpr : (Nat → Int64)} {xpn : (Nat → Int64)} {xbs : Int32} {xwr : (Nat → Int32)} {xno : (Nat → Int32)} {xki : (Nat → Int32)} {xdi : (Nat → Int32)} {xde : (Nat → Int32)} {xst : (Nat → Int32)} {xta : (Nat → Int32)} {xcb : Int32} {xcd : Int32} {xbe : (Nat → Int32)} {xli : (Nat → Int32)} {xke : (Nat → Int32)} {xne : (Nat → Int64)} {x1 : Int32} {x2 : Int32}  {o : Int32} (hF : F_X2_belowOf nn x1 x2 xbe = some o) : Met κ.1 yX2_belowOf [Cond.code yX2_belowOf cX2_belowOf 3 (some .int)] { frames := 1, cells := 0, slots := 0, locals := 21 } (xb_P κ [.ref (q 22), .int x1, .int x2] (xw κ q nn xro xrn xfo xva xts xus xnu xth xsp xpr xpn xbs xwr xno xki xdi xde xst xta xcb xcd xbe xli xke xne)) (xb_Qi κ o (xw κ q nn xro xrn xfo xva xts xus xnu xth xsp xpr xpn xbs xwr xno xki xdi xde xst xta xcb xcd xbe xli xke xne)) 0 0 κ.2.2.1 := by
  refine x_enter (own := RX2) (lv0 := [(0, .ref (q 22)), (1, .int x1), (2, .int x2)]) (by decide) rfl rfl rfl (fun Γ C E => ?_)
  unfold F_X2_belowOf at hF
  refine x_aload_n C dX2_belowOf_0 0 rfl ?_
  refine gf_X2_21 C 22 rfl rfl dX2_belowOf_1 ?_
  refine x_iload_n C dX2_belowOf_4 1 rfl ?_
  refine x_bipush (v := 6) C dX2_belowOf_5 (by decide) ?_
  refine x_imul C dX2_belowOf_7 ?_
  refine x_iload_n C dX2_belowOf_8 2 rfl ?_
  refine x_iadd C dX2_belowOf_9 ?_
  obtain ⟨b1, hF⟩ := ck_s hF
  replace b1 := Nat.le_of_ble_eq_true b1
  refine x_callNi (st := []) C (c_element κ 23 rfl (by omega)) xm_X8_element mn_X2_58 rfl rfl rfl rfl dX2_belowOf_10 ⟨rfl, rfl⟩ ?_
  cases hF
  exact x_iret C E dX2_belowOf_13
set_option maxHeartbeats 4000000 in
set_option maxRecDepth 100000 in
theorem w_X2_findCopy_L35 {κ : xb_k} {Γ : xb_X} {q : Nat → Nat} {nn : Nat} {xro : (Nat → Int64)} {xrn : (Nat → Int64)} {xfo : (Nat → Int32)} {xva : (Nat → Int32)} {xth : Int32} {xsp : Int32} {xpr : (Nat → Int64)} {xpn : (Nat → Int64)} {xbs : Int32} {xwr : (Nat → Int32)} {xno : (Nat → Int32)} {xki : (Nat → Int32)} {xdi : (Nat → Int32)} {xde : (Nat → Int32)} {xst : (Nat → Int32)} {xta : (Nat → Int32)} {xbe : (Nat → Int32)} {xli : (Nat → Int32)} {xke : (Nat → Int32)} {xne : (Nat → Int64)} {x2 : Int32} {x5 : Int32} {x6 : Int32} {fu : Nat} (C : xb_C κ Γ 9 cX2_findCopy RX2 { frames := 5, cells := 0, slots := 0, locals := 126 }) : ∀ (n : Nat) (x7 : Int32) (xts : Int32) (xus : (Nat → Int32)) (xnu : (Nat → Int32)) (xcb : Int32) (xcd : Int32) (o : Int32 × (Nat → Int32) × (Nat → Int32) × Int32 × Int32), F_X2_findCopy_L35 fu nn x2 x5 x6 xro xfo n x7 xts xus xnu xcb xcd = some o → xb_W κ Γ 9 0 0 82 [(0, .ref (q 22)), (1, .ref (q 1)), (2, .int x2), (3, .ref (q 4)), (4, .ref (q 7)), (5, .int x5), (6, .int x6)] [] (xw κ q nn xro xrn xfo xva o.1 o.2.1 o.2.2.1 xth xsp xpr xpn xbs xwr xno xki xdi xde xst xta o.2.2.2.1 o.2.2.2.2 xbe xli xke xne) → xb_W κ Γ 9 0 0 35 [(0, .ref (q 22)), (1, .ref (q 1)), (2, .int x2), (3, .ref (q 4)), (4, .ref (q 7)), (5, .int x5), (6, .int x6), (7, .int x7)] [] (xw κ q nn xro xrn xfo xva xts xus xnu xth xsp xpr xpn xbs xwr xno xki xdi xde xst xta xcb xcd xbe xli xke xne) := by
  intro n
  induction n with
  | zero =>
    intro x7 xts xus xnu xcb xcd o hF K
    rw [F_X2_findCopy_L35] at hF
    cases hF
  | succ n ih =>
    intro x7 xts xus xnu xcb xcd o hF K
    rw [F_X2_findCopy_L35] at hF
    refine x_iload C dX2_findCopy_35 7 rfl ?_
    refine x_iconst (v := 3) C dX2_findCopy_37 (by decide) ?_
    refine x_icmp_gt (tgt := 82) C dX2_findCopy_38 (by decide) (fun hc => ?_) (fun hc => ?_)
    · replace hF := ifp hc hF
      cases hF
      exact x_sub [0, 1, 2, 3, 4, 5, 6] rfl K
    · replace hF := ifn hc hF
      refine x_aload C dX2_findCopy_41 4 rfl ?_
      refine x_aload_n C dX2_findCopy_43 1 rfl ?_
      refine x_iload_n C dX2_findCopy_44 2 rfl ?_
      refine x_iload C dX2_findCopy_45 7 rfl ?_
      refine x_iload C dX2_findCopy_47 6 rfl ?_
      refine x_aload_n C dX2_findCopy_49 3 rfl ?_
      obtain ⟨o5, h6, hF⟩ := bd_s hF
      refine x_callVi (st := []) C (c_X6_bitsToTell h6) xm_X6_bitsToTell ml_X2_67 7 rfl rfl rfl rfl rfl rfl dX2_findCopy_50 ⟨rfl, rfl⟩ ?_
      refine x_istore (lv2 := [(8, .int o5.1), (0, .ref (q 22)), (1, .ref (q 1)), (2, .int x2), (3, .ref (q 4)), (4, .ref (q 7)), (5, .int x5), (6, .int x6), (7, .int x7)]) C dX2_findCopy_53 (by decide) rfl ?_
      refine x_iload C dX2_findCopy_55 0 rfl ?_
      refine x_aload_n C dX2_findCopy_57 1 rfl ?_
      refine gf_X2_9 C 22 rfl rfl dX2_findCopy_58 ?_
      refine x_icmp_ge (tgt := 76) C dX2_findCopy_61 (by decide) (fun hc => ?_) (fun hc => ?_)
      · replace hF := ifp hc hF
        refine x_iinc (v := x7 + 1) (lv2 := [(7, .int (x7 + 1)), (8, .int o5.1), (0, .ref (q 22)), (1, .ref (q 1)), (2, .int x2), (3, .ref (q 4)), (4, .ref (q 7)), (5, .int x5), (6, .int x6)]) C dX2_findCopy_76 8 rfl rfl (by decide) rfl ?_
        refine x_goto (tgt := 35) C dX2_findCopy_79 (by decide) ?_
        exact x_sub [2, 3, 4, 5, 6, 7, 8, 0] rfl (ih _ _ _ _ _ _ _ hF K)
      · replace hF := ifn hc hF
        refine x_aload_n C dX2_findCopy_64 1 rfl ?_
        refine x_iload C dX2_findCopy_65 0 rfl ?_
        refine pf_X2_9 (ws2 := (xw κ q nn xro xrn xfo xva o5.2.1 o5.2.2.1 o5.2.2.2 xth xsp xpr xpn xbs xwr xno xki xdi xde xst xta o5.1 xcd xbe xli xke xne)) C 22 rfl dX2_findCopy_67 rfl rfl ?_
        refine x_aload_n C dX2_findCopy_70 1 rfl ?_
        refine x_iload C dX2_findCopy_71 7 rfl ?_
        refine pf_X2_15 (ws2 := (xw κ q nn xro xrn xfo xva o5.2.1 o5.2.2.1 o5.2.2.2 xth xsp xpr xpn xbs xwr xno xki xdi xde xst xta o5.1 x6 xbe xli xke xne)) C 22 rfl dX2_findCopy_73 rfl rfl ?_
        refine x_iinc (v := x7 + 1) (lv2 := [(7, .int (x7 + 1)), (8, .int o5.1), (0, .ref (q 22)), (1, .ref (q 1)), (2, .int x2), (3, .ref (q 4)), (4, .ref (q 7)), (5, .int x5), (6, .int x6)]) C dX2_findCopy_76 8 rfl rfl (by decide) rfl ?_
        refine x_goto (tgt := 35) C dX2_findCopy_79 (by decide) ?_
        exact x_sub [2, 3, 4, 5, 6, 7, 8, 0] rfl (ih _ _ _ _ _ _ _ hF K)
set_option maxHeartbeats 4000000 in
set_option maxRecDepth 100000 in
theorem w_X2_findCopy_L25 {κ : xb_k} {Γ : xb_X} {q : Nat → Nat} {nn : Nat} {xro : (Nat → Int64)} {xrn : (Nat → Int64)} {xfo : (Nat → Int32)} {xva : (Nat → Int32)} {xth : Int32} {xsp : Int32} {xpr : (Nat → Int64)} {xpn : (Nat → Int64)} {xbs : Int32} {xwr : (Nat → Int32)} {xno : (Nat → Int32)} {xki : (Nat → Int32)} {xdi : (Nat → Int32)} {xde : (Nat → Int32)} {xst : (Nat → Int32)} {xta : (Nat → Int32)} {xbe : (Nat → Int32)} {xli : (Nat → Int32)} {xke : (Nat → Int32)} {xne : (Nat → Int64)} {x2 : Int32} {x5 : Int32} {fu : Nat} (C : xb_C κ Γ 9 cX2_findCopy RX2 { frames := 5, cells := 0, slots := 0, locals := 126 }) : ∀ (n : Nat) (x6 : Int32) (xts : Int32) (xus : (Nat → Int32)) (xnu : (Nat → Int32)) (xcb : Int32) (xcd : Int32) (o : Int32 × (Nat → Int32) × (Nat → Int32) × Int32 × Int32), F_X2_findCopy_L25 fu nn x2 x5 xro xfo n x6 xts xus xnu xcb xcd = some o → xb_W κ Γ 9 0 0 88 [] [] (xw κ q nn xro xrn xfo xva o.1 o.2.1 o.2.2.1 xth xsp xpr xpn xbs xwr xno xki xdi xde xst xta o.2.2.2.1 o.2.2.2.2 xbe xli xke xne) → xb_W κ Γ 9 0 0 25 [(0, .ref (q 22)), (1, .ref (q 1)), (2, .int x2), (3, .ref (q 4)), (4, .ref (q 7)), (5, .int x5), (6, .int x6)] [] (xw κ q nn xro xrn xfo xva xts xus xnu xth xsp xpr xpn xbs xwr xno xki xdi xde xst xta xcb xcd xbe xli xke xne) := by
  intro n
  induction n with
  | zero =>
    intro x6 xts xus xnu xcb xcd o hF K
    rw [F_X2_findCopy_L25] at hF
    cases hF
  | succ n ih =>
    intro x6 xts xus xnu xcb xcd o hF K
    rw [F_X2_findCopy_L25] at hF
    refine x_iload C dX2_findCopy_25 6 rfl ?_
    refine x_iload C dX2_findCopy_27 5 rfl ?_
    refine x_icmp_gt (tgt := 88) C dX2_findCopy_29 (by decide) (fun hc => ?_) (fun hc => ?_)
    · replace hF := ifp hc hF
      cases hF
      exact x_sub [] rfl K
    · replace hF := ifn hc hF
      refine x_iconst (v := 2) C dX2_findCopy_32 (by decide) ?_
      refine x_istore (lv2 := [(7, .int (2 : Int32)), (0, .ref (q 22)), (1, .ref (q 1)), (2, .int x2), (3, .ref (q 4)), (4, .ref (q 7)), (5, .int x5), (6, .int x6)]) C dX2_findCopy_33 (by decide) rfl ?_
      obtain ⟨o5, h6, hF⟩ := bd_s hF
      refine x_sub [1, 2, 3, 4, 5, 6, 7, 0] rfl (w_X2_findCopy_L35 C fu _ _ _ _ _ _ _ h6 ?_)
      refine x_iinc (v := x6 + 1) (lv2 := [(6, .int (x6 + 1)), (0, .ref (q 22)), (1, .ref (q 1)), (2, .int x2), (3, .ref (q 4)), (4, .ref (q 7)), (5, .int x5)]) C dX2_findCopy_82 6 rfl rfl (by decide) rfl ?_
      refine x_goto (tgt := 25) C dX2_findCopy_85 (by decide) ?_
      exact x_sub [1, 2, 3, 4, 5, 6, 0] rfl (ih _ _ _ _ _ _ _ hF K)
set_option maxHeartbeats 4000000 in
set_option maxRecDepth 100000 in
theorem c_X2_findCopy {κ : xb_k} {q : Nat → Nat} {nn : Nat} {xro : (Nat → Int64)} {xrn : (Nat → Int64)} {xfo : (Nat → Int32)} {xva : (Nat → Int32)} {xts : Int32} {xus : (Nat → Int32)} {xnu : (Nat → Int32)} {xth : Int32} {xsp : Int32} {xpr : (Nat → Int64)} {xpn : (Nat → Int64)} {xbs : Int32} {xwr : (Nat → Int32)} {xno : (Nat → Int32)} {xki : (Nat → Int32)} {xdi : (Nat → Int32)} {xde : (Nat → Int32)} {xst : (Nat → Int32)} {xta : (Nat → Int32)} {xcb : Int32} {xcd : Int32} {xbe : (Nat → Int32)} {xli : (Nat → Int32)} {xke : (Nat → Int32)} {xne : (Nat → Int64)} {x2 : Int32} {fu : Nat} {o : Int32 × Int32 × Int32 × (Nat → Int32) × (Nat → Int32)} (hF : F_X2_findCopy fu nn x2 xcb xcd xva xro xts xus xnu xfo = some o) : Met κ.1 yX2_findCopy [Cond.code yX2_findCopy cX2_findCopy 9 none] { frames := 5, cells := 0, slots := 0, locals := 126 } (xb_P κ [.ref (q 22), .ref (q 1), .int x2, .ref (q 4), .ref (q 7)] (xw κ q nn xro xrn xfo xva xts xus xnu xth xsp xpr xpn xbs xwr xno xki xdi xde xst xta xcb xcd xbe xli xke xne)) (xb_Qv κ (xw κ q nn xro xrn xfo xva o.2.2.1 o.2.2.2.1 o.2.2.2.2 xth xsp xpr xpn xbs xwr xno xki xdi xde xst xta o.1 o.2.1 xbe xli xke xne)) 0 0 κ.2.2.1 := by
  refine x_enter (own := RX2) (lv0 := [(0, .ref (q 22)), (1, .ref (q 1)), (2, .int x2), (3, .ref (q 4)), (4, .ref (q 7))]) (by decide) rfl rfl rfl (fun Γ C E => ?_)
  unfold F_X2_findCopy at hF
  refine x_aload_n C dX2_findCopy_0 0 rfl ?_
  refine x_ldc C dX2_findCopy_1 kk_X2_62 ?_
  refine pf_X2_9 (ws2 := (xw κ q nn xro xrn xfo xva xts xus xnu xth xsp xpr xpn xbs xwr xno xki xdi xde xst xta (1000000 : Int32) xcd xbe xli xke xne)) C 22 rfl dX2_findCopy_3 rfl rfl ?_
  refine x_aload_n C dX2_findCopy_6 0 rfl ?_
  refine x_iconst (v := 0) C dX2_findCopy_7 (by decide) ?_
  refine pf_X2_15 (ws2 := (xw κ q nn xro xrn xfo xva xts xus xnu xth xsp xpr xpn xbs xwr xno xki xdi xde xst xta (1000000 : Int32) (0 : Int32) xbe xli xke xne)) C 22 rfl dX2_findCopy_8 rfl rfl ?_
  refine x_aload_n C dX2_findCopy_11 3 rfl ?_
  refine x_iconst (v := 0) C dX2_findCopy_12 (by decide) ?_
  obtain ⟨o1, h2, hF⟩ := bd_s hF
  refine x_callVi (st := []) C (c_X5_valueOf h2) xm_X5_valueOf ml_X2_31 4 rfl rfl rfl rfl rfl rfl dX2_findCopy_13 ⟨rfl, rfl⟩ ?_
  refine x_iload_n C dX2_findCopy_16 2 rfl ?_
  obtain ⟨o3, h4, hF⟩ := bd_s hF
  refine x_callSi (st := []) C (c_J9_min_7cf53 h4) xm_J9_min_7cf53 ml_X2_53 rfl rfl rfl rfl dX2_findCopy_17 ⟨rfl, rfl⟩ ?_
  refine x_istore (lv2 := [(5, .int o3), (0, .ref (q 22)), (1, .ref (q 1)), (2, .int x2), (3, .ref (q 4)), (4, .ref (q 7))]) C dX2_findCopy_20 (by decide) rfl ?_
  refine x_iconst (v := 1) C dX2_findCopy_22 (by decide) ?_
  refine x_istore (lv2 := [(6, .int (1 : Int32)), (5, .int o3), (0, .ref (q 22)), (1, .ref (q 1)), (2, .int x2), (3, .ref (q 4)), (4, .ref (q 7))]) C dX2_findCopy_23 (by decide) rfl ?_
  obtain ⟨o7, h8, hF⟩ := bd_s hF
  refine x_sub [2, 3, 4, 5, 6, 1, 0] rfl (w_X2_findCopy_L25 C fu _ _ _ _ _ _ _ h8 ?_)
  cases hF
  exact x_vret C E dX2_findCopy_88
set_option maxHeartbeats 4000000 in
set_option maxRecDepth 100000 in
theorem w_X2_hang_L3 {κ : xb_k} {Γ : xb_X} {q : Nat → Nat} {nn : Nat} {xro : (Nat → Int64)} {xrn : (Nat → Int64)} {xfo : (Nat → Int32)} {xva : (Nat → Int32)} {xts : Int32} {xus : (Nat → Int32)} {xnu : (Nat → Int32)} {xth : Int32} {xsp : Int32} {xpr : (Nat → Int64)} {xpn : (Nat → Int64)} {xbs : Int32} {xwr : (Nat → Int32)} {xno : (Nat → Int32)} {xki : (Nat → Int32)} {xdi : (Nat → Int32)} {xde : (Nat → Int32)} {xst : (Nat → Int32)} {xta : (Nat → Int32)} {xcb : Int32} {xcd : Int32} {xli : (Nat → Int32)} {xke : (Nat → Int32)} {xne : (Nat → Int64)} {x1 : Int32} {x2 : Int32} {x3 : Int32}  (C : xb_C κ Γ 7 cX2_hang RX2 { frames := 2, cells := 0, slots := 0, locals := 43 }) : ∀ (n : Nat) (x4 : Int32) (xbe : (Nat → Int32)) (o : (Nat → Int32)), F_X2_hang_L3 nn x1 x2 x3 xcd xcb n x4 xbe = some o → xb_W κ Γ 7 0 0 92 [] [] (xw κ q nn xro xrn xfo xva xts xus xnu xth xsp xpr xpn xbs xwr xno xki xdi xde xst xta xcb xcd o xli xke xne) → xb_W κ Γ 7 0 0 3 [(0, .ref (q 22)), (1, .int x1), (2, .int x2), (3, .int x3), (4, .int x4)] [] (xw κ q nn xro xrn xfo xva xts xus xnu xth xsp xpr xpn xbs xwr xno xki xdi xde xst xta xcb xcd xbe xli xke xne) := by
  intro n
  induction n with
  | zero =>
    intro x4 xbe o hF K
    rw [F_X2_hang_L3] at hF
    cases hF
  | succ n ih =>
    intro x4 xbe o hF K
    rw [F_X2_hang_L3] at hF
    refine x_iload C dX2_hang_3 4 rfl ?_
    refine x_iload_n C dX2_hang_5 3 rfl ?_
    refine x_icmp_gt (tgt := 92) C dX2_hang_6 (by decide) (fun hc => ?_) (fun hc => ?_)
    · replace hF := ifp hc hF
      cases hF
      exact x_sub [] rfl K
    · replace hF := ifn hc hF
      refine x_iload C dX2_hang_9 4 rfl ?_
      refine x_bipush (v := 6) C dX2_hang_11 (by decide) ?_
      refine x_icmp_ge (tgt := 92) C dX2_hang_13 (by decide) (fun hc => ?_) (fun hc => ?_)
      · replace hF := ifp hc hF
        cases hF
        exact x_sub [] rfl K
      · replace hF := ifn hc hF
        refine x_iload_n C dX2_hang_16 2 rfl ?_
        refine x_istore (lv2 := [(5, .int x2), (0, .ref (q 22)), (1, .int x1), (2, .int x2), (3, .int x3), (4, .int x4)]) C dX2_hang_17 (by decide) rfl ?_
        refine x_iload C dX2_hang_19 5 rfl ?_
        refine x_iload_n C dX2_hang_21 4 rfl ?_
        refine x_icmp_ge (tgt := 45) C dX2_hang_22 (by decide) (fun hc => ?_) (fun hc => ?_)
        · replace hF := ifp hc hF
          refine x_iload_n C dX2_hang_45 2 rfl ?_
          refine x_aload_n C dX2_hang_46 1 rfl ?_
          refine gf_X2_15 C 22 rfl rfl dX2_hang_47 ?_
          refine x_isub C dX2_hang_50 ?_
          refine x_bipush (v := 6) C dX2_hang_51 (by decide) ?_
          refine x_imul C dX2_hang_53 ?_
          refine x_iload C dX2_hang_54 5 rfl ?_
          refine x_iadd C dX2_hang_56 ?_
          refine x_istore (lv2 := [(6, .int (((x1 - xcd) * (6 : Int32)) + x4)), (5, .int x2), (0, .ref (q 22)), (1, .int x1), (2, .int x2), (3, .int x3), (4, .int x4)]) C dX2_hang_57 (by decide) rfl ?_
          refine x_iload C dX2_hang_59 0 rfl ?_
          refine x_if_lt (tgt := 86) C dX2_hang_61 (by decide) (fun hc => ?_) (fun hc => ?_)
          · replace hF := ifp hc hF
            refine x_iinc (v := x4 + 1) (lv2 := [(4, .int (x4 + 1)), (6, .int (((x1 - xcd) * (6 : Int32)) + x4)), (5, .int x2), (0, .ref (q 22)), (1, .int x1), (2, .int x2), (3, .int x3)]) C dX2_hang_86 6 rfl rfl (by decide) rfl ?_
            refine x_goto (tgt := 3) C dX2_hang_89 (by decide) ?_
            exact x_sub [3, 4, 5, 6, 0] rfl (ih _ _ _ hF K)
          · replace hF := ifn hc hF
            refine x_iload C dX2_hang_64 0 rfl ?_
            refine x_aload_n C dX2_hang_66 2 rfl ?_
            refine gf_X2_21 C 22 rfl rfl dX2_hang_67 ?_
            refine x_alen (v := nI (6 * nn)) C 23 0 rfl rfl rfl dX2_hang_70 ?_
            refine x_icmp_ge (tgt := 86) C dX2_hang_71 (by decide) (fun hc => ?_) (fun hc => ?_)
            · replace hF := ifp hc hF
              refine x_iinc (v := x4 + 1) (lv2 := [(4, .int (x4 + 1)), (6, .int (((x1 - xcd) * (6 : Int32)) + x4)), (5, .int x2), (0, .ref (q 22)), (1, .int x1), (2, .int x2), (3, .int x3)]) C dX2_hang_86 6 rfl rfl (by decide) rfl ?_
              refine x_goto (tgt := 3) C dX2_hang_89 (by decide) ?_
              exact x_sub [3, 4, 5, 6, 0] rfl (ih _ _ _ hF K)
            · replace hF := ifn hc hF
              refine x_aload_n C dX2_hang_74 2 rfl ?_
              refine gf_X2_21 C 22 rfl rfl dX2_hang_75 ?_
              refine x_iload C dX2_hang_78 0 rfl ?_
              refine x_dup2 C dX2_hang_80 rfl rfl ?_
              obtain ⟨b1, hF⟩ := ck_s hF
              refine x_iald C 23 rfl b1 dX2_hang_81 ?_
              refine x_iload C dX2_hang_82 1 rfl ?_
              refine x_iadd C dX2_hang_84 ?_
              obtain ⟨b2, hF⟩ := ck_s hF
              refine x_iast (ws2 := (xw κ q nn xro xrn xfo xva xts xus xnu xth xsp xpr xpn xbs xwr xno xki xdi xde xst xta xcb xcd (upd xbe (((x1 - xcd) * (6 : Int32)) + x4).toNatClampNeg ((xbe (((x1 - xcd) * (6 : Int32)) + x4).toNatClampNeg) + x2)) xli xke xne)) C 23 rfl b2 dX2_hang_85 rfl ?_
              refine x_iinc (v := x4 + 1) (lv2 := [(4, .int (x4 + 1)), (6, .int (((x1 - xcd) * (6 : Int32)) + x4)), (5, .int x2), (0, .ref (q 22)), (1, .int x1), (2, .int x2), (3, .int x3)]) C dX2_hang_86 6 rfl rfl (by decide) rfl ?_
              refine x_goto (tgt := 3) C dX2_hang_89 (by decide) ?_
              exact x_sub [3, 4, 5, 6, 0] rfl (ih _ _ _ hF K)
        · replace hF := ifn hc hF
          refine x_iload_n C dX2_hang_25 3 rfl ?_
          refine x_aload_n C dX2_hang_26 1 rfl ?_
          refine gf_X2_9 C 22 rfl rfl dX2_hang_27 ?_
          refine x_aload_n C dX2_hang_30 1 rfl ?_
          refine x_iload_n C dX2_hang_31 2 rfl ?_
          refine x_iload C dX2_hang_32 5 rfl ?_
          refine x_iconst (v := 1) C dX2_hang_34 (by decide) ?_
          refine x_iadd C dX2_hang_35 ?_
          obtain ⟨o3, h4, hF⟩ := bd_s hF
          refine x_callVi (st := [.int xcb, .int x2]) C (c_X2_belowOf h4) xm_X2_belowOf ml_X2_41 22 rfl rfl rfl rfl rfl rfl dX2_hang_36 ⟨rfl, rfl⟩ ?_
          refine x_iadd C dX2_hang_39 ?_
          obtain ⟨o5, h6, hF⟩ := bd_s hF
          refine x_callSi (st := []) C (c_J9_min_7cf53 h6) xm_J9_min_7cf53 ml_X2_53 rfl rfl rfl rfl dX2_hang_40 ⟨rfl, rfl⟩ ?_
          refine x_istore (lv2 := [(5, .int o5), (0, .ref (q 22)), (1, .int x1), (2, .int x2), (3, .int x3), (4, .int x4)]) C dX2_hang_43 (by decide) rfl ?_
          refine x_iload_n C dX2_hang_45 2 rfl ?_
          refine x_aload_n C dX2_hang_46 1 rfl ?_
          refine gf_X2_15 C 22 rfl rfl dX2_hang_47 ?_
          refine x_isub C dX2_hang_50 ?_
          refine x_bipush (v := 6) C dX2_hang_51 (by decide) ?_
          refine x_imul C dX2_hang_53 ?_
          refine x_iload C dX2_hang_54 5 rfl ?_
          refine x_iadd C dX2_hang_56 ?_
          refine x_istore (lv2 := [(6, .int (((x1 - xcd) * (6 : Int32)) + x4)), (5, .int o5), (0, .ref (q 22)), (1, .int x1), (2, .int x2), (3, .int x3), (4, .int x4)]) C dX2_hang_57 (by decide) rfl ?_
          refine x_iload C dX2_hang_59 0 rfl ?_
          refine x_if_lt (tgt := 86) C dX2_hang_61 (by decide) (fun hc => ?_) (fun hc => ?_)
          · replace hF := ifp hc hF
            refine x_iinc (v := x4 + 1) (lv2 := [(4, .int (x4 + 1)), (6, .int (((x1 - xcd) * (6 : Int32)) + x4)), (5, .int o5), (0, .ref (q 22)), (1, .int x1), (2, .int x2), (3, .int x3)]) C dX2_hang_86 6 rfl rfl (by decide) rfl ?_
            refine x_goto (tgt := 3) C dX2_hang_89 (by decide) ?_
            exact x_sub [3, 4, 5, 6, 0] rfl (ih _ _ _ hF K)
          · replace hF := ifn hc hF
            refine x_iload C dX2_hang_64 0 rfl ?_
            refine x_aload_n C dX2_hang_66 2 rfl ?_
            refine gf_X2_21 C 22 rfl rfl dX2_hang_67 ?_
            refine x_alen (v := nI (6 * nn)) C 23 0 rfl rfl rfl dX2_hang_70 ?_
            refine x_icmp_ge (tgt := 86) C dX2_hang_71 (by decide) (fun hc => ?_) (fun hc => ?_)
            · replace hF := ifp hc hF
              refine x_iinc (v := x4 + 1) (lv2 := [(4, .int (x4 + 1)), (6, .int (((x1 - xcd) * (6 : Int32)) + x4)), (5, .int o5), (0, .ref (q 22)), (1, .int x1), (2, .int x2), (3, .int x3)]) C dX2_hang_86 6 rfl rfl (by decide) rfl ?_
              refine x_goto (tgt := 3) C dX2_hang_89 (by decide) ?_
              exact x_sub [3, 4, 5, 6, 0] rfl (ih _ _ _ hF K)
            · replace hF := ifn hc hF
              refine x_aload_n C dX2_hang_74 2 rfl ?_
              refine gf_X2_21 C 22 rfl rfl dX2_hang_75 ?_
              refine x_iload C dX2_hang_78 0 rfl ?_
              refine x_dup2 C dX2_hang_80 rfl rfl ?_
              obtain ⟨b7, hF⟩ := ck_s hF
              refine x_iald C 23 rfl b7 dX2_hang_81 ?_
              refine x_iload C dX2_hang_82 1 rfl ?_
              refine x_iadd C dX2_hang_84 ?_
              obtain ⟨b8, hF⟩ := ck_s hF
              refine x_iast (ws2 := (xw κ q nn xro xrn xfo xva xts xus xnu xth xsp xpr xpn xbs xwr xno xki xdi xde xst xta xcb xcd (upd xbe (((x1 - xcd) * (6 : Int32)) + x4).toNatClampNeg ((xbe (((x1 - xcd) * (6 : Int32)) + x4).toNatClampNeg) + o5)) xli xke xne)) C 23 rfl b8 dX2_hang_85 rfl ?_
              refine x_iinc (v := x4 + 1) (lv2 := [(4, .int (x4 + 1)), (6, .int (((x1 - xcd) * (6 : Int32)) + x4)), (5, .int o5), (0, .ref (q 22)), (1, .int x1), (2, .int x2), (3, .int x3)]) C dX2_hang_86 6 rfl rfl (by decide) rfl ?_
              refine x_goto (tgt := 3) C dX2_hang_89 (by decide) ?_
              exact x_sub [3, 4, 5, 6, 0] rfl (ih _ _ _ hF K)
set_option maxHeartbeats 4000000 in
set_option maxRecDepth 100000 in
theorem c_X2_hang {κ : xb_k} {q : Nat → Nat} {nn : Nat} {xro : (Nat → Int64)} {xrn : (Nat → Int64)} {xfo : (Nat → Int32)} {xva : (Nat → Int32)} {xts : Int32} {xus : (Nat → Int32)} {xnu : (Nat → Int32)} {xth : Int32} {xsp : Int32} {xpr : (Nat → Int64)} {xpn : (Nat → Int64)} {xbs : Int32} {xwr : (Nat → Int32)} {xno : (Nat → Int32)} {xki : (Nat → Int32)} {xdi : (Nat → Int32)} {xde : (Nat → Int32)} {xst : (Nat → Int32)} {xta : (Nat → Int32)} {xcb : Int32} {xcd : Int32} {xbe : (Nat → Int32)} {xli : (Nat → Int32)} {xke : (Nat → Int32)} {xne : (Nat → Int64)} {x1 : Int32} {x2 : Int32} {x3 : Int32} {fu : Nat} {o : (Nat → Int32)} (hF : F_X2_hang fu nn x1 x2 x3 xcd xbe xcb = some o) : Met κ.1 yX2_hang [Cond.code yX2_hang cX2_hang 7 none] { frames := 2, cells := 0, slots := 0, locals := 43 } (xb_P κ [.ref (q 22), .int x1, .int x2, .int x3] (xw κ q nn xro xrn xfo xva xts xus xnu xth xsp xpr xpn xbs xwr xno xki xdi xde xst xta xcb xcd xbe xli xke xne)) (xb_Qv κ (xw κ q nn xro xrn xfo xva xts xus xnu xth xsp xpr xpn xbs xwr xno xki xdi xde xst xta xcb xcd o xli xke xne)) 0 0 κ.2.2.1 := by
  refine x_enter (own := RX2) (lv0 := [(0, .ref (q 22)), (1, .int x1), (2, .int x2), (3, .int x3)]) (by decide) rfl rfl rfl (fun Γ C E => ?_)
  unfold F_X2_hang at hF
  refine x_iconst (v := 0) C dX2_hang_0 (by decide) ?_
  refine x_istore (lv2 := [(4, .int (0 : Int32)), (0, .ref (q 22)), (1, .int x1), (2, .int x2), (3, .int x3)]) C dX2_hang_1 (by decide) rfl ?_
  obtain ⟨o9, h10, hF⟩ := bd_s hF
  refine x_sub [1, 2, 3, 4, 0] rfl (w_X2_hang_L3 C fu _ _ _ h10 ?_)
  cases hF
  exact x_vret C E dX2_hang_92
set_option maxHeartbeats 4000000 in
set_option maxRecDepth 100000 in
theorem w_X2_leastSum_L26 {κ : xb_k} {Γ : xb_X} {q : Nat → Nat} {nn : Nat} {xro : (Nat → Int64)} {xrn : (Nat → Int64)} {xfo : (Nat → Int32)} {xva : (Nat → Int32)} {xth : Int32} {xsp : Int32} {xpr : (Nat → Int64)} {xpn : (Nat → Int64)} {xbs : Int32} {xwr : (Nat → Int32)} {xno : (Nat → Int32)} {xki : (Nat → Int32)} {xdi : (Nat → Int32)} {xde : (Nat → Int32)} {xst : (Nat → Int32)} {xta : (Nat → Int32)} {xli : (Nat → Int32)} {xke : (Nat → Int32)} {xne : (Nat → Int64)} {x4 : Int32} {fu : Nat} (C : xb_C κ Γ 8 cX2_leastSum RX2 { frames := 6, cells := 0, slots := 0, locals := 154 }) : ∀ (n : Nat) (x5 : Int32) (x6 : Int32) (xts : Int32) (xus : (Nat → Int32)) (xnu : (Nat → Int32)) (xcb : Int32) (xcd : Int32) (xbe : (Nat → Int32)) (o : Int32 × Int32 × (Nat → Int32) × (Nat → Int32) × Int32 × Int32 × (Nat → Int32)), F_X2_leastSum_L26 fu nn x4 xro xfo xva n x5 x6 xts xus xnu xcb xcd xbe = some o → xb_W κ Γ 8 0 0 91 [(5, .int o.1)] [] (xw κ q nn xro xrn xfo xva o.2.1 o.2.2.1 o.2.2.2.1 xth xsp xpr xpn xbs xwr xno xki xdi xde xst xta o.2.2.2.2.1 o.2.2.2.2.2.1 o.2.2.2.2.2.2 xli xke xne) → xb_W κ Γ 8 0 0 26 [(0, .ref (q 22)), (1, .ref (q 1)), (2, .ref (q 4)), (3, .ref (q 7)), (4, .int x4), (5, .int x5), (6, .int x6)] [] (xw κ q nn xro xrn xfo xva xts xus xnu xth xsp xpr xpn xbs xwr xno xki xdi xde xst xta xcb xcd xbe xli xke xne) := by
  intro n
  induction n with
  | zero =>
    intro x5 x6 xts xus xnu xcb xcd xbe o hF K
    rw [F_X2_leastSum_L26] at hF
    cases hF
  | succ n ih =>
    intro x5 x6 xts xus xnu xcb xcd xbe o hF K
    rw [F_X2_leastSum_L26] at hF
    refine x_iload C dX2_leastSum_26 6 rfl ?_
    refine x_if_lt (tgt := 91) C dX2_leastSum_28 (by decide) (fun hc => ?_) (fun hc => ?_)
    · replace hF := ifp hc hF
      cases hF
      exact x_sub [5] rfl K
    · replace hF := ifn hc hF
      refine x_aload_n C dX2_leastSum_31 1 rfl ?_
      refine x_iload C dX2_leastSum_32 6 rfl ?_
      refine x_aload_n C dX2_leastSum_34 2 rfl ?_
      refine x_aload_n C dX2_leastSum_35 3 rfl ?_
      obtain ⟨o4, h5, hF⟩ := bd_s hF
      refine x_callSi (st := []) C (c_X2_bitsAlone h5) xm_X2_bitsAlone ml_X2_37 rfl rfl rfl rfl dX2_leastSum_36 ⟨rfl, rfl⟩ ?_
      refine x_aload_n C dX2_leastSum_39 0 rfl ?_
      refine x_iload C dX2_leastSum_40 6 rfl ?_
      refine x_iconst (v := 0) C dX2_leastSum_42 (by decide) ?_
      obtain ⟨o6, h7, hF⟩ := bd_s hF
      refine x_callVi (st := [.int o4.1]) C (c_X2_belowOf h7) xm_X2_belowOf ml_X2_41 22 rfl rfl rfl rfl rfl rfl dX2_leastSum_43 ⟨rfl, rfl⟩ ?_
      refine x_iadd C dX2_leastSum_46 ?_
      refine x_istore (lv2 := [(7, .int (o4.1 + o6)), (0, .ref (q 22)), (1, .ref (q 1)), (2, .ref (q 4)), (3, .ref (q 7)), (4, .int x4), (5, .int x5), (6, .int x6)]) C dX2_leastSum_47 (by decide) rfl ?_
      refine x_aload_n C dX2_leastSum_49 1 rfl ?_
      refine x_aload_n C dX2_leastSum_50 2 rfl ?_
      refine x_iload C dX2_leastSum_51 7 rfl ?_
      refine x_aload_n C dX2_leastSum_53 3 rfl ?_
      refine x_aload_n C dX2_leastSum_54 4 rfl ?_
      obtain ⟨o8, h9, hF⟩ := bd_s hF
      refine x_callVv (st := []) C (c_X2_findCopy h9) xm_X2_findCopy ml_X2_45 22 rfl rfl rfl rfl rfl rfl dX2_leastSum_55 ⟨rfl, rfl⟩ ?_
      refine x_aload_n C dX2_leastSum_58 1 rfl ?_
      refine gf_X2_15 C 22 rfl rfl dX2_leastSum_59 ?_
      refine x_if_ne (tgt := 75) C dX2_leastSum_62 (by decide) (fun hc => ?_) (fun hc => ?_)
      · replace hF := ifn hc hF
        refine x_aload_n C dX2_leastSum_75 1 rfl ?_
        refine x_iload C dX2_leastSum_76 7 rfl ?_
        refine x_iload C dX2_leastSum_78 0 rfl ?_
        refine x_iload C dX2_leastSum_80 5 rfl ?_
        obtain ⟨o10, h11, hF⟩ := bd_s hF
        refine x_callVv (st := []) C (c_X2_hang h11) xm_X2_hang ml_X2_49 22 rfl rfl rfl rfl rfl rfl dX2_leastSum_82 ⟨rfl, rfl⟩ ?_
        refine x_iinc (v := x6 + (-1)) (lv2 := [(6, .int (x6 + (-1))), (7, .int (o4.1 + o6)), (0, .ref (q 22)), (1, .ref (q 1)), (2, .ref (q 4)), (3, .ref (q 7)), (4, .int x4), (5, .int x5)]) C dX2_leastSum_85 7 rfl rfl (by decide) rfl ?_
        refine x_goto (tgt := 26) C dX2_leastSum_88 (by decide) ?_
        exact x_sub [2, 3, 4, 5, 6, 7, 0] rfl (ih _ _ _ _ _ _ _ _ _ hF K)
      · replace hF := ifp hc hF
        refine x_iload C dX2_leastSum_65 6 rfl ?_
        refine x_iload C dX2_leastSum_67 0 rfl ?_
        refine x_iadd C dX2_leastSum_69 ?_
        refine x_istore (lv2 := [(5, .int (x5 + (o4.1 + o6))), (7, .int (o4.1 + o6)), (0, .ref (q 22)), (1, .ref (q 1)), (2, .ref (q 4)), (3, .ref (q 7)), (4, .int x4), (6, .int x6)]) C dX2_leastSum_70 (by decide) rfl ?_
        refine x_goto (tgt := 85) C dX2_leastSum_72 (by decide) ?_
        refine x_iinc (v := x6 + (-1)) (lv2 := [(6, .int (x6 + (-1))), (5, .int (x5 + (o4.1 + o6))), (7, .int (o4.1 + o6)), (0, .ref (q 22)), (1, .ref (q 1)), (2, .ref (q 4)), (3, .ref (q 7)), (4, .int x4)]) C dX2_leastSum_85 7 rfl rfl (by decide) rfl ?_
        refine x_goto (tgt := 26) C dX2_leastSum_88 (by decide) ?_
        exact x_sub [3, 4, 5, 6, 7, 1, 0] rfl (ih _ _ _ _ _ _ _ _ _ hF K)
set_option maxHeartbeats 4000000 in
set_option maxRecDepth 100000 in
theorem c_X2_leastSum {κ : xb_k} {q : Nat → Nat} {nn : Nat} {xro : (Nat → Int64)} {xrn : (Nat → Int64)} {xfo : (Nat → Int32)} {xva : (Nat → Int32)} {xts : Int32} {xus : (Nat → Int32)} {xnu : (Nat → Int32)} {xth : Int32} {xsp : Int32} {xpr : (Nat → Int64)} {xpn : (Nat → Int64)} {xbs : Int32} {xwr : (Nat → Int32)} {xno : (Nat → Int32)} {xki : (Nat → Int32)} {xdi : (Nat → Int32)} {xde : (Nat → Int32)} {xst : (Nat → Int32)} {xta : (Nat → Int32)} {xcb : Int32} {xcd : Int32} {xbe : (Nat → Int32)} {xli : (Nat → Int32)} {xke : (Nat → Int32)} {xne : (Nat → Int64)}  {fu : Nat} {o : Int32 × (Nat → Int32) × Int32 × (Nat → Int32) × (Nat → Int32) × Int32 × Int32} (hF : F_X2_leastSum fu nn xbe xva xro xts xus xnu xfo xcb xcd = some o) : Met κ.1 yX2_leastSum [Cond.code yX2_leastSum cX2_leastSum 8 (some .int)] { frames := 6, cells := 0, slots := 0, locals := 154 } (xb_P κ [.ref (q 22), .ref (q 1), .ref (q 4), .ref (q 7)] (xw κ q nn xro xrn xfo xva xts xus xnu xth xsp xpr xpn xbs xwr xno xki xdi xde xst xta xcb xcd xbe xli xke xne)) (xb_Qi κ o.1 (xw κ q nn xro xrn xfo xva o.2.2.1 o.2.2.2.1 o.2.2.2.2.1 xth xsp xpr xpn xbs xwr xno xki xdi xde xst xta o.2.2.2.2.2.1 o.2.2.2.2.2.2 o.2.1 xli xke xne)) 0 0 κ.2.2.1 := by
  refine x_enter (own := RX2) (lv0 := [(0, .ref (q 22)), (1, .ref (q 1)), (2, .ref (q 4)), (3, .ref (q 7))]) (by decide) rfl rfl rfl (fun Γ C E => ?_)
  unfold F_X2_leastSum at hF
  refine x_aload_n C dX2_leastSum_0 0 rfl ?_
  refine gf_X2_21 C 22 rfl rfl dX2_leastSum_1 ?_
  refine x_iconst (v := 0) C dX2_leastSum_4 (by decide) ?_
  obtain ⟨b1, hF⟩ := ck_s hF
  replace b1 := Nat.le_of_ble_eq_true b1
  refine x_callSv (st := []) (ws2 := (xw κ q nn xro xrn xfo xva xts xus xnu xth xsp xpr xpn xbs xwr xno xki xdi xde xst xta xcb xcd (fl (6 * nn) xbe (0 : Int32)) xli xke xne)) C (c_fill κ 23 rfl (by omega) rfl) xm_J7_fill_53178 ml_X2_25 rfl rfl rfl rfl dX2_leastSum_5 ⟨rfl, rfl⟩ ?_
  refine x_aload_n C dX2_leastSum_8 2 rfl ?_
  refine x_iconst (v := 1) C dX2_leastSum_9 (by decide) ?_
  obtain ⟨o2, h3, hF⟩ := bd_s hF
  refine x_callVi (st := []) C (c_X5_valueOf h3) xm_X5_valueOf ml_X2_31 4 rfl rfl rfl rfl rfl rfl dX2_leastSum_10 ⟨rfl, rfl⟩ ?_
  refine x_istore (lv2 := [(4, .int o2), (0, .ref (q 22)), (1, .ref (q 1)), (2, .ref (q 4)), (3, .ref (q 7))]) C dX2_leastSum_13 (by decide) rfl ?_
  refine x_iconst (v := 0) C dX2_leastSum_15 (by decide) ?_
  refine x_istore (lv2 := [(5, .int (0 : Int32)), (4, .int o2), (0, .ref (q 22)), (1, .ref (q 1)), (2, .ref (q 4)), (3, .ref (q 7))]) C dX2_leastSum_16 (by decide) rfl ?_
  refine x_aload_n C dX2_leastSum_18 2 rfl ?_
  refine gf_X2_18 C 22 rfl rfl dX2_leastSum_19 ?_
  refine x_iconst (v := 1) C dX2_leastSum_22 (by decide) ?_
  refine x_isub C dX2_leastSum_23 ?_
  refine x_istore (lv2 := [(6, .int ((nI nn) - (1 : Int32))), (5, .int (0 : Int32)), (4, .int o2), (0, .ref (q 22)), (1, .ref (q 1)), (2, .ref (q 4)), (3, .ref (q 7))]) C dX2_leastSum_24 (by decide) rfl ?_
  obtain ⟨o12, h13, hF⟩ := bd_s hF
  refine x_sub [3, 4, 5, 6, 2, 1, 0] rfl (w_X2_leastSum_L26 C fu _ _ _ _ _ _ _ _ _ h13 ?_)
  refine x_iload C dX2_leastSum_91 0 rfl ?_
  cases hF
  exact x_iret C E dX2_leastSum_93
set_option maxHeartbeats 4000000 in
set_option maxRecDepth 100000 in
theorem c_X8_best {κ : xb_k} {q : Nat → Nat} {nn : Nat} {xro : (Nat → Int64)} {xrn : (Nat → Int64)} {xfo : (Nat → Int32)} {xva : (Nat → Int32)} {xts : Int32} {xus : (Nat → Int32)} {xnu : (Nat → Int32)} {xth : Int32} {xsp : Int32} {xpr : (Nat → Int64)} {xpn : (Nat → Int64)} {xbs : Int32} {xwr : (Nat → Int32)} {xno : (Nat → Int32)} {xki : (Nat → Int32)} {xdi : (Nat → Int32)} {xde : (Nat → Int32)} {xst : (Nat → Int32)} {xta : (Nat → Int32)} {xcb : Int32} {xcd : Int32} {xbe : (Nat → Int32)} {xli : (Nat → Int32)} {xke : (Nat → Int32)} {xne : (Nat → Int64)}  {fu : Nat} {o : Int32 × (Nat → Int32) × Int32 × (Nat → Int32) × (Nat → Int32) × Int32 × Int32} (hF : F_X8_best fu nn xbe xva xro xts xus xnu xfo xcb xcd = some o) : Met κ.1 yX8_best [Cond.code yX8_best cX8_best 1 (some .int)] { frames := 7, cells := 0, slots := 0, locals := 181 } (xb_P κ [.ref (q 0)] (xw κ q nn xro xrn xfo xva xts xus xnu xth xsp xpr xpn xbs xwr xno xki xdi xde xst xta xcb xcd xbe xli xke xne)) (xb_Qi κ o.1 (xw κ q nn xro xrn xfo xva o.2.2.1 o.2.2.2.1 o.2.2.2.2.1 xth xsp xpr xpn xbs xwr xno xki xdi xde xst xta o.2.2.2.2.2.1 o.2.2.2.2.2.2 o.2.1 xli xke xne)) 0 0 κ.2.2.1 := by
  refine x_enter (own := RX8) (lv0 := [(0, .ref (q 0))]) (by decide) rfl rfl rfl (fun Γ C E => ?_)
  unfold F_X8_best at hF
  refine x_aload_n C dX8_best_0 0 rfl ?_
  refine gf_X8_51 C 0 rfl rfl dX8_best_1 ?_
  refine x_aload_n C dX8_best_4 0 rfl ?_
  refine gf_X8_23 C 0 rfl rfl dX8_best_5 ?_
  refine x_aload_n C dX8_best_8 0 rfl ?_
  refine gf_X8_30 C 0 rfl rfl dX8_best_9 ?_
  refine x_aload_n C dX8_best_12 0 rfl ?_
  refine gf_X8_37 C 0 rfl rfl dX8_best_13 ?_
  obtain ⟨o1, h2, hF⟩ := bd_s hF
  refine x_callVi (st := []) C (c_X2_leastSum h2) xm_X2_leastSum ml_X8_170 22 rfl rfl rfl rfl rfl rfl dX8_best_16 ⟨rfl, rfl⟩ ?_
  cases hF
  exact x_iret C E dX8_best_19
set_option maxHeartbeats 4000000 in
set_option maxRecDepth 100000 in
theorem c_X1_bits {κ : xb_k} {q : Nat → Nat} {nn : Nat} {xro : (Nat → Int64)} {xrn : (Nat → Int64)} {xfo : (Nat → Int32)} {xva : (Nat → Int32)} {xts : Int32} {xus : (Nat → Int32)} {xnu : (Nat → Int32)} {xth : Int32} {xsp : Int32} {xpr : (Nat → Int64)} {xpn : (Nat → Int64)} {xbs : Int32} {xwr : (Nat → Int32)} {xno : (Nat → Int32)} {xki : (Nat → Int32)} {xdi : (Nat → Int32)} {xde : (Nat → Int32)} {xst : (Nat → Int32)} {xta : (Nat → Int32)} {xcb : Int32} {xcd : Int32} {xbe : (Nat → Int32)} {xli : (Nat → Int32)} {xke : (Nat → Int32)} {xne : (Nat → Int64)}   {o : Unit} (hF : F_X1_bits = some o) : Met κ.1 yX1_bits [Cond.code yX1_bits cX1_bits 1 (some (.object "NeighbourBook$Bits"))] { frames := 0, cells := 0, slots := 0, locals := 0 } (xb_P κ [.ref (q 10)] (xw κ q nn xro xrn xfo xva xts xus xnu xth xsp xpr xpn xbs xwr xno xki xdi xde xst xta xcb xcd xbe xli xke xne)) (xb_Qr κ (q 14) (xw κ q nn xro xrn xfo xva xts xus xnu xth xsp xpr xpn xbs xwr xno xki xdi xde xst xta xcb xcd xbe xli xke xne)) 0 0 κ.2.2.1 := by
  refine x_enter (own := RX1) (lv0 := [(0, .ref (q 10))]) (by decide) rfl rfl rfl (fun Γ C E => ?_)
  unfold F_X1_bits at hF
  refine x_aload_n C dX1_bits_0 0 rfl ?_
  refine gf_X1_35 C 10 rfl rfl dX1_bits_1 ?_
  cases hF
  exact x_aret C E dX1_bits_4
set_option maxHeartbeats 4000000 in
set_option maxRecDepth 100000 in
theorem c_X0_bitOf {κ : xb_k} {q : Nat → Nat} {nn : Nat} {xro : (Nat → Int64)} {xrn : (Nat → Int64)} {xfo : (Nat → Int32)} {xva : (Nat → Int32)} {xts : Int32} {xus : (Nat → Int32)} {xnu : (Nat → Int32)} {xth : Int32} {xsp : Int32} {xpr : (Nat → Int64)} {xpn : (Nat → Int64)} {xbs : Int32} {xwr : (Nat → Int32)} {xno : (Nat → Int32)} {xki : (Nat → Int32)} {xdi : (Nat → Int32)} {xde : (Nat → Int32)} {xst : (Nat → Int32)} {xta : (Nat → Int32)} {xcb : Int32} {xcd : Int32} {xbe : (Nat → Int32)} {xli : (Nat → Int32)} {xke : (Nat → Int32)} {xne : (Nat → Int64)} {x1 : Int32}  {o : Int32} (hF : F_X0_bitOf nn x1 xno = some o) : Met κ.1 yX0_bitOf [Cond.code yX0_bitOf cX0_bitOf 2 (some .int)] { frames := 1, cells := 0, slots := 0, locals := 21 } (xb_P κ [.ref (q 16), .int x1] (xw κ q nn xro xrn xfo xva xts xus xnu xth xsp xpr xpn xbs xwr xno xki xdi xde xst xta xcb xcd xbe xli xke xne)) (xb_Qi κ o (xw κ q nn xro xrn xfo xva xts xus xnu xth xsp xpr xpn xbs xwr xno xki xdi xde xst xta xcb xcd xbe xli xke xne)) 0 0 κ.2.2.1 := by
  refine x_enter (own := RX0) (lv0 := [(0, .ref (q 16)), (1, .int x1)]) (by decide) rfl rfl rfl (fun Γ C E => ?_)
  unfold F_X0_bitOf at hF
  refine x_aload_n C dX0_bitOf_0 0 rfl ?_
  refine x_iload_n C dX0_bitOf_1 1 rfl ?_
  refine x_iconst (v := 3) C dX0_bitOf_2 (by decide) ?_
  refine x_ishr C dX0_bitOf_3 ?_
  obtain ⟨b1, hF⟩ := ck_s hF
  replace b1 := Nat.le_of_ble_eq_true b1
  refine x_callNi (st := []) C (c_element κ 16 rfl (by omega)) xm_X8_element mn_X0_72 rfl rfl rfl rfl dX0_bitOf_4 ⟨rfl, rfl⟩ ?_
  refine x_bipush (v := 7) C dX0_bitOf_7 (by decide) ?_
  refine x_iload_n C dX0_bitOf_9 1 rfl ?_
  refine x_bipush (v := 7) C dX0_bitOf_10 (by decide) ?_
  refine x_iand C dX0_bitOf_12 ?_
  refine x_isub C dX0_bitOf_13 ?_
  refine x_ishr C dX0_bitOf_14 ?_
  refine x_iconst (v := 1) C dX0_bitOf_15 (by decide) ?_
  refine x_iand C dX0_bitOf_16 ?_
  cases hF
  exact x_iret C E dX0_bitOf_17
set_option maxHeartbeats 4000000 in
set_option maxRecDepth 100000 in
theorem c_X0_bitNow {κ : xb_k} {q : Nat → Nat} {nn : Nat} {xro : (Nat → Int64)} {xrn : (Nat → Int64)} {xfo : (Nat → Int32)} {xva : (Nat → Int32)} {xts : Int32} {xus : (Nat → Int32)} {xnu : (Nat → Int32)} {xth : Int32} {xsp : Int32} {xpr : (Nat → Int64)} {xpn : (Nat → Int64)} {xbs : Int32} {xwr : (Nat → Int32)} {xno : (Nat → Int32)} {xki : (Nat → Int32)} {xdi : (Nat → Int32)} {xde : (Nat → Int32)} {xst : (Nat → Int32)} {xta : (Nat → Int32)} {xcb : Int32} {xcd : Int32} {xbe : (Nat → Int32)} {xli : (Nat → Int32)} {xke : (Nat → Int32)} {xne : (Nat → Int64)} {x1 : Int32}  {o : Int32} (hF : F_X0_bitNow nn x1 xbs xno = some o) : Met κ.1 yX0_bitNow [Cond.code yX0_bitNow cX0_bitNow 2 (some .int)] { frames := 2, cells := 0, slots := 0, locals := 42 } (xb_P κ [.ref (q 14), .int x1] (xw κ q nn xro xrn xfo xva xts xus xnu xth xsp xpr xpn xbs xwr xno xki xdi xde xst xta xcb xcd xbe xli xke xne)) (xb_Qi κ o (xw κ q nn xro xrn xfo xva xts xus xnu xth xsp xpr xpn xbs xwr xno xki xdi xde xst xta xcb xcd xbe xli xke xne)) 0 0 κ.2.2.1 := by
  refine x_enter (own := RX0) (lv0 := [(0, .ref (q 14)), (1, .int x1)]) (by decide) rfl rfl rfl (fun Γ C E => ?_)
  unfold F_X0_bitNow at hF
  refine x_iload_n C dX0_bitNow_0 1 rfl ?_
  refine x_aload_n C dX0_bitNow_1 0 rfl ?_
  refine gf_X0_9 C 14 rfl rfl dX0_bitNow_2 ?_
  obtain ⟨o1, h2, hF⟩ := bd_s hF
  refine x_callNi (st := []) C (c_X8_isBelow h2) xm_X8_isBelow mn_X0_59 rfl rfl rfl rfl dX0_bitNow_5 ⟨rfl, rfl⟩ ?_
  refine x_if_eq (tgt := 22) C dX0_bitNow_8 (by decide) (fun hc => ?_) (fun hc => ?_)
  · replace hF := ifp hc hF
    refine x_iconst (v := (-1)) C dX0_bitNow_22 (by decide) ?_
    cases hF
    exact x_iret C E dX0_bitNow_23
  · replace hF := ifn hc hF
    refine x_aload_n C dX0_bitNow_11 0 rfl ?_
    refine gf_X0_25 C 14 rfl rfl dX0_bitNow_12 ?_
    refine x_iload_n C dX0_bitNow_15 1 rfl ?_
    obtain ⟨o3, h4, hF⟩ := bd_s hF
    refine x_callSi (st := []) C (c_X0_bitOf h4) xm_X0_bitOf ml_X0_63 rfl rfl rfl rfl dX0_bitNow_16 ⟨rfl, rfl⟩ ?_
    refine x_goto (tgt := 23) C dX0_bitNow_19 (by decide) ?_
    cases hF
    exact x_iret C E dX0_bitNow_23
set_option maxHeartbeats 4000000 in
set_option maxRecDepth 100000 in
theorem c_X8_bit {κ : xb_k} {q : Nat → Nat} {nn : Nat} {xro : (Nat → Int64)} {xrn : (Nat → Int64)} {xfo : (Nat → Int32)} {xva : (Nat → Int32)} {xts : Int32} {xus : (Nat → Int32)} {xnu : (Nat → Int32)} {xth : Int32} {xsp : Int32} {xpr : (Nat → Int64)} {xpn : (Nat → Int64)} {xbs : Int32} {xwr : (Nat → Int32)} {xno : (Nat → Int32)} {xki : (Nat → Int32)} {xdi : (Nat → Int32)} {xde : (Nat → Int32)} {xst : (Nat → Int32)} {xta : (Nat → Int32)} {xcb : Int32} {xcd : Int32} {xbe : (Nat → Int32)} {xli : (Nat → Int32)} {xke : (Nat → Int32)} {xne : (Nat → Int64)} {x1 : Int32}  {o : Int32} (hF : F_X8_bit nn x1 xth xbs xno = some o) : Met κ.1 yX8_bit [Cond.code yX8_bit cX8_bit 2 (some .int)] { frames := 3, cells := 0, slots := 0, locals := 63 } (xb_P κ [.ref (q 0), .int x1] (xw κ q nn xro xrn xfo xva xts xus xnu xth xsp xpr xpn xbs xwr xno xki xdi xde xst xta xcb xcd xbe xli xke xne)) (xb_Qi κ o (xw κ q nn xro xrn xfo xva xts xus xnu xth xsp xpr xpn xbs xwr xno xki xdi xde xst xta xcb xcd xbe xli xke xne)) 0 0 κ.2.2.1 := by
  refine x_enter (own := RX8) (lv0 := [(0, .ref (q 0)), (1, .int x1)]) (by decide) rfl rfl rfl (fun Γ C E => ?_)
  unfold F_X8_bit at hF
  refine x_aload_n C dX8_bit_0 0 rfl ?_
  refine gf_X8_44 C 0 rfl rfl dX8_bit_1 ?_
  obtain ⟨o1, h2, hF⟩ := bd_s hF
  refine x_callVi (st := []) C (c_X1_isThere h2) xm_X1_isThere ml_X8_141 10 rfl rfl rfl rfl rfl rfl dX8_bit_4 ⟨rfl, rfl⟩ ?_
  refine x_if_eq (tgt := 24) C dX8_bit_7 (by decide) (fun hc => ?_) (fun hc => ?_)
  · replace hF := ifp hc hF
    refine x_iconst (v := (-1)) C dX8_bit_24 (by decide) ?_
    cases hF
    exact x_iret C E dX8_bit_25
  · replace hF := ifn hc hF
    refine x_aload_n C dX8_bit_10 0 rfl ?_
    refine gf_X8_44 C 0 rfl rfl dX8_bit_11 ?_
    obtain ⟨o3, h4, hF⟩ := bd_s hF
    refine x_callVr (st := []) C (c_X1_bits h4) xm_X1_bits ml_X8_174 10 rfl rfl rfl rfl rfl rfl dX8_bit_14 ⟨rfl, rfl⟩ ?_
    refine x_iload_n C dX8_bit_17 1 rfl ?_
    obtain ⟨o5, h6, hF⟩ := bd_s hF
    refine x_callVi (st := []) C (c_X0_bitNow h6) xm_X0_bitNow ml_X8_178 14 rfl rfl rfl rfl rfl rfl dX8_bit_18 ⟨rfl, rfl⟩ ?_
    refine x_goto (tgt := 25) C dX8_bit_21 (by decide) ?_
    cases hF
    exact x_iret C E dX8_bit_25

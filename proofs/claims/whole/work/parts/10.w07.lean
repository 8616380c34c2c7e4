set_option maxHeartbeats 4000000 in
set_option maxRecDepth 100000 in
theorem c_X6_useAt {κ : xb_k} {q : Nat → Nat} {nn : Nat} {xro : (Nat → Int64)} {xrn : (Nat → Int64)} {xfo : (Nat → Int32)} {xva : (Nat → Int32)} {xts : Int32} {xus : (Nat → Int32)} {xnu : (Nat → Int32)} {xth : Int32} {xsp : Int32} {xpr : (Nat → Int64)} {xpn : (Nat → Int64)} {xbs : Int32} {xwr : (Nat → Int32)} {xno : (Nat → Int32)} {xki : (Nat → Int32)} {xdi : (Nat → Int32)} {xde : (Nat → Int32)} {xst : (Nat → Int32)} {xta : (Nat → Int32)} {xcb : Int32} {xcd : Int32} {xbe : (Nat → Int32)} {xli : (Nat → Int32)} {xke : (Nat → Int32)} {xne : (Nat → Int64)} {x1 : Int32}  {o : Int32} (hF : F_X6_useAt x1 xus = some o) : Met κ.1 yX6_useAt [Cond.code yX6_useAt cX6_useAt 2 (some .int)] { frames := 1, cells := 0, slots := 0, locals := 21 } (xb_P κ [.ref (q 7), .int x1] (xw κ q nn xro xrn xfo xva xts xus xnu xth xsp xpr xpn xbs xwr xno xki xdi xde xst xta xcb xcd xbe xli xke xne)) (xb_Qi κ o (xw κ q nn xro xrn xfo xva xts xus xnu xth xsp xpr xpn xbs xwr xno xki xdi xde xst xta xcb xcd xbe xli xke xne)) 0 0 κ.2.2.1 := by
  refine x_enter (own := RX6) (lv0 := [(0, .ref (q 7)), (1, .int x1)]) (by decide) rfl rfl rfl (fun Γ C E => ?_)
  unfold F_X6_useAt at hF
  refine x_aload_n C dX6_useAt_0 0 rfl ?_
  refine gf_X6_11 C 7 rfl rfl dX6_useAt_1 ?_
  refine x_iload_n C dX6_useAt_4 1 rfl ?_
  refine x_callNi (st := []) C (c_element κ 8 rfl (by decide)) xm_X8_element mn_X6_22 rfl rfl rfl rfl dX6_useAt_5 ⟨rfl, rfl⟩ ?_
  cases hF
  exact x_iret C E dX6_useAt_8
set_option maxHeartbeats 4000000 in
set_option maxRecDepth 100000 in
theorem c_X6_numberAt {κ : xb_k} {q : Nat → Nat} {nn : Nat} {xro : (Nat → Int64)} {xrn : (Nat → Int64)} {xfo : (Nat → Int32)} {xva : (Nat → Int32)} {xts : Int32} {xus : (Nat → Int32)} {xnu : (Nat → Int32)} {xth : Int32} {xsp : Int32} {xpr : (Nat → Int64)} {xpn : (Nat → Int64)} {xbs : Int32} {xwr : (Nat → Int32)} {xno : (Nat → Int32)} {xki : (Nat → Int32)} {xdi : (Nat → Int32)} {xde : (Nat → Int32)} {xst : (Nat → Int32)} {xta : (Nat → Int32)} {xcb : Int32} {xcd : Int32} {xbe : (Nat → Int32)} {xli : (Nat → Int32)} {xke : (Nat → Int32)} {xne : (Nat → Int64)} {x1 : Int32}  {o : Int32} (hF : F_X6_numberAt x1 xnu = some o) : Met κ.1 yX6_numberAt [Cond.code yX6_numberAt cX6_numberAt 2 (some .int)] { frames := 1, cells := 0, slots := 0, locals := 21 } (xb_P κ [.ref (q 7), .int x1] (xw κ q nn xro xrn xfo xva xts xus xnu xth xsp xpr xpn xbs xwr xno xki xdi xde xst xta xcb xcd xbe xli xke xne)) (xb_Qi κ o (xw κ q nn xro xrn xfo xva xts xus xnu xth xsp xpr xpn xbs xwr xno xki xdi xde xst xta xcb xcd xbe xli xke xne)) 0 0 κ.2.2.1 := by
  refine x_enter (own := RX6) (lv0 := [(0, .ref (q 7)), (1, .int x1)]) (by decide) rfl rfl rfl (fun Γ C E => ?_)
  unfold F_X6_numberAt at hF
  refine x_aload_n C dX6_numberAt_0 0 rfl ?_
  refine gf_X6_15 C 7 rfl rfl dX6_numberAt_1 ?_
  refine x_iload_n C dX6_numberAt_4 1 rfl ?_
  refine x_callNi (st := []) C (c_element κ 9 rfl (by decide)) xm_X8_element mn_X6_22 rfl rfl rfl rfl dX6_numberAt_5 ⟨rfl, rfl⟩ ?_
  cases hF
  exact x_iret C E dX6_numberAt_8
set_option maxHeartbeats 4000000 in
set_option maxRecDepth 100000 in
theorem w_X6_bitsToTell_L21 {κ : xb_k} {Γ : xb_X} {q : Nat → Nat} {nn : Nat} {xro : (Nat → Int64)} {xrn : (Nat → Int64)} {xfo : (Nat → Int32)} {xva : (Nat → Int32)} {xts : Int32} {xus : (Nat → Int32)} {xnu : (Nat → Int32)} {xth : Int32} {xsp : Int32} {xpr : (Nat → Int64)} {xpn : (Nat → Int64)} {xbs : Int32} {xwr : (Nat → Int32)} {xno : (Nat → Int32)} {xki : (Nat → Int32)} {xdi : (Nat → Int32)} {xde : (Nat → Int32)} {xst : (Nat → Int32)} {xta : (Nat → Int32)} {xcb : Int32} {xcd : Int32} {xbe : (Nat → Int32)} {xli : (Nat → Int32)} {xke : (Nat → Int32)} {xne : (Nat → Int64)}  {fu : Nat} (C : xb_C κ Γ 9 cX6_bitsToTell RX6 { frames := 4, cells := 0, slots := 0, locals := 98 }) : ∀ (n : Nat) (x6 : Int32) (x7 : Int32) (o : Int32), F_X6_bitsToTell_L21 fu xts xus xfo xnu n x6 x7 = some o → xb_W κ Γ 9 0 0 76 [(6, .int o)] [] (xw κ q nn xro xrn xfo xva xts xus xnu xth xsp xpr xpn xbs xwr xno xki xdi xde xst xta xcb xcd xbe xli xke xne) → xb_W κ Γ 9 0 0 21 [(0, .ref (q 7)), (5, .ref (q 4)), (6, .int x6), (7, .int x7)] [] (xw κ q nn xro xrn xfo xva xts xus xnu xth xsp xpr xpn xbs xwr xno xki xdi xde xst xta xcb xcd xbe xli xke xne) := by
  intro n
  induction n with
  | zero =>
    intro x6 x7 o hF K
    rw [F_X6_bitsToTell_L21] at hF
    cases hF
  | succ n ih =>
    intro x6 x7 o hF K
    rw [F_X6_bitsToTell_L21] at hF
    refine x_iload C dX6_bitsToTell_21 3 rfl ?_
    refine x_aload_n C dX6_bitsToTell_23 0 rfl ?_
    refine gf_X6_18 C 7 rfl rfl dX6_bitsToTell_24 ?_
    refine x_icmp_ge (tgt := 76) C dX6_bitsToTell_27 (by decide) (fun hc => ?_) (fun hc => ?_)
    · replace hF := ifp hc hF
      cases hF
      exact x_sub [2] rfl K
    · replace hF := ifn hc hF
      refine x_aload_n C dX6_bitsToTell_30 0 rfl ?_
      refine x_iload C dX6_bitsToTell_31 3 rfl ?_
      obtain ⟨o3, h4, hF⟩ := bd_s hF
      refine x_callVi (st := []) C (c_X6_useAt h4) xm_X6_useAt ml_X6_58 7 rfl rfl rfl rfl rfl rfl dX6_bitsToTell_33 ⟨rfl, rfl⟩ ?_
      refine x_istore (lv2 := [(8, .int o3), (0, .ref (q 7)), (5, .ref (q 4)), (6, .int x6), (7, .int x7)]) C dX6_bitsToTell_36 (by decide) rfl ?_
      refine x_iload C dX6_bitsToTell_38 3 rfl ?_
      refine x_iload C dX6_bitsToTell_40 0 rfl ?_
      refine x_bipush (v := 8) C dX6_bitsToTell_42 (by decide) ?_
      refine x_icmp_ne (tgt := 51) C dX6_bitsToTell_44 (by decide) (fun hc => ?_) (fun hc => ?_)
      · replace hF := ifn hc hF
        refine x_aload C dX6_bitsToTell_51 2 rfl ?_
        refine x_iload C dX6_bitsToTell_53 0 rfl ?_
        obtain ⟨o5, h6, hF⟩ := bd_s hF
        refine x_callVi (st := [.int x6]) C (c_X5_formOf h6) xm_X5_formOf ml_X6_62 4 rfl rfl rfl rfl rfl rfl dX6_bitsToTell_55 ⟨rfl, rfl⟩ ?_
        refine x_aload_n C dX6_bitsToTell_58 1 rfl ?_
        refine x_iload C dX6_bitsToTell_59 4 rfl ?_
        obtain ⟨o7, h8, hF⟩ := bd_s hF
        refine x_callVi (st := [.int o5, .int x6]) C (c_X6_numberAt h8) xm_X6_numberAt ml_X6_67 7 rfl rfl rfl rfl rfl rfl dX6_bitsToTell_61 ⟨rfl, rfl⟩ ?_
        obtain ⟨o9, h10, hF⟩ := bd_s hF
        refine x_callNi (st := [.int x6]) C (c_X8_bitsIn h10) xm_X8_bitsIn mn_X6_70 rfl rfl rfl rfl dX6_bitsToTell_64 ⟨rfl, rfl⟩ ?_
        refine x_iadd C dX6_bitsToTell_67 ?_
        refine x_istore (lv2 := [(6, .int (x6 + o9)), (8, .int o3), (0, .ref (q 7)), (5, .ref (q 4)), (7, .int x7)]) C dX6_bitsToTell_68 (by decide) rfl ?_
        refine x_iinc (v := x7 + 1) (lv2 := [(7, .int (x7 + 1)), (6, .int (x6 + o9)), (8, .int o3), (0, .ref (q 7)), (5, .ref (q 4))]) C dX6_bitsToTell_70 4 rfl rfl (by decide) rfl ?_
        refine x_goto (tgt := 21) C dX6_bitsToTell_73 (by decide) ?_
        exact x_sub [3, 4, 1, 0] rfl (ih _ _ _ hF K)
      · replace hF := ifp hc hF
        refine x_iconst (v := 1) C dX6_bitsToTell_47 (by decide) ?_
        refine x_goto (tgt := 67) C dX6_bitsToTell_48 (by decide) ?_
        refine x_iadd C dX6_bitsToTell_67 ?_
        refine x_istore (lv2 := [(6, .int (x6 + (1 : Int32))), (8, .int o3), (0, .ref (q 7)), (5, .ref (q 4)), (7, .int x7)]) C dX6_bitsToTell_68 (by decide) rfl ?_
        refine x_iinc (v := x7 + 1) (lv2 := [(7, .int (x7 + 1)), (6, .int (x6 + (1 : Int32))), (8, .int o3), (0, .ref (q 7)), (5, .ref (q 4))]) C dX6_bitsToTell_70 4 rfl rfl (by decide) rfl ?_
        refine x_goto (tgt := 21) C dX6_bitsToTell_73 (by decide) ?_
        exact x_sub [3, 4, 1, 0] rfl (ih _ _ _ hF K)
set_option maxHeartbeats 4000000 in
set_option maxRecDepth 100000 in
theorem c_X6_bitsToTell {κ : xb_k} {q : Nat → Nat} {nn : Nat} {xro : (Nat → Int64)} {xrn : (Nat → Int64)} {xfo : (Nat → Int32)} {xva : (Nat → Int32)} {xts : Int32} {xus : (Nat → Int32)} {xnu : (Nat → Int32)} {xth : Int32} {xsp : Int32} {xpr : (Nat → Int64)} {xpn : (Nat → Int64)} {xbs : Int32} {xwr : (Nat → Int32)} {xno : (Nat → Int32)} {xki : (Nat → Int32)} {xdi : (Nat → Int32)} {xde : (Nat → Int32)} {xst : (Nat → Int32)} {xta : (Nat → Int32)} {xcb : Int32} {xcd : Int32} {xbe : (Nat → Int32)} {xli : (Nat → Int32)} {xke : (Nat → Int32)} {xne : (Nat → Int64)} {x2 : Int32} {x3 : Int32} {x4 : Int32} {fu : Nat} {o : Int32 × Int32 × (Nat → Int32) × (Nat → Int32)} (hF : F_X6_bitsToTell fu nn x2 x3 x4 xro xts xus xnu xfo = some o) : Met κ.1 yX6_bitsToTell [Cond.code yX6_bitsToTell cX6_bitsToTell 9 (some .int)] { frames := 4, cells := 0, slots := 0, locals := 98 } (xb_P κ [.ref (q 7), .ref (q 1), .int x2, .int x3, .int x4, .ref (q 4)] (xw κ q nn xro xrn xfo xva xts xus xnu xth xsp xpr xpn xbs xwr xno xki xdi xde xst xta xcb xcd xbe xli xke xne)) (xb_Qi κ o.1 (xw κ q nn xro xrn xfo xva o.2.1 o.2.2.1 o.2.2.2 xth xsp xpr xpn xbs xwr xno xki xdi xde xst xta xcb xcd xbe xli xke xne)) 0 0 κ.2.2.1 := by
  refine x_enter (own := RX6) (lv0 := [(0, .ref (q 7)), (1, .ref (q 1)), (2, .int x2), (3, .int x3), (4, .int x4), (5, .ref (q 4))]) (by decide) rfl rfl rfl (fun Γ C E => ?_)
  unfold F_X6_bitsToTell at hF
  refine x_aload_n C dX6_bitsToTell_0 0 rfl ?_
  refine x_aload_n C dX6_bitsToTell_1 1 rfl ?_
  refine x_iload_n C dX6_bitsToTell_2 2 rfl ?_
  refine x_iload_n C dX6_bitsToTell_3 3 rfl ?_
  refine x_iload C dX6_bitsToTell_4 4 rfl ?_
  obtain ⟨o1, h2, hF⟩ := bd_s hF
  refine x_callVi (st := []) C (c_X6_tell h2) xm_X6_tell ml_X6_53 7 rfl rfl rfl rfl rfl rfl dX6_bitsToTell_6 ⟨rfl, rfl⟩ ?_
  refine x_if_ne (tgt := 15) C dX6_bitsToTell_9 (by decide) (fun hc => ?_) (fun hc => ?_)
  · replace hF := ifn hc hF
    refine x_iconst (v := 0) C dX6_bitsToTell_15 (by decide) ?_
    refine x_istore (lv2 := [(6, .int (0 : Int32)), (0, .ref (q 7)), (1, .ref (q 1)), (2, .int x2), (3, .int x3), (4, .int x4), (5, .ref (q 4))]) C dX6_bitsToTell_16 (by decide) rfl ?_
    refine x_iconst (v := 0) C dX6_bitsToTell_18 (by decide) ?_
    refine x_istore (lv2 := [(7, .int (0 : Int32)), (6, .int (0 : Int32)), (0, .ref (q 7)), (1, .ref (q 1)), (2, .int x2), (3, .int x3), (4, .int x4), (5, .ref (q 4))]) C dX6_bitsToTell_19 (by decide) rfl ?_
    obtain ⟨o11, h12, hF⟩ := bd_s hF
    refine x_sub [2, 7, 1, 0] rfl (w_X6_bitsToTell_L21 C fu _ _ _ h12 ?_)
    refine x_iload C dX6_bitsToTell_76 0 rfl ?_
    cases hF
    exact x_iret C E dX6_bitsToTell_78
  · replace hF := ifp hc hF
    refine x_ldc C dX6_bitsToTell_12 kk_X6_57 ?_
    cases hF
    exact x_iret C E dX6_bitsToTell_14
set_option maxHeartbeats 4000000 in
set_option maxRecDepth 100000 in
theorem c_X8_cost {κ : xb_k} {q : Nat → Nat} {nn : Nat} {xro : (Nat → Int64)} {xrn : (Nat → Int64)} {xfo : (Nat → Int32)} {xva : (Nat → Int32)} {xts : Int32} {xus : (Nat → Int32)} {xnu : (Nat → Int32)} {xth : Int32} {xsp : Int32} {xpr : (Nat → Int64)} {xpn : (Nat → Int64)} {xbs : Int32} {xwr : (Nat → Int32)} {xno : (Nat → Int32)} {xki : (Nat → Int32)} {xdi : (Nat → Int32)} {xde : (Nat → Int32)} {xst : (Nat → Int32)} {xta : (Nat → Int32)} {xcb : Int32} {xcd : Int32} {xbe : (Nat → Int32)} {xli : (Nat → Int32)} {xke : (Nat → Int32)} {xne : (Nat → Int64)} {x1 : Int32} {x2 : Int32} {x3 : Int32} {fu : Nat} {o : Int32 × Int32 × (Nat → Int32) × (Nat → Int32)} (hF : F_X8_cost fu nn x1 x2 x3 xro xts xus xnu xfo = some o) : Met κ.1 yX8_cost [Cond.code yX8_cost cX8_cost 5 (some .int)] { frames := 5, cells := 0, slots := 0, locals := 126 } (xb_P κ [.ref (q 0), .int x1, .int x2, .int x3] (xw κ q nn xro xrn xfo xva xts xus xnu xth xsp xpr xpn xbs xwr xno xki xdi xde xst xta xcb xcd xbe xli xke xne)) (xb_Qi κ o.1 (xw κ q nn xro xrn xfo xva o.2.1 o.2.2.1 o.2.2.2 xth xsp xpr xpn xbs xwr xno xki xdi xde xst xta xcb xcd xbe xli xke xne)) 0 0 κ.2.2.1 := by
  refine x_enter (own := RX8) (lv0 := [(0, .ref (q 0)), (1, .int x1), (2, .int x2), (3, .int x3)]) (by decide) rfl rfl rfl (fun Γ C E => ?_)
  unfold F_X8_cost at hF
  refine x_aload_n C dX8_cost_0 0 rfl ?_
  refine gf_X8_23 C 0 rfl rfl dX8_cost_1 ?_
  refine x_iload_n C dX8_cost_4 1 rfl ?_
  obtain ⟨o1, h2, hF⟩ := bd_s hF
  refine x_callVi (st := []) C (c_X4_isThing h2) xm_X4_isThing ml_X8_73 1 rfl rfl rfl rfl rfl rfl dX8_cost_5 ⟨rfl, rfl⟩ ?_
  refine x_if_eq (tgt := 19) C dX8_cost_8 (by decide) (fun hc => ?_) (fun hc => ?_)
  · replace hF := ifp hc hF
    refine x_bipush (v := (-2)) C dX8_cost_19 (by decide) ?_
    cases hF
    exact x_iret C E dX8_cost_21
  · replace hF := ifn hc hF
    refine x_iload_n C dX8_cost_11 2 rfl ?_
    refine x_iconst (v := 5) C dX8_cost_12 (by decide) ?_
    obtain ⟨o3, h4, hF⟩ := bd_s hF
    refine x_callSi (st := []) C (c_X8_isBelow h4) xm_X8_isBelow ml_X8_89 rfl rfl rfl rfl dX8_cost_13 ⟨rfl, rfl⟩ ?_
    refine x_if_ne (tgt := 22) C dX8_cost_16 (by decide) (fun hc => ?_) (fun hc => ?_)
    · replace hF := ifn hc hF
      refine x_iload_n C dX8_cost_22 2 rfl ?_
      obtain ⟨o5, h6, hF⟩ := bd_s hF
      refine x_callSi (st := []) C (c_X8_isCopy h6) xm_X8_isCopy ml_X8_125 rfl rfl rfl rfl dX8_cost_23 ⟨rfl, rfl⟩ ?_
      refine x_if_eq (tgt := 42) C dX8_cost_26 (by decide) (fun hc => ?_) (fun hc => ?_)
      · replace hF := ifp hc hF
        refine x_aload_n C dX8_cost_42 0 rfl ?_
        refine gf_X8_37 C 0 rfl rfl dX8_cost_43 ?_
        refine x_aload_n C dX8_cost_46 0 rfl ?_
        refine gf_X8_23 C 0 rfl rfl dX8_cost_47 ?_
        refine x_iload_n C dX8_cost_50 1 rfl ?_
        refine x_iload_n C dX8_cost_51 2 rfl ?_
        refine x_iload_n C dX8_cost_52 3 rfl ?_
        refine x_aload_n C dX8_cost_53 0 rfl ?_
        refine gf_X8_30 C 0 rfl rfl dX8_cost_54 ?_
        obtain ⟨o7, h8, hF⟩ := bd_s hF
        refine x_callVi (st := []) C (c_X6_bitsToTell h8) xm_X6_bitsToTell ml_X8_128 7 rfl rfl rfl rfl rfl rfl dX8_cost_57 ⟨rfl, rfl⟩ ?_
        refine x_istore (lv2 := [(4, .int o7.1), (0, .ref (q 0)), (1, .int x1), (2, .int x2), (3, .int x3)]) C dX8_cost_60 (by decide) rfl ?_
        refine x_iload C dX8_cost_62 0 rfl ?_
        refine x_ldc C dX8_cost_64 kk_X8_132 ?_
        refine x_icmp_ne (tgt := 74) C dX8_cost_66 (by decide) (fun hc => ?_) (fun hc => ?_)
        · replace hF := ifn hc hF
          refine x_iload C dX8_cost_74 0 rfl ?_
          cases hF
          exact x_iret C E dX8_cost_76
        · replace hF := ifp hc hF
          refine x_bipush (v := (-3)) C dX8_cost_69 (by decide) ?_
          refine x_goto (tgt := 76) C dX8_cost_71 (by decide) ?_
          cases hF
          exact x_iret C E dX8_cost_76
      · replace hF := ifn hc hF
        refine x_iload_n C dX8_cost_29 3 rfl ?_
        refine x_iconst (v := 1) C dX8_cost_30 (by decide) ?_
        refine x_icmp_lt (tgt := 39) C dX8_cost_31 (by decide) (fun hc => ?_) (fun hc => ?_)
        · replace hF := ifp hc hF
          refine x_bipush (v := (-2)) C dX8_cost_39 (by decide) ?_
          cases hF
          exact x_iret C E dX8_cost_41
        · replace hF := ifn hc hF
          refine x_iload_n C dX8_cost_34 3 rfl ?_
          refine x_iload_n C dX8_cost_35 1 rfl ?_
          refine x_icmp_le (tgt := 42) C dX8_cost_36 (by decide) (fun hc => ?_) (fun hc => ?_)
          · replace hF := ifp hc hF
            refine x_aload_n C dX8_cost_42 0 rfl ?_
            refine gf_X8_37 C 0 rfl rfl dX8_cost_43 ?_
            refine x_aload_n C dX8_cost_46 0 rfl ?_
            refine gf_X8_23 C 0 rfl rfl dX8_cost_47 ?_
            refine x_iload_n C dX8_cost_50 1 rfl ?_
            refine x_iload_n C dX8_cost_51 2 rfl ?_
            refine x_iload_n C dX8_cost_52 3 rfl ?_
            refine x_aload_n C dX8_cost_53 0 rfl ?_
            refine gf_X8_30 C 0 rfl rfl dX8_cost_54 ?_
            obtain ⟨o9, h10, hF⟩ := bd_s hF
            refine x_callVi (st := []) C (c_X6_bitsToTell h10) xm_X6_bitsToTell ml_X8_128 7 rfl rfl rfl rfl rfl rfl dX8_cost_57 ⟨rfl, rfl⟩ ?_
            refine x_istore (lv2 := [(4, .int o9.1), (0, .ref (q 0)), (1, .int x1), (2, .int x2), (3, .int x3)]) C dX8_cost_60 (by decide) rfl ?_
            refine x_iload C dX8_cost_62 0 rfl ?_
            refine x_ldc C dX8_cost_64 kk_X8_132 ?_
            refine x_icmp_ne (tgt := 74) C dX8_cost_66 (by decide) (fun hc => ?_) (fun hc => ?_)
            · replace hF := ifn hc hF
              refine x_iload C dX8_cost_74 0 rfl ?_
              cases hF
              exact x_iret C E dX8_cost_76
            · replace hF := ifp hc hF
              refine x_bipush (v := (-3)) C dX8_cost_69 (by decide) ?_
              refine x_goto (tgt := 76) C dX8_cost_71 (by decide) ?_
              cases hF
              exact x_iret C E dX8_cost_76
          · replace hF := ifn hc hF
            refine x_bipush (v := (-2)) C dX8_cost_39 (by decide) ?_
            cases hF
            exact x_iret C E dX8_cost_41
    · replace hF := ifp hc hF
      refine x_bipush (v := (-2)) C dX8_cost_19 (by decide) ?_
      cases hF
      exact x_iret C E dX8_cost_21
set_option maxHeartbeats 4000000 in
set_option maxRecDepth 100000 in
theorem w_X4_takeAllOf_L2 {κ : xb_k} {Γ : xb_X} {q : Nat → Nat} {nn : Nat} {xro : (Nat → Int64)} {xrn : (Nat → Int64)} {xfo : (Nat → Int32)} {xva : (Nat → Int32)} {xts : Int32} {xus : (Nat → Int32)} {xnu : (Nat → Int32)} {xth : Int32} {xsp : Int32} {xpn : (Nat → Int64)} {xbs : Int32} {xwr : (Nat → Int32)} {xno : (Nat → Int32)} {xki : (Nat → Int32)} {xdi : (Nat → Int32)} {xde : (Nat → Int32)} {xst : (Nat → Int32)} {xta : (Nat → Int32)} {xcb : Int32} {xcd : Int32} {xbe : (Nat → Int32)} {xli : (Nat → Int32)} {xke : (Nat → Int32)} {xne : (Nat → Int64)}   (C : xb_C κ Γ 3 cX4_takeAllOf RX4 { frames := 1, cells := 0, slots := 0, locals := 21 }) : ∀ (n : Nat) (x2 : Int32) (xpr : (Nat → Int64)) (o : (Nat → Int64)), F_X4_takeAllOf_L2 nn xro n x2 xpr = some o → xb_W κ Γ 3 0 0 28 [] [] (xw κ q nn xro xrn xfo xva xts xus xnu xth xsp o xpn xbs xwr xno xki xdi xde xst xta xcb xcd xbe xli xke xne) → xb_W κ Γ 3 0 0 2 [(0, .ref (q 11)), (1, .ref (q 1)), (2, .int x2)] [] (xw κ q nn xro xrn xfo xva xts xus xnu xth xsp xpr xpn xbs xwr xno xki xdi xde xst xta xcb xcd xbe xli xke xne) := by
  intro n
  induction n with
  | zero =>
    intro x2 xpr o hF K
    rw [F_X4_takeAllOf_L2] at hF
    cases hF
  | succ n ih =>
    intro x2 xpr o hF K
    rw [F_X4_takeAllOf_L2] at hF
    refine x_iload_n C dX4_takeAllOf_2 2 rfl ?_
    refine x_aload_n C dX4_takeAllOf_3 0 rfl ?_
    refine gf_X4_7 C 11 rfl rfl dX4_takeAllOf_4 ?_
    refine x_alen (v := nI nn) C 12 1 rfl rfl rfl dX4_takeAllOf_7 ?_
    refine x_icmp_ge (tgt := 28) C dX4_takeAllOf_8 (by decide) (fun hc => ?_) (fun hc => ?_)
    · replace hF := ifp hc hF
      cases hF
      exact x_sub [] rfl K
    · replace hF := ifn hc hF
      refine x_aload_n C dX4_takeAllOf_11 0 rfl ?_
      refine gf_X4_7 C 11 rfl rfl dX4_takeAllOf_12 ?_
      refine x_iload_n C dX4_takeAllOf_15 2 rfl ?_
      refine x_aload_n C dX4_takeAllOf_16 1 rfl ?_
      refine x_iload_n C dX4_takeAllOf_17 2 rfl ?_
      obtain ⟨o1, h2, hF⟩ := bd_s hF
      refine x_callVl (st := [.int x2, .ref (q 12)]) C (c_X4_rowOf h2) xm_X4_rowOf ml_X4_22 1 rfl rfl rfl rfl rfl rfl dX4_takeAllOf_18 ⟨rfl, rfl⟩ ?_
      obtain ⟨b3, hF⟩ := ck_s hF
      refine x_last (ws2 := (xw κ q nn xro xrn xfo xva xts xus xnu xth xsp (vp_updL xpr x2.toNatClampNeg o1) xpn xbs xwr xno xki xdi xde xst xta xcb xcd xbe xli xke xne)) C 12 rfl b3 dX4_takeAllOf_21 rfl ?_
      refine x_iinc (v := x2 + 1) (lv2 := [(2, .int (x2 + 1)), (0, .ref (q 11)), (1, .ref (q 1))]) C dX4_takeAllOf_22 2 rfl rfl (by decide) rfl ?_
      refine x_goto (tgt := 2) C dX4_takeAllOf_25 (by decide) ?_
      exact x_sub [1, 2, 0] rfl (ih _ _ _ hF K)
set_option maxHeartbeats 4000000 in
set_option maxRecDepth 100000 in
theorem c_X4_takeAllOf {κ : xb_k} {q : Nat → Nat} {nn : Nat} {xro : (Nat → Int64)} {xrn : (Nat → Int64)} {xfo : (Nat → Int32)} {xva : (Nat → Int32)} {xts : Int32} {xus : (Nat → Int32)} {xnu : (Nat → Int32)} {xth : Int32} {xsp : Int32} {xpr : (Nat → Int64)} {xpn : (Nat → Int64)} {xbs : Int32} {xwr : (Nat → Int32)} {xno : (Nat → Int32)} {xki : (Nat → Int32)} {xdi : (Nat → Int32)} {xde : (Nat → Int32)} {xst : (Nat → Int32)} {xta : (Nat → Int32)} {xcb : Int32} {xcd : Int32} {xbe : (Nat → Int32)} {xli : (Nat → Int32)} {xke : (Nat → Int32)} {xne : (Nat → Int64)}  {fu : Nat} {o : (Nat → Int64)} (hF : F_X4_takeAllOf fu nn xro xpr = some o) : Met κ.1 yX4_takeAllOf [Cond.code yX4_takeAllOf cX4_takeAllOf 3 none] { frames := 1, cells := 0, slots := 0, locals := 21 } (xb_P κ [.ref (q 11), .ref (q 1)] (xw κ q nn xro xrn xfo xva xts xus xnu xth xsp xpr xpn xbs xwr xno xki xdi xde xst xta xcb xcd xbe xli xke xne)) (xb_Qv κ (xw κ q nn xro xrn xfo xva xts xus xnu xth xsp o xpn xbs xwr xno xki xdi xde xst xta xcb xcd xbe xli xke xne)) 0 0 κ.2.2.1 := by
  refine x_enter (own := RX4) (lv0 := [(0, .ref (q 11)), (1, .ref (q 1))]) (by decide) rfl rfl rfl (fun Γ C E => ?_)
  unfold F_X4_takeAllOf at hF
  refine x_iconst (v := 0) C dX4_takeAllOf_0 (by decide) ?_
  refine x_istore_n (lv2 := [(2, .int (0 : Int32)), (0, .ref (q 11)), (1, .ref (q 1))]) C dX4_takeAllOf_1 rfl (by decide) rfl ?_
  obtain ⟨o4, h5, hF⟩ := bd_s hF
  refine x_sub [1, 2, 0] rfl (w_X4_takeAllOf_L2 C fu _ _ _ h5 ?_)
  cases hF
  exact x_vret C E dX4_takeAllOf_28
set_option maxHeartbeats 4000000 in
set_option maxRecDepth 100000 in
theorem c_J9_min_7cf53 {κ : xb_k} {ws : va_W}  {x0 : Int32} {x1 : Int32}  {o : Int32} (hF : F_J9_min_7cf53 x0 x1 = some o) : Met κ.1 yJ9_min_7cf53 [Cond.code yJ9_min_7cf53 cJ9_min_7cf53 2 (some .int)] { frames := 0, cells := 0, slots := 0, locals := 0 } (xb_P κ [.int x0, .int x1] ws) (xb_Qi κ o ws) 0 0 κ.2.2.1 := by
  refine x_enterF (own := RJ9) (lv0 := [(0, .int x0), (1, .int x1)]) (by decide +kernel) rfl rfl rfl (fun Γ C E => ?_)
  unfold F_J9_min_7cf53 at hF
  refine x_iload_n C dJ9_min_7cf53_0 0 rfl ?_
  refine x_iload_n C dJ9_min_7cf53_1 1 rfl ?_
  refine x_icmp_gt (tgt := 9) C dJ9_min_7cf53_2 (by decide) (fun hc => ?_) (fun hc => ?_)
  · replace hF := ifp hc hF
    refine x_iload_n C dJ9_min_7cf53_9 1 rfl ?_
    cases hF
    exact x_iret C E dJ9_min_7cf53_10
  · replace hF := ifn hc hF
    refine x_iload_n C dJ9_min_7cf53_5 0 rfl ?_
    refine x_goto (tgt := 10) C dJ9_min_7cf53_6 (by decide) ?_
    cases hF
    exact x_iret C E dJ9_min_7cf53_10
set_option maxHeartbeats 4000000 in
set_option maxRecDepth 100000 in
theorem c_X6_tell_7_11 {κ : xb_k} {q : Nat → Nat} {nn : Nat} {xro : (Nat → Int64)} {xrn : (Nat → Int64)} {xfo : (Nat → Int32)} {xva : (Nat → Int32)} {xts : Int32} {xus : (Nat → Int32)} {xnu : (Nat → Int32)} {xth : Int32} {xsp : Int32} {xpr : (Nat → Int64)} {xpn : (Nat → Int64)} {xbs : Int32} {xwr : (Nat → Int32)} {xno : (Nat → Int32)} {xki : (Nat → Int32)} {xdi : (Nat → Int32)} {xde : (Nat → Int32)} {xst : (Nat → Int32)} {xta : (Nat → Int32)} {xcb : Int32} {xcd : Int32} {xbe : (Nat → Int32)} {xli : (Nat → Int32)} {xke : (Nat → Int32)} {xne : (Nat → Int64)} {x2 : Int32} {x3 : Int32} {x4 : Int32} {fu : Nat} {o : Int32 × Int32 × (Nat → Int32) × (Nat → Int32)} (hF : F_X6_tell fu nn x2 x3 x4 xpr xts xus xnu = some o) : Met κ.1 yX6_tell [Cond.code yX6_tell cX6_tell 9 (some .boolean)] { frames := 3, cells := 0, slots := 0, locals := 70 } (xb_P κ [.ref (q 7), .ref (q 11), .int x2, .int x3, .int x4] (xw κ q nn xro xrn xfo xva xts xus xnu xth xsp xpr xpn xbs xwr xno xki xdi xde xst xta xcb xcd xbe xli xke xne)) (xb_Qi κ o.1 (xw κ q nn xro xrn xfo xva o.2.1 o.2.2.1 o.2.2.2 xth xsp xpr xpn xbs xwr xno xki xdi xde xst xta xcb xcd xbe xli xke xne)) 0 0 κ.2.2.1 := by
  refine x_enter (own := RX6) (lv0 := [(0, .ref (q 7)), (1, .ref (q 11)), (2, .int x2), (3, .int x3), (4, .int x4)]) (by decide) rfl rfl rfl (fun Γ C E => ?_)
  unfold F_X6_tell at hF
  refine x_aload_n C dX6_tell_0 1 rfl ?_
  refine x_iload_n C dX6_tell_1 2 rfl ?_
  obtain ⟨o1, h2, hF⟩ := bd_s hF
  refine x_callVl (st := []) C (c_X4_rowOf_11 h2) xm_X4_rowOf ml_X6_26 11 rfl rfl rfl rfl rfl rfl dX6_tell_2 ⟨rfl, rfl⟩ ?_
  refine x_lstore (lv2 := [(5, .long o1), (0, .ref (q 7)), (1, .ref (q 11)), (2, .int x2), (3, .int x3), (4, .int x4)]) C dX6_tell_5 (by decide) rfl ?_
  refine x_aload_n C dX6_tell_7 1 rfl ?_
  refine x_iconst (v := 0) C dX6_tell_8 (by decide) ?_
  refine pf_X6_18 (ws2 := (xw κ q nn xro xrn xfo xva (0 : Int32) xus xnu xth xsp xpr xpn xbs xwr xno xki xdi xde xst xta xcb xcd xbe xli xke xne)) C 7 rfl dX6_tell_9 rfl rfl ?_
  refine x_aload_n C dX6_tell_12 1 rfl ?_
  refine x_iconst (v := 0) C dX6_tell_13 (by decide) ?_
  refine x_iload_n C dX6_tell_14 4 rfl ?_
  obtain ⟨o3, h4, hF⟩ := bd_s hF
  refine x_callVv (st := []) C (c_X6_add h4) xm_X6_add ml_X6_32 7 rfl rfl rfl rfl rfl rfl dX6_tell_15 ⟨rfl, rfl⟩ ?_
  refine x_iload_n C dX6_tell_18 4 rfl ?_
  by_cases hs19_0 : x3 = 0
  · replace hF := ifp hs19_0 hF
    refine x_tswIn (off := 33) (tgt := 52) 0 C dX6_tell_19 hs19_0 (by decide) (by decide) rfl (by decide) ?_
    refine x_aload_n C dX6_tell_52 1 rfl ?_
    refine x_iload_n C dX6_tell_53 3 rfl ?_
    refine x_lload C dX6_tell_54 0 rfl ?_
    obtain ⟨o5, h6, hF⟩ := bd_s hF
    refine x_callVv (st := []) C (c_X6_tellPlain h6) xm_X6_tellPlain ml_X6_36 7 rfl rfl rfl rfl rfl rfl dX6_tell_56 ⟨rfl, rfl⟩ ?_
    refine x_iconst (v := 1) C dX6_tell_59 (by decide) ?_
    cases hF
    exact x_zret C E rfl dX6_tell_60
  · replace hF := ifn hs19_0 hF
    by_cases hs19_1 : x3 = 1
    · replace hF := ifp hs19_1 hF
      refine x_tswIn (off := 42) (tgt := 61) 1 C dX6_tell_19 hs19_1 (by decide) (by decide) rfl (by decide) ?_
      refine x_aload_n C dX6_tell_61 1 rfl ?_
      refine x_iload_n C dX6_tell_62 3 rfl ?_
      refine x_aload_n C dX6_tell_63 1 rfl ?_
      refine x_iload_n C dX6_tell_64 3 rfl ?_
      refine x_lload C dX6_tell_65 0 rfl ?_
      obtain ⟨o7, h8, hF⟩ := bd_s hF
      refine x_callVl (st := [.int x2, .ref (q 7)]) C (c_X6_tellSpans h8) xm_X6_tellSpans ml_X6_40 7 rfl rfl rfl rfl rfl rfl dX6_tell_67 ⟨rfl, rfl⟩ ?_
      obtain ⟨o9, h10, hF⟩ := bd_s hF
      refine x_callVv (st := []) C (c_X6_tellPlain h10) xm_X6_tellPlain ml_X6_36 7 rfl rfl rfl rfl rfl rfl dX6_tell_70 ⟨rfl, rfl⟩ ?_
      refine x_iconst (v := 1) C dX6_tell_73 (by decide) ?_
      cases hF
      exact x_zret C E rfl dX6_tell_74
    · replace hF := ifn hs19_1 hF
      by_cases hs19_2 : x3 = 2
      · replace hF := ifp hs19_2 hF
        refine x_tswIn (off := 56) (tgt := 75) 2 C dX6_tell_19 hs19_2 (by decide) (by decide) rfl (by decide) ?_
        refine x_aload_n C dX6_tell_75 2 rfl ?_
        refine x_iload_n C dX6_tell_76 3 rfl ?_
        refine x_iload C dX6_tell_77 5 rfl ?_
        refine x_isub C dX6_tell_79 ?_
        obtain ⟨o11, h12, hF⟩ := bd_s hF
        refine x_callVl (st := []) C (c_X4_rowOf_11 h12) xm_X4_rowOf ml_X6_26 11 rfl rfl rfl rfl rfl rfl dX6_tell_80 ⟨rfl, rfl⟩ ?_
        refine x_lstore (lv2 := [(7, .long o11), (5, .long o1), (0, .ref (q 7)), (1, .ref (q 11)), (2, .int x2), (3, .int x3), (4, .int x4)]) C dX6_tell_83 (by decide) rfl ?_
        refine x_aload_n C dX6_tell_85 2 rfl ?_
        refine x_iconst (v := 4) C dX6_tell_86 (by decide) ?_
        refine x_iload C dX6_tell_87 6 rfl ?_
        refine x_iconst (v := 1) C dX6_tell_89 (by decide) ?_
        refine x_isub C dX6_tell_90 ?_
        obtain ⟨o13, h14, hF⟩ := bd_s hF
        refine x_callVv (st := []) C (c_X6_add h14) xm_X6_add ml_X6_32 7 rfl rfl rfl rfl rfl rfl dX6_tell_91 ⟨rfl, rfl⟩ ?_
        refine x_aload_n C dX6_tell_94 2 rfl ?_
        refine x_lload C dX6_tell_95 1 rfl ?_
        refine x_lload C dX6_tell_97 0 rfl ?_
        obtain ⟨o15, h16, hF⟩ := bd_s hF
        refine x_callVv (st := []) C (c_X6_tellBlocks h16) xm_X6_tellBlocks ml_X6_44 7 rfl rfl rfl rfl rfl rfl dX6_tell_99 ⟨rfl, rfl⟩ ?_
        refine x_aload_n C dX6_tell_102 2 rfl ?_
        refine x_iload_n C dX6_tell_103 4 rfl ?_
        refine x_aload_n C dX6_tell_104 2 rfl ?_
        refine x_iload_n C dX6_tell_105 4 rfl ?_
        refine x_lload C dX6_tell_106 1 rfl ?_
        refine x_lload C dX6_tell_108 0 rfl ?_
        refine x_ldc2 C dX6_tell_110 kl_X6_48 ?_
        refine x_lxor C dX6_tell_113 ?_
        refine x_land C dX6_tell_114 ?_
        obtain ⟨o17, h18, hF⟩ := bd_s hF
        refine x_callVl (st := [.int x2, .ref (q 7)]) C (c_X6_tellSpans h18) xm_X6_tellSpans ml_X6_40 7 rfl rfl rfl rfl rfl rfl dX6_tell_115 ⟨rfl, rfl⟩ ?_
        obtain ⟨o19, h20, hF⟩ := bd_s hF
        refine x_callVv (st := []) C (c_X6_tellPlain h20) xm_X6_tellPlain ml_X6_36 7 rfl rfl rfl rfl rfl rfl dX6_tell_118 ⟨rfl, rfl⟩ ?_
        refine x_iconst (v := 1) C dX6_tell_121 (by decide) ?_
        cases hF
        exact x_zret C E rfl dX6_tell_122
      · replace hF := ifn hs19_2 hF
        by_cases hs19_3 : x3 = 3
        · replace hF := ifp hs19_3 hF
          refine x_tswIn (off := 104) (tgt := 123) 3 C dX6_tell_19 hs19_3 (by decide) (by decide) rfl (by decide) ?_
          refine x_aload_n C dX6_tell_123 1 rfl ?_
          refine x_iconst (v := 4) C dX6_tell_124 (by decide) ?_
          refine x_iload C dX6_tell_125 5 rfl ?_
          refine x_iconst (v := 1) C dX6_tell_127 (by decide) ?_
          refine x_isub C dX6_tell_128 ?_
          obtain ⟨o21, h22, hF⟩ := bd_s hF
          refine x_callVv (st := []) C (c_X6_add h22) xm_X6_add ml_X6_32 7 rfl rfl rfl rfl rfl rfl dX6_tell_129 ⟨rfl, rfl⟩ ?_
          refine x_lload C dX6_tell_132 0 rfl ?_
          refine x_aload_n C dX6_tell_134 2 rfl ?_
          refine x_iload_n C dX6_tell_135 3 rfl ?_
          refine x_iload C dX6_tell_136 5 rfl ?_
          refine x_isub C dX6_tell_138 ?_
          obtain ⟨o23, h24, hF⟩ := bd_s hF
          refine x_callVl (st := [.long o1]) C (c_X4_rowOf_11 h24) xm_X4_rowOf ml_X6_26 11 rfl rfl rfl rfl rfl rfl dX6_tell_139 ⟨rfl, rfl⟩ ?_
          refine x_lcmp C dX6_tell_142 ?_
          refine x_if_ne (tgt := 150) C dX6_tell_143 (by decide) (fun hc => ?_) (fun hc => ?_)
          · replace hF := ifn hc hF
            refine x_iconst (v := 0) C dX6_tell_150 (by decide) ?_
            cases hF
            exact x_zret C E rfl dX6_tell_151
          · replace hF := ifp hc hF
            refine x_iconst (v := 1) C dX6_tell_146 (by decide) ?_
            refine x_goto (tgt := 151) C dX6_tell_147 (by decide) ?_
            cases hF
            exact x_zret C E rfl dX6_tell_151
        · replace hF := ifn hs19_3 hF
          by_cases hs19_4 : x3 = 4
          · replace hF := ifp hs19_4 hF
            refine x_tswIn (off := 133) (tgt := 152) 4 C dX6_tell_19 hs19_4 (by decide) (by decide) rfl (by decide) ?_
            refine x_aload_n C dX6_tell_152 1 rfl ?_
            refine x_iload_n C dX6_tell_153 3 rfl ?_
            refine x_lload C dX6_tell_154 0 rfl ?_
            obtain ⟨o25, h26, hF⟩ := bd_s hF
            refine x_callVv (st := []) C (c_X6_tellDense h26) xm_X6_tellDense ml_X6_50 7 rfl rfl rfl rfl rfl rfl dX6_tell_156 ⟨rfl, rfl⟩ ?_
            refine x_lload C dX6_tell_159 0 rfl ?_
            refine x_lconst (v := 0) C dX6_tell_161 (by decide) ?_
            refine x_lcmp C dX6_tell_162 ?_
            refine x_if_eq (tgt := 170) C dX6_tell_163 (by decide) (fun hc => ?_) (fun hc => ?_)
            · replace hF := ifp hc hF
              refine x_iconst (v := 0) C dX6_tell_170 (by decide) ?_
              cases hF
              exact x_zret C E rfl dX6_tell_171
            · replace hF := ifn hc hF
              refine x_iconst (v := 1) C dX6_tell_166 (by decide) ?_
              refine x_goto (tgt := 171) C dX6_tell_167 (by decide) ?_
              cases hF
              exact x_zret C E rfl dX6_tell_171
          · replace hF := ifn hs19_4 hF
            refine x_tswOut (tgt := 172) C dX6_tell_19 (ts_out 4 (by decide) (fun k hk => by match k, hk with | 0, _ => exact hs19_0 | 1, _ => exact hs19_1 | 2, _ => exact hs19_2 | 3, _ => exact hs19_3 | 4, _ => exact hs19_4 | (k + 5), hk => exact absurd hk (by omega))) (by decide) ?_
            refine x_iconst (v := 0) C dX6_tell_172 (by decide) ?_
            cases hF
            exact x_zret C E rfl dX6_tell_173
set_option maxHeartbeats 4000000 in
set_option maxRecDepth 100000 in
theorem w_X6_bitsToTell_7_11_4_L21 {κ : xb_k} {Γ : xb_X} {q : Nat → Nat} {nn : Nat} {xro : (Nat → Int64)} {xrn : (Nat → Int64)} {xfo : (Nat → Int32)} {xva : (Nat → Int32)} {xts : Int32} {xus : (Nat → Int32)} {xnu : (Nat → Int32)} {xth : Int32} {xsp : Int32} {xpr : (Nat → Int64)} {xpn : (Nat → Int64)} {xbs : Int32} {xwr : (Nat → Int32)} {xno : (Nat → Int32)} {xki : (Nat → Int32)} {xdi : (Nat → Int32)} {xde : (Nat → Int32)} {xst : (Nat → Int32)} {xta : (Nat → Int32)} {xcb : Int32} {xcd : Int32} {xbe : (Nat → Int32)} {xli : (Nat → Int32)} {xke : (Nat → Int32)} {xne : (Nat → Int64)}  {fu : Nat} (C : xb_C κ Γ 9 cX6_bitsToTell RX6 { frames := 4, cells := 0, slots := 0, locals := 98 }) : ∀ (n : Nat) (x6 : Int32) (x7 : Int32) (o : Int32), F_X6_bitsToTell_L21 fu xts xus xfo xnu n x6 x7 = some o → xb_W κ Γ 9 0 0 76 [(6, .int o)] [] (xw κ q nn xro xrn xfo xva xts xus xnu xth xsp xpr xpn xbs xwr xno xki xdi xde xst xta xcb xcd xbe xli xke xne) → xb_W κ Γ 9 0 0 21 [(0, .ref (q 7)), (5, .ref (q 4)), (6, .int x6), (7, .int x7)] [] (xw κ q nn xro xrn xfo xva xts xus xnu xth xsp xpr xpn xbs xwr xno xki xdi xde xst xta xcb xcd xbe xli xke xne) := by
  intro n
  induction n with
  | zero =>
    intro x6 x7 o hF K
    rw [F_X6_bitsToTell_L21] at hF
    cases hF
  | succ n ih =>
    intro x6 x7 o hF K
    rw [F_X6_bitsToTell_L21] at hF
    refine x_iload C dX6_bitsToTell_21 3 rfl ?_
    refine x_aload_n C dX6_bitsToTell_23 0 rfl ?_
    refine gf_X6_18 C 7 rfl rfl dX6_bitsToTell_24 ?_
    refine x_icmp_ge (tgt := 76) C dX6_bitsToTell_27 (by decide) (fun hc => ?_) (fun hc => ?_)
    · replace hF := ifp hc hF
      cases hF
      exact x_sub [2] rfl K
    · replace hF := ifn hc hF
      refine x_aload_n C dX6_bitsToTell_30 0 rfl ?_
      refine x_iload C dX6_bitsToTell_31 3 rfl ?_
      obtain ⟨o3, h4, hF⟩ := bd_s hF
      refine x_callVi (st := []) C (c_X6_useAt h4) xm_X6_useAt ml_X6_58 7 rfl rfl rfl rfl rfl rfl dX6_bitsToTell_33 ⟨rfl, rfl⟩ ?_
      refine x_istore (lv2 := [(8, .int o3), (0, .ref (q 7)), (5, .ref (q 4)), (6, .int x6), (7, .int x7)]) C dX6_bitsToTell_36 (by decide) rfl ?_
      refine x_iload C dX6_bitsToTell_38 3 rfl ?_
      refine x_iload C dX6_bitsToTell_40 0 rfl ?_
      refine x_bipush (v := 8) C dX6_bitsToTell_42 (by decide) ?_
      refine x_icmp_ne (tgt := 51) C dX6_bitsToTell_44 (by decide) (fun hc => ?_) (fun hc => ?_)
      · replace hF := ifn hc hF
        refine x_aload C dX6_bitsToTell_51 2 rfl ?_
        refine x_iload C dX6_bitsToTell_53 0 rfl ?_
        obtain ⟨o5, h6, hF⟩ := bd_s hF
        refine x_callVi (st := [.int x6]) C (c_X5_formOf h6) xm_X5_formOf ml_X6_62 4 rfl rfl rfl rfl rfl rfl dX6_bitsToTell_55 ⟨rfl, rfl⟩ ?_
        refine x_aload_n C dX6_bitsToTell_58 1 rfl ?_
        refine x_iload C dX6_bitsToTell_59 4 rfl ?_
        obtain ⟨o7, h8, hF⟩ := bd_s hF
        refine x_callVi (st := [.int o5, .int x6]) C (c_X6_numberAt h8) xm_X6_numberAt ml_X6_67 7 rfl rfl rfl rfl rfl rfl dX6_bitsToTell_61 ⟨rfl, rfl⟩ ?_
        obtain ⟨o9, h10, hF⟩ := bd_s hF
        refine x_callNi (st := [.int x6]) C (c_X8_bitsIn h10) xm_X8_bitsIn mn_X6_70 rfl rfl rfl rfl dX6_bitsToTell_64 ⟨rfl, rfl⟩ ?_
        refine x_iadd C dX6_bitsToTell_67 ?_
        refine x_istore (lv2 := [(6, .int (x6 + o9)), (8, .int o3), (0, .ref (q 7)), (5, .ref (q 4)), (7, .int x7)]) C dX6_bitsToTell_68 (by decide) rfl ?_
        refine x_iinc (v := x7 + 1) (lv2 := [(7, .int (x7 + 1)), (6, .int (x6 + o9)), (8, .int o3), (0, .ref (q 7)), (5, .ref (q 4))]) C dX6_bitsToTell_70 4 rfl rfl (by decide) rfl ?_
        refine x_goto (tgt := 21) C dX6_bitsToTell_73 (by decide) ?_
        exact x_sub [3, 4, 1, 0] rfl (ih _ _ _ hF K)
      · replace hF := ifp hc hF
        refine x_iconst (v := 1) C dX6_bitsToTell_47 (by decide) ?_
        refine x_goto (tgt := 67) C dX6_bitsToTell_48 (by decide) ?_
        refine x_iadd C dX6_bitsToTell_67 ?_
        refine x_istore (lv2 := [(6, .int (x6 + (1 : Int32))), (8, .int o3), (0, .ref (q 7)), (5, .ref (q 4)), (7, .int x7)]) C dX6_bitsToTell_68 (by decide) rfl ?_
        refine x_iinc (v := x7 + 1) (lv2 := [(7, .int (x7 + 1)), (6, .int (x6 + (1 : Int32))), (8, .int o3), (0, .ref (q 7)), (5, .ref (q 4))]) C dX6_bitsToTell_70 4 rfl rfl (by decide) rfl ?_
        refine x_goto (tgt := 21) C dX6_bitsToTell_73 (by decide) ?_
        exact x_sub [3, 4, 1, 0] rfl (ih _ _ _ hF K)
set_option maxHeartbeats 4000000 in
set_option maxRecDepth 100000 in
theorem c_X6_bitsToTell_7_11_4 {κ : xb_k} {q : Nat → Nat} {nn : Nat} {xro : (Nat → Int64)} {xrn : (Nat → Int64)} {xfo : (Nat → Int32)} {xva : (Nat → Int32)} {xts : Int32} {xus : (Nat → Int32)} {xnu : (Nat → Int32)} {xth : Int32} {xsp : Int32} {xpr : (Nat → Int64)} {xpn : (Nat → Int64)} {xbs : Int32} {xwr : (Nat → Int32)} {xno : (Nat → Int32)} {xki : (Nat → Int32)} {xdi : (Nat → Int32)} {xde : (Nat → Int32)} {xst : (Nat → Int32)} {xta : (Nat → Int32)} {xcb : Int32} {xcd : Int32} {xbe : (Nat → Int32)} {xli : (Nat → Int32)} {xke : (Nat → Int32)} {xne : (Nat → Int64)} {x2 : Int32} {x3 : Int32} {x4 : Int32} {fu : Nat} {o : Int32 × Int32 × (Nat → Int32) × (Nat → Int32)} (hF : F_X6_bitsToTell fu nn x2 x3 x4 xpr xts xus xnu xfo = some o) : Met κ.1 yX6_bitsToTell [Cond.code yX6_bitsToTell cX6_bitsToTell 9 (some .int)] { frames := 4, cells := 0, slots := 0, locals := 98 } (xb_P κ [.ref (q 7), .ref (q 11), .int x2, .int x3, .int x4, .ref (q 4)] (xw κ q nn xro xrn xfo xva xts xus xnu xth xsp xpr xpn xbs xwr xno xki xdi xde xst xta xcb xcd xbe xli xke xne)) (xb_Qi κ o.1 (xw κ q nn xro xrn xfo xva o.2.1 o.2.2.1 o.2.2.2 xth xsp xpr xpn xbs xwr xno xki xdi xde xst xta xcb xcd xbe xli xke xne)) 0 0 κ.2.2.1 := by
  refine x_enter (own := RX6) (lv0 := [(0, .ref (q 7)), (1, .ref (q 11)), (2, .int x2), (3, .int x3), (4, .int x4), (5, .ref (q 4))]) (by decide) rfl rfl rfl (fun Γ C E => ?_)
  unfold F_X6_bitsToTell at hF
  refine x_aload_n C dX6_bitsToTell_0 0 rfl ?_
  refine x_aload_n C dX6_bitsToTell_1 1 rfl ?_
  refine x_iload_n C dX6_bitsToTell_2 2 rfl ?_
  refine x_iload_n C dX6_bitsToTell_3 3 rfl ?_
  refine x_iload C dX6_bitsToTell_4 4 rfl ?_
  obtain ⟨o1, h2, hF⟩ := bd_s hF
  refine x_callVi (st := []) C (c_X6_tell_7_11 h2) xm_X6_tell ml_X6_53 7 rfl rfl rfl rfl rfl rfl dX6_bitsToTell_6 ⟨rfl, rfl⟩ ?_
  refine x_if_ne (tgt := 15) C dX6_bitsToTell_9 (by decide) (fun hc => ?_) (fun hc => ?_)
  · replace hF := ifn hc hF
    refine x_iconst (v := 0) C dX6_bitsToTell_15 (by decide) ?_
    refine x_istore (lv2 := [(6, .int (0 : Int32)), (0, .ref (q 7)), (1, .ref (q 11)), (2, .int x2), (3, .int x3), (4, .int x4), (5, .ref (q 4))]) C dX6_bitsToTell_16 (by decide) rfl ?_
    refine x_iconst (v := 0) C dX6_bitsToTell_18 (by decide) ?_
    refine x_istore (lv2 := [(7, .int (0 : Int32)), (6, .int (0 : Int32)), (0, .ref (q 7)), (1, .ref (q 11)), (2, .int x2), (3, .int x3), (4, .int x4), (5, .ref (q 4))]) C dX6_bitsToTell_19 (by decide) rfl ?_
    obtain ⟨o11, h12, hF⟩ := bd_s hF
    refine x_sub [2, 7, 1, 0] rfl (w_X6_bitsToTell_7_11_4_L21 C fu _ _ _ h12 ?_)
    refine x_iload C dX6_bitsToTell_76 0 rfl ?_
    cases hF
    exact x_iret C E dX6_bitsToTell_78
  · replace hF := ifp hc hF
    refine x_ldc C dX6_bitsToTell_12 kk_X6_57 ?_
    cases hF
    exact x_iret C E dX6_bitsToTell_14
set_option maxHeartbeats 4000000 in
set_option maxRecDepth 100000 in
theorem c_X1_depthOf {κ : xb_k} {q : Nat → Nat} {nn : Nat} {xro : (Nat → Int64)} {xrn : (Nat → Int64)} {xfo : (Nat → Int32)} {xva : (Nat → Int32)} {xts : Int32} {xus : (Nat → Int32)} {xnu : (Nat → Int32)} {xth : Int32} {xsp : Int32} {xpr : (Nat → Int64)} {xpn : (Nat → Int64)} {xbs : Int32} {xwr : (Nat → Int32)} {xno : (Nat → Int32)} {xki : (Nat → Int32)} {xdi : (Nat → Int32)} {xde : (Nat → Int32)} {xst : (Nat → Int32)} {xta : (Nat → Int32)} {xcb : Int32} {xcd : Int32} {xbe : (Nat → Int32)} {xli : (Nat → Int32)} {xke : (Nat → Int32)} {xne : (Nat → Int64)} {x1 : Int32}  {o : Int32} (hF : F_X1_depthOf nn x1 xde = some o) : Met κ.1 yX1_depthOf [Cond.code yX1_depthOf cX1_depthOf 2 (some .int)] { frames := 1, cells := 0, slots := 0, locals := 21 } (xb_P κ [.ref (q 10), .int x1] (xw κ q nn xro xrn xfo xva xts xus xnu xth xsp xpr xpn xbs xwr xno xki xdi xde xst xta xcb xcd xbe xli xke xne)) (xb_Qi κ o (xw κ q nn xro xrn xfo xva xts xus xnu xth xsp xpr xpn xbs xwr xno xki xdi xde xst xta xcb xcd xbe xli xke xne)) 0 0 κ.2.2.1 := by
  refine x_enter (own := RX1) (lv0 := [(0, .ref (q 10)), (1, .int x1)]) (by decide) rfl rfl rfl (fun Γ C E => ?_)
  unfold F_X1_depthOf at hF
  refine x_aload_n C dX1_depthOf_0 0 rfl ?_
  refine gf_X1_45 C 10 rfl rfl dX1_depthOf_1 ?_
  refine x_iload_n C dX1_depthOf_4 1 rfl ?_
  obtain ⟨b1, hF⟩ := ck_s hF
  replace b1 := Nat.le_of_ble_eq_true b1
  refine x_callNi (st := []) C (c_element κ 19 rfl (by omega)) xm_X8_element mn_X1_51 rfl rfl rfl rfl dX1_depthOf_5 ⟨rfl, rfl⟩ ?_
  cases hF
  exact x_iret C E dX1_depthOf_8
set_option maxHeartbeats 4000000 in
set_option maxRecDepth 100000 in
theorem c_X1_decide {κ : xb_k} {q : Nat → Nat} {nn : Nat} {xro : (Nat → Int64)} {xrn : (Nat → Int64)} {xfo : (Nat → Int32)} {xva : (Nat → Int32)} {xts : Int32} {xus : (Nat → Int32)} {xnu : (Nat → Int32)} {xth : Int32} {xsp : Int32} {xpr : (Nat → Int64)} {xpn : (Nat → Int64)} {xbs : Int32} {xwr : (Nat → Int32)} {xno : (Nat → Int32)} {xki : (Nat → Int32)} {xdi : (Nat → Int32)} {xde : (Nat → Int32)} {xst : (Nat → Int32)} {xta : (Nat → Int32)} {xcb : Int32} {xcd : Int32} {xbe : (Nat → Int32)} {xli : (Nat → Int32)} {xke : (Nat → Int32)} {xne : (Nat → Int64)} {x1 : Int32} {x2 : Int32} {x3 : Int32}  {o : (Nat → Int32) × (Nat → Int32) × (Nat → Int32)} (hF : F_X1_decide nn x1 x2 x3 xki xdi xde = some o) : Met κ.1 yX1_decide [Cond.code yX1_decide cX1_decide 4 none] { frames := 2, cells := 0, slots := 0, locals := 42 } (xb_P κ [.ref (q 10), .int x1, .int x2, .int x3] (xw κ q nn xro xrn xfo xva xts xus xnu xth xsp xpr xpn xbs xwr xno xki xdi xde xst xta xcb xcd xbe xli xke xne)) (xb_Qv κ (xw κ q nn xro xrn xfo xva xts xus xnu xth xsp xpr xpn xbs xwr xno o.1 o.2.1 o.2.2 xst xta xcb xcd xbe xli xke xne)) 0 0 κ.2.2.1 := by
  refine x_enter (own := RX1) (lv0 := [(0, .ref (q 10)), (1, .int x1), (2, .int x2), (3, .int x3)]) (by decide) rfl rfl rfl (fun Γ C E => ?_)
  unfold F_X1_decide at hF
  refine x_iload_n C dX1_decide_0 1 rfl ?_
  refine x_if_lt (tgt := 71) C dX1_decide_1 (by decide) (fun hc => ?_) (fun hc => ?_)
  · replace hF := ifp hc hF
    cases hF
    exact x_vret C E dX1_decide_71
  · replace hF := ifn hc hF
    refine x_iload_n C dX1_decide_4 1 rfl ?_
    refine x_aload_n C dX1_decide_5 0 rfl ?_
    refine gf_X1_39 C 10 rfl rfl dX1_decide_6 ?_
    refine x_alen (v := nI nn) C 17 0 rfl rfl rfl dX1_decide_9 ?_
    refine x_icmp_ge (tgt := 71) C dX1_decide_10 (by decide) (fun hc => ?_) (fun hc => ?_)
    · replace hF := ifp hc hF
      cases hF
      exact x_vret C E dX1_decide_71
    · replace hF := ifn hc hF
      refine x_iload_n C dX1_decide_13 1 rfl ?_
      refine x_aload_n C dX1_decide_14 0 rfl ?_
      refine gf_X1_42 C 10 rfl rfl dX1_decide_15 ?_
      refine x_alen (v := nI nn) C 18 0 rfl rfl rfl dX1_decide_18 ?_
      refine x_icmp_ge (tgt := 71) C dX1_decide_19 (by decide) (fun hc => ?_) (fun hc => ?_)
      · replace hF := ifp hc hF
        cases hF
        exact x_vret C E dX1_decide_71
      · replace hF := ifn hc hF
        refine x_iload_n C dX1_decide_22 1 rfl ?_
        refine x_aload_n C dX1_decide_23 0 rfl ?_
        refine gf_X1_45 C 10 rfl rfl dX1_decide_24 ?_
        refine x_alen (v := nI nn) C 19 0 rfl rfl rfl dX1_decide_27 ?_
        refine x_icmp_ge (tgt := 71) C dX1_decide_28 (by decide) (fun hc => ?_) (fun hc => ?_)
        · replace hF := ifp hc hF
          cases hF
          exact x_vret C E dX1_decide_71
        · replace hF := ifn hc hF
          refine x_aload_n C dX1_decide_31 0 rfl ?_
          refine gf_X1_39 C 10 rfl rfl dX1_decide_32 ?_
          refine x_iload_n C dX1_decide_35 1 rfl ?_
          refine x_iload_n C dX1_decide_36 2 rfl ?_
          obtain ⟨b1, hF⟩ := ck_s hF
          refine x_iast (ws2 := (xw κ q nn xro xrn xfo xva xts xus xnu xth xsp xpr xpn xbs xwr xno (upd xki x1.toNatClampNeg x2) xdi xde xst xta xcb xcd xbe xli xke xne)) C 17 rfl b1 dX1_decide_37 rfl ?_
          refine x_aload_n C dX1_decide_38 0 rfl ?_
          refine gf_X1_42 C 10 rfl rfl dX1_decide_39 ?_
          refine x_iload_n C dX1_decide_42 1 rfl ?_
          refine x_iload_n C dX1_decide_43 3 rfl ?_
          obtain ⟨b2, hF⟩ := ck_s hF
          refine x_iast (ws2 := (xw κ q nn xro xrn xfo xva xts xus xnu xth xsp xpr xpn xbs xwr xno (upd xki x1.toNatClampNeg x2) (upd xdi x1.toNatClampNeg x3) xde xst xta xcb xcd xbe xli xke xne)) C 18 rfl b2 dX1_decide_44 rfl ?_
          refine x_aload_n C dX1_decide_45 0 rfl ?_
          refine gf_X1_45 C 10 rfl rfl dX1_decide_46 ?_
          refine x_iload_n C dX1_decide_49 1 rfl ?_
          refine x_iload_n C dX1_decide_50 2 rfl ?_
          obtain ⟨o3, h4, hF⟩ := bd_s hF
          refine x_callNi (st := [.int x1, .ref (q 19)]) C (c_X8_isCopy h4) xm_X8_isCopy mn_X1_128 rfl rfl rfl rfl dX1_decide_51 ⟨rfl, rfl⟩ ?_
          refine x_if_eq (tgt := 69) C dX1_decide_54 (by decide) (fun hc => ?_) (fun hc => ?_)
          · replace hF := ifp hc hF
            refine x_iconst (v := 0) C dX1_decide_69 (by decide) ?_
            obtain ⟨b5, hF⟩ := ck_s hF
            refine x_iast (ws2 := (xw κ q nn xro xrn xfo xva xts xus xnu xth xsp xpr xpn xbs xwr xno (upd xki x1.toNatClampNeg x2) (upd xdi x1.toNatClampNeg x3) (upd xde x1.toNatClampNeg (0 : Int32)) xst xta xcb xcd xbe xli xke xne)) C 19 rfl b5 dX1_decide_70 rfl ?_
            cases hF
            exact x_vret C E dX1_decide_71
          · replace hF := ifn hc hF
            refine x_aload_n C dX1_decide_57 0 rfl ?_
            refine x_iload_n C dX1_decide_58 1 rfl ?_
            refine x_iload_n C dX1_decide_59 3 rfl ?_
            refine x_isub C dX1_decide_60 ?_
            obtain ⟨o6, h7, hF⟩ := bd_s hF
            refine x_callVi (st := [.int x1, .ref (q 19)]) C (c_X1_depthOf h7) xm_X1_depthOf ml_X1_139 10 rfl rfl rfl rfl rfl rfl dX1_decide_61 ⟨rfl, rfl⟩ ?_
            refine x_iconst (v := 1) C dX1_decide_64 (by decide) ?_
            refine x_iadd C dX1_decide_65 ?_
            refine x_goto (tgt := 70) C dX1_decide_66 (by decide) ?_
            obtain ⟨b8, hF⟩ := ck_s hF
            refine x_iast (ws2 := (xw κ q nn xro xrn xfo xva xts xus xnu xth xsp xpr xpn xbs xwr xno (upd xki x1.toNatClampNeg x2) (upd xdi x1.toNatClampNeg x3) (upd xde x1.toNatClampNeg (o6 + (1 : Int32))) xst xta xcb xcd xbe xli xke xne)) C 19 rfl b8 dX1_decide_70 rfl ?_
            cases hF
            exact x_vret C E dX1_decide_71
set_option maxHeartbeats 4000000 in
set_option maxRecDepth 100000 in
theorem w_X1_choose_L59 {κ : xb_k} {Γ : xb_X} {q : Nat → Nat} {nn : Nat} {xro : (Nat → Int64)} {xrn : (Nat → Int64)} {xfo : (Nat → Int32)} {xva : (Nat → Int32)} {xth : Int32} {xsp : Int32} {xpr : (Nat → Int64)} {xpn : (Nat → Int64)} {xbs : Int32} {xwr : (Nat → Int32)} {xno : (Nat → Int32)} {xst : (Nat → Int32)} {xta : (Nat → Int32)} {xcb : Int32} {xcd : Int32} {xbe : (Nat → Int32)} {xli : (Nat → Int32)} {xke : (Nat → Int32)} {xne : (Nat → Int64)} {x1 : Int32} {x4 : Int32} {x6 : Int32} {x8 : Int32} {fu : Nat} (C : xb_C κ Γ 11 cX1_choose RX1 { frames := 5, cells := 0, slots := 0, locals := 126 }) : ∀ (n : Nat) (x5 : Int32) (x9 : Int32) (xts : Int32) (xus : (Nat → Int32)) (xnu : (Nat → Int32)) (xki : (Nat → Int32)) (xdi : (Nat → Int32)) (xde : (Nat → Int32)) (o : Int32 × Int32 × (Nat → Int32) × (Nat → Int32) × (Nat → Int32) × (Nat → Int32) × (Nat → Int32)), F_X1_choose_L59 fu nn x1 x4 x6 x8 xpr xfo xva n x5 x9 xts xus xnu xki xdi xde = some o → xb_W κ Γ 11 0 0 135 [(0, .ref (q 10)), (1, .int x1), (2, .ref (q 4)), (3, .ref (q 7)), (4, .int x4), (5, .int o.1), (6, .int x6)] [] (xw κ q nn xro xrn xfo xva o.2.1 o.2.2.1 o.2.2.2.1 xth xsp xpr xpn xbs xwr xno o.2.2.2.2.1 o.2.2.2.2.2.1 o.2.2.2.2.2.2 xst xta xcb xcd xbe xli xke xne) → xb_W κ Γ 11 0 0 59 [(0, .ref (q 10)), (1, .int x1), (2, .ref (q 4)), (3, .ref (q 7)), (4, .int x4), (5, .int x5), (6, .int x6), (8, .int x8), (9, .int x9)] [] (xw κ q nn xro xrn xfo xva xts xus xnu xth xsp xpr xpn xbs xwr xno xki xdi xde xst xta xcb xcd xbe xli xke xne) := by
  intro n
  induction n with
  | zero =>
    intro x5 x9 xts xus xnu xki xdi xde o hF K
    rw [F_X1_choose_L59] at hF
    cases hF
  | succ n ih =>
    intro x5 x9 xts xus xnu xki xdi xde o hF K
    rw [F_X1_choose_L59] at hF
    refine x_iload C dX1_choose_59 8 rfl ?_
    refine x_iload C dX1_choose_61 7 rfl ?_
    refine x_icmp_gt (tgt := 135) C dX1_choose_63 (by decide) (fun hc => ?_) (fun hc => ?_)
    · replace hF := ifp hc hF
      cases hF
      exact x_sub [0, 1, 2, 3, 4, 5, 6] rfl K
    · replace hF := ifn hc hF
      refine x_iload C dX1_choose_66 6 rfl ?_
      obtain ⟨o9, h10, hF⟩ := bd_s hF
      refine x_callNi (st := []) C (c_X8_isCopy h10) xm_X8_isCopy mn_X1_128 rfl rfl rfl rfl dX1_choose_68 ⟨rfl, rfl⟩ ?_
      refine x_if_eq (tgt := 93) C dX1_choose_71 (by decide) (fun hc => ?_) (fun hc => ?_)
      · replace hF := ifp hc hF
        refine x_aload_n C dX1_choose_93 3 rfl ?_
        refine x_aload_n C dX1_choose_94 0 rfl ?_
        refine gf_X1_28 C 10 rfl rfl dX1_choose_95 ?_
        refine x_iload_n C dX1_choose_98 1 rfl ?_
        refine x_iload C dX1_choose_99 6 rfl ?_
        refine x_iload C dX1_choose_101 8 rfl ?_
        refine x_aload_n C dX1_choose_103 2 rfl ?_
        obtain ⟨o11, h12, hF⟩ := bd_s hF
        refine x_callVi (st := []) C (c_X6_bitsToTell_7_11_4 h12) xm_X6_bitsToTell ml_X1_142 7 rfl rfl rfl rfl rfl rfl dX1_choose_104 ⟨rfl, rfl⟩ ?_
        refine x_istore (lv2 := [(10, .int o11.1), (0, .ref (q 10)), (1, .int x1), (2, .ref (q 4)), (3, .ref (q 7)), (4, .int x4), (5, .int x5), (6, .int x6), (8, .int x8), (9, .int x9)]) C dX1_choose_107 (by decide) rfl ?_
        refine x_iload C dX1_choose_109 0 rfl ?_
        refine x_iload C dX1_choose_111 6 rfl ?_
        refine x_icmp_ge (tgt := 129) C dX1_choose_113 (by decide) (fun hc => ?_) (fun hc => ?_)
        · replace hF := ifp hc hF
          refine x_iinc (v := x9 + 1) (lv2 := [(9, .int (x9 + 1)), (10, .int o11.1), (0, .ref (q 10)), (1, .int x1), (2, .ref (q 4)), (3, .ref (q 7)), (4, .int x4), (5, .int x5), (6, .int x6), (8, .int x8)]) C dX1_choose_129 9 rfl rfl (by decide) rfl ?_
          refine x_goto (tgt := 59) C dX1_choose_132 (by decide) ?_
          exact x_sub [2, 3, 4, 5, 6, 7, 8, 9, 0] rfl (ih _ _ _ _ _ _ _ _ _ hF K)
        · replace hF := ifn hc hF
          refine x_iload C dX1_choose_116 0 rfl ?_
          refine x_istore (lv2 := [(5, .int o11.1), (10, .int o11.1), (0, .ref (q 10)), (1, .int x1), (2, .ref (q 4)), (3, .ref (q 7)), (4, .int x4), (6, .int x6), (8, .int x8), (9, .int x9)]) C dX1_choose_118 (by decide) rfl ?_
          refine x_aload_n C dX1_choose_120 2 rfl ?_
          refine x_iload_n C dX1_choose_121 3 rfl ?_
          refine x_iload C dX1_choose_122 7 rfl ?_
          refine x_iload C dX1_choose_124 9 rfl ?_
          obtain ⟨o13, h14, hF⟩ := bd_s hF
          refine x_callVv (st := []) C (c_X1_decide h14) xm_X1_decide ml_X1_146 10 rfl rfl rfl rfl rfl rfl dX1_choose_126 ⟨rfl, rfl⟩ ?_
          refine x_iinc (v := x9 + 1) (lv2 := [(9, .int (x9 + 1)), (5, .int o11.1), (10, .int o11.1), (0, .ref (q 10)), (1, .int x1), (2, .ref (q 4)), (3, .ref (q 7)), (4, .int x4), (6, .int x6), (8, .int x8)]) C dX1_choose_129 9 rfl rfl (by decide) rfl ?_
          refine x_goto (tgt := 59) C dX1_choose_132 (by decide) ?_
          exact x_sub [3, 4, 5, 6, 7, 1, 8, 9, 0] rfl (ih _ _ _ _ _ _ _ _ _ hF K)
      · replace hF := ifn hc hF
        refine x_aload_n C dX1_choose_74 0 rfl ?_
        refine x_iload_n C dX1_choose_75 1 rfl ?_
        refine x_iload C dX1_choose_76 8 rfl ?_
        refine x_isub C dX1_choose_78 ?_
        obtain ⟨o15, h16, hF⟩ := bd_s hF
        refine x_callVi (st := []) C (c_X1_depthOf h16) xm_X1_depthOf ml_X1_139 10 rfl rfl rfl rfl rfl rfl dX1_choose_79 ⟨rfl, rfl⟩ ?_
        refine x_aload_n C dX1_choose_82 2 rfl ?_
        refine x_iconst (v := 1) C dX1_choose_83 (by decide) ?_
        obtain ⟨o17, h18, hF⟩ := bd_s hF
        refine x_callVi (st := [.int o15]) C (c_X5_valueOf h18) xm_X5_valueOf ml_X1_67 4 rfl rfl rfl rfl rfl rfl dX1_choose_84 ⟨rfl, rfl⟩ ?_
        refine x_icmp_lt (tgt := 93) C dX1_choose_87 (by decide) (fun hc => ?_) (fun hc => ?_)
        · replace hF := ifp hc hF
          refine x_aload_n C dX1_choose_93 3 rfl ?_
          refine x_aload_n C dX1_choose_94 0 rfl ?_
          refine gf_X1_28 C 10 rfl rfl dX1_choose_95 ?_
          refine x_iload_n C dX1_choose_98 1 rfl ?_
          refine x_iload C dX1_choose_99 6 rfl ?_
          refine x_iload C dX1_choose_101 8 rfl ?_
          refine x_aload_n C dX1_choose_103 2 rfl ?_
          obtain ⟨o19, h20, hF⟩ := bd_s hF
          refine x_callVi (st := []) C (c_X6_bitsToTell_7_11_4 h20) xm_X6_bitsToTell ml_X1_142 7 rfl rfl rfl rfl rfl rfl dX1_choose_104 ⟨rfl, rfl⟩ ?_
          refine x_istore (lv2 := [(10, .int o19.1), (0, .ref (q 10)), (1, .int x1), (2, .ref (q 4)), (3, .ref (q 7)), (4, .int x4), (5, .int x5), (6, .int x6), (8, .int x8), (9, .int x9)]) C dX1_choose_107 (by decide) rfl ?_
          refine x_iload C dX1_choose_109 0 rfl ?_
          refine x_iload C dX1_choose_111 6 rfl ?_
          refine x_icmp_ge (tgt := 129) C dX1_choose_113 (by decide) (fun hc => ?_) (fun hc => ?_)
          · replace hF := ifp hc hF
            refine x_iinc (v := x9 + 1) (lv2 := [(9, .int (x9 + 1)), (10, .int o19.1), (0, .ref (q 10)), (1, .int x1), (2, .ref (q 4)), (3, .ref (q 7)), (4, .int x4), (5, .int x5), (6, .int x6), (8, .int x8)]) C dX1_choose_129 9 rfl rfl (by decide) rfl ?_
            refine x_goto (tgt := 59) C dX1_choose_132 (by decide) ?_
            exact x_sub [2, 3, 4, 5, 6, 7, 8, 9, 0] rfl (ih _ _ _ _ _ _ _ _ _ hF K)
          · replace hF := ifn hc hF
            refine x_iload C dX1_choose_116 0 rfl ?_
            refine x_istore (lv2 := [(5, .int o19.1), (10, .int o19.1), (0, .ref (q 10)), (1, .int x1), (2, .ref (q 4)), (3, .ref (q 7)), (4, .int x4), (6, .int x6), (8, .int x8), (9, .int x9)]) C dX1_choose_118 (by decide) rfl ?_
            refine x_aload_n C dX1_choose_120 2 rfl ?_
            refine x_iload_n C dX1_choose_121 3 rfl ?_
            refine x_iload C dX1_choose_122 7 rfl ?_
            refine x_iload C dX1_choose_124 9 rfl ?_
            obtain ⟨o21, h22, hF⟩ := bd_s hF
            refine x_callVv (st := []) C (c_X1_decide h22) xm_X1_decide ml_X1_146 10 rfl rfl rfl rfl rfl rfl dX1_choose_126 ⟨rfl, rfl⟩ ?_
            refine x_iinc (v := x9 + 1) (lv2 := [(9, .int (x9 + 1)), (5, .int o19.1), (10, .int o19.1), (0, .ref (q 10)), (1, .int x1), (2, .ref (q 4)), (3, .ref (q 7)), (4, .int x4), (6, .int x6), (8, .int x8)]) C dX1_choose_129 9 rfl rfl (by decide) rfl ?_
            refine x_goto (tgt := 59) C dX1_choose_132 (by decide) ?_
            exact x_sub [3, 4, 5, 6, 7, 1, 8, 9, 0] rfl (ih _ _ _ _ _ _ _ _ _ hF K)
        · replace hF := ifn hc hF
          refine x_goto (tgt := 129) C dX1_choose_90 (by decide) ?_
          refine x_iinc (v := x9 + 1) (lv2 := [(9, .int (x9 + 1)), (0, .ref (q 10)), (1, .int x1), (2, .ref (q 4)), (3, .ref (q 7)), (4, .int x4), (5, .int x5), (6, .int x6), (8, .int x8)]) C dX1_choose_129 8 rfl rfl (by decide) rfl ?_
          refine x_goto (tgt := 59) C dX1_choose_132 (by decide) ?_
          exact x_sub [1, 2, 3, 4, 5, 6, 7, 8, 0] rfl (ih _ _ _ _ _ _ _ _ _ hF K)
set_option maxHeartbeats 4000000 in
set_option maxRecDepth 100000 in
theorem w_X1_choose_L18 {κ : xb_k} {Γ : xb_X} {q : Nat → Nat} {nn : Nat} {xro : (Nat → Int64)} {xrn : (Nat → Int64)} {xfo : (Nat → Int32)} {xva : (Nat → Int32)} {xth : Int32} {xsp : Int32} {xpr : (Nat → Int64)} {xpn : (Nat → Int64)} {xbs : Int32} {xwr : (Nat → Int32)} {xno : (Nat → Int32)} {xst : (Nat → Int32)} {xta : (Nat → Int32)} {xcb : Int32} {xcd : Int32} {xbe : (Nat → Int32)} {xli : (Nat → Int32)} {xke : (Nat → Int32)} {xne : (Nat → Int64)} {x1 : Int32} {x4 : Int32} {fu : Nat} (C : xb_C κ Γ 11 cX1_choose RX1 { frames := 5, cells := 0, slots := 0, locals := 126 }) : ∀ (n : Nat) (x5 : Int32) (x6 : Int32) (xts : Int32) (xus : (Nat → Int32)) (xnu : (Nat → Int32)) (xki : (Nat → Int32)) (xdi : (Nat → Int32)) (xde : (Nat → Int32)) (o : Int32 × (Nat → Int32) × (Nat → Int32) × (Nat → Int32) × (Nat → Int32) × (Nat → Int32)), F_X1_choose_L18 fu nn x1 x4 xpr xfo xva n x5 x6 xts xus xnu xki xdi xde = some o → xb_W κ Γ 11 0 0 141 [] [] (xw κ q nn xro xrn xfo xva o.1 o.2.1 o.2.2.1 xth xsp xpr xpn xbs xwr xno o.2.2.2.1 o.2.2.2.2.1 o.2.2.2.2.2 xst xta xcb xcd xbe xli xke xne) → xb_W κ Γ 11 0 0 18 [(0, .ref (q 10)), (1, .int x1), (2, .ref (q 4)), (3, .ref (q 7)), (4, .int x4), (5, .int x5), (6, .int x6)] [] (xw κ q nn xro xrn xfo xva xts xus xnu xth xsp xpr xpn xbs xwr xno xki xdi xde xst xta xcb xcd xbe xli xke xne) := by
  intro n
  induction n with
  | zero =>
    intro x5 x6 xts xus xnu xki xdi xde o hF K
    rw [F_X1_choose_L18] at hF
    cases hF
  | succ n ih =>
    intro x5 x6 xts xus xnu xki xdi xde o hF K
    rw [F_X1_choose_L18] at hF
    refine x_iload C dX1_choose_18 6 rfl ?_
    refine x_iconst (v := 5) C dX1_choose_20 (by decide) ?_
    refine x_icmp_ge (tgt := 141) C dX1_choose_21 (by decide) (fun hc => ?_) (fun hc => ?_)
    · replace hF := ifp hc hF
      cases hF
      exact x_sub [] rfl K
    · replace hF := ifn hc hF
      refine x_iload C dX1_choose_24 6 rfl ?_
      obtain ⟨o5, h6, hF⟩ := bd_s hF
      refine x_callNi (st := []) C (c_X8_isCopy h6) xm_X8_isCopy mn_X1_128 rfl rfl rfl rfl dX1_choose_26 ⟨rfl, rfl⟩ ?_
      refine x_if_eq (tgt := 36) C dX1_choose_29 (by decide) (fun hc => ?_) (fun hc => ?_)
      · replace hF := ifp hc hF
        refine x_iconst (v := 0) C dX1_choose_36 (by decide) ?_
        refine x_istore (lv2 := [(7, .int (0 : Int32)), (0, .ref (q 10)), (1, .int x1), (2, .ref (q 4)), (3, .ref (q 7)), (4, .int x4), (5, .int x5), (6, .int x6)]) C dX1_choose_37 (by decide) rfl ?_
        refine x_iload C dX1_choose_39 7 rfl ?_
        obtain ⟨o7, h8, hF⟩ := bd_s hF
        refine x_callNi (st := []) C (c_X8_isCopy h8) xm_X8_isCopy mn_X1_128 rfl rfl rfl rfl dX1_choose_41 ⟨rfl, rfl⟩ ?_
        refine x_if_eq (tgt := 52) C dX1_choose_44 (by decide) (fun hc => ?_) (fun hc => ?_)
        · replace hF := ifp hc hF
          refine x_iconst (v := 0) C dX1_choose_52 (by decide) ?_
          refine x_istore (lv2 := [(8, .int (0 : Int32)), (7, .int (0 : Int32)), (0, .ref (q 10)), (1, .int x1), (2, .ref (q 4)), (3, .ref (q 7)), (4, .int x4), (5, .int x5), (6, .int x6)]) C dX1_choose_53 (by decide) rfl ?_
          refine x_iload C dX1_choose_55 1 rfl ?_
          refine x_istore (lv2 := [(9, .int (0 : Int32)), (8, .int (0 : Int32)), (7, .int (0 : Int32)), (0, .ref (q 10)), (1, .int x1), (2, .ref (q 4)), (3, .ref (q 7)), (4, .int x4), (5, .int x5), (6, .int x6)]) C dX1_choose_57 (by decide) rfl ?_
          obtain ⟨o9, h10, hF⟩ := bd_s hF
          refine x_sub [3, 4, 5, 6, 7, 8, 9, 1, 0] rfl (w_X1_choose_L59 C fu _ _ _ _ _ _ _ _ _ h10 ?_)
          refine x_iinc (v := x6 + 1) (lv2 := [(6, .int (x6 + 1)), (0, .ref (q 10)), (1, .int x1), (2, .ref (q 4)), (3, .ref (q 7)), (4, .int x4), (5, .int o9.1)]) C dX1_choose_135 6 rfl rfl (by decide) rfl ?_
          refine x_goto (tgt := 18) C dX1_choose_138 (by decide) ?_
          exact x_sub [1, 2, 3, 4, 5, 6, 0] rfl (ih _ _ _ _ _ _ _ _ _ hF K)
        · replace hF := ifn hc hF
          refine x_iload C dX1_choose_47 5 rfl ?_
          refine x_goto (tgt := 53) C dX1_choose_49 (by decide) ?_
          refine x_istore (lv2 := [(8, .int x4), (7, .int (0 : Int32)), (0, .ref (q 10)), (1, .int x1), (2, .ref (q 4)), (3, .ref (q 7)), (4, .int x4), (5, .int x5), (6, .int x6)]) C dX1_choose_53 (by decide) rfl ?_
          refine x_iload C dX1_choose_55 1 rfl ?_
          refine x_istore (lv2 := [(9, .int (0 : Int32)), (8, .int x4), (7, .int (0 : Int32)), (0, .ref (q 10)), (1, .int x1), (2, .ref (q 4)), (3, .ref (q 7)), (4, .int x4), (5, .int x5), (6, .int x6)]) C dX1_choose_57 (by decide) rfl ?_
          obtain ⟨o11, h12, hF⟩ := bd_s hF
          refine x_sub [3, 4, 5, 6, 7, 8, 9, 1, 0] rfl (w_X1_choose_L59 C fu _ _ _ _ _ _ _ _ _ h12 ?_)
          refine x_iinc (v := x6 + 1) (lv2 := [(6, .int (x6 + 1)), (0, .ref (q 10)), (1, .int x1), (2, .ref (q 4)), (3, .ref (q 7)), (4, .int x4), (5, .int o11.1)]) C dX1_choose_135 6 rfl rfl (by decide) rfl ?_
          refine x_goto (tgt := 18) C dX1_choose_138 (by decide) ?_
          exact x_sub [1, 2, 3, 4, 5, 6, 0] rfl (ih _ _ _ _ _ _ _ _ _ hF K)
      · replace hF := ifn hc hF
        refine x_iconst (v := 1) C dX1_choose_32 (by decide) ?_
        refine x_goto (tgt := 37) C dX1_choose_33 (by decide) ?_
        refine x_istore (lv2 := [(7, .int (1 : Int32)), (0, .ref (q 10)), (1, .int x1), (2, .ref (q 4)), (3, .ref (q 7)), (4, .int x4), (5, .int x5), (6, .int x6)]) C dX1_choose_37 (by decide) rfl ?_
        refine x_iload C dX1_choose_39 7 rfl ?_
        obtain ⟨o13, h14, hF⟩ := bd_s hF
        refine x_callNi (st := []) C (c_X8_isCopy h14) xm_X8_isCopy mn_X1_128 rfl rfl rfl rfl dX1_choose_41 ⟨rfl, rfl⟩ ?_
        refine x_if_eq (tgt := 52) C dX1_choose_44 (by decide) (fun hc => ?_) (fun hc => ?_)
        · replace hF := ifp hc hF
          refine x_iconst (v := 0) C dX1_choose_52 (by decide) ?_
          refine x_istore (lv2 := [(8, .int (0 : Int32)), (7, .int (1 : Int32)), (0, .ref (q 10)), (1, .int x1), (2, .ref (q 4)), (3, .ref (q 7)), (4, .int x4), (5, .int x5), (6, .int x6)]) C dX1_choose_53 (by decide) rfl ?_
          refine x_iload C dX1_choose_55 1 rfl ?_
          refine x_istore (lv2 := [(9, .int (1 : Int32)), (8, .int (0 : Int32)), (7, .int (1 : Int32)), (0, .ref (q 10)), (1, .int x1), (2, .ref (q 4)), (3, .ref (q 7)), (4, .int x4), (5, .int x5), (6, .int x6)]) C dX1_choose_57 (by decide) rfl ?_
          obtain ⟨o15, h16, hF⟩ := bd_s hF
          refine x_sub [3, 4, 5, 6, 7, 8, 9, 1, 0] rfl (w_X1_choose_L59 C fu _ _ _ _ _ _ _ _ _ h16 ?_)
          refine x_iinc (v := x6 + 1) (lv2 := [(6, .int (x6 + 1)), (0, .ref (q 10)), (1, .int x1), (2, .ref (q 4)), (3, .ref (q 7)), (4, .int x4), (5, .int o15.1)]) C dX1_choose_135 6 rfl rfl (by decide) rfl ?_
          refine x_goto (tgt := 18) C dX1_choose_138 (by decide) ?_
          exact x_sub [1, 2, 3, 4, 5, 6, 0] rfl (ih _ _ _ _ _ _ _ _ _ hF K)
        · replace hF := ifn hc hF
          refine x_iload C dX1_choose_47 5 rfl ?_
          refine x_goto (tgt := 53) C dX1_choose_49 (by decide) ?_
          refine x_istore (lv2 := [(8, .int x4), (7, .int (1 : Int32)), (0, .ref (q 10)), (1, .int x1), (2, .ref (q 4)), (3, .ref (q 7)), (4, .int x4), (5, .int x5), (6, .int x6)]) C dX1_choose_53 (by decide) rfl ?_
          refine x_iload C dX1_choose_55 1 rfl ?_
          refine x_istore (lv2 := [(9, .int (1 : Int32)), (8, .int x4), (7, .int (1 : Int32)), (0, .ref (q 10)), (1, .int x1), (2, .ref (q 4)), (3, .ref (q 7)), (4, .int x4), (5, .int x5), (6, .int x6)]) C dX1_choose_57 (by decide) rfl ?_
          obtain ⟨o17, h18, hF⟩ := bd_s hF
          refine x_sub [3, 4, 5, 6, 7, 8, 9, 1, 0] rfl (w_X1_choose_L59 C fu _ _ _ _ _ _ _ _ _ h18 ?_)
          refine x_iinc (v := x6 + 1) (lv2 := [(6, .int (x6 + 1)), (0, .ref (q 10)), (1, .int x1), (2, .ref (q 4)), (3, .ref (q 7)), (4, .int x4), (5, .int o17.1)]) C dX1_choose_135 6 rfl rfl (by decide) rfl ?_
          refine x_goto (tgt := 18) C dX1_choose_138 (by decide) ?_
          exact x_sub [1, 2, 3, 4, 5, 6, 0] rfl (ih _ _ _ _ _ _ _ _ _ hF K)
set_option maxHeartbeats 4000000 in
set_option maxRecDepth 100000 in
theorem c_X1_choose {κ : xb_k} {q : Nat → Nat} {nn : Nat} {xro : (Nat → Int64)} {xrn : (Nat → Int64)} {xfo : (Nat → Int32)} {xva : (Nat → Int32)} {xts : Int32} {xus : (Nat → Int32)} {xnu : (Nat → Int32)} {xth : Int32} {xsp : Int32} {xpr : (Nat → Int64)} {xpn : (Nat → Int64)} {xbs : Int32} {xwr : (Nat → Int32)} {xno : (Nat → Int32)} {xki : (Nat → Int32)} {xdi : (Nat → Int32)} {xde : (Nat → Int32)} {xst : (Nat → Int32)} {xta : (Nat → Int32)} {xcb : Int32} {xcd : Int32} {xbe : (Nat → Int32)} {xli : (Nat → Int32)} {xke : (Nat → Int32)} {xne : (Nat → Int64)} {x1 : Int32} {fu : Nat} {o : Int32 × (Nat → Int32) × (Nat → Int32) × (Nat → Int32) × (Nat → Int32) × (Nat → Int32)} (hF : F_X1_choose fu nn x1 xva xpr xts xus xnu xfo xki xdi xde = some o) : Met κ.1 yX1_choose [Cond.code yX1_choose cX1_choose 11 none] { frames := 5, cells := 0, slots := 0, locals := 126 } (xb_P κ [.ref (q 10), .int x1, .ref (q 4), .ref (q 7)] (xw κ q nn xro xrn xfo xva xts xus xnu xth xsp xpr xpn xbs xwr xno xki xdi xde xst xta xcb xcd xbe xli xke xne)) (xb_Qv κ (xw κ q nn xro xrn xfo xva o.1 o.2.1 o.2.2.1 xth xsp xpr xpn xbs xwr xno o.2.2.2.1 o.2.2.2.2.1 o.2.2.2.2.2 xst xta xcb xcd xbe xli xke xne)) 0 0 κ.2.2.1 := by
  refine x_enter (own := RX1) (lv0 := [(0, .ref (q 10)), (1, .int x1), (2, .ref (q 4)), (3, .ref (q 7))]) (by decide) rfl rfl rfl (fun Γ C E => ?_)
  unfold F_X1_choose at hF
  refine x_aload_n C dX1_choose_0 2 rfl ?_
  refine x_iconst (v := 0) C dX1_choose_1 (by decide) ?_
  obtain ⟨o1, h2, hF⟩ := bd_s hF
  refine x_callVi (st := []) C (c_X5_valueOf h2) xm_X5_valueOf ml_X1_67 4 rfl rfl rfl rfl rfl rfl dX1_choose_2 ⟨rfl, rfl⟩ ?_
  refine x_iload_n C dX1_choose_5 1 rfl ?_
  obtain ⟨o3, h4, hF⟩ := bd_s hF
  refine x_callSi (st := []) C (c_J9_min_7cf53 h4) xm_J9_min_7cf53 ml_X1_135 rfl rfl rfl rfl dX1_choose_6 ⟨rfl, rfl⟩ ?_
  refine x_istore (lv2 := [(4, .int o3), (0, .ref (q 10)), (1, .int x1), (2, .ref (q 4)), (3, .ref (q 7))]) C dX1_choose_9 (by decide) rfl ?_
  refine x_ldc C dX1_choose_11 kk_X1_138 ?_
  refine x_istore (lv2 := [(5, .int (1000000 : Int32)), (4, .int o3), (0, .ref (q 10)), (1, .int x1), (2, .ref (q 4)), (3, .ref (q 7))]) C dX1_choose_13 (by decide) rfl ?_
  refine x_iconst (v := 0) C dX1_choose_15 (by decide) ?_
  refine x_istore (lv2 := [(6, .int (0 : Int32)), (5, .int (1000000 : Int32)), (4, .int o3), (0, .ref (q 10)), (1, .int x1), (2, .ref (q 4)), (3, .ref (q 7))]) C dX1_choose_16 (by decide) rfl ?_
  obtain ⟨o19, h20, hF⟩ := bd_s hF
  refine x_sub [3, 4, 5, 6, 2, 1, 0] rfl (w_X1_choose_L18 C fu _ _ _ _ _ _ _ _ _ h20 ?_)
  cases hF
  exact x_vret C E dX1_choose_141
set_option maxHeartbeats 4000000 in
set_option maxRecDepth 100000 in
theorem c_X1_kindOf {κ : xb_k} {q : Nat → Nat} {nn : Nat} {xro : (Nat → Int64)} {xrn : (Nat → Int64)} {xfo : (Nat → Int32)} {xva : (Nat → Int32)} {xts : Int32} {xus : (Nat → Int32)} {xnu : (Nat → Int32)} {xth : Int32} {xsp : Int32} {xpr : (Nat → Int64)} {xpn : (Nat → Int64)} {xbs : Int32} {xwr : (Nat → Int32)} {xno : (Nat → Int32)} {xki : (Nat → Int32)} {xdi : (Nat → Int32)} {xde : (Nat → Int32)} {xst : (Nat → Int32)} {xta : (Nat → Int32)} {xcb : Int32} {xcd : Int32} {xbe : (Nat → Int32)} {xli : (Nat → Int32)} {xke : (Nat → Int32)} {xne : (Nat → Int64)} {x1 : Int32}  {o : Int32} (hF : F_X1_kindOf nn x1 xki = some o) : Met κ.1 yX1_kindOf [Cond.code yX1_kindOf cX1_kindOf 2 (some .int)] { frames := 1, cells := 0, slots := 0, locals := 21 } (xb_P κ [.ref (q 10), .int x1] (xw κ q nn xro xrn xfo xva xts xus xnu xth xsp xpr xpn xbs xwr xno xki xdi xde xst xta xcb xcd xbe xli xke xne)) (xb_Qi κ o (xw κ q nn xro xrn xfo xva xts xus xnu xth xsp xpr xpn xbs xwr xno xki xdi xde xst xta xcb xcd xbe xli xke xne)) 0 0 κ.2.2.1 := by
  refine x_enter (own := RX1) (lv0 := [(0, .ref (q 10)), (1, .int x1)]) (by decide) rfl rfl rfl (fun Γ C E => ?_)
  unfold F_X1_kindOf at hF
  refine x_aload_n C dX1_kindOf_0 0 rfl ?_
  refine gf_X1_39 C 10 rfl rfl dX1_kindOf_1 ?_
  refine x_iload_n C dX1_kindOf_4 1 rfl ?_
  obtain ⟨b1, hF⟩ := ck_s hF
  replace b1 := Nat.le_of_ble_eq_true b1
  refine x_callNi (st := []) C (c_element κ 17 rfl (by omega)) xm_X8_element mn_X1_51 rfl rfl rfl rfl dX1_kindOf_5 ⟨rfl, rfl⟩ ?_
  cases hF
  exact x_iret C E dX1_kindOf_8
set_option maxHeartbeats 4000000 in
set_option maxRecDepth 100000 in
theorem c_X1_distanceOf {κ : xb_k} {q : Nat → Nat} {nn : Nat} {xro : (Nat → Int64)} {xrn : (Nat → Int64)} {xfo : (Nat → Int32)} {xva : (Nat → Int32)} {xts : Int32} {xus : (Nat → Int32)} {xnu : (Nat → Int32)} {xth : Int32} {xsp : Int32} {xpr : (Nat → Int64)} {xpn : (Nat → Int64)} {xbs : Int32} {xwr : (Nat → Int32)} {xno : (Nat → Int32)} {xki : (Nat → Int32)} {xdi : (Nat → Int32)} {xde : (Nat → Int32)} {xst : (Nat → Int32)} {xta : (Nat → Int32)} {xcb : Int32} {xcd : Int32} {xbe : (Nat → Int32)} {xli : (Nat → Int32)} {xke : (Nat → Int32)} {xne : (Nat → Int64)} {x1 : Int32}  {o : Int32} (hF : F_X1_distanceOf nn x1 xdi = some o) : Met κ.1 yX1_distanceOf [Cond.code yX1_distanceOf cX1_distanceOf 2 (some .int)] { frames := 1, cells := 0, slots := 0, locals := 21 } (xb_P κ [.ref (q 10), .int x1] (xw κ q nn xro xrn xfo xva xts xus xnu xth xsp xpr xpn xbs xwr xno xki xdi xde xst xta xcb xcd xbe xli xke xne)) (xb_Qi κ o (xw κ q nn xro xrn xfo xva xts xus xnu xth xsp xpr xpn xbs xwr xno xki xdi xde xst xta xcb xcd xbe xli xke xne)) 0 0 κ.2.2.1 := by
  refine x_enter (own := RX1) (lv0 := [(0, .ref (q 10)), (1, .int x1)]) (by decide) rfl rfl rfl (fun Γ C E => ?_)
  unfold F_X1_distanceOf at hF
  refine x_aload_n C dX1_distanceOf_0 0 rfl ?_
  refine gf_X1_42 C 10 rfl rfl dX1_distanceOf_1 ?_
  refine x_iload_n C dX1_distanceOf_4 1 rfl ?_
  obtain ⟨b1, hF⟩ := ck_s hF
  replace b1 := Nat.le_of_ble_eq_true b1
  refine x_callNi (st := []) C (c_element κ 18 rfl (by omega)) xm_X8_element mn_X1_51 rfl rfl rfl rfl dX1_distanceOf_5 ⟨rfl, rfl⟩ ?_
  cases hF
  exact x_iret C E dX1_distanceOf_8
set_option maxHeartbeats 4000000 in
set_option maxRecDepth 100000 in
theorem c_X6_size {κ : xb_k} {q : Nat → Nat} {nn : Nat} {xro : (Nat → Int64)} {xrn : (Nat → Int64)} {xfo : (Nat → Int32)} {xva : (Nat → Int32)} {xts : Int32} {xus : (Nat → Int32)} {xnu : (Nat → Int32)} {xth : Int32} {xsp : Int32} {xpr : (Nat → Int64)} {xpn : (Nat → Int64)} {xbs : Int32} {xwr : (Nat → Int32)} {xno : (Nat → Int32)} {xki : (Nat → Int32)} {xdi : (Nat → Int32)} {xde : (Nat → Int32)} {xst : (Nat → Int32)} {xta : (Nat → Int32)} {xcb : Int32} {xcd : Int32} {xbe : (Nat → Int32)} {xli : (Nat → Int32)} {xke : (Nat → Int32)} {xne : (Nat → Int64)}   {o : Int32} (hF : F_X6_size xts = some o) : Met κ.1 yX6_size [Cond.code yX6_size cX6_size 1 (some .int)] { frames := 0, cells := 0, slots := 0, locals := 0 } (xb_P κ [.ref (q 7)] (xw κ q nn xro xrn xfo xva xts xus xnu xth xsp xpr xpn xbs xwr xno xki xdi xde xst xta xcb xcd xbe xli xke xne)) (xb_Qi κ o (xw κ q nn xro xrn xfo xva xts xus xnu xth xsp xpr xpn xbs xwr xno xki xdi xde xst xta xcb xcd xbe xli xke xne)) 0 0 κ.2.2.1 := by
  refine x_enter (own := RX6) (lv0 := [(0, .ref (q 7))]) (by decide) rfl rfl rfl (fun Γ C E => ?_)
  unfold F_X6_size at hF
  refine x_aload_n C dX6_size_0 0 rfl ?_
  refine gf_X6_18 C 7 rfl rfl dX6_size_1 ?_
  cases hF
  exact x_iret C E dX6_size_4
set_option maxHeartbeats 4000000 in
set_option maxRecDepth 100000 in
theorem w_X1_tallyNumbers_L2 {κ : xb_k} {Γ : xb_X} {q : Nat → Nat} {nn : Nat} {xro : (Nat → Int64)} {xrn : (Nat → Int64)} {xfo : (Nat → Int32)} {xva : (Nat → Int32)} {xts : Int32} {xus : (Nat → Int32)} {xnu : (Nat → Int32)} {xth : Int32} {xsp : Int32} {xpr : (Nat → Int64)} {xpn : (Nat → Int64)} {xbs : Int32} {xwr : (Nat → Int32)} {xno : (Nat → Int32)} {xki : (Nat → Int32)} {xdi : (Nat → Int32)} {xde : (Nat → Int32)} {xst : (Nat → Int32)} {xcb : Int32} {xcd : Int32} {xbe : (Nat → Int32)} {xli : (Nat → Int32)} {xke : (Nat → Int32)} {xne : (Nat → Int64)}   (C : xb_C κ Γ 4 cX1_tallyNumbers RX1 { frames := 2, cells := 0, slots := 0, locals := 42 }) : ∀ (n : Nat) (x2 : Int32) (xta : (Nat → Int32)) (o : (Nat → Int32)), F_X1_tallyNumbers_L2 xts xus xnu n x2 xta = some o → xb_W κ Γ 4 0 0 64 [] [] (xw κ q nn xro xrn xfo xva xts xus xnu xth xsp xpr xpn xbs xwr xno xki xdi xde xst o xcb xcd xbe xli xke xne) → xb_W κ Γ 4 0 0 2 [(0, .ref (q 10)), (1, .ref (q 7)), (2, .int x2)] [] (xw κ q nn xro xrn xfo xva xts xus xnu xth xsp xpr xpn xbs xwr xno xki xdi xde xst xta xcb xcd xbe xli xke xne) := by
  intro n
  induction n with
  | zero =>
    intro x2 xta o hF K
    rw [F_X1_tallyNumbers_L2] at hF
    cases hF
  | succ n ih =>
    intro x2 xta o hF K
    rw [F_X1_tallyNumbers_L2] at hF
    refine x_iload_n C dX1_tallyNumbers_2 2 rfl ?_
    refine x_aload_n C dX1_tallyNumbers_3 1 rfl ?_
    obtain ⟨o1, h2, hF⟩ := bd_s hF
    refine x_callVi (st := [.int x2]) C (c_X6_size h2) xm_X6_size ml_X1_150 7 rfl rfl rfl rfl rfl rfl dX1_tallyNumbers_4 ⟨rfl, rfl⟩ ?_
    refine x_icmp_ge (tgt := 64) C dX1_tallyNumbers_7 (by decide) (fun hc => ?_) (fun hc => ?_)
    · replace hF := ifp hc hF
      cases hF
      exact x_sub [] rfl K
    · replace hF := ifn hc hF
      refine x_aload_n C dX1_tallyNumbers_10 1 rfl ?_
      refine x_iload_n C dX1_tallyNumbers_11 2 rfl ?_
      obtain ⟨o3, h4, hF⟩ := bd_s hF
      refine x_callVi (st := []) C (c_X6_useAt h4) xm_X6_useAt ml_X1_151 7 rfl rfl rfl rfl rfl rfl dX1_tallyNumbers_12 ⟨rfl, rfl⟩ ?_
      refine x_bipush (v := 96) C dX1_tallyNumbers_15 (by decide) ?_
      refine x_imul C dX1_tallyNumbers_17 ?_
      refine x_aload_n C dX1_tallyNumbers_18 1 rfl ?_
      refine x_iload_n C dX1_tallyNumbers_19 2 rfl ?_
      obtain ⟨o5, h6, hF⟩ := bd_s hF
      refine x_callVi (st := [.int (o3 * (96 : Int32))]) C (c_X6_numberAt h6) xm_X6_numberAt ml_X1_154 7 rfl rfl rfl rfl rfl rfl dX1_tallyNumbers_20 ⟨rfl, rfl⟩ ?_
      refine x_iadd C dX1_tallyNumbers_23 ?_
      refine x_istore_n (lv2 := [(3, .int ((o3 * (96 : Int32)) + o5)), (0, .ref (q 10)), (1, .ref (q 7)), (2, .int x2)]) C dX1_tallyNumbers_24 rfl (by decide) rfl ?_
      refine x_aload_n C dX1_tallyNumbers_25 2 rfl ?_
      refine x_iload_n C dX1_tallyNumbers_26 3 rfl ?_
      obtain ⟨o7, h8, hF⟩ := bd_s hF
      refine x_callVi (st := []) C (c_X6_useAt h8) xm_X6_useAt ml_X1_151 7 rfl rfl rfl rfl rfl rfl dX1_tallyNumbers_27 ⟨rfl, rfl⟩ ?_
      refine x_bipush (v := 8) C dX1_tallyNumbers_30 (by decide) ?_
      refine x_icmp_eq (tgt := 58) C dX1_tallyNumbers_32 (by decide) (fun hc => ?_) (fun hc => ?_)
      · replace hF := ifp hc hF
        refine x_iinc (v := x2 + 1) (lv2 := [(2, .int (x2 + 1)), (3, .int ((o3 * (96 : Int32)) + o5)), (0, .ref (q 10)), (1, .ref (q 7))]) C dX1_tallyNumbers_58 3 rfl rfl (by decide) rfl ?_
        refine x_goto (tgt := 2) C dX1_tallyNumbers_61 (by decide) ?_
        exact x_sub [2, 3, 0] rfl (ih _ _ _ hF K)
      · replace hF := ifn hc hF
        refine x_iload_n C dX1_tallyNumbers_35 0 rfl ?_
        refine x_if_lt (tgt := 58) C dX1_tallyNumbers_36 (by decide) (fun hc => ?_) (fun hc => ?_)
        · replace hF := ifp hc hF
          refine x_iinc (v := x2 + 1) (lv2 := [(2, .int (x2 + 1)), (3, .int ((o3 * (96 : Int32)) + o5)), (0, .ref (q 10)), (1, .ref (q 7))]) C dX1_tallyNumbers_58 3 rfl rfl (by decide) rfl ?_
          refine x_goto (tgt := 2) C dX1_tallyNumbers_61 (by decide) ?_
          exact x_sub [2, 3, 0] rfl (ih _ _ _ hF K)
        · replace hF := ifn hc hF
          refine x_iload_n C dX1_tallyNumbers_39 0 rfl ?_
          refine x_aload_n C dX1_tallyNumbers_40 1 rfl ?_
          refine gf_X1_11 C 10 rfl rfl dX1_tallyNumbers_41 ?_
          refine x_alen (v := nI 768) C 21 0 rfl rfl rfl dX1_tallyNumbers_44 ?_
          refine x_icmp_ge (tgt := 58) C dX1_tallyNumbers_45 (by decide) (fun hc => ?_) (fun hc => ?_)
          · replace hF := ifp hc hF
            refine x_iinc (v := x2 + 1) (lv2 := [(2, .int (x2 + 1)), (3, .int ((o3 * (96 : Int32)) + o5)), (0, .ref (q 10)), (1, .ref (q 7))]) C dX1_tallyNumbers_58 3 rfl rfl (by decide) rfl ?_
            refine x_goto (tgt := 2) C dX1_tallyNumbers_61 (by decide) ?_
            exact x_sub [2, 3, 0] rfl (ih _ _ _ hF K)
          · replace hF := ifn hc hF
            refine x_aload_n C dX1_tallyNumbers_48 1 rfl ?_
            refine gf_X1_11 C 10 rfl rfl dX1_tallyNumbers_49 ?_
            refine x_iload_n C dX1_tallyNumbers_52 0 rfl ?_
            refine x_dup2 C dX1_tallyNumbers_53 rfl rfl ?_
            obtain ⟨b9, hF⟩ := ck_s hF
            refine x_iald C 21 rfl b9 dX1_tallyNumbers_54 ?_
            refine x_iconst (v := 1) C dX1_tallyNumbers_55 (by decide) ?_
            refine x_iadd C dX1_tallyNumbers_56 ?_
            obtain ⟨b10, hF⟩ := ck_s hF
            refine x_iast (ws2 := (xw κ q nn xro xrn xfo xva xts xus xnu xth xsp xpr xpn xbs xwr xno xki xdi xde xst (upd xta ((o3 * (96 : Int32)) + o5).toNatClampNeg ((xta ((o3 * (96 : Int32)) + o5).toNatClampNeg) + (1 : Int32))) xcb xcd xbe xli xke xne)) C 21 rfl b10 dX1_tallyNumbers_57 rfl ?_
            refine x_iinc (v := x2 + 1) (lv2 := [(2, .int (x2 + 1)), (3, .int ((o3 * (96 : Int32)) + o5)), (0, .ref (q 10)), (1, .ref (q 7))]) C dX1_tallyNumbers_58 3 rfl rfl (by decide) rfl ?_
            refine x_goto (tgt := 2) C dX1_tallyNumbers_61 (by decide) ?_
            exact x_sub [2, 3, 0] rfl (ih _ _ _ hF K)
set_option maxHeartbeats 4000000 in
set_option maxRecDepth 100000 in
theorem c_X1_tallyNumbers {κ : xb_k} {q : Nat → Nat} {nn : Nat} {xro : (Nat → Int64)} {xrn : (Nat → Int64)} {xfo : (Nat → Int32)} {xva : (Nat → Int32)} {xts : Int32} {xus : (Nat → Int32)} {xnu : (Nat → Int32)} {xth : Int32} {xsp : Int32} {xpr : (Nat → Int64)} {xpn : (Nat → Int64)} {xbs : Int32} {xwr : (Nat → Int32)} {xno : (Nat → Int32)} {xki : (Nat → Int32)} {xdi : (Nat → Int32)} {xde : (Nat → Int32)} {xst : (Nat → Int32)} {xta : (Nat → Int32)} {xcb : Int32} {xcd : Int32} {xbe : (Nat → Int32)} {xli : (Nat → Int32)} {xke : (Nat → Int32)} {xne : (Nat → Int64)}  {fu : Nat} {o : (Nat → Int32)} (hF : F_X1_tallyNumbers fu xts xus xnu xta = some o) : Met κ.1 yX1_tallyNumbers [Cond.code yX1_tallyNumbers cX1_tallyNumbers 4 none] { frames := 2, cells := 0, slots := 0, locals := 42 } (xb_P κ [.ref (q 10), .ref (q 7)] (xw κ q nn xro xrn xfo xva xts xus xnu xth xsp xpr xpn xbs xwr xno xki xdi xde xst xta xcb xcd xbe xli xke xne)) (xb_Qv κ (xw κ q nn xro xrn xfo xva xts xus xnu xth xsp xpr xpn xbs xwr xno xki xdi xde xst o xcb xcd xbe xli xke xne)) 0 0 κ.2.2.1 := by
  refine x_enter (own := RX1) (lv0 := [(0, .ref (q 10)), (1, .ref (q 7))]) (by decide) rfl rfl rfl (fun Γ C E => ?_)
  unfold F_X1_tallyNumbers at hF
  refine x_iconst (v := 0) C dX1_tallyNumbers_0 (by decide) ?_
  refine x_istore_n (lv2 := [(2, .int (0 : Int32)), (0, .ref (q 10)), (1, .ref (q 7))]) C dX1_tallyNumbers_1 rfl (by decide) rfl ?_
  obtain ⟨o11, h12, hF⟩ := bd_s hF
  refine x_sub [1, 2, 0] rfl (w_X1_tallyNumbers_L2 C fu _ _ _ h12 ?_)
  cases hF
  exact x_vret C E dX1_tallyNumbers_64
set_option maxHeartbeats 4000000 in
set_option maxRecDepth 100000 in
theorem w_X1_decideAll_L32 {κ : xb_k} {Γ : xb_X} {q : Nat → Nat} {nn : Nat} {xro : (Nat → Int64)} {xrn : (Nat → Int64)} {xfo : (Nat → Int32)} {xva : (Nat → Int32)} {xth : Int32} {xsp : Int32} {xpr : (Nat → Int64)} {xpn : (Nat → Int64)} {xbs : Int32} {xwr : (Nat → Int32)} {xno : (Nat → Int32)} {xst : (Nat → Int32)} {xcb : Int32} {xcd : Int32} {xbe : (Nat → Int32)} {xli : (Nat → Int32)} {xke : (Nat → Int32)} {xne : (Nat → Int64)}  {fu : Nat} (C : xb_C κ Γ 5 cX1_decideAll RX1 { frames := 6, cells := 0, slots := 0, locals := 156 }) : ∀ (n : Nat) (x4 : Int32) (xts : Int32) (xus : (Nat → Int32)) (xnu : (Nat → Int32)) (xki : (Nat → Int32)) (xdi : (Nat → Int32)) (xde : (Nat → Int32)) (xta : (Nat → Int32)) (o : Int32 × (Nat → Int32) × (Nat → Int32) × (Nat → Int32) × (Nat → Int32) × (Nat → Int32) × (Nat → Int32)), F_X1_decideAll_L32 fu nn xva xpr xfo n x4 xts xus xnu xki xdi xde xta = some o → xb_W κ Γ 5 0 0 84 [(0, .ref (q 10))] [] (xw κ q nn xro xrn xfo xva o.1 o.2.1 o.2.2.1 xth xsp xpr xpn xbs xwr xno o.2.2.2.1 o.2.2.2.2.1 o.2.2.2.2.2.1 xst o.2.2.2.2.2.2 xcb xcd xbe xli xke xne) → xb_W κ Γ 5 0 0 32 [(0, .ref (q 10)), (2, .ref (q 4)), (3, .ref (q 7)), (4, .int x4)] [] (xw κ q nn xro xrn xfo xva xts xus xnu xth xsp xpr xpn xbs xwr xno xki xdi xde xst xta xcb xcd xbe xli xke xne) := by
  intro n
  induction n with
  | zero =>
    intro x4 xts xus xnu xki xdi xde xta o hF K
    rw [F_X1_decideAll_L32] at hF
    cases hF
  | succ n ih =>
    intro x4 xts xus xnu xki xdi xde xta o hF K
    rw [F_X1_decideAll_L32] at hF
    refine x_iload C dX1_decideAll_32 3 rfl ?_
    refine x_aload_n C dX1_decideAll_34 0 rfl ?_
    refine gf_X1_39 C 10 rfl rfl dX1_decideAll_35 ?_
    refine x_alen (v := nI nn) C 17 0 rfl rfl rfl dX1_decideAll_38 ?_
    refine x_icmp_ge (tgt := 84) C dX1_decideAll_39 (by decide) (fun hc => ?_) (fun hc => ?_)
    · replace hF := ifp hc hF
      cases hF
      exact x_sub [0] rfl K
    · replace hF := ifn hc hF
      refine x_aload_n C dX1_decideAll_42 0 rfl ?_
      refine x_iload C dX1_decideAll_43 3 rfl ?_
      refine x_aload_n C dX1_decideAll_45 1 rfl ?_
      refine x_aload_n C dX1_decideAll_46 2 rfl ?_
      obtain ⟨o7, h8, hF⟩ := bd_s hF
      refine x_callVv (st := []) C (c_X1_choose h8) xm_X1_choose ml_X1_85 10 rfl rfl rfl rfl rfl rfl dX1_decideAll_47 ⟨rfl, rfl⟩ ?_
      refine x_aload_n C dX1_decideAll_50 2 rfl ?_
      refine x_aload_n C dX1_decideAll_51 0 rfl ?_
      refine gf_X1_28 C 10 rfl rfl dX1_decideAll_52 ?_
      refine x_iload C dX1_decideAll_55 3 rfl ?_
      refine x_aload_n C dX1_decideAll_57 0 rfl ?_
      refine x_iload C dX1_decideAll_58 3 rfl ?_
      obtain ⟨o9, h10, hF⟩ := bd_s hF
      refine x_callVi (st := [.int x4, .ref (q 11), .ref (q 7)]) C (c_X1_kindOf h10) xm_X1_kindOf ml_X1_89 10 rfl rfl rfl rfl rfl rfl dX1_decideAll_60 ⟨rfl, rfl⟩ ?_
      refine x_aload_n C dX1_decideAll_63 0 rfl ?_
      refine x_iload C dX1_decideAll_64 3 rfl ?_
      obtain ⟨o11, h12, hF⟩ := bd_s hF
      refine x_callVi (st := [.int o9, .int x4, .ref (q 11), .ref (q 7)]) C (c_X1_distanceOf h12) xm_X1_distanceOf ml_X1_92 10 rfl rfl rfl rfl rfl rfl dX1_decideAll_66 ⟨rfl, rfl⟩ ?_
      obtain ⟨o13, h14, hF⟩ := bd_s hF
      refine x_callVi (st := []) C (c_X6_tell_7_11 h14) xm_X6_tell ml_X1_95 7 rfl rfl rfl rfl rfl rfl dX1_decideAll_69 ⟨rfl, rfl⟩ ?_
      refine x_pop C dX1_decideAll_72 rfl ?_
      refine x_aload_n C dX1_decideAll_73 0 rfl ?_
      refine x_aload_n C dX1_decideAll_74 2 rfl ?_
      obtain ⟨o15, h16, hF⟩ := bd_s hF
      refine x_callVv (st := []) C (c_X1_tallyNumbers h16) xm_X1_tallyNumbers ml_X1_101 10 rfl rfl rfl rfl rfl rfl dX1_decideAll_75 ⟨rfl, rfl⟩ ?_
      refine x_iinc (v := x4 + 1) (lv2 := [(4, .int (x4 + 1)), (0, .ref (q 10)), (2, .ref (q 4)), (3, .ref (q 7))]) C dX1_decideAll_78 3 rfl rfl (by decide) rfl ?_
      refine x_goto (tgt := 32) C dX1_decideAll_81 (by decide) ?_
      exact x_sub [1, 2, 3, 0] rfl (ih _ _ _ _ _ _ _ _ _ hF K)
set_option maxHeartbeats 4000000 in
set_option maxRecDepth 100000 in
theorem c_X1_decideAll {κ : xb_k} {q : Nat → Nat} {nn : Nat} {xro : (Nat → Int64)} {xrn : (Nat → Int64)} {xfo : (Nat → Int32)} {xva : (Nat → Int32)} {xts : Int32} {xus : (Nat → Int32)} {xnu : (Nat → Int32)} {xth : Int32} {xsp : Int32} {xpr : (Nat → Int64)} {xpn : (Nat → Int64)} {xbs : Int32} {xwr : (Nat → Int32)} {xno : (Nat → Int32)} {xki : (Nat → Int32)} {xdi : (Nat → Int32)} {xde : (Nat → Int32)} {xst : (Nat → Int32)} {xta : (Nat → Int32)} {xcb : Int32} {xcd : Int32} {xbe : (Nat → Int32)} {xli : (Nat → Int32)} {xke : (Nat → Int32)} {xne : (Nat → Int64)}  {fu : Nat} {o : (Nat → Int64) × Int32 × (Nat → Int32) × Int32 × (Nat → Int32) × (Nat → Int32) × (Nat → Int32) × (Nat → Int32) × (Nat → Int32) × Int32} (hF : F_X1_decideAll fu nn xro xpr xva xsp xta xts xus xnu xfo xki xdi xde xth = some o) : Met κ.1 yX1_decideAll [Cond.code yX1_decideAll cX1_decideAll 5 none] { frames := 6, cells := 0, slots := 0, locals := 156 } (xb_P κ [.ref (q 10), .ref (q 1), .ref (q 4), .ref (q 7)] (xw κ q nn xro xrn xfo xva xts xus xnu xth xsp xpr xpn xbs xwr xno xki xdi xde xst xta xcb xcd xbe xli xke xne)) (xb_Qv κ (xw κ q nn xro xrn xfo xva o.2.2.2.1 o.2.2.2.2.1 o.2.2.2.2.2.1 o.2.2.2.2.2.2.2.2.2 o.2.1 o.1 xpn xbs xwr xno o.2.2.2.2.2.2.1 o.2.2.2.2.2.2.2.1 o.2.2.2.2.2.2.2.2.1 xst o.2.2.1 xcb xcd xbe xli xke xne)) 0 0 κ.2.2.1 := by
  refine x_enter (own := RX1) (lv0 := [(0, .ref (q 10)), (1, .ref (q 1)), (2, .ref (q 4)), (3, .ref (q 7))]) (by decide) rfl rfl rfl (fun Γ C E => ?_)
  unfold F_X1_decideAll at hF
  refine x_aload_n C dX1_decideAll_0 0 rfl ?_
  refine gf_X1_28 C 10 rfl rfl dX1_decideAll_1 ?_
  refine x_aload_n C dX1_decideAll_4 1 rfl ?_
  obtain ⟨o1, h2, hF⟩ := bd_s hF
  refine x_callVv (st := []) C (c_X4_takeAllOf h2) xm_X4_takeAllOf ml_X1_63 11 rfl rfl rfl rfl rfl rfl dX1_decideAll_5 ⟨rfl, rfl⟩ ?_
  refine x_aload_n C dX1_decideAll_8 0 rfl ?_
  refine x_iconst (v := 1) C dX1_decideAll_9 (by decide) ?_
  refine x_aload_n C dX1_decideAll_10 2 rfl ?_
  refine x_iconst (v := 2) C dX1_decideAll_11 (by decide) ?_
  obtain ⟨o3, h4, hF⟩ := bd_s hF
  refine x_callVi (st := [.int (1 : Int32), .ref (q 10)]) C (c_X5_valueOf h4) xm_X5_valueOf ml_X1_67 4 rfl rfl rfl rfl rfl rfl dX1_decideAll_12 ⟨rfl, rfl⟩ ?_
  obtain ⟨o5, h6, hF⟩ := bd_s hF
  refine x_callSi (st := [.ref (q 10)]) C (c_J9_max_7cf53 h6) xm_J9_max_7cf53 ml_X1_73 rfl rfl rfl rfl dX1_decideAll_15 ⟨rfl, rfl⟩ ?_
  refine pf_X1_19 (ws2 := (xw κ q nn xro xrn xfo xva xts xus xnu xth o5 o1 xpn xbs xwr xno xki xdi xde xst xta xcb xcd xbe xli xke xne)) C 10 rfl dX1_decideAll_18 rfl rfl ?_
  refine x_aload_n C dX1_decideAll_21 0 rfl ?_
  refine gf_X1_11 C 10 rfl rfl dX1_decideAll_22 ?_
  refine x_iconst (v := 0) C dX1_decideAll_25 (by decide) ?_
  refine x_callSv (st := []) (ws2 := (xw κ q nn xro xrn xfo xva xts xus xnu xth o5 o1 xpn xbs xwr xno xki xdi xde xst (fl 768 xta (0 : Int32)) xcb xcd xbe xli xke xne)) C (c_fill κ 21 rfl (by decide) rfl) xm_J7_fill_53178 ml_X1_79 rfl rfl rfl rfl dX1_decideAll_26 ⟨rfl, rfl⟩ ?_
  refine x_iconst (v := 0) C dX1_decideAll_29 (by decide) ?_
  refine x_istore (lv2 := [(4, .int (0 : Int32)), (0, .ref (q 10)), (1, .ref (q 1)), (2, .ref (q 4)), (3, .ref (q 7))]) C dX1_decideAll_30 (by decide) rfl ?_
  obtain ⟨o17, h18, hF⟩ := bd_s hF
  refine x_sub [1, 3, 4, 0] rfl (w_X1_decideAll_L32 C fu _ _ _ _ _ _ _ _ _ h18 ?_)
  refine x_aload_n C dX1_decideAll_84 0 rfl ?_
  refine x_iconst (v := 1) C dX1_decideAll_85 (by decide) ?_
  refine pf_X1_15 (ws2 := (xw κ q nn xro xrn xfo xva o17.1 o17.2.1 o17.2.2.1 (1 : Int32) o5 o1 xpn xbs xwr xno o17.2.2.2.1 o17.2.2.2.2.1 o17.2.2.2.2.2.1 xst o17.2.2.2.2.2.2 xcb xcd xbe xli xke xne)) C 10 rfl rfl rfl dX1_decideAll_86 rfl rfl ?_
  cases hF
  exact x_vret C E dX1_decideAll_89
set_option maxHeartbeats 4000000 in
set_option maxRecDepth 100000 in
theorem c_X0_clear {κ : xb_k} {q : Nat → Nat} {nn : Nat} {xro : (Nat → Int64)} {xrn : (Nat → Int64)} {xfo : (Nat → Int32)} {xva : (Nat → Int32)} {xts : Int32} {xus : (Nat → Int32)} {xnu : (Nat → Int32)} {xth : Int32} {xsp : Int32} {xpr : (Nat → Int64)} {xpn : (Nat → Int64)} {xbs : Int32} {xwr : (Nat → Int32)} {xno : (Nat → Int32)} {xki : (Nat → Int32)} {xdi : (Nat → Int32)} {xde : (Nat → Int32)} {xst : (Nat → Int32)} {xta : (Nat → Int32)} {xcb : Int32} {xcd : Int32} {xbe : (Nat → Int32)} {xli : (Nat → Int32)} {xke : (Nat → Int32)} {xne : (Nat → Int64)}   {o : (Nat → Int32) × (Nat → Int32) × Int32} (hF : F_X0_clear nn xwr xno xbs = some o) : Met κ.1 yX0_clear [Cond.code yX0_clear cX0_clear 1 none] { frames := 1, cells := 0, slots := 0, locals := 23 } (xb_P κ [.ref (q 14)] (xw κ q nn xro xrn xfo xva xts xus xnu xth xsp xpr xpn xbs xwr xno xki xdi xde xst xta xcb xcd xbe xli xke xne)) (xb_Qv κ (xw κ q nn xro xrn xfo xva xts xus xnu xth xsp xpr xpn o.2.2 o.1 o.2.1 xki xdi xde xst xta xcb xcd xbe xli xke xne)) 0 0 κ.2.2.1 := by
  refine x_enter (own := RX0) (lv0 := [(0, .ref (q 14))]) (by decide) rfl rfl rfl (fun Γ C E => ?_)
  unfold F_X0_clear at hF
  refine x_aload_n C dX0_clear_0 0 rfl ?_
  refine gf_X0_21 C 14 rfl rfl dX0_clear_1 ?_
  refine x_iconst (v := 0) C dX0_clear_4 (by decide) ?_
  obtain ⟨b1, hF⟩ := ck_s hF
  replace b1 := Nat.le_of_ble_eq_true b1
  refine x_callSv (st := []) (ws2 := (xw κ q nn xro xrn xfo xva xts xus xnu xth xsp xpr xpn xbs (fl (64 * nn) xwr (0 : Int32)) xno xki xdi xde xst xta xcb xcd xbe xli xke xne)) C (c_fill κ 15 rfl (by omega) rfl) xm_J7_fill_53178 ml_X0_28 rfl rfl rfl rfl dX0_clear_5 ⟨rfl, rfl⟩ ?_
  refine x_aload_n C dX0_clear_8 0 rfl ?_
  refine gf_X0_25 C 14 rfl rfl dX0_clear_9 ?_
  refine x_iconst (v := 0) C dX0_clear_12 (by decide) ?_
  obtain ⟨b2, hF⟩ := ck_s hF
  replace b2 := Nat.le_of_ble_eq_true b2
  refine x_callSv (st := []) (ws2 := (xw κ q nn xro xrn xfo xva xts xus xnu xth xsp xpr xpn xbs (fl (64 * nn) xwr (0 : Int32)) (fl (64 * nn) xno (0 : Int32)) xki xdi xde xst xta xcb xcd xbe xli xke xne)) C (c_fill κ 16 rfl (by omega) rfl) xm_J7_fill_53178 ml_X0_28 rfl rfl rfl rfl dX0_clear_13 ⟨rfl, rfl⟩ ?_
  refine x_aload_n C dX0_clear_16 0 rfl ?_
  refine x_iconst (v := 0) C dX0_clear_17 (by decide) ?_
  refine pf_X0_9 (ws2 := (xw κ q nn xro xrn xfo xva xts xus xnu xth xsp xpr xpn (0 : Int32) (fl (64 * nn) xwr (0 : Int32)) (fl (64 * nn) xno (0 : Int32)) xki xdi xde xst xta xcb xcd xbe xli xke xne)) C 14 rfl dX0_clear_18 rfl rfl ?_
  cases hF
  exact x_vret C E dX0_clear_21
set_option maxHeartbeats 4000000 in
set_option maxRecDepth 100000 in
theorem c_X0_size {κ : xb_k} {q : Nat → Nat} {nn : Nat} {xro : (Nat → Int64)} {xrn : (Nat → Int64)} {xfo : (Nat → Int32)} {xva : (Nat → Int32)} {xts : Int32} {xus : (Nat → Int32)} {xnu : (Nat → Int32)} {xth : Int32} {xsp : Int32} {xpr : (Nat → Int64)} {xpn : (Nat → Int64)} {xbs : Int32} {xwr : (Nat → Int32)} {xno : (Nat → Int32)} {xki : (Nat → Int32)} {xdi : (Nat → Int32)} {xde : (Nat → Int32)} {xst : (Nat → Int32)} {xta : (Nat → Int32)} {xcb : Int32} {xcd : Int32} {xbe : (Nat → Int32)} {xli : (Nat → Int32)} {xke : (Nat → Int32)} {xne : (Nat → Int64)}   {o : Int32} (hF : F_X0_size xbs = some o) : Met κ.1 yX0_size [Cond.code yX0_size cX0_size 1 (some .int)] { frames := 0, cells := 0, slots := 0, locals := 0 } (xb_P κ [.ref (q 14)] (xw κ q nn xro xrn xfo xva xts xus xnu xth xsp xpr xpn xbs xwr xno xki xdi xde xst xta xcb xcd xbe xli xke xne)) (xb_Qi κ o (xw κ q nn xro xrn xfo xva xts xus xnu xth xsp xpr xpn xbs xwr xno xki xdi xde xst xta xcb xcd xbe xli xke xne)) 0 0 κ.2.2.1 := by
  refine x_enter (own := RX0) (lv0 := [(0, .ref (q 14))]) (by decide) rfl rfl rfl (fun Γ C E => ?_)
  unfold F_X0_size at hF
  refine x_aload_n C dX0_size_0 0 rfl ?_
  refine gf_X0_9 C 14 rfl rfl dX0_size_1 ?_
  cases hF
  exact x_iret C E dX0_size_4
set_option maxHeartbeats 4000000 in
set_option maxRecDepth 100000 in
theorem c_X0_put {κ : xb_k} {q : Nat → Nat} {nn : Nat} {xro : (Nat → Int64)} {xrn : (Nat → Int64)} {xfo : (Nat → Int32)} {xva : (Nat → Int32)} {xts : Int32} {xus : (Nat → Int32)} {xnu : (Nat → Int32)} {xth : Int32} {xsp : Int32} {xpr : (Nat → Int64)} {xpn : (Nat → Int64)} {xbs : Int32} {xwr : (Nat → Int32)} {xno : (Nat → Int32)} {xki : (Nat → Int32)} {xdi : (Nat → Int32)} {xde : (Nat → Int32)} {xst : (Nat → Int32)} {xta : (Nat → Int32)} {xcb : Int32} {xcd : Int32} {xbe : (Nat → Int32)} {xli : (Nat → Int32)} {xke : (Nat → Int32)} {xne : (Nat → Int64)} {x1 : Int32}  {o : (Nat → Int32) × (Nat → Int32) × Int32} (hF : F_X0_put nn x1 xbs xwr xno = some o) : Met κ.1 yX0_put [Cond.code yX0_put cX0_put 4 none] { frames := 0, cells := 0, slots := 0, locals := 0 } (xb_P κ [.ref (q 14), .int x1] (xw κ q nn xro xrn xfo xva xts xus xnu xth xsp xpr xpn xbs xwr xno xki xdi xde xst xta xcb xcd xbe xli xke xne)) (xb_Qv κ (xw κ q nn xro xrn xfo xva xts xus xnu xth xsp xpr xpn o.2.2 o.1 o.2.1 xki xdi xde xst xta xcb xcd xbe xli xke xne)) 0 0 κ.2.2.1 := by
  refine x_enter (own := RX0) (lv0 := [(0, .ref (q 14)), (1, .int x1)]) (by decide) rfl rfl rfl (fun Γ C E => ?_)
  unfold F_X0_put at hF
  refine x_aload_n C dX0_put_0 0 rfl ?_
  refine gf_X0_9 C 14 rfl rfl dX0_put_1 ?_
  refine x_iconst (v := 3) C dX0_put_4 (by decide) ?_
  refine x_ishr C dX0_put_5 ?_
  refine x_istore_n (lv2 := [(2, .int (xbs >>> ((3 : Int32) &&& 31))), (0, .ref (q 14)), (1, .int x1)]) C dX0_put_6 rfl (by decide) rfl ?_
  refine x_iload_n C dX0_put_7 0 rfl ?_
  refine x_if_lt (tgt := 72) C dX0_put_8 (by decide) (fun hc => ?_) (fun hc => ?_)
  · replace hF := ifp hc hF
    cases hF
    exact x_vret C E dX0_put_72
  · replace hF := ifn hc hF
    refine x_iload_n C dX0_put_11 0 rfl ?_
    refine x_aload_n C dX0_put_12 1 rfl ?_
    refine gf_X0_21 C 14 rfl rfl dX0_put_13 ?_
    refine x_alen (v := nI (64 * nn)) C 15 0 rfl rfl rfl dX0_put_16 ?_
    refine x_icmp_ge (tgt := 72) C dX0_put_17 (by decide) (fun hc => ?_) (fun hc => ?_)
    · replace hF := ifp hc hF
      cases hF
      exact x_vret C E dX0_put_72
    · replace hF := ifn hc hF
      refine x_iload_n C dX0_put_20 0 rfl ?_
      refine x_aload_n C dX0_put_21 1 rfl ?_
      refine gf_X0_25 C 14 rfl rfl dX0_put_22 ?_
      refine x_alen (v := nI (64 * nn)) C 16 0 rfl rfl rfl dX0_put_25 ?_
      refine x_icmp_ge (tgt := 72) C dX0_put_26 (by decide) (fun hc => ?_) (fun hc => ?_)
      · replace hF := ifp hc hF
        cases hF
        exact x_vret C E dX0_put_72
      · replace hF := ifn hc hF
        refine x_iload_n C dX0_put_29 2 rfl ?_
        refine x_bipush (v := 7) C dX0_put_30 (by decide) ?_
        refine x_aload_n C dX0_put_32 1 rfl ?_
        refine gf_X0_9 C 14 rfl rfl dX0_put_33 ?_
        refine x_bipush (v := 7) C dX0_put_36 (by decide) ?_
        refine x_iand C dX0_put_38 ?_
        refine x_isub C dX0_put_39 ?_
        refine x_ishl C dX0_put_40 ?_
        refine x_istore_n (lv2 := [(3, .int (x1 <<< (((7 : Int32) - (xbs &&& (7 : Int32))) &&& 31))), (2, .int (xbs >>> ((3 : Int32) &&& 31))), (0, .ref (q 14)), (1, .int x1)]) C dX0_put_41 rfl (by decide) rfl ?_
        refine x_aload_n C dX0_put_42 2 rfl ?_
        refine gf_X0_21 C 14 rfl rfl dX0_put_43 ?_
        refine x_iload_n C dX0_put_46 1 rfl ?_
        refine x_dup2 C dX0_put_47 rfl rfl ?_
        obtain ⟨b1, hF⟩ := ck_s hF
        refine x_iald C 15 rfl b1 dX0_put_48 ?_
        refine x_iload_n C dX0_put_49 0 rfl ?_
        refine x_ior C dX0_put_50 ?_
        obtain ⟨b2, hF⟩ := ck_s hF
        refine x_iast (ws2 := (xw κ q nn xro xrn xfo xva xts xus xnu xth xsp xpr xpn xbs (upd xwr (xbs >>> ((3 : Int32) &&& 31)).toNatClampNeg ((xwr (xbs >>> ((3 : Int32) &&& 31)).toNatClampNeg) ||| (x1 <<< (((7 : Int32) - (xbs &&& (7 : Int32))) &&& 31)))) xno xki xdi xde xst xta xcb xcd xbe xli xke xne)) C 15 rfl b2 dX0_put_51 rfl ?_
        refine x_aload_n C dX0_put_52 2 rfl ?_
        refine gf_X0_25 C 14 rfl rfl dX0_put_53 ?_
        refine x_iload_n C dX0_put_56 1 rfl ?_
        refine x_dup2 C dX0_put_57 rfl rfl ?_
        obtain ⟨b3, hF⟩ := ck_s hF
        refine x_iald C 16 rfl b3 dX0_put_58 ?_
        refine x_iload_n C dX0_put_59 0 rfl ?_
        refine x_ior C dX0_put_60 ?_
        obtain ⟨b4, hF⟩ := ck_s hF
        refine x_iast (ws2 := (xw κ q nn xro xrn xfo xva xts xus xnu xth xsp xpr xpn xbs (upd xwr (xbs >>> ((3 : Int32) &&& 31)).toNatClampNeg ((xwr (xbs >>> ((3 : Int32) &&& 31)).toNatClampNeg) ||| (x1 <<< (((7 : Int32) - (xbs &&& (7 : Int32))) &&& 31)))) (upd xno (xbs >>> ((3 : Int32) &&& 31)).toNatClampNeg ((xno (xbs >>> ((3 : Int32) &&& 31)).toNatClampNeg) ||| (x1 <<< (((7 : Int32) - (xbs &&& (7 : Int32))) &&& 31)))) xki xdi xde xst xta xcb xcd xbe xli xke xne)) C 16 rfl b4 dX0_put_61 rfl ?_
        refine x_aload_n C dX0_put_62 2 rfl ?_
        refine x_dup C dX0_put_63 rfl ?_
        refine gf_X0_9 C 14 rfl rfl dX0_put_64 ?_
        refine x_iconst (v := 1) C dX0_put_67 (by decide) ?_
        refine x_iadd C dX0_put_68 ?_
        refine pf_X0_9 (ws2 := (xw κ q nn xro xrn xfo xva xts xus xnu xth xsp xpr xpn (xbs + (1 : Int32)) (upd xwr (xbs >>> ((3 : Int32) &&& 31)).toNatClampNeg ((xwr (xbs >>> ((3 : Int32) &&& 31)).toNatClampNeg) ||| (x1 <<< (((7 : Int32) - (xbs &&& (7 : Int32))) &&& 31)))) (upd xno (xbs >>> ((3 : Int32) &&& 31)).toNatClampNeg ((xno (xbs >>> ((3 : Int32) &&& 31)).toNatClampNeg) ||| (x1 <<< (((7 : Int32) - (xbs &&& (7 : Int32))) &&& 31)))) xki xdi xde xst xta xcb xcd xbe xli xke xne)) C 14 rfl dX0_put_69 rfl rfl ?_
        cases hF
        exact x_vret C E dX0_put_72
set_option maxHeartbeats 4000000 in
set_option maxRecDepth 100000 in
theorem w_X0_putUnary_L2 {κ : xb_k} {Γ : xb_X} {q : Nat → Nat} {nn : Nat} {xro : (Nat → Int64)} {xrn : (Nat → Int64)} {xfo : (Nat → Int32)} {xva : (Nat → Int32)} {xts : Int32} {xus : (Nat → Int32)} {xnu : (Nat → Int32)} {xth : Int32} {xsp : Int32} {xpr : (Nat → Int64)} {xpn : (Nat → Int64)} {xki : (Nat → Int32)} {xdi : (Nat → Int32)} {xde : (Nat → Int32)} {xst : (Nat → Int32)} {xta : (Nat → Int32)} {xcb : Int32} {xcd : Int32} {xbe : (Nat → Int32)} {xli : (Nat → Int32)} {xke : (Nat → Int32)} {xne : (Nat → Int64)} {x1 : Int32}  (C : xb_C κ Γ 3 cX0_putUnary RX0 { frames := 1, cells := 0, slots := 0, locals := 23 }) : ∀ (n : Nat) (x2 : Int32) (xwr : (Nat → Int32)) (xno : (Nat → Int32)) (xbs : Int32) (o : (Nat → Int32) × (Nat → Int32) × Int32), F_X0_putUnary_L2 nn x1 n x2 xwr xno xbs = some o → xb_W κ Γ 3 0 0 18 [(0, .ref (q 14))] [] (xw κ q nn xro xrn xfo xva xts xus xnu xth xsp xpr xpn o.2.2 o.1 o.2.1 xki xdi xde xst xta xcb xcd xbe xli xke xne) → xb_W κ Γ 3 0 0 2 [(0, .ref (q 14)), (1, .int x1), (2, .int x2)] [] (xw κ q nn xro xrn xfo xva xts xus xnu xth xsp xpr xpn xbs xwr xno xki xdi xde xst xta xcb xcd xbe xli xke xne) := by
  intro n
  induction n with
  | zero =>
    intro x2 xwr xno xbs o hF K
    rw [F_X0_putUnary_L2] at hF
    cases hF
  | succ n ih =>
    intro x2 xwr xno xbs o hF K
    rw [F_X0_putUnary_L2] at hF
    refine x_iload_n C dX0_putUnary_2 2 rfl ?_
    refine x_iload_n C dX0_putUnary_3 1 rfl ?_
    refine x_icmp_ge (tgt := 18) C dX0_putUnary_4 (by decide) (fun hc => ?_) (fun hc => ?_)
    · replace hF := ifp hc hF
      cases hF
      exact x_sub [0] rfl K
    · replace hF := ifn hc hF
      refine x_aload_n C dX0_putUnary_7 0 rfl ?_
      refine x_iconst (v := 0) C dX0_putUnary_8 (by decide) ?_
      obtain ⟨o1, h2, hF⟩ := bd_s hF
      refine x_callVv (st := []) C (c_X0_put h2) xm_X0_put ml_X0_46 14 rfl rfl rfl rfl rfl rfl dX0_putUnary_9 ⟨rfl, rfl⟩ ?_
      refine x_iinc (v := x2 + 1) (lv2 := [(2, .int (x2 + 1)), (0, .ref (q 14)), (1, .int x1)]) C dX0_putUnary_12 2 rfl rfl (by decide) rfl ?_
      refine x_goto (tgt := 2) C dX0_putUnary_15 (by decide) ?_
      exact x_sub [1, 2, 0] rfl (ih _ _ _ _ _ hF K)
set_option maxHeartbeats 4000000 in
set_option maxRecDepth 100000 in
theorem c_X0_putUnary {κ : xb_k} {q : Nat → Nat} {nn : Nat} {xro : (Nat → Int64)} {xrn : (Nat → Int64)} {xfo : (Nat → Int32)} {xva : (Nat → Int32)} {xts : Int32} {xus : (Nat → Int32)} {xnu : (Nat → Int32)} {xth : Int32} {xsp : Int32} {xpr : (Nat → Int64)} {xpn : (Nat → Int64)} {xbs : Int32} {xwr : (Nat → Int32)} {xno : (Nat → Int32)} {xki : (Nat → Int32)} {xdi : (Nat → Int32)} {xde : (Nat → Int32)} {xst : (Nat → Int32)} {xta : (Nat → Int32)} {xcb : Int32} {xcd : Int32} {xbe : (Nat → Int32)} {xli : (Nat → Int32)} {xke : (Nat → Int32)} {xne : (Nat → Int64)} {x1 : Int32} {fu : Nat} {o : (Nat → Int32) × (Nat → Int32) × Int32} (hF : F_X0_putUnary fu nn x1 xbs xwr xno = some o) : Met κ.1 yX0_putUnary [Cond.code yX0_putUnary cX0_putUnary 3 none] { frames := 1, cells := 0, slots := 0, locals := 23 } (xb_P κ [.ref (q 14), .int x1] (xw κ q nn xro xrn xfo xva xts xus xnu xth xsp xpr xpn xbs xwr xno xki xdi xde xst xta xcb xcd xbe xli xke xne)) (xb_Qv κ (xw κ q nn xro xrn xfo xva xts xus xnu xth xsp xpr xpn o.2.2 o.1 o.2.1 xki xdi xde xst xta xcb xcd xbe xli xke xne)) 0 0 κ.2.2.1 := by
  refine x_enter (own := RX0) (lv0 := [(0, .ref (q 14)), (1, .int x1)]) (by decide) rfl rfl rfl (fun Γ C E => ?_)
  unfold F_X0_putUnary at hF
  refine x_iconst (v := 0) C dX0_putUnary_0 (by decide) ?_
  refine x_istore_n (lv2 := [(2, .int (0 : Int32)), (0, .ref (q 14)), (1, .int x1)]) C dX0_putUnary_1 rfl (by decide) rfl ?_
  obtain ⟨o3, h4, hF⟩ := bd_s hF
  refine x_sub [1, 2, 0] rfl (w_X0_putUnary_L2 C fu _ _ _ _ _ h4 ?_)
  refine x_aload_n C dX0_putUnary_18 0 rfl ?_
  refine x_iconst (v := 1) C dX0_putUnary_19 (by decide) ?_
  obtain ⟨o5, h6, hF⟩ := bd_s hF
  refine x_callVv (st := []) C (c_X0_put h6) xm_X0_put ml_X0_46 14 rfl rfl rfl rfl rfl rfl dX0_putUnary_20 ⟨rfl, rfl⟩ ?_
  cases hF
  exact x_vret C E dX0_putUnary_23
set_option maxHeartbeats 4000000 in
set_option maxRecDepth 100000 in
theorem w_X0_putLowest_L4 {κ : xb_k} {Γ : xb_X} {q : Nat → Nat} {nn : Nat} {xro : (Nat → Int64)} {xrn : (Nat → Int64)} {xfo : (Nat → Int32)} {xva : (Nat → Int32)} {xts : Int32} {xus : (Nat → Int32)} {xnu : (Nat → Int32)} {xth : Int32} {xsp : Int32} {xpr : (Nat → Int64)} {xpn : (Nat → Int64)} {xki : (Nat → Int32)} {xdi : (Nat → Int32)} {xde : (Nat → Int32)} {xst : (Nat → Int32)} {xta : (Nat → Int32)} {xcb : Int32} {xcd : Int32} {xbe : (Nat → Int32)} {xli : (Nat → Int32)} {xke : (Nat → Int32)} {xne : (Nat → Int64)} {x1 : Int32}  (C : xb_C κ Γ 4 cX0_putLowest RX0 { frames := 1, cells := 0, slots := 0, locals := 23 }) : ∀ (n : Nat) (x3 : Int32) (xwr : (Nat → Int32)) (xno : (Nat → Int32)) (xbs : Int32) (o : (Nat → Int32) × (Nat → Int32) × Int32), F_X0_putLowest_L4 nn x1 n x3 xwr xno xbs = some o → xb_W κ Γ 4 0 0 23 [] [] (xw κ q nn xro xrn xfo xva xts xus xnu xth xsp xpr xpn o.2.2 o.1 o.2.1 xki xdi xde xst xta xcb xcd xbe xli xke xne) → xb_W κ Γ 4 0 0 4 [(0, .ref (q 14)), (1, .int x1), (3, .int x3)] [] (xw κ q nn xro xrn xfo xva xts xus xnu xth xsp xpr xpn xbs xwr xno xki xdi xde xst xta xcb xcd xbe xli xke xne) := by
  intro n
  induction n with
  | zero =>
    intro x3 xwr xno xbs o hF K
    rw [F_X0_putLowest_L4] at hF
    cases hF
  | succ n ih =>
    intro x3 xwr xno xbs o hF K
    rw [F_X0_putLowest_L4] at hF
    refine x_iload_n C dX0_putLowest_4 2 rfl ?_
    refine x_if_lt (tgt := 23) C dX0_putLowest_5 (by decide) (fun hc => ?_) (fun hc => ?_)
    · replace hF := ifp hc hF
      cases hF
      exact x_sub [] rfl K
    · replace hF := ifn hc hF
      refine x_aload_n C dX0_putLowest_8 0 rfl ?_
      refine x_iload_n C dX0_putLowest_9 1 rfl ?_
      refine x_iload_n C dX0_putLowest_10 2 rfl ?_
      refine x_ishr C dX0_putLowest_11 ?_
      refine x_iconst (v := 1) C dX0_putLowest_12 (by decide) ?_
      refine x_iand C dX0_putLowest_13 ?_
      obtain ⟨o1, h2, hF⟩ := bd_s hF
      refine x_callVv (st := []) C (c_X0_put h2) xm_X0_put ml_X0_46 14 rfl rfl rfl rfl rfl rfl dX0_putLowest_14 ⟨rfl, rfl⟩ ?_
      refine x_iinc (v := x3 + (-1)) (lv2 := [(3, .int (x3 + (-1))), (0, .ref (q 14)), (1, .int x1)]) C dX0_putLowest_17 2 rfl rfl (by decide) rfl ?_
      refine x_goto (tgt := 4) C dX0_putLowest_20 (by decide) ?_
      exact x_sub [1, 2, 0] rfl (ih _ _ _ _ _ hF K)
set_option maxHeartbeats 4000000 in
set_option maxRecDepth 100000 in
theorem c_X0_putLowest {κ : xb_k} {q : Nat → Nat} {nn : Nat} {xro : (Nat → Int64)} {xrn : (Nat → Int64)} {xfo : (Nat → Int32)} {xva : (Nat → Int32)} {xts : Int32} {xus : (Nat → Int32)} {xnu : (Nat → Int32)} {xth : Int32} {xsp : Int32} {xpr : (Nat → Int64)} {xpn : (Nat → Int64)} {xbs : Int32} {xwr : (Nat → Int32)} {xno : (Nat → Int32)} {xki : (Nat → Int32)} {xdi : (Nat → Int32)} {xde : (Nat → Int32)} {xst : (Nat → Int32)} {xta : (Nat → Int32)} {xcb : Int32} {xcd : Int32} {xbe : (Nat → Int32)} {xli : (Nat → Int32)} {xke : (Nat → Int32)} {xne : (Nat → Int64)} {x1 : Int32} {x2 : Int32} {fu : Nat} {o : (Nat → Int32) × (Nat → Int32) × Int32} (hF : F_X0_putLowest fu nn x1 x2 xbs xwr xno = some o) : Met κ.1 yX0_putLowest [Cond.code yX0_putLowest cX0_putLowest 4 none] { frames := 1, cells := 0, slots := 0, locals := 23 } (xb_P κ [.ref (q 14), .int x1, .int x2] (xw κ q nn xro xrn xfo xva xts xus xnu xth xsp xpr xpn xbs xwr xno xki xdi xde xst xta xcb xcd xbe xli xke xne)) (xb_Qv κ (xw κ q nn xro xrn xfo xva xts xus xnu xth xsp xpr xpn o.2.2 o.1 o.2.1 xki xdi xde xst xta xcb xcd xbe xli xke xne)) 0 0 κ.2.2.1 := by
  refine x_enter (own := RX0) (lv0 := [(0, .ref (q 14)), (1, .int x1), (2, .int x2)]) (by decide) rfl rfl rfl (fun Γ C E => ?_)
  unfold F_X0_putLowest at hF
  refine x_iload_n C dX0_putLowest_0 2 rfl ?_
  refine x_iconst (v := 1) C dX0_putLowest_1 (by decide) ?_
  refine x_isub C dX0_putLowest_2 ?_
  refine x_istore_n (lv2 := [(3, .int (x2 - (1 : Int32))), (0, .ref (q 14)), (1, .int x1), (2, .int x2)]) C dX0_putLowest_3 rfl (by decide) rfl ?_
  obtain ⟨o3, h4, hF⟩ := bd_s hF
  refine x_sub [1, 2, 0] rfl (w_X0_putLowest_L4 C fu _ _ _ _ _ h4 ?_)
  cases hF
  exact x_vret C E dX0_putLowest_23
set_option maxHeartbeats 4000000 in
set_option maxRecDepth 100000 in
theorem w_X0_putDoubled_L9 {κ : xb_k} {Γ : xb_X} {q : Nat → Nat} {nn : Nat} {xro : (Nat → Int64)} {xrn : (Nat → Int64)} {xfo : (Nat → Int32)} {xva : (Nat → Int32)} {xts : Int32} {xus : (Nat → Int32)} {xnu : (Nat → Int32)} {xth : Int32} {xsp : Int32} {xpr : (Nat → Int64)} {xpn : (Nat → Int64)} {xki : (Nat → Int32)} {xdi : (Nat → Int32)} {xde : (Nat → Int32)} {xst : (Nat → Int32)} {xta : (Nat → Int32)} {xcb : Int32} {xcd : Int32} {xbe : (Nat → Int32)} {xli : (Nat → Int32)} {xke : (Nat → Int32)} {xne : (Nat → Int64)} {x1 : Int32} {x2 : Int32}  (C : xb_C κ Γ 4 cX0_putDoubled RX0 { frames := 2, cells := 0, slots := 0, locals := 46 }) : ∀ (n : Nat) (x3 : Int32) (xwr : (Nat → Int32)) (xno : (Nat → Int32)) (xbs : Int32) (o : (Nat → Int32) × (Nat → Int32) × Int32), F_X0_putDoubled_L9 nn x1 x2 n x3 xwr xno xbs = some o → xb_W κ Γ 4 0 0 25 [(0, .ref (q 14)), (1, .int x1), (2, .int x2)] [] (xw κ q nn xro xrn xfo xva xts xus xnu xth xsp xpr xpn o.2.2 o.1 o.2.1 xki xdi xde xst xta xcb xcd xbe xli xke xne) → xb_W κ Γ 4 0 0 9 [(0, .ref (q 14)), (1, .int x1), (2, .int x2), (3, .int x3)] [] (xw κ q nn xro xrn xfo xva xts xus xnu xth xsp xpr xpn xbs xwr xno xki xdi xde xst xta xcb xcd xbe xli xke xne) := by
  intro n
  induction n with
  | zero =>
    intro x3 xwr xno xbs o hF K
    rw [F_X0_putDoubled_L9] at hF
    cases hF
  | succ n ih =>
    intro x3 xwr xno xbs o hF K
    rw [F_X0_putDoubled_L9] at hF
    refine x_iload_n C dX0_putDoubled_9 3 rfl ?_
    refine x_iload_n C dX0_putDoubled_10 2 rfl ?_
    refine x_icmp_ge (tgt := 25) C dX0_putDoubled_11 (by decide) (fun hc => ?_) (fun hc => ?_)
    · replace hF := ifp hc hF
      cases hF
      exact x_sub [0, 1, 2] rfl K
    · replace hF := ifn hc hF
      refine x_aload_n C dX0_putDoubled_14 0 rfl ?_
      refine x_iconst (v := 0) C dX0_putDoubled_15 (by decide) ?_
      obtain ⟨o3, h4, hF⟩ := bd_s hF
      refine x_callVv (st := []) C (c_X0_put h4) xm_X0_put ml_X0_46 14 rfl rfl rfl rfl rfl rfl dX0_putDoubled_16 ⟨rfl, rfl⟩ ?_
      refine x_iinc (v := x3 + 1) (lv2 := [(3, .int (x3 + 1)), (0, .ref (q 14)), (1, .int x1), (2, .int x2)]) C dX0_putDoubled_19 3 rfl rfl (by decide) rfl ?_
      refine x_goto (tgt := 9) C dX0_putDoubled_22 (by decide) ?_
      exact x_sub [1, 2, 3, 0] rfl (ih _ _ _ _ _ hF K)
set_option maxHeartbeats 4000000 in
set_option maxRecDepth 100000 in
theorem c_X0_putDoubled {κ : xb_k} {q : Nat → Nat} {nn : Nat} {xro : (Nat → Int64)} {xrn : (Nat → Int64)} {xfo : (Nat → Int32)} {xva : (Nat → Int32)} {xts : Int32} {xus : (Nat → Int32)} {xnu : (Nat → Int32)} {xth : Int32} {xsp : Int32} {xpr : (Nat → Int64)} {xpn : (Nat → Int64)} {xbs : Int32} {xwr : (Nat → Int32)} {xno : (Nat → Int32)} {xki : (Nat → Int32)} {xdi : (Nat → Int32)} {xde : (Nat → Int32)} {xst : (Nat → Int32)} {xta : (Nat → Int32)} {xcb : Int32} {xcd : Int32} {xbe : (Nat → Int32)} {xli : (Nat → Int32)} {xke : (Nat → Int32)} {xne : (Nat → Int64)} {x1 : Int32} {fu : Nat} {o : (Nat → Int32) × (Nat → Int32) × Int32} (hF : F_X0_putDoubled fu nn x1 xbs xwr xno = some o) : Met κ.1 yX0_putDoubled [Cond.code yX0_putDoubled cX0_putDoubled 4 none] { frames := 2, cells := 0, slots := 0, locals := 46 } (xb_P κ [.ref (q 14), .int x1] (xw κ q nn xro xrn xfo xva xts xus xnu xth xsp xpr xpn xbs xwr xno xki xdi xde xst xta xcb xcd xbe xli xke xne)) (xb_Qv κ (xw κ q nn xro xrn xfo xva xts xus xnu xth xsp xpr xpn o.2.2 o.1 o.2.1 xki xdi xde xst xta xcb xcd xbe xli xke xne)) 0 0 κ.2.2.1 := by
  refine x_enter (own := RX0) (lv0 := [(0, .ref (q 14)), (1, .int x1)]) (by decide) rfl rfl rfl (fun Γ C E => ?_)
  unfold F_X0_putDoubled at hF
  refine x_iload_n C dX0_putDoubled_0 1 rfl ?_
  refine x_iconst (v := 1) C dX0_putDoubled_1 (by decide) ?_
  refine x_iadd C dX0_putDoubled_2 ?_
  obtain ⟨o1, h2, hF⟩ := bd_s hF
  refine x_callNi (st := []) C (c_X8_digitsOf h2) xm_X8_digitsOf mn_X0_81 rfl rfl rfl rfl dX0_putDoubled_3 ⟨rfl, rfl⟩ ?_
  refine x_istore_n (lv2 := [(2, .int o1), (0, .ref (q 14)), (1, .int x1)]) C dX0_putDoubled_6 rfl (by decide) rfl ?_
  refine x_iconst (v := 1) C dX0_putDoubled_7 (by decide) ?_
  refine x_istore_n (lv2 := [(3, .int (1 : Int32)), (2, .int o1), (0, .ref (q 14)), (1, .int x1)]) C dX0_putDoubled_8 rfl (by decide) rfl ?_
  obtain ⟨o5, h6, hF⟩ := bd_s hF
  refine x_sub [2, 3, 1, 0] rfl (w_X0_putDoubled_L9 C fu _ _ _ _ _ h6 ?_)
  refine x_aload_n C dX0_putDoubled_25 0 rfl ?_
  refine x_iload_n C dX0_putDoubled_26 1 rfl ?_
  refine x_iconst (v := 1) C dX0_putDoubled_27 (by decide) ?_
  refine x_iadd C dX0_putDoubled_28 ?_
  refine x_iload_n C dX0_putDoubled_29 2 rfl ?_
  obtain ⟨o7, h8, hF⟩ := bd_s hF
  refine x_callVv (st := []) C (c_X0_putLowest h8) xm_X0_putLowest ml_X0_84 14 rfl rfl rfl rfl rfl rfl dX0_putDoubled_30 ⟨rfl, rfl⟩ ?_
  cases hF
  exact x_vret C E dX0_putDoubled_33

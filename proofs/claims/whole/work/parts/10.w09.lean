set_option maxHeartbeats 4000000 in
set_option maxRecDepth 100000 in
theorem c_X1_placeCount {κ : xb_k} {q : Nat → Nat} {nn : Nat} {xro : (Nat → Int64)} {xrn : (Nat → Int64)} {xfo : (Nat → Int32)} {xva : (Nat → Int32)} {xts : Int32} {xus : (Nat → Int32)} {xnu : (Nat → Int32)} {xth : Int32} {xsp : Int32} {xpr : (Nat → Int64)} {xpn : (Nat → Int64)} {xbs : Int32} {xwr : (Nat → Int32)} {xno : (Nat → Int32)} {xki : (Nat → Int32)} {xdi : (Nat → Int32)} {xde : (Nat → Int32)} {xst : (Nat → Int32)} {xta : (Nat → Int32)} {xcb : Int32} {xcd : Int32} {xbe : (Nat → Int32)} {xli : (Nat → Int32)} {xke : (Nat → Int32)} {xne : (Nat → Int64)}   {o : Int32} (hF : F_X1_placeCount nn xth xsp = some o) : Met κ.1 yX1_placeCount [Cond.code yX1_placeCount cX1_placeCount 1 (some .int)] { frames := 1, cells := 0, slots := 0, locals := 21 } (xb_P κ [.ref (q 10)] (xw κ q nn xro xrn xfo xva xts xus xnu xth xsp xpr xpn xbs xwr xno xki xdi xde xst xta xcb xcd xbe xli xke xne)) (xb_Qi κ o (xw κ q nn xro xrn xfo xva xts xus xnu xth xsp xpr xpn xbs xwr xno xki xdi xde xst xta xcb xcd xbe xli xke xne)) 0 0 κ.2.2.1 := by
  refine x_enter (own := RX1) (lv0 := [(0, .ref (q 10))]) (by decide) rfl rfl rfl (fun Γ C E => ?_)
  unfold F_X1_placeCount at hF
  refine x_aload_n C dX1_placeCount_0 0 rfl ?_
  refine gf_X1_15 C 10 rfl rfl dX1_placeCount_1 ?_
  refine x_if_eq (tgt := 31) C dX1_placeCount_4 (by decide) (fun hc => ?_) (fun hc => ?_)
  · replace hF := ifp hc hF
    refine x_iconst (v := 0) C dX1_placeCount_31 (by decide) ?_
    cases hF
    exact x_iret C E dX1_placeCount_32
  · replace hF := ifn hc hF
    refine x_aload_n C dX1_placeCount_7 0 rfl ?_
    refine gf_X1_39 C 10 rfl rfl dX1_placeCount_8 ?_
    refine x_alen (v := nI nn) C 17 0 rfl rfl rfl dX1_placeCount_11 ?_
    refine x_aload_n C dX1_placeCount_12 0 rfl ?_
    refine gf_X1_19 C 10 rfl rfl dX1_placeCount_13 ?_
    refine x_iadd C dX1_placeCount_16 ?_
    refine x_iconst (v := 1) C dX1_placeCount_17 (by decide) ?_
    refine x_isub C dX1_placeCount_18 ?_
    refine x_iconst (v := 1) C dX1_placeCount_19 (by decide) ?_
    refine x_aload_n C dX1_placeCount_20 0 rfl ?_
    refine gf_X1_19 C 10 rfl rfl dX1_placeCount_21 ?_
    obtain ⟨o1, h2, hF⟩ := bd_s hF
    refine x_callSi (st := [.int (((nI nn) + xsp) - (1 : Int32))]) C (c_J9_max_7cf53 h2) xm_J9_max_7cf53 ml_X1_73 rfl rfl rfl rfl dX1_placeCount_24 ⟨rfl, rfl⟩ ?_
    obtain ⟨b3, hF⟩ := ck_s hF
    refine x_idiv C dX1_placeCount_27 (nz_ne b3) ?_
    refine x_goto (tgt := 32) C dX1_placeCount_28 (by decide) ?_
    cases hF
    exact x_iret C E dX1_placeCount_32
set_option maxHeartbeats 4000000 in
set_option maxRecDepth 100000 in
theorem c_X1_placeStart {κ : xb_k} {q : Nat → Nat} {nn : Nat} {xro : (Nat → Int64)} {xrn : (Nat → Int64)} {xfo : (Nat → Int32)} {xva : (Nat → Int32)} {xts : Int32} {xus : (Nat → Int32)} {xnu : (Nat → Int32)} {xth : Int32} {xsp : Int32} {xpr : (Nat → Int64)} {xpn : (Nat → Int64)} {xbs : Int32} {xwr : (Nat → Int32)} {xno : (Nat → Int32)} {xki : (Nat → Int32)} {xdi : (Nat → Int32)} {xde : (Nat → Int32)} {xst : (Nat → Int32)} {xta : (Nat → Int32)} {xcb : Int32} {xcd : Int32} {xbe : (Nat → Int32)} {xli : (Nat → Int32)} {xke : (Nat → Int32)} {xne : (Nat → Int64)} {x1 : Int32}  {o : Int32} (hF : F_X1_placeStart nn x1 xsp xst = some o) : Met κ.1 yX1_placeStart [Cond.code yX1_placeStart cX1_placeStart 2 (some .int)] { frames := 2, cells := 0, slots := 0, locals := 42 } (xb_P κ [.ref (q 10), .int x1] (xw κ q nn xro xrn xfo xva xts xus xnu xth xsp xpr xpn xbs xwr xno xki xdi xde xst xta xcb xcd xbe xli xke xne)) (xb_Qi κ o (xw κ q nn xro xrn xfo xva xts xus xnu xth xsp xpr xpn xbs xwr xno xki xdi xde xst xta xcb xcd xbe xli xke xne)) 0 0 κ.2.2.1 := by
  refine x_enter (own := RX1) (lv0 := [(0, .ref (q 10)), (1, .int x1)]) (by decide) rfl rfl rfl (fun Γ C E => ?_)
  unfold F_X1_placeStart at hF
  refine x_aload_n C dX1_placeStart_0 0 rfl ?_
  refine x_iload_n C dX1_placeStart_1 1 rfl ?_
  refine x_aload_n C dX1_placeStart_2 0 rfl ?_
  refine gf_X1_19 C 10 rfl rfl dX1_placeStart_3 ?_
  refine x_imul C dX1_placeStart_6 ?_
  obtain ⟨o1, h2, hF⟩ := bd_s hF
  refine x_callVi (st := []) C (c_X1_startOf h2) xm_X1_startOf ml_X1_122 10 rfl rfl rfl rfl rfl rfl dX1_placeStart_7 ⟨rfl, rfl⟩ ?_
  cases hF
  exact x_iret C E dX1_placeStart_10
set_option maxHeartbeats 4000000 in
set_option maxRecDepth 100000 in
theorem c_X8_place {κ : xb_k} {q : Nat → Nat} {nn : Nat} {xro : (Nat → Int64)} {xrn : (Nat → Int64)} {xfo : (Nat → Int32)} {xva : (Nat → Int32)} {xts : Int32} {xus : (Nat → Int32)} {xnu : (Nat → Int32)} {xth : Int32} {xsp : Int32} {xpr : (Nat → Int64)} {xpn : (Nat → Int64)} {xbs : Int32} {xwr : (Nat → Int32)} {xno : (Nat → Int32)} {xki : (Nat → Int32)} {xdi : (Nat → Int32)} {xde : (Nat → Int32)} {xst : (Nat → Int32)} {xta : (Nat → Int32)} {xcb : Int32} {xcd : Int32} {xbe : (Nat → Int32)} {xli : (Nat → Int32)} {xke : (Nat → Int32)} {xne : (Nat → Int64)} {x1 : Int32}  {o : Int32} (hF : F_X8_place nn x1 xth xsp xst = some o) : Met κ.1 yX8_place [Cond.code yX8_place cX8_place 2 (some .int)] { frames := 3, cells := 0, slots := 0, locals := 63 } (xb_P κ [.ref (q 0), .int x1] (xw κ q nn xro xrn xfo xva xts xus xnu xth xsp xpr xpn xbs xwr xno xki xdi xde xst xta xcb xcd xbe xli xke xne)) (xb_Qi κ o (xw κ q nn xro xrn xfo xva xts xus xnu xth xsp xpr xpn xbs xwr xno xki xdi xde xst xta xcb xcd xbe xli xke xne)) 0 0 κ.2.2.1 := by
  refine x_enter (own := RX8) (lv0 := [(0, .ref (q 0)), (1, .int x1)]) (by decide) rfl rfl rfl (fun Γ C E => ?_)
  unfold F_X8_place at hF
  refine x_iload_n C dX8_place_0 1 rfl ?_
  refine x_aload_n C dX8_place_1 0 rfl ?_
  refine gf_X8_44 C 0 rfl rfl dX8_place_2 ?_
  obtain ⟨o1, h2, hF⟩ := bd_s hF
  refine x_callVi (st := [.int x1]) C (c_X1_placeCount h2) xm_X1_placeCount ml_X8_183 10 rfl rfl rfl rfl rfl rfl dX8_place_5 ⟨rfl, rfl⟩ ?_
  obtain ⟨o3, h4, hF⟩ := bd_s hF
  refine x_callSi (st := []) C (c_X8_isBelow h4) xm_X8_isBelow ml_X8_89 rfl rfl rfl rfl dX8_place_8 ⟨rfl, rfl⟩ ?_
  refine x_if_ne (tgt := 16) C dX8_place_11 (by decide) (fun hc => ?_) (fun hc => ?_)
  · replace hF := ifn hc hF
    refine x_aload_n C dX8_place_16 0 rfl ?_
    refine gf_X8_44 C 0 rfl rfl dX8_place_17 ?_
    refine x_iload_n C dX8_place_20 1 rfl ?_
    obtain ⟨o5, h6, hF⟩ := bd_s hF
    refine x_callVi (st := []) C (c_X1_placeStart h6) xm_X1_placeStart ml_X8_187 10 rfl rfl rfl rfl rfl rfl dX8_place_21 ⟨rfl, rfl⟩ ?_
    cases hF
    exact x_iret C E dX8_place_24
  · replace hF := ifp hc hF
    refine x_iconst (v := (-1)) C dX8_place_14 (by decide) ?_
    cases hF
    exact x_iret C E dX8_place_15
set_option maxHeartbeats 4000000 in
set_option maxRecDepth 100000 in
theorem c_X0_byteCount {κ : xb_k} {q : Nat → Nat} {nn : Nat} {xro : (Nat → Int64)} {xrn : (Nat → Int64)} {xfo : (Nat → Int32)} {xva : (Nat → Int32)} {xts : Int32} {xus : (Nat → Int32)} {xnu : (Nat → Int32)} {xth : Int32} {xsp : Int32} {xpr : (Nat → Int64)} {xpn : (Nat → Int64)} {xbs : Int32} {xwr : (Nat → Int32)} {xno : (Nat → Int32)} {xki : (Nat → Int32)} {xdi : (Nat → Int32)} {xde : (Nat → Int32)} {xst : (Nat → Int32)} {xta : (Nat → Int32)} {xcb : Int32} {xcd : Int32} {xbe : (Nat → Int32)} {xli : (Nat → Int32)} {xke : (Nat → Int32)} {xne : (Nat → Int64)}   {o : Int32} (hF : F_X0_byteCount xbs = some o) : Met κ.1 yX0_byteCount [Cond.code yX0_byteCount cX0_byteCount 1 (some .int)] { frames := 0, cells := 0, slots := 0, locals := 0 } (xb_P κ [.ref (q 14)] (xw κ q nn xro xrn xfo xva xts xus xnu xth xsp xpr xpn xbs xwr xno xki xdi xde xst xta xcb xcd xbe xli xke xne)) (xb_Qi κ o (xw κ q nn xro xrn xfo xva xts xus xnu xth xsp xpr xpn xbs xwr xno xki xdi xde xst xta xcb xcd xbe xli xke xne)) 0 0 κ.2.2.1 := by
  refine x_enter (own := RX0) (lv0 := [(0, .ref (q 14))]) (by decide) rfl rfl rfl (fun Γ C E => ?_)
  unfold F_X0_byteCount at hF
  refine x_aload_n C dX0_byteCount_0 0 rfl ?_
  refine gf_X0_9 C 14 rfl rfl dX0_byteCount_1 ?_
  refine x_bipush (v := 7) C dX0_byteCount_4 (by decide) ?_
  refine x_iadd C dX0_byteCount_6 ?_
  refine x_iconst (v := 3) C dX0_byteCount_7 (by decide) ?_
  refine x_ishr C dX0_byteCount_8 ?_
  cases hF
  exact x_iret C E dX0_byteCount_9
set_option maxHeartbeats 4000000 in
set_option maxRecDepth 100000 in
theorem w_X0_hash_L4 {κ : xb_k} {Γ : xb_X} {q : Nat → Nat} {nn : Nat} {xro : (Nat → Int64)} {xrn : (Nat → Int64)} {xfo : (Nat → Int32)} {xva : (Nat → Int32)} {xts : Int32} {xus : (Nat → Int32)} {xnu : (Nat → Int32)} {xth : Int32} {xsp : Int32} {xpr : (Nat → Int64)} {xpn : (Nat → Int64)} {xbs : Int32} {xwr : (Nat → Int32)} {xno : (Nat → Int32)} {xki : (Nat → Int32)} {xdi : (Nat → Int32)} {xde : (Nat → Int32)} {xst : (Nat → Int32)} {xta : (Nat → Int32)} {xcb : Int32} {xcd : Int32} {xbe : (Nat → Int32)} {xli : (Nat → Int32)} {xke : (Nat → Int32)} {xne : (Nat → Int64)}   (C : xb_C κ Γ 4 cX0_hash RX0 { frames := 1, cells := 0, slots := 0, locals := 21 }) : ∀ (n : Nat) (x1 : Int64) (x3 : Int32) (o : Int64), F_X0_hash_L4 nn xbs xno n x1 x3 = some o → xb_W κ Γ 4 0 0 34 [(1, .long o)] [] (xw κ q nn xro xrn xfo xva xts xus xnu xth xsp xpr xpn xbs xwr xno xki xdi xde xst xta xcb xcd xbe xli xke xne) → xb_W κ Γ 4 0 0 4 [(0, .ref (q 14)), (1, .long x1), (3, .int x3)] [] (xw κ q nn xro xrn xfo xva xts xus xnu xth xsp xpr xpn xbs xwr xno xki xdi xde xst xta xcb xcd xbe xli xke xne) := by
  intro n
  induction n with
  | zero =>
    intro x1 x3 o hF K
    rw [F_X0_hash_L4] at hF
    cases hF
  | succ n ih =>
    intro x1 x3 o hF K
    rw [F_X0_hash_L4] at hF
    refine x_iload_n C dX0_hash_4 2 rfl ?_
    refine x_aload_n C dX0_hash_5 0 rfl ?_
    obtain ⟨o1, h2, hF⟩ := bd_s hF
    refine x_callVi (st := [.int x3]) C (c_X0_byteCount h2) xm_X0_byteCount ml_X0_67 14 rfl rfl rfl rfl rfl rfl dX0_hash_6 ⟨rfl, rfl⟩ ?_
    refine x_icmp_ge (tgt := 34) C dX0_hash_9 (by decide) (fun hc => ?_) (fun hc => ?_)
    · replace hF := ifp hc hF
      cases hF
      exact x_sub [1] rfl K
    · replace hF := ifn hc hF
      refine x_ldc2 C dX0_hash_12 kl_X0_70 ?_
      refine x_lload_n C dX0_hash_15 1 rfl ?_
      refine x_lmul C dX0_hash_16 ?_
      refine x_aload_n C dX0_hash_17 0 rfl ?_
      refine gf_X0_25 C 14 rfl rfl dX0_hash_18 ?_
      refine x_iload_n C dX0_hash_21 2 rfl ?_
      obtain ⟨b3, hF⟩ := ck_s hF
      replace b3 := Nat.le_of_ble_eq_true b3
      refine x_callNi (st := [.long ((33 : Int64) * x1)]) C (c_element κ 16 rfl (by omega)) xm_X8_element mn_X0_72 rfl rfl rfl rfl dX0_hash_22 ⟨rfl, rfl⟩ ?_
      refine x_i2l C dX0_hash_25 ?_
      refine x_ladd C dX0_hash_26 ?_
      refine x_lstore_n (lv2 := [(1, .long (((33 : Int64) * x1) + ((el (64 * nn) xno x3).toInt64))), (0, .ref (q 14)), (3, .int x3)]) C dX0_hash_27 rfl (by decide) rfl ?_
      refine x_iinc (v := x3 + 1) (lv2 := [(3, .int (x3 + 1)), (1, .long (((33 : Int64) * x1) + ((el (64 * nn) xno x3).toInt64))), (0, .ref (q 14))]) C dX0_hash_28 2 rfl rfl (by decide) rfl ?_
      refine x_goto (tgt := 4) C dX0_hash_31 (by decide) ?_
      exact x_sub [2, 1, 0] rfl (ih _ _ _ hF K)
set_option maxHeartbeats 4000000 in
set_option maxRecDepth 100000 in
theorem c_X0_hash {κ : xb_k} {q : Nat → Nat} {nn : Nat} {xro : (Nat → Int64)} {xrn : (Nat → Int64)} {xfo : (Nat → Int32)} {xva : (Nat → Int32)} {xts : Int32} {xus : (Nat → Int32)} {xnu : (Nat → Int32)} {xth : Int32} {xsp : Int32} {xpr : (Nat → Int64)} {xpn : (Nat → Int64)} {xbs : Int32} {xwr : (Nat → Int32)} {xno : (Nat → Int32)} {xki : (Nat → Int32)} {xdi : (Nat → Int32)} {xde : (Nat → Int32)} {xst : (Nat → Int32)} {xta : (Nat → Int32)} {xcb : Int32} {xcd : Int32} {xbe : (Nat → Int32)} {xli : (Nat → Int32)} {xke : (Nat → Int32)} {xne : (Nat → Int64)}  {fu : Nat} {o : Int64} (hF : F_X0_hash fu nn xbs xno = some o) : Met κ.1 yX0_hash [Cond.code yX0_hash cX0_hash 4 (some .long)] { frames := 1, cells := 0, slots := 0, locals := 21 } (xb_P κ [.ref (q 14)] (xw κ q nn xro xrn xfo xva xts xus xnu xth xsp xpr xpn xbs xwr xno xki xdi xde xst xta xcb xcd xbe xli xke xne)) (xb_Ql κ o (xw κ q nn xro xrn xfo xva xts xus xnu xth xsp xpr xpn xbs xwr xno xki xdi xde xst xta xcb xcd xbe xli xke xne)) 0 0 κ.2.2.1 := by
  refine x_enter (own := RX0) (lv0 := [(0, .ref (q 14))]) (by decide) rfl rfl rfl (fun Γ C E => ?_)
  unfold F_X0_hash at hF
  refine x_lconst (v := 1) C dX0_hash_0 (by decide) ?_
  refine x_lstore_n (lv2 := [(1, .long (1 : Int64)), (0, .ref (q 14))]) C dX0_hash_1 rfl (by decide) rfl ?_
  refine x_iconst (v := 0) C dX0_hash_2 (by decide) ?_
  refine x_istore_n (lv2 := [(3, .int (0 : Int32)), (1, .long (1 : Int64)), (0, .ref (q 14))]) C dX0_hash_3 rfl (by decide) rfl ?_
  obtain ⟨o4, h5, hF⟩ := bd_s hF
  refine x_sub [2, 1, 0] rfl (w_X0_hash_L4 C fu _ _ _ h5 ?_)
  refine x_lload_n C dX0_hash_34 0 rfl ?_
  cases hF
  exact x_lret C E dX0_hash_35
set_option maxHeartbeats 4000000 in
set_option maxRecDepth 100000 in
theorem c_X8_sum {κ : xb_k} {q : Nat → Nat} {nn : Nat} {xro : (Nat → Int64)} {xrn : (Nat → Int64)} {xfo : (Nat → Int32)} {xva : (Nat → Int32)} {xts : Int32} {xus : (Nat → Int32)} {xnu : (Nat → Int32)} {xth : Int32} {xsp : Int32} {xpr : (Nat → Int64)} {xpn : (Nat → Int64)} {xbs : Int32} {xwr : (Nat → Int32)} {xno : (Nat → Int32)} {xki : (Nat → Int32)} {xdi : (Nat → Int32)} {xde : (Nat → Int32)} {xst : (Nat → Int32)} {xta : (Nat → Int32)} {xcb : Int32} {xcd : Int32} {xbe : (Nat → Int32)} {xli : (Nat → Int32)} {xke : (Nat → Int32)} {xne : (Nat → Int64)}  {fu : Nat} {o : Int64} (hF : F_X8_sum fu nn xth xbs xno = some o) : Met κ.1 yX8_sum [Cond.code yX8_sum cX8_sum 1 (some .long)] { frames := 2, cells := 0, slots := 0, locals := 44 } (xb_P κ [.ref (q 0)] (xw κ q nn xro xrn xfo xva xts xus xnu xth xsp xpr xpn xbs xwr xno xki xdi xde xst xta xcb xcd xbe xli xke xne)) (xb_Ql κ o (xw κ q nn xro xrn xfo xva xts xus xnu xth xsp xpr xpn xbs xwr xno xki xdi xde xst xta xcb xcd xbe xli xke xne)) 0 0 κ.2.2.1 := by
  refine x_enter (own := RX8) (lv0 := [(0, .ref (q 0))]) (by decide) rfl rfl rfl (fun Γ C E => ?_)
  unfold F_X8_sum at hF
  refine x_aload_n C dX8_sum_0 0 rfl ?_
  refine gf_X8_44 C 0 rfl rfl dX8_sum_1 ?_
  obtain ⟨o1, h2, hF⟩ := bd_s hF
  refine x_callVi (st := []) C (c_X1_isThere h2) xm_X1_isThere ml_X8_141 10 rfl rfl rfl rfl rfl rfl dX8_sum_4 ⟨rfl, rfl⟩ ?_
  refine x_if_eq (tgt := 23) C dX8_sum_7 (by decide) (fun hc => ?_) (fun hc => ?_)
  · replace hF := ifp hc hF
    refine x_ldc2 C dX8_sum_23 kl_X8_194 ?_
    cases hF
    exact x_lret C E dX8_sum_26
  · replace hF := ifn hc hF
    refine x_aload_n C dX8_sum_10 0 rfl ?_
    refine gf_X8_44 C 0 rfl rfl dX8_sum_11 ?_
    obtain ⟨o3, h4, hF⟩ := bd_s hF
    refine x_callVr (st := []) C (c_X1_bits h4) xm_X1_bits ml_X8_174 10 rfl rfl rfl rfl rfl rfl dX8_sum_14 ⟨rfl, rfl⟩ ?_
    obtain ⟨o5, h6, hF⟩ := bd_s hF
    refine x_callVl (st := []) C (c_X0_hash h6) xm_X0_hash ml_X8_190 14 rfl rfl rfl rfl rfl rfl dX8_sum_17 ⟨rfl, rfl⟩ ?_
    refine x_goto (tgt := 26) C dX8_sum_20 (by decide) ?_
    cases hF
    exact x_lret C E dX8_sum_26
set_option maxHeartbeats 4000000 in
set_option maxRecDepth 100000 in
theorem c_X0_turn {κ : xb_k} {q : Nat → Nat} {nn : Nat} {xro : (Nat → Int64)} {xrn : (Nat → Int64)} {xfo : (Nat → Int32)} {xva : (Nat → Int32)} {xts : Int32} {xus : (Nat → Int32)} {xnu : (Nat → Int32)} {xth : Int32} {xsp : Int32} {xpr : (Nat → Int64)} {xpn : (Nat → Int64)} {xbs : Int32} {xwr : (Nat → Int32)} {xno : (Nat → Int32)} {xki : (Nat → Int32)} {xdi : (Nat → Int32)} {xde : (Nat → Int32)} {xst : (Nat → Int32)} {xta : (Nat → Int32)} {xcb : Int32} {xcd : Int32} {xbe : (Nat → Int32)} {xli : (Nat → Int32)} {xke : (Nat → Int32)} {xne : (Nat → Int64)} {x1 : Int32} {x2 : Int32}  {o : Int32 × (Nat → Int32)} (hF : F_X0_turn nn x1 x2 xno = some o) : Met κ.1 yX0_turn [Cond.code yX0_turn cX0_turn 3 (some .int)] { frames := 1, cells := 0, slots := 0, locals := 21 } (xb_P κ [.ref (q 14), .int x1, .int x2] (xw κ q nn xro xrn xfo xva xts xus xnu xth xsp xpr xpn xbs xwr xno xki xdi xde xst xta xcb xcd xbe xli xke xne)) (xb_Qi κ o.1 (xw κ q nn xro xrn xfo xva xts xus xnu xth xsp xpr xpn xbs xwr o.2 xki xdi xde xst xta xcb xcd xbe xli xke xne)) 0 0 κ.2.2.1 := by
  refine x_enter (own := RX0) (lv0 := [(0, .ref (q 14)), (1, .int x1), (2, .int x2)]) (by decide) rfl rfl rfl (fun Γ C E => ?_)
  unfold F_X0_turn at hF
  refine x_iload_n C dX0_turn_0 1 rfl ?_
  refine x_if_lt (tgt := 23) C dX0_turn_1 (by decide) (fun hc => ?_) (fun hc => ?_)
  · replace hF := ifp hc hF
    refine x_aload_n C dX0_turn_23 0 rfl ?_
    refine gf_X0_25 C 14 rfl rfl dX0_turn_24 ?_
    refine x_iload_n C dX0_turn_27 1 rfl ?_
    obtain ⟨b1, hF⟩ := ck_s hF
    replace b1 := Nat.le_of_ble_eq_true b1
    refine x_callNi (st := []) C (c_element κ 16 rfl (by omega)) xm_X8_element mn_X0_72 rfl rfl rfl rfl dX0_turn_28 ⟨rfl, rfl⟩ ?_
    cases hF
    exact x_iret C E dX0_turn_31
  · replace hF := ifn hc hF
    refine x_iload_n C dX0_turn_4 1 rfl ?_
    refine x_aload_n C dX0_turn_5 0 rfl ?_
    refine gf_X0_25 C 14 rfl rfl dX0_turn_6 ?_
    refine x_alen (v := nI (64 * nn)) C 16 0 rfl rfl rfl dX0_turn_9 ?_
    refine x_icmp_ge (tgt := 23) C dX0_turn_10 (by decide) (fun hc => ?_) (fun hc => ?_)
    · replace hF := ifp hc hF
      refine x_aload_n C dX0_turn_23 0 rfl ?_
      refine gf_X0_25 C 14 rfl rfl dX0_turn_24 ?_
      refine x_iload_n C dX0_turn_27 1 rfl ?_
      obtain ⟨b2, hF⟩ := ck_s hF
      replace b2 := Nat.le_of_ble_eq_true b2
      refine x_callNi (st := []) C (c_element κ 16 rfl (by omega)) xm_X8_element mn_X0_72 rfl rfl rfl rfl dX0_turn_28 ⟨rfl, rfl⟩ ?_
      cases hF
      exact x_iret C E dX0_turn_31
    · replace hF := ifn hc hF
      refine x_aload_n C dX0_turn_13 0 rfl ?_
      refine gf_X0_25 C 14 rfl rfl dX0_turn_14 ?_
      refine x_iload_n C dX0_turn_17 1 rfl ?_
      refine x_dup2 C dX0_turn_18 rfl rfl ?_
      obtain ⟨b3, hF⟩ := ck_s hF
      refine x_iald C 16 rfl b3 dX0_turn_19 ?_
      refine x_iload_n C dX0_turn_20 2 rfl ?_
      refine x_ixor C dX0_turn_21 ?_
      obtain ⟨b4, hF⟩ := ck_s hF
      refine x_iast (ws2 := (xw κ q nn xro xrn xfo xva xts xus xnu xth xsp xpr xpn xbs xwr (upd xno x1.toNatClampNeg ((xno x1.toNatClampNeg) ^^^ x2)) xki xdi xde xst xta xcb xcd xbe xli xke xne)) C 16 rfl b4 dX0_turn_22 rfl ?_
      refine x_aload_n C dX0_turn_23 0 rfl ?_
      refine gf_X0_25 C 14 rfl rfl dX0_turn_24 ?_
      refine x_iload_n C dX0_turn_27 1 rfl ?_
      obtain ⟨b5, hF⟩ := ck_s hF
      replace b5 := Nat.le_of_ble_eq_true b5
      refine x_callNi (st := []) C (c_element κ 16 rfl (by omega)) xm_X8_element mn_X0_72 rfl rfl rfl rfl dX0_turn_28 ⟨rfl, rfl⟩ ?_
      cases hF
      exact x_iret C E dX0_turn_31
set_option maxHeartbeats 4000000 in
set_option maxRecDepth 100000 in
theorem c_X8_alter {κ : xb_k} {q : Nat → Nat} {nn : Nat} {xro : (Nat → Int64)} {xrn : (Nat → Int64)} {xfo : (Nat → Int32)} {xva : (Nat → Int32)} {xts : Int32} {xus : (Nat → Int32)} {xnu : (Nat → Int32)} {xth : Int32} {xsp : Int32} {xpr : (Nat → Int64)} {xpn : (Nat → Int64)} {xbs : Int32} {xwr : (Nat → Int32)} {xno : (Nat → Int32)} {xki : (Nat → Int32)} {xdi : (Nat → Int32)} {xde : (Nat → Int32)} {xst : (Nat → Int32)} {xta : (Nat → Int32)} {xcb : Int32} {xcd : Int32} {xbe : (Nat → Int32)} {xli : (Nat → Int32)} {xke : (Nat → Int32)} {xne : (Nat → Int64)} {x1 : Int32} {x2 : Int32}  {o : Int32 × (Nat → Int32)} (hF : F_X8_alter nn x1 x2 xth xbs xno = some o) : Met κ.1 yX8_alter [Cond.code yX8_alter cX8_alter 3 (some .int)] { frames := 2, cells := 0, slots := 0, locals := 43 } (xb_P κ [.ref (q 0), .int x1, .int x2] (xw κ q nn xro xrn xfo xva xts xus xnu xth xsp xpr xpn xbs xwr xno xki xdi xde xst xta xcb xcd xbe xli xke xne)) (xb_Qi κ o.1 (xw κ q nn xro xrn xfo xva xts xus xnu xth xsp xpr xpn xbs xwr o.2 xki xdi xde xst xta xcb xcd xbe xli xke xne)) 0 0 κ.2.2.1 := by
  refine x_enter (own := RX8) (lv0 := [(0, .ref (q 0)), (1, .int x1), (2, .int x2)]) (by decide) rfl rfl rfl (fun Γ C E => ?_)
  unfold F_X8_alter at hF
  refine x_aload_n C dX8_alter_0 0 rfl ?_
  refine gf_X8_44 C 0 rfl rfl dX8_alter_1 ?_
  obtain ⟨o1, h2, hF⟩ := bd_s hF
  refine x_callVi (st := []) C (c_X1_isThere h2) xm_X1_isThere ml_X8_141 10 rfl rfl rfl rfl rfl rfl dX8_alter_4 ⟨rfl, rfl⟩ ?_
  refine x_if_ne (tgt := 13) C dX8_alter_7 (by decide) (fun hc => ?_) (fun hc => ?_)
  · replace hF := ifn hc hF
    refine x_iload_n C dX8_alter_13 1 rfl ?_
    refine x_aload_n C dX8_alter_14 0 rfl ?_
    refine gf_X8_44 C 0 rfl rfl dX8_alter_15 ?_
    obtain ⟨o3, h4, hF⟩ := bd_s hF
    refine x_callVr (st := [.int x1]) C (c_X1_bits h4) xm_X1_bits ml_X8_174 10 rfl rfl rfl rfl rfl rfl dX8_alter_18 ⟨rfl, rfl⟩ ?_
    obtain ⟨o5, h6, hF⟩ := bd_s hF
    refine x_callVi (st := [.int x1]) C (c_X0_byteCount h6) xm_X0_byteCount ml_X8_196 14 rfl rfl rfl rfl rfl rfl dX8_alter_21 ⟨rfl, rfl⟩ ?_
    obtain ⟨o7, h8, hF⟩ := bd_s hF
    refine x_callSi (st := []) C (c_X8_isBelow h8) xm_X8_isBelow ml_X8_89 rfl rfl rfl rfl dX8_alter_24 ⟨rfl, rfl⟩ ?_
    refine x_if_eq (tgt := 42) C dX8_alter_27 (by decide) (fun hc => ?_) (fun hc => ?_)
    · replace hF := ifp hc hF
      refine x_bipush (v := (-2)) C dX8_alter_42 (by decide) ?_
      cases hF
      exact x_iret C E dX8_alter_44
    · replace hF := ifn hc hF
      refine x_iload_n C dX8_alter_30 2 rfl ?_
      refine x_iconst (v := 1) C dX8_alter_31 (by decide) ?_
      refine x_icmp_lt (tgt := 42) C dX8_alter_32 (by decide) (fun hc => ?_) (fun hc => ?_)
      · replace hF := ifp hc hF
        refine x_bipush (v := (-2)) C dX8_alter_42 (by decide) ?_
        cases hF
        exact x_iret C E dX8_alter_44
      · replace hF := ifn hc hF
        refine x_iload_n C dX8_alter_35 2 rfl ?_
        refine x_sipush (v := 255) C dX8_alter_36 (by decide) ?_
        refine x_icmp_le (tgt := 45) C dX8_alter_39 (by decide) (fun hc => ?_) (fun hc => ?_)
        · replace hF := ifp hc hF
          refine x_aload_n C dX8_alter_45 0 rfl ?_
          refine gf_X8_44 C 0 rfl rfl dX8_alter_46 ?_
          obtain ⟨o9, h10, hF⟩ := bd_s hF
          refine x_callVr (st := []) C (c_X1_bits h10) xm_X1_bits ml_X8_174 10 rfl rfl rfl rfl rfl rfl dX8_alter_49 ⟨rfl, rfl⟩ ?_
          refine x_iload_n C dX8_alter_52 1 rfl ?_
          refine x_iload_n C dX8_alter_53 2 rfl ?_
          obtain ⟨o11, h12, hF⟩ := bd_s hF
          refine x_callVi (st := []) C (c_X0_turn h12) xm_X0_turn ml_X8_199 14 rfl rfl rfl rfl rfl rfl dX8_alter_54 ⟨rfl, rfl⟩ ?_
          cases hF
          exact x_iret C E dX8_alter_57
        · replace hF := ifn hc hF
          refine x_bipush (v := (-2)) C dX8_alter_42 (by decide) ?_
          cases hF
          exact x_iret C E dX8_alter_44
  · replace hF := ifp hc hF
    refine x_bipush (v := (-3)) C dX8_alter_10 (by decide) ?_
    cases hF
    exact x_iret C E dX8_alter_12
set_option maxHeartbeats 4000000 in
set_option maxRecDepth 100000 in
theorem c_X0_bitOf_15 {κ : xb_k} {q : Nat → Nat} {nn : Nat} {xro : (Nat → Int64)} {xrn : (Nat → Int64)} {xfo : (Nat → Int32)} {xva : (Nat → Int32)} {xts : Int32} {xus : (Nat → Int32)} {xnu : (Nat → Int32)} {xth : Int32} {xsp : Int32} {xpr : (Nat → Int64)} {xpn : (Nat → Int64)} {xbs : Int32} {xwr : (Nat → Int32)} {xno : (Nat → Int32)} {xki : (Nat → Int32)} {xdi : (Nat → Int32)} {xde : (Nat → Int32)} {xst : (Nat → Int32)} {xta : (Nat → Int32)} {xcb : Int32} {xcd : Int32} {xbe : (Nat → Int32)} {xli : (Nat → Int32)} {xke : (Nat → Int32)} {xne : (Nat → Int64)} {x1 : Int32}  {o : Int32} (hF : F_X0_bitOf nn x1 xwr = some o) : Met κ.1 yX0_bitOf [Cond.code yX0_bitOf cX0_bitOf 2 (some .int)] { frames := 1, cells := 0, slots := 0, locals := 21 } (xb_P κ [.ref (q 15), .int x1] (xw κ q nn xro xrn xfo xva xts xus xnu xth xsp xpr xpn xbs xwr xno xki xdi xde xst xta xcb xcd xbe xli xke xne)) (xb_Qi κ o (xw κ q nn xro xrn xfo xva xts xus xnu xth xsp xpr xpn xbs xwr xno xki xdi xde xst xta xcb xcd xbe xli xke xne)) 0 0 κ.2.2.1 := by
  refine x_enter (own := RX0) (lv0 := [(0, .ref (q 15)), (1, .int x1)]) (by decide) rfl rfl rfl (fun Γ C E => ?_)
  unfold F_X0_bitOf at hF
  refine x_aload_n C dX0_bitOf_0 0 rfl ?_
  refine x_iload_n C dX0_bitOf_1 1 rfl ?_
  refine x_iconst (v := 3) C dX0_bitOf_2 (by decide) ?_
  refine x_ishr C dX0_bitOf_3 ?_
  obtain ⟨b1, hF⟩ := ck_s hF
  replace b1 := Nat.le_of_ble_eq_true b1
  refine x_callNi (st := []) C (c_element κ 15 rfl (by omega)) xm_X8_element mn_X0_72 rfl rfl rfl rfl dX0_bitOf_4 ⟨rfl, rfl⟩ ?_
  refine x_bipush (v := 7) C dX0_bitOf_7 (by decide) ?_
  refine x_iload_n C dX0_bitOf_9 1 rfl ?_
  refine x_bipush (v := 7) C dX0_bitOf_10 (by decide) ?_
  refine x_iand C dX0_bitOf_12 ?_
  refine x_isub C dX0_bitOf_13 ?_
  refine x_ishr C dX0_bitOf_14 ?_
  refine x_iconst (v := 1) C dX0_bitOf_15 (by decide) ?_
  refine x_iand C dX0_bitOf_16 ?_
  cases hF
  exact x_iret C E dX0_bitOf_17
set_option maxHeartbeats 4000000 in
set_option maxRecDepth 100000 in
theorem w_X0_firstTurned_L2 {κ : xb_k} {Γ : xb_X} {q : Nat → Nat} {nn : Nat} {xro : (Nat → Int64)} {xrn : (Nat → Int64)} {xfo : (Nat → Int32)} {xva : (Nat → Int32)} {xts : Int32} {xus : (Nat → Int32)} {xnu : (Nat → Int32)} {xth : Int32} {xsp : Int32} {xpr : (Nat → Int64)} {xpn : (Nat → Int64)} {xbs : Int32} {xwr : (Nat → Int32)} {xno : (Nat → Int32)} {xki : (Nat → Int32)} {xdi : (Nat → Int32)} {xde : (Nat → Int32)} {xst : (Nat → Int32)} {xta : (Nat → Int32)} {xcb : Int32} {xcd : Int32} {xbe : (Nat → Int32)} {xli : (Nat → Int32)} {xke : (Nat → Int32)} {xne : (Nat → Int64)}   (C : xb_C κ Γ 2 cX0_firstTurned RX0 { frames := 2, cells := 0, slots := 0, locals := 42 }) : ∀ (n : Nat) (x1 : Int32) (o : Int32), F_X0_firstTurned_L2 nn xbs xwr xno n x1 = some o → xb_E κ Γ (xb_Qi κ o (xw κ q nn xro xrn xfo xva xts xus xnu xth xsp xpr xpn xbs xwr xno xki xdi xde xst xta xcb xcd xbe xli xke xne)) 0 0 (some .int) → xb_W κ Γ 2 0 0 2 [(0, .ref (q 14)), (1, .int x1)] [] (xw κ q nn xro xrn xfo xva xts xus xnu xth xsp xpr xpn xbs xwr xno xki xdi xde xst xta xcb xcd xbe xli xke xne) := by
  intro n
  induction n with
  | zero =>
    intro x1 o hF E
    rw [F_X0_firstTurned_L2] at hF
    cases hF
  | succ n ih =>
    intro x1 o hF E
    rw [F_X0_firstTurned_L2] at hF
    refine x_iload_n C dX0_firstTurned_2 1 rfl ?_
    refine x_bipush (v := 8) C dX0_firstTurned_3 (by decide) ?_
    refine x_aload_n C dX0_firstTurned_5 0 rfl ?_
    obtain ⟨o1, h2, hF⟩ := bd_s hF
    refine x_callVi (st := [.int (8 : Int32), .int x1]) C (c_X0_byteCount h2) xm_X0_byteCount ml_X0_67 14 rfl rfl rfl rfl rfl rfl dX0_firstTurned_6 ⟨rfl, rfl⟩ ?_
    refine x_imul C dX0_firstTurned_9 ?_
    refine x_icmp_ge (tgt := 40) C dX0_firstTurned_10 (by decide) (fun hc => ?_) (fun hc => ?_)
    · replace hF := ifp hc hF
      refine x_iconst (v := (-1)) C dX0_firstTurned_40 (by decide) ?_
      cases hF
      exact x_iret C E dX0_firstTurned_41
    · replace hF := ifn hc hF
      refine x_aload_n C dX0_firstTurned_13 0 rfl ?_
      refine gf_X0_21 C 14 rfl rfl dX0_firstTurned_14 ?_
      refine x_iload_n C dX0_firstTurned_17 1 rfl ?_
      obtain ⟨o3, h4, hF⟩ := bd_s hF
      refine x_callSi (st := []) C (c_X0_bitOf_15 h4) xm_X0_bitOf ml_X0_63 rfl rfl rfl rfl dX0_firstTurned_18 ⟨rfl, rfl⟩ ?_
      refine x_aload_n C dX0_firstTurned_21 0 rfl ?_
      refine gf_X0_25 C 14 rfl rfl dX0_firstTurned_22 ?_
      refine x_iload_n C dX0_firstTurned_25 1 rfl ?_
      obtain ⟨o5, h6, hF⟩ := bd_s hF
      refine x_callSi (st := [.int o3]) C (c_X0_bitOf h6) xm_X0_bitOf ml_X0_63 rfl rfl rfl rfl dX0_firstTurned_26 ⟨rfl, rfl⟩ ?_
      refine x_icmp_eq (tgt := 34) C dX0_firstTurned_29 (by decide) (fun hc => ?_) (fun hc => ?_)
      · replace hF := ifp hc hF
        refine x_iinc (v := x1 + 1) (lv2 := [(1, .int (x1 + 1)), (0, .ref (q 14))]) C dX0_firstTurned_34 1 rfl rfl (by decide) rfl ?_
        refine x_goto (tgt := 2) C dX0_firstTurned_37 (by decide) ?_
        exact x_sub [1, 0] rfl (ih _ _ hF E)
      · replace hF := ifn hc hF
        refine x_iload_n C dX0_firstTurned_32 1 rfl ?_
        cases hF
        exact x_iret C E dX0_firstTurned_33
set_option maxHeartbeats 4000000 in
set_option maxRecDepth 100000 in
theorem c_X0_firstTurned {κ : xb_k} {q : Nat → Nat} {nn : Nat} {xro : (Nat → Int64)} {xrn : (Nat → Int64)} {xfo : (Nat → Int32)} {xva : (Nat → Int32)} {xts : Int32} {xus : (Nat → Int32)} {xnu : (Nat → Int32)} {xth : Int32} {xsp : Int32} {xpr : (Nat → Int64)} {xpn : (Nat → Int64)} {xbs : Int32} {xwr : (Nat → Int32)} {xno : (Nat → Int32)} {xki : (Nat → Int32)} {xdi : (Nat → Int32)} {xde : (Nat → Int32)} {xst : (Nat → Int32)} {xta : (Nat → Int32)} {xcb : Int32} {xcd : Int32} {xbe : (Nat → Int32)} {xli : (Nat → Int32)} {xke : (Nat → Int32)} {xne : (Nat → Int64)}  {fu : Nat} {o : Int32} (hF : F_X0_firstTurned fu nn xbs xwr xno = some o) : Met κ.1 yX0_firstTurned [Cond.code yX0_firstTurned cX0_firstTurned 2 (some .int)] { frames := 2, cells := 0, slots := 0, locals := 42 } (xb_P κ [.ref (q 14)] (xw κ q nn xro xrn xfo xva xts xus xnu xth xsp xpr xpn xbs xwr xno xki xdi xde xst xta xcb xcd xbe xli xke xne)) (xb_Qi κ o (xw κ q nn xro xrn xfo xva xts xus xnu xth xsp xpr xpn xbs xwr xno xki xdi xde xst xta xcb xcd xbe xli xke xne)) 0 0 κ.2.2.1 := by
  refine x_enter (own := RX0) (lv0 := [(0, .ref (q 14))]) (by decide) rfl rfl rfl (fun Γ C E => ?_)
  unfold F_X0_firstTurned at hF
  refine x_iconst (v := 0) C dX0_firstTurned_0 (by decide) ?_
  refine x_istore_n (lv2 := [(1, .int (0 : Int32)), (0, .ref (q 14))]) C dX0_firstTurned_1 rfl (by decide) rfl ?_
  exact x_sub [1, 0] rfl (w_X0_firstTurned_L2 C fu _ _ hF E)
set_option maxHeartbeats 4000000 in
set_option maxRecDepth 100000 in
theorem w_X1_firstSpoiled_L17 {κ : xb_k} {Γ : xb_X} {q : Nat → Nat} {nn : Nat} {xro : (Nat → Int64)} {xrn : (Nat → Int64)} {xfo : (Nat → Int32)} {xva : (Nat → Int32)} {xts : Int32} {xus : (Nat → Int32)} {xnu : (Nat → Int32)} {xth : Int32} {xsp : Int32} {xpr : (Nat → Int64)} {xpn : (Nat → Int64)} {xbs : Int32} {xwr : (Nat → Int32)} {xno : (Nat → Int32)} {xki : (Nat → Int32)} {xdi : (Nat → Int32)} {xde : (Nat → Int32)} {xst : (Nat → Int32)} {xta : (Nat → Int32)} {xcb : Int32} {xcd : Int32} {xbe : (Nat → Int32)} {xli : (Nat → Int32)} {xke : (Nat → Int32)} {xne : (Nat → Int64)} {x1 : Int32}  (C : xb_C κ Γ 3 cX1_firstSpoiled RX1 { frames := 3, cells := 0, slots := 0, locals := 63 }) : ∀ (n : Nat) (x2 : Int32) (o : Int32), F_X1_firstSpoiled_L17 nn x1 xst n x2 = some o → xb_E κ Γ (xb_Qi κ o (xw κ q nn xro xrn xfo xva xts xus xnu xth xsp xpr xpn xbs xwr xno xki xdi xde xst xta xcb xcd xbe xli xke xne)) 0 0 (some .int) → xb_W κ Γ 3 0 0 17 [(0, .ref (q 10)), (1, .int x1), (2, .int x2)] [] (xw κ q nn xro xrn xfo xva xts xus xnu xth xsp xpr xpn xbs xwr xno xki xdi xde xst xta xcb xcd xbe xli xke xne) := by
  intro n
  induction n with
  | zero =>
    intro x2 o hF E
    rw [F_X1_firstSpoiled_L17] at hF
    cases hF
  | succ n ih =>
    intro x2 o hF E
    rw [F_X1_firstSpoiled_L17] at hF
    refine x_iload_n C dX1_firstSpoiled_17 2 rfl ?_
    refine x_aload_n C dX1_firstSpoiled_18 0 rfl ?_
    refine gf_X1_39 C 10 rfl rfl dX1_firstSpoiled_19 ?_
    refine x_alen (v := nI nn) C 17 0 rfl rfl rfl dX1_firstSpoiled_22 ?_
    refine x_icmp_ge (tgt := 45) C dX1_firstSpoiled_23 (by decide) (fun hc => ?_) (fun hc => ?_)
    · replace hF := ifp hc hF
      refine x_aload_n C dX1_firstSpoiled_45 0 rfl ?_
      refine gf_X1_39 C 10 rfl rfl dX1_firstSpoiled_46 ?_
      refine x_alen (v := nI nn) C 17 0 rfl rfl rfl dX1_firstSpoiled_49 ?_
      cases hF
      exact x_iret C E dX1_firstSpoiled_50
    · replace hF := ifn hc hF
      refine x_iload_n C dX1_firstSpoiled_26 1 rfl ?_
      refine x_aload_n C dX1_firstSpoiled_27 0 rfl ?_
      refine x_iload_n C dX1_firstSpoiled_28 2 rfl ?_
      refine x_iconst (v := 1) C dX1_firstSpoiled_29 (by decide) ?_
      refine x_iadd C dX1_firstSpoiled_30 ?_
      obtain ⟨o3, h4, hF⟩ := bd_s hF
      refine x_callVi (st := [.int x1]) C (c_X1_startOf h4) xm_X1_startOf ml_X1_122 10 rfl rfl rfl rfl rfl rfl dX1_firstSpoiled_31 ⟨rfl, rfl⟩ ?_
      refine x_icmp_ge (tgt := 39) C dX1_firstSpoiled_34 (by decide) (fun hc => ?_) (fun hc => ?_)
      · replace hF := ifp hc hF
        refine x_iinc (v := x2 + 1) (lv2 := [(2, .int (x2 + 1)), (0, .ref (q 10)), (1, .int x1)]) C dX1_firstSpoiled_39 2 rfl rfl (by decide) rfl ?_
        refine x_goto (tgt := 17) C dX1_firstSpoiled_42 (by decide) ?_
        exact x_sub [1, 2, 0] rfl (ih _ _ hF E)
      · replace hF := ifn hc hF
        refine x_iload_n C dX1_firstSpoiled_37 2 rfl ?_
        cases hF
        exact x_iret C E dX1_firstSpoiled_38
set_option maxHeartbeats 4000000 in
set_option maxRecDepth 100000 in
theorem c_X1_firstSpoiled {κ : xb_k} {q : Nat → Nat} {nn : Nat} {xro : (Nat → Int64)} {xrn : (Nat → Int64)} {xfo : (Nat → Int32)} {xva : (Nat → Int32)} {xts : Int32} {xus : (Nat → Int32)} {xnu : (Nat → Int32)} {xth : Int32} {xsp : Int32} {xpr : (Nat → Int64)} {xpn : (Nat → Int64)} {xbs : Int32} {xwr : (Nat → Int32)} {xno : (Nat → Int32)} {xki : (Nat → Int32)} {xdi : (Nat → Int32)} {xde : (Nat → Int32)} {xst : (Nat → Int32)} {xta : (Nat → Int32)} {xcb : Int32} {xcd : Int32} {xbe : (Nat → Int32)} {xli : (Nat → Int32)} {xke : (Nat → Int32)} {xne : (Nat → Int64)}  {fu : Nat} {o : Int32} (hF : F_X1_firstSpoiled fu nn xbs xwr xno xst = some o) : Met κ.1 yX1_firstSpoiled [Cond.code yX1_firstSpoiled cX1_firstSpoiled 3 (some .int)] { frames := 3, cells := 0, slots := 0, locals := 63 } (xb_P κ [.ref (q 10)] (xw κ q nn xro xrn xfo xva xts xus xnu xth xsp xpr xpn xbs xwr xno xki xdi xde xst xta xcb xcd xbe xli xke xne)) (xb_Qi κ o (xw κ q nn xro xrn xfo xva xts xus xnu xth xsp xpr xpn xbs xwr xno xki xdi xde xst xta xcb xcd xbe xli xke xne)) 0 0 κ.2.2.1 := by
  refine x_enter (own := RX1) (lv0 := [(0, .ref (q 10))]) (by decide) rfl rfl rfl (fun Γ C E => ?_)
  unfold F_X1_firstSpoiled at hF
  refine x_aload_n C dX1_firstSpoiled_0 0 rfl ?_
  refine gf_X1_35 C 10 rfl rfl dX1_firstSpoiled_1 ?_
  obtain ⟨o1, h2, hF⟩ := bd_s hF
  refine x_callVi (st := []) C (c_X0_firstTurned h2) xm_X0_firstTurned ml_X1_132 14 rfl rfl rfl rfl rfl rfl dX1_firstSpoiled_4 ⟨rfl, rfl⟩ ?_
  refine x_istore_n (lv2 := [(1, .int o1), (0, .ref (q 10))]) C dX1_firstSpoiled_7 rfl (by decide) rfl ?_
  refine x_iload_n C dX1_firstSpoiled_8 0 rfl ?_
  refine x_iconst (v := (-1)) C dX1_firstSpoiled_9 (by decide) ?_
  refine x_icmp_ne (tgt := 15) C dX1_firstSpoiled_10 (by decide) (fun hc => ?_) (fun hc => ?_)
  · replace hF := ifn hc hF
    refine x_iconst (v := 0) C dX1_firstSpoiled_15 (by decide) ?_
    refine x_istore_n (lv2 := [(2, .int (0 : Int32)), (1, .int o1), (0, .ref (q 10))]) C dX1_firstSpoiled_16 rfl (by decide) rfl ?_
    exact x_sub [2, 1, 0] rfl (w_X1_firstSpoiled_L17 C fu _ _ hF E)
  · replace hF := ifp hc hF
    refine x_iconst (v := (-1)) C dX1_firstSpoiled_13 (by decide) ?_
    cases hF
    exact x_iret C E dX1_firstSpoiled_14
set_option maxHeartbeats 4000000 in
set_option maxRecDepth 100000 in
theorem c_X8_judge {κ : xb_k} {q : Nat → Nat} {nn : Nat} {xro : (Nat → Int64)} {xrn : (Nat → Int64)} {xfo : (Nat → Int32)} {xva : (Nat → Int32)} {xts : Int32} {xus : (Nat → Int32)} {xnu : (Nat → Int32)} {xth : Int32} {xsp : Int32} {xpr : (Nat → Int64)} {xpn : (Nat → Int64)} {xbs : Int32} {xwr : (Nat → Int32)} {xno : (Nat → Int32)} {xki : (Nat → Int32)} {xdi : (Nat → Int32)} {xde : (Nat → Int32)} {xst : (Nat → Int32)} {xta : (Nat → Int32)} {xcb : Int32} {xcd : Int32} {xbe : (Nat → Int32)} {xli : (Nat → Int32)} {xke : (Nat → Int32)} {xne : (Nat → Int64)}  {fu : Nat} {o : Int32} (hF : F_X8_judge fu nn xth xbs xwr xno xst = some o) : Met κ.1 yX8_judge [Cond.code yX8_judge cX8_judge 1 (some .int)] { frames := 4, cells := 0, slots := 0, locals := 85 } (xb_P κ [.ref (q 0)] (xw κ q nn xro xrn xfo xva xts xus xnu xth xsp xpr xpn xbs xwr xno xki xdi xde xst xta xcb xcd xbe xli xke xne)) (xb_Qi κ o (xw κ q nn xro xrn xfo xva xts xus xnu xth xsp xpr xpn xbs xwr xno xki xdi xde xst xta xcb xcd xbe xli xke xne)) 0 0 κ.2.2.1 := by
  refine x_enter (own := RX8) (lv0 := [(0, .ref (q 0))]) (by decide) rfl rfl rfl (fun Γ C E => ?_)
  unfold F_X8_judge at hF
  refine x_aload_n C dX8_judge_0 0 rfl ?_
  refine gf_X8_44 C 0 rfl rfl dX8_judge_1 ?_
  obtain ⟨o1, h2, hF⟩ := bd_s hF
  refine x_callVi (st := []) C (c_X1_isThere h2) xm_X1_isThere ml_X8_141 10 rfl rfl rfl rfl rfl rfl dX8_judge_4 ⟨rfl, rfl⟩ ?_
  refine x_if_eq (tgt := 20) C dX8_judge_7 (by decide) (fun hc => ?_) (fun hc => ?_)
  · replace hF := ifp hc hF
    refine x_bipush (v := (-3)) C dX8_judge_20 (by decide) ?_
    cases hF
    exact x_iret C E dX8_judge_22
  · replace hF := ifn hc hF
    refine x_aload_n C dX8_judge_10 0 rfl ?_
    refine gf_X8_44 C 0 rfl rfl dX8_judge_11 ?_
    obtain ⟨o3, h4, hF⟩ := bd_s hF
    refine x_callVi (st := []) C (c_X1_firstSpoiled h4) xm_X1_firstSpoiled ml_X8_202 10 rfl rfl rfl rfl rfl rfl dX8_judge_14 ⟨rfl, rfl⟩ ?_
    refine x_goto (tgt := 22) C dX8_judge_17 (by decide) ?_
    cases hF
    exact x_iret C E dX8_judge_22
set_option maxHeartbeats 4000000 in
set_option maxRecDepth 100000 in
theorem w_X3_leastKey_L6 {κ : xb_k} {Γ : xb_X} {ws : va_W}  {x0 : Int64}  (C : xb_C κ Γ 4 cX3_leastKey RX3 { frames := 1, cells := 0, slots := 0, locals := 22 }) : ∀ (n : Nat) (x2 : Int32) (x3 : Int32) (o : Int32), F_X3_leastKey_L6 x0 n x2 x3 = some o → xb_W κ Γ 4 0 0 41 [(2, .int o)] [] ws → xb_W κ Γ 4 0 0 6 [(0, .long x0), (2, .int x2), (3, .int x3)] [] ws := by
  intro n
  induction n with
  | zero =>
    intro x2 x3 o hF K
    rw [F_X3_leastKey_L6] at hF
    cases hF
  | succ n ih =>
    intro x2 x3 o hF K
    rw [F_X3_leastKey_L6] at hF
    refine x_iload_n C dX3_leastKey_6 2 rfl ?_
    refine x_bipush (v := 48) C dX3_leastKey_7 (by decide) ?_
    refine x_icmp_ge (tgt := 41) C dX3_leastKey_9 (by decide) (fun hc => ?_) (fun hc => ?_)
    · replace hF := ifp hc hF
      cases hF
      exact x_sub [1] rfl K
    · replace hF := ifn hc hF
      refine x_lload_n C dX3_leastKey_12 0 rfl ?_
      refine x_iload_n C dX3_leastKey_13 2 rfl ?_
      obtain ⟨o1, h2, hF⟩ := bd_s hF
      refine x_callNi (st := []) C (c_X8_isIn h2) xm_X8_isIn mn_X3_44 rfl rfl rfl rfl dX3_leastKey_14 ⟨rfl, rfl⟩ ?_
      refine x_if_eq (tgt := 35) C dX3_leastKey_17 (by decide) (fun hc => ?_) (fun hc => ?_)
      · replace hF := ifp hc hF
        refine x_iinc (v := x3 + 1) (lv2 := [(3, .int (x3 + 1)), (0, .long x0), (2, .int x2)]) C dX3_leastKey_35 2 rfl rfl (by decide) rfl ?_
        refine x_goto (tgt := 6) C dX3_leastKey_38 (by decide) ?_
        exact x_sub [1, 2, 0] rfl (ih _ _ _ hF K)
      · replace hF := ifn hc hF
        refine x_iload_n C dX3_leastKey_20 1 rfl ?_
        refine x_iload_n C dX3_leastKey_21 2 rfl ?_
        refine x_ldc C dX3_leastKey_22 kk_X3_48 ?_
        refine x_imul C dX3_leastKey_24 ?_
        refine x_ldc C dX3_leastKey_25 kk_X3_49 ?_
        refine x_iand C dX3_leastKey_27 ?_
        refine x_bipush (v := 6) C dX3_leastKey_28 (by decide) ?_
        refine x_ishr C dX3_leastKey_30 ?_
        obtain ⟨o3, h4, hF⟩ := bd_s hF
        refine x_callSi (st := []) C (c_J9_min_7cf53 h4) xm_J9_min_7cf53 ml_X3_50 rfl rfl rfl rfl dX3_leastKey_31 ⟨rfl, rfl⟩ ?_
        refine x_istore_n (lv2 := [(2, .int o3), (0, .long x0), (3, .int x3)]) C dX3_leastKey_34 rfl (by decide) rfl ?_
        refine x_iinc (v := x3 + 1) (lv2 := [(3, .int (x3 + 1)), (2, .int o3), (0, .long x0)]) C dX3_leastKey_35 2 rfl rfl (by decide) rfl ?_
        refine x_goto (tgt := 6) C dX3_leastKey_38 (by decide) ?_
        exact x_sub [2, 1, 0] rfl (ih _ _ _ hF K)
set_option maxHeartbeats 4000000 in
set_option maxRecDepth 100000 in
theorem c_X3_leastKey {κ : xb_k} {ws : va_W}  {x0 : Int64} {fu : Nat} {o : Int32} (hF : F_X3_leastKey fu x0 = some o) : Met κ.1 yX3_leastKey [Cond.code yX3_leastKey cX3_leastKey 4 (some .int)] { frames := 1, cells := 0, slots := 0, locals := 22 } (xb_P κ [.long x0] ws) (xb_Qi κ o ws) 0 0 κ.2.2.1 := by
  refine x_enter (own := RX3) (lv0 := [(0, .long x0)]) (by decide) rfl rfl rfl (fun Γ C E => ?_)
  unfold F_X3_leastKey at hF
  refine x_sipush (v := 1024) C dX3_leastKey_0 (by decide) ?_
  refine x_istore_n (lv2 := [(2, .int (1024 : Int32)), (0, .long x0)]) C dX3_leastKey_3 rfl (by decide) rfl ?_
  refine x_iconst (v := 0) C dX3_leastKey_4 (by decide) ?_
  refine x_istore_n (lv2 := [(3, .int (0 : Int32)), (2, .int (1024 : Int32)), (0, .long x0)]) C dX3_leastKey_5 rfl (by decide) rfl ?_
  obtain ⟨o5, h6, hF⟩ := bd_s hF
  refine x_sub [2, 1, 0] rfl (w_X3_leastKey_L6 C fu _ _ _ h6 ?_)
  refine x_iload_n C dX3_leastKey_41 0 rfl ?_
  cases hF
  exact x_iret C E dX3_leastKey_42
set_option maxHeartbeats 4000000 in
set_option maxRecDepth 100000 in
theorem w_X3_layByKeys_L13 {κ : xb_k} {Γ : xb_X} {q : Nat → Nat} {nn : Nat} {xro : (Nat → Int64)} {xrn : (Nat → Int64)} {xfo : (Nat → Int32)} {xva : (Nat → Int32)} {xts : Int32} {xus : (Nat → Int32)} {xnu : (Nat → Int32)} {xth : Int32} {xsp : Int32} {xpr : (Nat → Int64)} {xpn : (Nat → Int64)} {xbs : Int32} {xwr : (Nat → Int32)} {xno : (Nat → Int32)} {xki : (Nat → Int32)} {xdi : (Nat → Int32)} {xde : (Nat → Int32)} {xst : (Nat → Int32)} {xta : (Nat → Int32)} {xcb : Int32} {xcd : Int32} {xbe : (Nat → Int32)} {xke : (Nat → Int32)} {xne : (Nat → Int64)} {x1 : Int32}  (C : xb_C κ Γ 3 cX3_layByKeys RX3 { frames := 1, cells := 0, slots := 0, locals := 21 }) : ∀ (n : Nat) (x2 : Int32) (xli : (Nat → Int32)) (o : Int32 × (Nat → Int32)), F_X3_layByKeys_L13 nn x1 xke n x2 xli = some o → xb_W κ Γ 3 0 0 72 [(0, .ref (q 24)), (1, .int x1), (2, .int o.1)] [] (xw κ q nn xro xrn xfo xva xts xus xnu xth xsp xpr xpn xbs xwr xno xki xdi xde xst xta xcb xcd xbe o.2 xke xne) → xb_W κ Γ 3 0 0 13 [(0, .ref (q 24)), (1, .int x1), (2, .int x2)] [] (xw κ q nn xro xrn xfo xva xts xus xnu xth xsp xpr xpn xbs xwr xno xki xdi xde xst xta xcb xcd xbe xli xke xne) := by
  intro n
  induction n with
  | zero =>
    intro x2 xli o hF K
    rw [F_X3_layByKeys_L13] at hF
    cases hF
  | succ n ih =>
    intro x2 xli o hF K
    rw [F_X3_layByKeys_L13] at hF
    refine x_iload_n C dX3_layByKeys_13 2 rfl ?_
    refine x_if_le (tgt := 72) C dX3_layByKeys_14 (by decide) (fun hc => ?_) (fun hc => ?_)
    · replace hF := ifp hc hF
      cases hF
      exact x_sub [0, 1, 2] rfl K
    · replace hF := ifn hc hF
      refine x_iload_n C dX3_layByKeys_17 2 rfl ?_
      refine x_aload_n C dX3_layByKeys_18 0 rfl ?_
      refine gf_X3_9 C 24 rfl rfl dX3_layByKeys_19 ?_
      refine x_alen (v := nI nn) C 25 0 rfl rfl rfl dX3_layByKeys_22 ?_
      refine x_icmp_ge (tgt := 72) C dX3_layByKeys_23 (by decide) (fun hc => ?_) (fun hc => ?_)
      · replace hF := ifp hc hF
        cases hF
        exact x_sub [0, 1, 2] rfl K
      · replace hF := ifn hc hF
        refine x_aload_n C dX3_layByKeys_26 0 rfl ?_
        refine gf_X3_15 C 24 rfl rfl dX3_layByKeys_27 ?_
        refine x_aload_n C dX3_layByKeys_30 0 rfl ?_
        refine gf_X3_9 C 24 rfl rfl dX3_layByKeys_31 ?_
        refine x_iload_n C dX3_layByKeys_34 2 rfl ?_
        refine x_iconst (v := 1) C dX3_layByKeys_35 (by decide) ?_
        refine x_isub C dX3_layByKeys_36 ?_
        obtain ⟨b1, hF⟩ := ck_s hF
        refine x_iald C 25 rfl b1 dX3_layByKeys_37 ?_
        obtain ⟨b2, hF⟩ := ck_s hF
        replace b2 := Nat.le_of_ble_eq_true b2
        refine x_callNi (st := []) C (c_element κ 26 rfl (by omega)) xm_X8_element mn_X3_18 rfl rfl rfl rfl dX3_layByKeys_38 ⟨rfl, rfl⟩ ?_
        refine x_aload_n C dX3_layByKeys_41 0 rfl ?_
        refine gf_X3_15 C 24 rfl rfl dX3_layByKeys_42 ?_
        refine x_iload_n C dX3_layByKeys_45 1 rfl ?_
        obtain ⟨b3, hF⟩ := ck_s hF
        replace b3 := Nat.le_of_ble_eq_true b3
        refine x_callNi (st := [.int (el nn xke (xli (x2 - (1 : Int32)).toNatClampNeg))]) C (c_element κ 26 rfl (by omega)) xm_X8_element mn_X3_18 rfl rfl rfl rfl dX3_layByKeys_46 ⟨rfl, rfl⟩ ?_
        refine x_icmp_le (tgt := 72) C dX3_layByKeys_49 (by decide) (fun hc => ?_) (fun hc => ?_)
        · replace hF := ifp hc hF
          cases hF
          exact x_sub [0, 1, 2] rfl K
        · replace hF := ifn hc hF
          refine x_aload_n C dX3_layByKeys_52 0 rfl ?_
          refine gf_X3_9 C 24 rfl rfl dX3_layByKeys_53 ?_
          refine x_iload_n C dX3_layByKeys_56 2 rfl ?_
          refine x_aload_n C dX3_layByKeys_57 0 rfl ?_
          refine gf_X3_9 C 24 rfl rfl dX3_layByKeys_58 ?_
          refine x_iload_n C dX3_layByKeys_61 2 rfl ?_
          refine x_iconst (v := 1) C dX3_layByKeys_62 (by decide) ?_
          refine x_isub C dX3_layByKeys_63 ?_
          obtain ⟨b4, hF⟩ := ck_s hF
          refine x_iald C 25 rfl b4 dX3_layByKeys_64 ?_
          obtain ⟨b5, hF⟩ := ck_s hF
          refine x_iast (ws2 := (xw κ q nn xro xrn xfo xva xts xus xnu xth xsp xpr xpn xbs xwr xno xki xdi xde xst xta xcb xcd xbe (upd xli x2.toNatClampNeg (xli (x2 - (1 : Int32)).toNatClampNeg)) xke xne)) C 25 rfl b5 dX3_layByKeys_65 rfl ?_
          refine x_iinc (v := x2 + (-1)) (lv2 := [(2, .int (x2 + (-1))), (0, .ref (q 24)), (1, .int x1)]) C dX3_layByKeys_66 2 rfl rfl (by decide) rfl ?_
          refine x_goto (tgt := 13) C dX3_layByKeys_69 (by decide) ?_
          exact x_sub [1, 2, 0] rfl (ih _ _ _ hF K)
set_option maxHeartbeats 4000000 in
set_option maxRecDepth 100000 in
theorem w_X3_layByKeys_L2 {κ : xb_k} {Γ : xb_X} {q : Nat → Nat} {nn : Nat} {xro : (Nat → Int64)} {xrn : (Nat → Int64)} {xfo : (Nat → Int32)} {xva : (Nat → Int32)} {xts : Int32} {xus : (Nat → Int32)} {xnu : (Nat → Int32)} {xth : Int32} {xsp : Int32} {xpr : (Nat → Int64)} {xpn : (Nat → Int64)} {xbs : Int32} {xwr : (Nat → Int32)} {xno : (Nat → Int32)} {xki : (Nat → Int32)} {xdi : (Nat → Int32)} {xde : (Nat → Int32)} {xst : (Nat → Int32)} {xta : (Nat → Int32)} {xcb : Int32} {xcd : Int32} {xbe : (Nat → Int32)} {xke : (Nat → Int32)} {xne : (Nat → Int64)}  {fu : Nat} (C : xb_C κ Γ 3 cX3_layByKeys RX3 { frames := 1, cells := 0, slots := 0, locals := 21 }) : ∀ (n : Nat) (x1 : Int32) (xli : (Nat → Int32)) (o : (Nat → Int32)), F_X3_layByKeys_L2 fu nn xke n x1 xli = some o → xb_W κ Γ 3 0 0 85 [] [] (xw κ q nn xro xrn xfo xva xts xus xnu xth xsp xpr xpn xbs xwr xno xki xdi xde xst xta xcb xcd xbe o xke xne) → xb_W κ Γ 3 0 0 2 [(0, .ref (q 24)), (1, .int x1)] [] (xw κ q nn xro xrn xfo xva xts xus xnu xth xsp xpr xpn xbs xwr xno xki xdi xde xst xta xcb xcd xbe xli xke xne) := by
  intro n
  induction n with
  | zero =>
    intro x1 xli o hF K
    rw [F_X3_layByKeys_L2] at hF
    cases hF
  | succ n ih =>
    intro x1 xli o hF K
    rw [F_X3_layByKeys_L2] at hF
    refine x_iload_n C dX3_layByKeys_2 1 rfl ?_
    refine x_aload_n C dX3_layByKeys_3 0 rfl ?_
    refine gf_X3_9 C 24 rfl rfl dX3_layByKeys_4 ?_
    refine x_alen (v := nI nn) C 25 0 rfl rfl rfl dX3_layByKeys_7 ?_
    refine x_icmp_ge (tgt := 85) C dX3_layByKeys_8 (by decide) (fun hc => ?_) (fun hc => ?_)
    · replace hF := ifp hc hF
      cases hF
      exact x_sub [] rfl K
    · replace hF := ifn hc hF
      refine x_iload_n C dX3_layByKeys_11 1 rfl ?_
      refine x_istore_n (lv2 := [(2, .int x1), (0, .ref (q 24)), (1, .int x1)]) C dX3_layByKeys_12 rfl (by decide) rfl ?_
      obtain ⟨o1, h2, hF⟩ := bd_s hF
      refine x_sub [1, 2, 0] rfl (w_X3_layByKeys_L13 C fu _ _ _ h2 ?_)
      refine x_aload_n C dX3_layByKeys_72 0 rfl ?_
      refine gf_X3_9 C 24 rfl rfl dX3_layByKeys_73 ?_
      refine x_iload_n C dX3_layByKeys_76 2 rfl ?_
      refine x_iload_n C dX3_layByKeys_77 1 rfl ?_
      obtain ⟨b3, hF⟩ := ck_s hF
      refine x_iast (ws2 := (xw κ q nn xro xrn xfo xva xts xus xnu xth xsp xpr xpn xbs xwr xno xki xdi xde xst xta xcb xcd xbe (upd o1.2 o1.1.toNatClampNeg x1) xke xne)) C 25 rfl b3 dX3_layByKeys_78 rfl ?_
      refine x_iinc (v := x1 + 1) (lv2 := [(1, .int (x1 + 1)), (0, .ref (q 24)), (2, .int o1.1)]) C dX3_layByKeys_79 1 rfl rfl (by decide) rfl ?_
      refine x_goto (tgt := 2) C dX3_layByKeys_82 (by decide) ?_
      exact x_sub [1, 0] rfl (ih _ _ _ hF K)
set_option maxHeartbeats 4000000 in
set_option maxRecDepth 100000 in
theorem c_X3_layByKeys {κ : xb_k} {q : Nat → Nat} {nn : Nat} {xro : (Nat → Int64)} {xrn : (Nat → Int64)} {xfo : (Nat → Int32)} {xva : (Nat → Int32)} {xts : Int32} {xus : (Nat → Int32)} {xnu : (Nat → Int32)} {xth : Int32} {xsp : Int32} {xpr : (Nat → Int64)} {xpn : (Nat → Int64)} {xbs : Int32} {xwr : (Nat → Int32)} {xno : (Nat → Int32)} {xki : (Nat → Int32)} {xdi : (Nat → Int32)} {xde : (Nat → Int32)} {xst : (Nat → Int32)} {xta : (Nat → Int32)} {xcb : Int32} {xcd : Int32} {xbe : (Nat → Int32)} {xli : (Nat → Int32)} {xke : (Nat → Int32)} {xne : (Nat → Int64)}  {fu : Nat} {o : (Nat → Int32)} (hF : F_X3_layByKeys fu nn xli xke = some o) : Met κ.1 yX3_layByKeys [Cond.code yX3_layByKeys cX3_layByKeys 3 none] { frames := 1, cells := 0, slots := 0, locals := 21 } (xb_P κ [.ref (q 24)] (xw κ q nn xro xrn xfo xva xts xus xnu xth xsp xpr xpn xbs xwr xno xki xdi xde xst xta xcb xcd xbe xli xke xne)) (xb_Qv κ (xw κ q nn xro xrn xfo xva xts xus xnu xth xsp xpr xpn xbs xwr xno xki xdi xde xst xta xcb xcd xbe o xke xne)) 0 0 κ.2.2.1 := by
  refine x_enter (own := RX3) (lv0 := [(0, .ref (q 24))]) (by decide) rfl rfl rfl (fun Γ C E => ?_)
  unfold F_X3_layByKeys at hF
  refine x_iconst (v := 0) C dX3_layByKeys_0 (by decide) ?_
  refine x_istore_n (lv2 := [(1, .int (0 : Int32)), (0, .ref (q 24))]) C dX3_layByKeys_1 rfl (by decide) rfl ?_
  obtain ⟨o4, h5, hF⟩ := bd_s hF
  refine x_sub [1, 0] rfl (w_X3_layByKeys_L2 C fu _ _ _ h5 ?_)
  cases hF
  exact x_vret C E dX3_layByKeys_85
set_option maxHeartbeats 4000000 in
set_option maxRecDepth 100000 in
theorem w_X3_layLayers_L78 {κ : xb_k} {Γ : xb_X} {q : Nat → Nat} {nn : Nat} {xro : (Nat → Int64)} {xrn : (Nat → Int64)} {xfo : (Nat → Int32)} {xva : (Nat → Int32)} {xts : Int32} {xus : (Nat → Int32)} {xnu : (Nat → Int32)} {xth : Int32} {xsp : Int32} {xpr : (Nat → Int64)} {xpn : (Nat → Int64)} {xbs : Int32} {xwr : (Nat → Int32)} {xno : (Nat → Int32)} {xki : (Nat → Int32)} {xdi : (Nat → Int32)} {xde : (Nat → Int32)} {xst : (Nat → Int32)} {xta : (Nat → Int32)} {xcb : Int32} {xcd : Int32} {xbe : (Nat → Int32)} {xke : (Nat → Int32)} {xne : (Nat → Int64)} {x2 : Int64} {x5 : Int32} {x6 : Int64}  (C : xb_C κ Γ 9 cX3_layLayers RX3 { frames := 2, cells := 0, slots := 0, locals := 44 }) : ∀ (n : Nat) (x4 : Int32) (x8 : Int32) (xli : (Nat → Int32)) (o : Int32 × (Nat → Int32)), F_X3_layLayers_L78 nn x2 x5 x6 n x4 x8 xli = some o → xb_W κ Γ 9 0 0 123 [(0, .ref (q 24)), (1, .ref (q 1)), (2, .long x2), (4, .int o.1), (5, .int x5), (6, .long x6)] [] (xw κ q nn xro xrn xfo xva xts xus xnu xth xsp xpr xpn xbs xwr xno xki xdi xde xst xta xcb xcd xbe o.2 xke xne) → xb_W κ Γ 9 0 0 78 [(0, .ref (q 24)), (1, .ref (q 1)), (2, .long x2), (4, .int x4), (5, .int x5), (6, .long x6), (8, .int x8)] [] (xw κ q nn xro xrn xfo xva xts xus xnu xth xsp xpr xpn xbs xwr xno xki xdi xde xst xta xcb xcd xbe xli xke xne) := by
  intro n
  induction n with
  | zero =>
    intro x4 x8 xli o hF K
    rw [F_X3_layLayers_L78] at hF
    cases hF
  | succ n ih =>
    intro x4 x8 xli o hF K
    rw [F_X3_layLayers_L78] at hF
    refine x_iload C dX3_layLayers_78 6 rfl ?_
    refine x_bipush (v := 48) C dX3_layLayers_80 (by decide) ?_
    refine x_icmp_ge (tgt := 123) C dX3_layLayers_82 (by decide) (fun hc => ?_) (fun hc => ?_)
    · replace hF := ifp hc hF
      cases hF
      exact x_sub [0, 1, 2, 3, 4, 5] rfl K
    · replace hF := ifn hc hF
      refine x_iload C dX3_layLayers_85 3 rfl ?_
      refine x_aload_n C dX3_layLayers_87 0 rfl ?_
      refine gf_X3_9 C 24 rfl rfl dX3_layLayers_88 ?_
      refine x_alen (v := nI nn) C 25 0 rfl rfl rfl dX3_layLayers_91 ?_
      refine x_icmp_ge (tgt := 123) C dX3_layLayers_92 (by decide) (fun hc => ?_) (fun hc => ?_)
      · replace hF := ifp hc hF
        cases hF
        exact x_sub [0, 1, 2, 3, 4, 5] rfl K
      · replace hF := ifn hc hF
        refine x_lload C dX3_layLayers_95 5 rfl ?_
        refine x_iload C dX3_layLayers_97 6 rfl ?_
        obtain ⟨o4, h5, hF⟩ := bd_s hF
        refine x_callNi (st := []) C (c_X8_isIn h5) xm_X8_isIn mn_X3_44 rfl rfl rfl rfl dX3_layLayers_99 ⟨rfl, rfl⟩ ?_
        refine x_if_eq (tgt := 117) C dX3_layLayers_102 (by decide) (fun hc => ?_) (fun hc => ?_)
        · replace hF := ifp hc hF
          refine x_iinc (v := x8 + 1) (lv2 := [(8, .int (x8 + 1)), (0, .ref (q 24)), (1, .ref (q 1)), (2, .long x2), (4, .int x4), (5, .int x5), (6, .long x6)]) C dX3_layLayers_117 6 rfl rfl (by decide) rfl ?_
          refine x_goto (tgt := 78) C dX3_layLayers_120 (by decide) ?_
          exact x_sub [1, 2, 3, 4, 5, 6, 0] rfl (ih _ _ _ _ hF K)
        · replace hF := ifn hc hF
          refine x_aload_n C dX3_layLayers_105 0 rfl ?_
          refine gf_X3_9 C 24 rfl rfl dX3_layLayers_106 ?_
          refine x_iload C dX3_layLayers_109 3 rfl ?_
          refine x_iload C dX3_layLayers_111 6 rfl ?_
          obtain ⟨b6, hF⟩ := ck_s hF
          refine x_iast (ws2 := (xw κ q nn xro xrn xfo xva xts xus xnu xth xsp xpr xpn xbs xwr xno xki xdi xde xst xta xcb xcd xbe (upd xli x4.toNatClampNeg x8) xke xne)) C 25 rfl b6 dX3_layLayers_113 rfl ?_
          refine x_iinc (v := x4 + 1) (lv2 := [(4, .int (x4 + 1)), (0, .ref (q 24)), (1, .ref (q 1)), (2, .long x2), (5, .int x5), (6, .long x6), (8, .int x8)]) C dX3_layLayers_114 3 rfl rfl (by decide) rfl ?_
          refine x_iinc (v := x8 + 1) (lv2 := [(8, .int (x8 + 1)), (4, .int (x4 + 1)), (0, .ref (q 24)), (1, .ref (q 1)), (2, .long x2), (5, .int x5), (6, .long x6)]) C dX3_layLayers_117 6 rfl rfl (by decide) rfl ?_
          refine x_goto (tgt := 78) C dX3_layLayers_120 (by decide) ?_
          exact x_sub [2, 3, 4, 1, 5, 6, 0] rfl (ih _ _ _ _ hF K)
set_option maxHeartbeats 4000000 in
set_option maxRecDepth 100000 in
theorem w_X3_layLayers_L8 {κ : xb_k} {Γ : xb_X} {q : Nat → Nat} {nn : Nat} {xro : (Nat → Int64)} {xrn : (Nat → Int64)} {xfo : (Nat → Int32)} {xva : (Nat → Int32)} {xts : Int32} {xus : (Nat → Int32)} {xnu : (Nat → Int32)} {xth : Int32} {xsp : Int32} {xpr : (Nat → Int64)} {xpn : (Nat → Int64)} {xbs : Int32} {xwr : (Nat → Int32)} {xno : (Nat → Int32)} {xki : (Nat → Int32)} {xdi : (Nat → Int32)} {xde : (Nat → Int32)} {xst : (Nat → Int32)} {xta : (Nat → Int32)} {xcb : Int32} {xcd : Int32} {xbe : (Nat → Int32)} {xke : (Nat → Int32)} {xne : (Nat → Int64)}  {fu : Nat} (C : xb_C κ Γ 9 cX3_layLayers RX3 { frames := 2, cells := 0, slots := 0, locals := 44 }) : ∀ (n : Nat) (x2 : Int64) (x4 : Int32) (x5 : Int32) (xli : (Nat → Int32)) (o : (Nat → Int32)), F_X3_layLayers_L8 fu nn xro n x2 x4 x5 xli = some o → xb_W κ Γ 9 0 0 134 [] [] (xw κ q nn xro xrn xfo xva xts xus xnu xth xsp xpr xpn xbs xwr xno xki xdi xde xst xta xcb xcd xbe o xke xne) → xb_W κ Γ 9 0 0 8 [(0, .ref (q 24)), (1, .ref (q 1)), (2, .long x2), (4, .int x4), (5, .int x5)] [] (xw κ q nn xro xrn xfo xva xts xus xnu xth xsp xpr xpn xbs xwr xno xki xdi xde xst xta xcb xcd xbe xli xke xne) := by
  intro n
  induction n with
  | zero =>
    intro x2 x4 x5 xli o hF K
    rw [F_X3_layLayers_L8] at hF
    cases hF
  | succ n ih =>
    intro x2 x4 x5 xli o hF K
    rw [F_X3_layLayers_L8] at hF
    refine x_iload C dX3_layLayers_8 4 rfl ?_
    refine x_aload_n C dX3_layLayers_10 0 rfl ?_
    refine gf_X3_9 C 24 rfl rfl dX3_layLayers_11 ?_
    refine x_alen (v := nI nn) C 25 0 rfl rfl rfl dX3_layLayers_14 ?_
    refine x_icmp_ge (tgt := 134) C dX3_layLayers_15 (by decide) (fun hc => ?_) (fun hc => ?_)
    · replace hF := ifp hc hF
      cases hF
      exact x_sub [] rfl K
    · replace hF := ifn hc hF
      refine x_iload C dX3_layLayers_18 4 rfl ?_
      refine x_iload C dX3_layLayers_20 3 rfl ?_
      refine x_icmp_ne (tgt := 56) C dX3_layLayers_22 (by decide) (fun hc => ?_) (fun hc => ?_)
      · replace hF := ifn hc hF
        refine x_aload_n C dX3_layLayers_56 1 rfl ?_
        refine x_aload_n C dX3_layLayers_57 0 rfl ?_
        refine gf_X3_9 C 24 rfl rfl dX3_layLayers_58 ?_
        refine x_iload C dX3_layLayers_61 4 rfl ?_
        obtain ⟨b1, hF⟩ := ck_s hF
        refine x_iald C 25 rfl b1 dX3_layLayers_63 ?_
        obtain ⟨o2, h3, hF⟩ := bd_s hF
        refine x_callVl (st := []) C (c_X4_rowOf h3) xm_X4_rowOf ml_X3_26 1 rfl rfl rfl rfl rfl rfl dX3_layLayers_64 ⟨rfl, rfl⟩ ?_
        refine x_lload_n C dX3_layLayers_67 2 rfl ?_
        refine x_ldc2 C dX3_layLayers_68 kl_X3_56 ?_
        refine x_lxor C dX3_layLayers_71 ?_
        refine x_land C dX3_layLayers_72 ?_
        refine x_lstore (lv2 := [(6, .long (o2 &&& (x2 ^^^ (-1 : Int64)))), (0, .ref (q 24)), (1, .ref (q 1)), (2, .long x2), (4, .int x4), (5, .int x5)]) C dX3_layLayers_73 (by decide) rfl ?_
        refine x_iconst (v := 0) C dX3_layLayers_75 (by decide) ?_
        refine x_istore (lv2 := [(8, .int (0 : Int32)), (6, .long (o2 &&& (x2 ^^^ (-1 : Int64)))), (0, .ref (q 24)), (1, .ref (q 1)), (2, .long x2), (4, .int x4), (5, .int x5)]) C dX3_layLayers_76 (by decide) rfl ?_
        obtain ⟨o4, h5, hF⟩ := bd_s hF
        refine x_sub [2, 3, 4, 5, 6, 1, 0] rfl (w_X3_layLayers_L78 C fu _ _ _ _ h5 ?_)
        refine x_lload_n C dX3_layLayers_123 2 rfl ?_
        refine x_lload C dX3_layLayers_124 5 rfl ?_
        refine x_lor C dX3_layLayers_126 ?_
        refine x_lstore_n (lv2 := [(2, .long (x2 ||| (o2 &&& (x2 ^^^ (-1 : Int64))))), (0, .ref (q 24)), (1, .ref (q 1)), (4, .int o4.1), (5, .int x5), (6, .long (o2 &&& (x2 ^^^ (-1 : Int64))))]) C dX3_layLayers_127 rfl (by decide) rfl ?_
        refine x_iinc (v := x5 + 1) (lv2 := [(5, .int (x5 + 1)), (2, .long (x2 ||| (o2 &&& (x2 ^^^ (-1 : Int64))))), (0, .ref (q 24)), (1, .ref (q 1)), (4, .int o4.1), (6, .long (o2 &&& (x2 ^^^ (-1 : Int64))))]) C dX3_layLayers_128 4 rfl rfl (by decide) rfl ?_
        refine x_goto (tgt := 8) C dX3_layLayers_131 (by decide) ?_
        exact x_sub [2, 3, 1, 4, 0] rfl (ih _ _ _ _ _ hF K)
      · replace hF := ifp hc hF
        refine x_aload_n C dX3_layLayers_25 0 rfl ?_
        refine gf_X3_9 C 24 rfl rfl dX3_layLayers_26 ?_
        refine x_iload C dX3_layLayers_29 4 rfl ?_
        refine x_lload_n C dX3_layLayers_31 2 rfl ?_
        refine x_ldc2 C dX3_layLayers_32 kl_X3_56 ?_
        refine x_lxor C dX3_layLayers_35 ?_
        refine x_iconst (v := 0) C dX3_layLayers_36 (by decide) ?_
        obtain ⟨o6, h7, hF⟩ := bd_s hF
        refine x_callNi (st := [.int x5, .ref (q 25)]) C (c_X8_firstFrom h7) xm_X8_firstFrom mn_X3_58 rfl rfl rfl rfl dX3_layLayers_37 ⟨rfl, rfl⟩ ?_
        obtain ⟨b8, hF⟩ := ck_s hF
        refine x_iast (ws2 := (xw κ q nn xro xrn xfo xva xts xus xnu xth xsp xpr xpn xbs xwr xno xki xdi xde xst xta xcb xcd xbe (upd xli x5.toNatClampNeg o6) xke xne)) C 25 rfl b8 dX3_layLayers_40 rfl ?_
        refine x_lload_n C dX3_layLayers_41 2 rfl ?_
        refine x_lconst (v := 1) C dX3_layLayers_42 (by decide) ?_
        refine x_aload_n C dX3_layLayers_43 0 rfl ?_
        refine gf_X3_9 C 24 rfl rfl dX3_layLayers_44 ?_
        refine x_iload C dX3_layLayers_47 4 rfl ?_
        obtain ⟨b9, hF⟩ := ck_s hF
        refine x_iald C 25 rfl b9 dX3_layLayers_49 ?_
        refine x_lshl C dX3_layLayers_50 ?_
        refine x_lor C dX3_layLayers_51 ?_
        obtain ⟨v10, e11, hF⟩ := nm_s hF
        refine x_topl e11 ?_
        refine x_lstore_n (lv2 := [(2, .long v10), (0, .ref (q 24)), (1, .ref (q 1)), (4, .int x4), (5, .int x5)]) C dX3_layLayers_52 rfl (by decide) rfl ?_
        refine x_iinc (v := x4 + 1) (lv2 := [(4, .int (x4 + 1)), (2, .long v10), (0, .ref (q 24)), (1, .ref (q 1)), (5, .int x5)]) C dX3_layLayers_53 3 rfl rfl (by decide) rfl ?_
        refine x_aload_n C dX3_layLayers_56 3 rfl ?_
        refine x_aload_n C dX3_layLayers_57 2 rfl ?_
        refine gf_X3_9 C 24 rfl rfl dX3_layLayers_58 ?_
        refine x_iload C dX3_layLayers_61 4 rfl ?_
        obtain ⟨b12, hF⟩ := ck_s hF
        refine x_iald C 25 rfl b12 dX3_layLayers_63 ?_
        obtain ⟨o13, h14, hF⟩ := bd_s hF
        refine x_callVl (st := []) C (c_X4_rowOf h14) xm_X4_rowOf ml_X3_26 1 rfl rfl rfl rfl rfl rfl dX3_layLayers_64 ⟨rfl, rfl⟩ ?_
        refine x_lload_n C dX3_layLayers_67 1 rfl ?_
        refine x_ldc2 C dX3_layLayers_68 kl_X3_56 ?_
        refine x_lxor C dX3_layLayers_71 ?_
        refine x_land C dX3_layLayers_72 ?_
        refine x_lstore (lv2 := [(6, .long (o13 &&& (v10 ^^^ (-1 : Int64)))), (4, .int (x4 + 1)), (2, .long v10), (0, .ref (q 24)), (1, .ref (q 1)), (5, .int x5)]) C dX3_layLayers_73 (by decide) rfl ?_
        refine x_iconst (v := 0) C dX3_layLayers_75 (by decide) ?_
        refine x_istore (lv2 := [(8, .int (0 : Int32)), (6, .long (o13 &&& (v10 ^^^ (-1 : Int64)))), (4, .int (x4 + 1)), (2, .long v10), (0, .ref (q 24)), (1, .ref (q 1)), (5, .int x5)]) C dX3_layLayers_76 (by decide) rfl ?_
        obtain ⟨o15, h16, hF⟩ := bd_s hF
        refine x_sub [4, 5, 3, 2, 6, 1, 0] rfl (w_X3_layLayers_L78 C fu _ _ _ _ h16 ?_)
        refine x_lload_n C dX3_layLayers_123 2 rfl ?_
        refine x_lload C dX3_layLayers_124 5 rfl ?_
        refine x_lor C dX3_layLayers_126 ?_
        refine x_lstore_n (lv2 := [(2, .long (v10 ||| (o13 &&& (v10 ^^^ (-1 : Int64))))), (0, .ref (q 24)), (1, .ref (q 1)), (4, .int o15.1), (5, .int x5), (6, .long (o13 &&& (v10 ^^^ (-1 : Int64))))]) C dX3_layLayers_127 rfl (by decide) rfl ?_
        refine x_iinc (v := x5 + 1) (lv2 := [(5, .int (x5 + 1)), (2, .long (v10 ||| (o13 &&& (v10 ^^^ (-1 : Int64))))), (0, .ref (q 24)), (1, .ref (q 1)), (4, .int o15.1), (6, .long (o13 &&& (v10 ^^^ (-1 : Int64))))]) C dX3_layLayers_128 4 rfl rfl (by decide) rfl ?_
        refine x_goto (tgt := 8) C dX3_layLayers_131 (by decide) ?_
        exact x_sub [2, 3, 1, 4, 0] rfl (ih _ _ _ _ _ hF K)
set_option maxHeartbeats 4000000 in
set_option maxRecDepth 100000 in
theorem c_X3_layLayers {κ : xb_k} {q : Nat → Nat} {nn : Nat} {xro : (Nat → Int64)} {xrn : (Nat → Int64)} {xfo : (Nat → Int32)} {xva : (Nat → Int32)} {xts : Int32} {xus : (Nat → Int32)} {xnu : (Nat → Int32)} {xth : Int32} {xsp : Int32} {xpr : (Nat → Int64)} {xpn : (Nat → Int64)} {xbs : Int32} {xwr : (Nat → Int32)} {xno : (Nat → Int32)} {xki : (Nat → Int32)} {xdi : (Nat → Int32)} {xde : (Nat → Int32)} {xst : (Nat → Int32)} {xta : (Nat → Int32)} {xcb : Int32} {xcd : Int32} {xbe : (Nat → Int32)} {xli : (Nat → Int32)} {xke : (Nat → Int32)} {xne : (Nat → Int64)}  {fu : Nat} {o : (Nat → Int32)} (hF : F_X3_layLayers fu nn xli xro = some o) : Met κ.1 yX3_layLayers [Cond.code yX3_layLayers cX3_layLayers 9 none] { frames := 2, cells := 0, slots := 0, locals := 44 } (xb_P κ [.ref (q 24), .ref (q 1)] (xw κ q nn xro xrn xfo xva xts xus xnu xth xsp xpr xpn xbs xwr xno xki xdi xde xst xta xcb xcd xbe xli xke xne)) (xb_Qv κ (xw κ q nn xro xrn xfo xva xts xus xnu xth xsp xpr xpn xbs xwr xno xki xdi xde xst xta xcb xcd xbe o xke xne)) 0 0 κ.2.2.1 := by
  refine x_enter (own := RX3) (lv0 := [(0, .ref (q 24)), (1, .ref (q 1))]) (by decide) rfl rfl rfl (fun Γ C E => ?_)
  unfold F_X3_layLayers at hF
  refine x_lconst (v := 0) C dX3_layLayers_0 (by decide) ?_
  refine x_lstore_n (lv2 := [(2, .long (0 : Int64)), (0, .ref (q 24)), (1, .ref (q 1))]) C dX3_layLayers_1 rfl (by decide) rfl ?_
  refine x_iconst (v := 0) C dX3_layLayers_2 (by decide) ?_
  refine x_istore (lv2 := [(4, .int (0 : Int32)), (2, .long (0 : Int64)), (0, .ref (q 24)), (1, .ref (q 1))]) C dX3_layLayers_3 (by decide) rfl ?_
  refine x_iconst (v := 0) C dX3_layLayers_5 (by decide) ?_
  refine x_istore (lv2 := [(5, .int (0 : Int32)), (4, .int (0 : Int32)), (2, .long (0 : Int64)), (0, .ref (q 24)), (1, .ref (q 1))]) C dX3_layLayers_6 (by decide) rfl ?_
  obtain ⟨o17, h18, hF⟩ := bd_s hF
  refine x_sub [3, 4, 2, 1, 0] rfl (w_X3_layLayers_L8 C fu _ _ _ _ _ h18 ?_)
  cases hF
  exact x_vret C E dX3_layLayers_134
set_option maxHeartbeats 4000000 in
set_option maxRecDepth 100000 in
theorem w_X3_arrange_L13 {κ : xb_k} {Γ : xb_X} {q : Nat → Nat} {nn : Nat} {xro : (Nat → Int64)} {xrn : (Nat → Int64)} {xfo : (Nat → Int32)} {xva : (Nat → Int32)} {xts : Int32} {xus : (Nat → Int32)} {xnu : (Nat → Int32)} {xth : Int32} {xsp : Int32} {xpr : (Nat → Int64)} {xpn : (Nat → Int64)} {xbs : Int32} {xwr : (Nat → Int32)} {xno : (Nat → Int32)} {xki : (Nat → Int32)} {xdi : (Nat → Int32)} {xde : (Nat → Int32)} {xst : (Nat → Int32)} {xta : (Nat → Int32)} {xcb : Int32} {xcd : Int32} {xbe : (Nat → Int32)} {xli : (Nat → Int32)} {xne : (Nat → Int64)} {x1 : Int32} {fu : Nat} (C : xb_C κ Γ 6 cX3_arrange RX3 { frames := 3, cells := 0, slots := 0, locals := 72 }) : ∀ (n : Nat) (x3 : Int32) (xke : (Nat → Int32)) (o : (Nat → Int32)), F_X3_arrange_L13 fu nn x1 xro n x3 xke = some o → xb_W κ Γ 6 0 0 59 [(0, .ref (q 24))] [] (xw κ q nn xro xrn xfo xva xts xus xnu xth xsp xpr xpn xbs xwr xno xki xdi xde xst xta xcb xcd xbe xli o xne) → xb_W κ Γ 6 0 0 13 [(0, .ref (q 24)), (1, .int x1), (2, .ref (q 1)), (3, .int x3)] [] (xw κ q nn xro xrn xfo xva xts xus xnu xth xsp xpr xpn xbs xwr xno xki xdi xde xst xta xcb xcd xbe xli xke xne) := by
  intro n
  induction n with
  | zero =>
    intro x3 xke o hF K
    rw [F_X3_arrange_L13] at hF
    cases hF
  | succ n ih =>
    intro x3 xke o hF K
    rw [F_X3_arrange_L13] at hF
    refine x_iload_n C dX3_arrange_13 3 rfl ?_
    refine x_aload_n C dX3_arrange_14 0 rfl ?_
    refine gf_X3_15 C 24 rfl rfl dX3_arrange_15 ?_
    refine x_alen (v := nI nn) C 26 0 rfl rfl rfl dX3_arrange_18 ?_
    refine x_icmp_ge (tgt := 59) C dX3_arrange_19 (by decide) (fun hc => ?_) (fun hc => ?_)
    · replace hF := ifp hc hF
      cases hF
      exact x_sub [0] rfl K
    · replace hF := ifn hc hF
      refine x_aload_n C dX3_arrange_22 2 rfl ?_
      refine x_iload_n C dX3_arrange_23 3 rfl ?_
      obtain ⟨o1, h2, hF⟩ := bd_s hF
      refine x_callVl (st := []) C (c_X4_rowOf h2) xm_X4_rowOf ml_X3_26 1 rfl rfl rfl rfl rfl rfl dX3_arrange_24 ⟨rfl, rfl⟩ ?_
      refine x_lstore (lv2 := [(4, .long o1), (0, .ref (q 24)), (1, .int x1), (2, .ref (q 1)), (3, .int x3)]) C dX3_arrange_27 (by decide) rfl ?_
      refine x_aload_n C dX3_arrange_29 1 rfl ?_
      refine gf_X3_15 C 24 rfl rfl dX3_arrange_30 ?_
      refine x_iload_n C dX3_arrange_33 4 rfl ?_
      refine x_iload_n C dX3_arrange_34 2 rfl ?_
      refine x_if_ne (tgt := 47) C dX3_arrange_35 (by decide) (fun hc => ?_) (fun hc => ?_)
      · replace hF := ifn hc hF
        refine x_lload C dX3_arrange_47 0 rfl ?_
        obtain ⟨o3, h4, hF⟩ := bd_s hF
        refine x_callSi (st := [.int x3, .ref (q 26)]) C (c_X3_leastKey h4) xm_X3_leastKey ml_X3_38 rfl rfl rfl rfl dX3_arrange_49 ⟨rfl, rfl⟩ ?_
        obtain ⟨b5, hF⟩ := ck_s hF
        refine x_iast (ws2 := (xw κ q nn xro xrn xfo xva xts xus xnu xth xsp xpr xpn xbs xwr xno xki xdi xde xst xta xcb xcd xbe xli (upd xke x3.toNatClampNeg o3) xne)) C 26 rfl b5 dX3_arrange_52 rfl ?_
        refine x_iinc (v := x3 + 1) (lv2 := [(3, .int (x3 + 1)), (4, .long o1), (0, .ref (q 24)), (1, .int x1), (2, .ref (q 1))]) C dX3_arrange_53 4 rfl rfl (by decide) rfl ?_
        refine x_goto (tgt := 13) C dX3_arrange_56 (by decide) ?_
        exact x_sub [2, 3, 4, 0] rfl (ih _ _ _ hF K)
      · replace hF := ifp hc hF
        refine x_lload C dX3_arrange_38 0 rfl ?_
        obtain ⟨o6, h7, hF⟩ := bd_s hF
        refine x_callSi (st := [.int x3, .ref (q 26)]) C (c_J13_bitCount_95d88 h7) xm_J13_bitCount_95d88 ml_X3_32 rfl rfl rfl rfl dX3_arrange_40 ⟨rfl, rfl⟩ ?_
        refine x_ineg C dX3_arrange_43 ?_
        refine x_goto (tgt := 52) C dX3_arrange_44 (by decide) ?_
        obtain ⟨b8, hF⟩ := ck_s hF
        refine x_iast (ws2 := (xw κ q nn xro xrn xfo xva xts xus xnu xth xsp xpr xpn xbs xwr xno xki xdi xde xst xta xcb xcd xbe xli (upd xke x3.toNatClampNeg (-o6)) xne)) C 26 rfl b8 dX3_arrange_52 rfl ?_
        refine x_iinc (v := x3 + 1) (lv2 := [(3, .int (x3 + 1)), (4, .long o1), (0, .ref (q 24)), (1, .int x1), (2, .ref (q 1))]) C dX3_arrange_53 4 rfl rfl (by decide) rfl ?_
        refine x_goto (tgt := 13) C dX3_arrange_56 (by decide) ?_
        exact x_sub [2, 3, 4, 0] rfl (ih _ _ _ hF K)
set_option maxHeartbeats 4000000 in
set_option maxRecDepth 100000 in
theorem c_X3_arrange {κ : xb_k} {q : Nat → Nat} {nn : Nat} {xro : (Nat → Int64)} {xrn : (Nat → Int64)} {xfo : (Nat → Int32)} {xva : (Nat → Int32)} {xts : Int32} {xus : (Nat → Int32)} {xnu : (Nat → Int32)} {xth : Int32} {xsp : Int32} {xpr : (Nat → Int64)} {xpn : (Nat → Int64)} {xbs : Int32} {xwr : (Nat → Int32)} {xno : (Nat → Int32)} {xki : (Nat → Int32)} {xdi : (Nat → Int32)} {xde : (Nat → Int32)} {xst : (Nat → Int32)} {xta : (Nat → Int32)} {xcb : Int32} {xcd : Int32} {xbe : (Nat → Int32)} {xli : (Nat → Int32)} {xke : (Nat → Int32)} {xne : (Nat → Int64)} {x1 : Int32} {fu : Nat} {o : (Nat → Int32) × (Nat → Int32)} (hF : F_X3_arrange fu nn x1 xro xke xli = some o) : Met κ.1 yX3_arrange [Cond.code yX3_arrange cX3_arrange 6 none] { frames := 3, cells := 0, slots := 0, locals := 72 } (xb_P κ [.ref (q 24), .int x1, .ref (q 1)] (xw κ q nn xro xrn xfo xva xts xus xnu xth xsp xpr xpn xbs xwr xno xki xdi xde xst xta xcb xcd xbe xli xke xne)) (xb_Qv κ (xw κ q nn xro xrn xfo xva xts xus xnu xth xsp xpr xpn xbs xwr xno xki xdi xde xst xta xcb xcd xbe o.2 o.1 xne)) 0 0 κ.2.2.1 := by
  refine x_enter (own := RX3) (lv0 := [(0, .ref (q 24)), (1, .int x1), (2, .ref (q 1))]) (by decide) rfl rfl rfl (fun Γ C E => ?_)
  unfold F_X3_arrange at hF
  refine x_iload_n C dX3_arrange_0 1 rfl ?_
  refine x_iconst (v := 1) C dX3_arrange_1 (by decide) ?_
  refine x_icmp_ne (tgt := 11) C dX3_arrange_2 (by decide) (fun hc => ?_) (fun hc => ?_)
  · replace hF := ifn hc hF
    refine x_iconst (v := 0) C dX3_arrange_11 (by decide) ?_
    refine x_istore_n (lv2 := [(3, .int (0 : Int32)), (0, .ref (q 24)), (1, .int x1), (2, .ref (q 1))]) C dX3_arrange_12 rfl (by decide) rfl ?_
    obtain ⟨o9, h10, hF⟩ := bd_s hF
    refine x_sub [1, 2, 3, 0] rfl (w_X3_arrange_L13 C fu _ _ _ h10 ?_)
    refine x_aload_n C dX3_arrange_59 0 rfl ?_
    obtain ⟨o11, h12, hF⟩ := bd_s hF
    refine x_callVv (st := []) C (c_X3_layByKeys h12) xm_X3_layByKeys ml_X3_41 24 rfl rfl rfl rfl rfl rfl dX3_arrange_60 ⟨rfl, rfl⟩ ?_
    cases hF
    exact x_vret C E dX3_arrange_63
  · replace hF := ifp hc hF
    refine x_aload_n C dX3_arrange_5 0 rfl ?_
    refine x_aload_n C dX3_arrange_6 2 rfl ?_
    obtain ⟨o13, h14, hF⟩ := bd_s hF
    refine x_callVv (st := []) C (c_X3_layLayers h14) xm_X3_layLayers ml_X3_22 24 rfl rfl rfl rfl rfl rfl dX3_arrange_7 ⟨rfl, rfl⟩ ?_
    cases hF
    exact x_vret C E dX3_arrange_10
set_option maxHeartbeats 4000000 in
set_option maxRecDepth 100000 in
theorem c_X3_thingAtPlace {κ : xb_k} {q : Nat → Nat} {nn : Nat} {xro : (Nat → Int64)} {xrn : (Nat → Int64)} {xfo : (Nat → Int32)} {xva : (Nat → Int32)} {xts : Int32} {xus : (Nat → Int32)} {xnu : (Nat → Int32)} {xth : Int32} {xsp : Int32} {xpr : (Nat → Int64)} {xpn : (Nat → Int64)} {xbs : Int32} {xwr : (Nat → Int32)} {xno : (Nat → Int32)} {xki : (Nat → Int32)} {xdi : (Nat → Int32)} {xde : (Nat → Int32)} {xst : (Nat → Int32)} {xta : (Nat → Int32)} {xcb : Int32} {xcd : Int32} {xbe : (Nat → Int32)} {xli : (Nat → Int32)} {xke : (Nat → Int32)} {xne : (Nat → Int64)} {x1 : Int32}  {o : Int32} (hF : F_X3_thingAtPlace nn x1 xli = some o) : Met κ.1 yX3_thingAtPlace [Cond.code yX3_thingAtPlace cX3_thingAtPlace 2 (some .int)] { frames := 1, cells := 0, slots := 0, locals := 21 } (xb_P κ [.ref (q 24), .int x1] (xw κ q nn xro xrn xfo xva xts xus xnu xth xsp xpr xpn xbs xwr xno xki xdi xde xst xta xcb xcd xbe xli xke xne)) (xb_Qi κ o (xw κ q nn xro xrn xfo xva xts xus xnu xth xsp xpr xpn xbs xwr xno xki xdi xde xst xta xcb xcd xbe xli xke xne)) 0 0 κ.2.2.1 := by
  refine x_enter (own := RX3) (lv0 := [(0, .ref (q 24)), (1, .int x1)]) (by decide) rfl rfl rfl (fun Γ C E => ?_)
  unfold F_X3_thingAtPlace at hF
  refine x_aload_n C dX3_thingAtPlace_0 0 rfl ?_
  refine gf_X3_9 C 24 rfl rfl dX3_thingAtPlace_1 ?_
  refine x_iload_n C dX3_thingAtPlace_4 1 rfl ?_
  obtain ⟨b1, hF⟩ := ck_s hF
  replace b1 := Nat.le_of_ble_eq_true b1
  refine x_callNi (st := []) C (c_element κ 25 rfl (by omega)) xm_X8_element mn_X3_18 rfl rfl rfl rfl dX3_thingAtPlace_5 ⟨rfl, rfl⟩ ?_
  cases hF
  exact x_iret C E dX3_thingAtPlace_8
set_option maxHeartbeats 4000000 in
set_option maxRecDepth 100000 in
theorem c_X8_order {κ : xb_k} {q : Nat → Nat} {nn : Nat} {xro : (Nat → Int64)} {xrn : (Nat → Int64)} {xfo : (Nat → Int32)} {xva : (Nat → Int32)} {xts : Int32} {xus : (Nat → Int32)} {xnu : (Nat → Int32)} {xth : Int32} {xsp : Int32} {xpr : (Nat → Int64)} {xpn : (Nat → Int64)} {xbs : Int32} {xwr : (Nat → Int32)} {xno : (Nat → Int32)} {xki : (Nat → Int32)} {xdi : (Nat → Int32)} {xde : (Nat → Int32)} {xst : (Nat → Int32)} {xta : (Nat → Int32)} {xcb : Int32} {xcd : Int32} {xbe : (Nat → Int32)} {xli : (Nat → Int32)} {xke : (Nat → Int32)} {xne : (Nat → Int64)} {x1 : Int32} {x2 : Int32} {fu : Nat} {o : Int32 × (Nat → Int32) × (Nat → Int32)} (hF : F_X8_order fu nn x1 x2 xro xke xli = some o) : Met κ.1 yX8_order [Cond.code yX8_order cX8_order 3 (some .int)] { frames := 4, cells := 0, slots := 0, locals := 97 } (xb_P κ [.ref (q 0), .int x1, .int x2] (xw κ q nn xro xrn xfo xva xts xus xnu xth xsp xpr xpn xbs xwr xno xki xdi xde xst xta xcb xcd xbe xli xke xne)) (xb_Qi κ o.1 (xw κ q nn xro xrn xfo xva xts xus xnu xth xsp xpr xpn xbs xwr xno xki xdi xde xst xta xcb xcd xbe o.2.2 o.2.1 xne)) 0 0 κ.2.2.1 := by
  refine x_enter (own := RX8) (lv0 := [(0, .ref (q 0)), (1, .int x1), (2, .int x2)]) (by decide) rfl rfl rfl (fun Γ C E => ?_)
  unfold F_X8_order at hF
  refine x_iload_n C dX8_order_0 1 rfl ?_
  refine x_iconst (v := 3) C dX8_order_1 (by decide) ?_
  obtain ⟨o1, h2, hF⟩ := bd_s hF
  refine x_callSi (st := []) C (c_X8_isBelow h2) xm_X8_isBelow ml_X8_89 rfl rfl rfl rfl dX8_order_2 ⟨rfl, rfl⟩ ?_
  refine x_if_ne (tgt := 11) C dX8_order_5 (by decide) (fun hc => ?_) (fun hc => ?_)
  · replace hF := ifn hc hF
    refine x_aload_n C dX8_order_11 0 rfl ?_
    refine gf_X8_23 C 0 rfl rfl dX8_order_12 ?_
    refine x_iload_n C dX8_order_15 2 rfl ?_
    obtain ⟨o3, h4, hF⟩ := bd_s hF
    refine x_callVi (st := []) C (c_X4_isThing h4) xm_X4_isThing ml_X8_73 1 rfl rfl rfl rfl rfl rfl dX8_order_16 ⟨rfl, rfl⟩ ?_
    refine x_if_ne (tgt := 24) C dX8_order_19 (by decide) (fun hc => ?_) (fun hc => ?_)
    · replace hF := ifn hc hF
      refine x_aload_n C dX8_order_24 0 rfl ?_
      refine gf_X8_58 C 0 rfl rfl dX8_order_25 ?_
      refine x_iload_n C dX8_order_28 1 rfl ?_
      refine x_aload_n C dX8_order_29 0 rfl ?_
      refine gf_X8_23 C 0 rfl rfl dX8_order_30 ?_
      obtain ⟨o5, h6, hF⟩ := bd_s hF
      refine x_callVv (st := []) C (c_X3_arrange h6) xm_X3_arrange ml_X8_205 24 rfl rfl rfl rfl rfl rfl dX8_order_33 ⟨rfl, rfl⟩ ?_
      refine x_aload_n C dX8_order_36 0 rfl ?_
      refine gf_X8_58 C 0 rfl rfl dX8_order_37 ?_
      refine x_iload_n C dX8_order_40 2 rfl ?_
      obtain ⟨o7, h8, hF⟩ := bd_s hF
      refine x_callVi (st := []) C (c_X3_thingAtPlace h8) xm_X3_thingAtPlace ml_X8_209 24 rfl rfl rfl rfl rfl rfl dX8_order_41 ⟨rfl, rfl⟩ ?_
      cases hF
      exact x_iret C E dX8_order_44
    · replace hF := ifp hc hF
      refine x_iconst (v := (-1)) C dX8_order_22 (by decide) ?_
      cases hF
      exact x_iret C E dX8_order_23
  · replace hF := ifp hc hF
    refine x_bipush (v := (-2)) C dX8_order_8 (by decide) ?_
    cases hF
    exact x_iret C E dX8_order_10
set_option maxHeartbeats 4000000 in
set_option maxRecDepth 100000 in
theorem w_X4_renumberBy_L27 {κ : xb_k} {Γ : xb_X} {q : Nat → Nat} {nn : Nat} {xro : (Nat → Int64)} {xrn : (Nat → Int64)} {xfo : (Nat → Int32)} {xva : (Nat → Int32)} {xts : Int32} {xus : (Nat → Int32)} {xnu : (Nat → Int32)} {xth : Int32} {xsp : Int32} {xpr : (Nat → Int64)} {xpn : (Nat → Int64)} {xbs : Int32} {xwr : (Nat → Int32)} {xno : (Nat → Int32)} {xki : (Nat → Int32)} {xdi : (Nat → Int32)} {xde : (Nat → Int32)} {xst : (Nat → Int32)} {xta : (Nat → Int32)} {xcb : Int32} {xcd : Int32} {xbe : (Nat → Int32)} {xli : (Nat → Int32)} {xke : (Nat → Int32)} {xne : (Nat → Int64)} {x2 : Int32} {x3 : Int64}  (C : xb_C κ Γ 8 cX4_renumberBy RX4 { frames := 2, cells := 0, slots := 0, locals := 42 }) : ∀ (n : Nat) (x5 : Int64) (x7 : Int32) (o : Int64), F_X4_renumberBy_L27 nn x2 x3 xli n x5 x7 = some o → xb_W κ Γ 8 0 0 65 [(0, .ref (q 1)), (1, .ref (q 24)), (2, .int x2), (5, .long o)] [] (xw κ q nn xro xrn xfo xva xts xus xnu xth xsp xpr xpn xbs xwr xno xki xdi xde xst xta xcb xcd xbe xli xke xne) → xb_W κ Γ 8 0 0 27 [(0, .ref (q 1)), (1, .ref (q 24)), (2, .int x2), (3, .long x3), (5, .long x5), (7, .int x7)] [] (xw κ q nn xro xrn xfo xva xts xus xnu xth xsp xpr xpn xbs xwr xno xki xdi xde xst xta xcb xcd xbe xli xke xne) := by
  intro n
  induction n with
  | zero =>
    intro x5 x7 o hF K
    rw [F_X4_renumberBy_L27] at hF
    cases hF
  | succ n ih =>
    intro x5 x7 o hF K
    rw [F_X4_renumberBy_L27] at hF
    refine x_iload C dX4_renumberBy_27 5 rfl ?_
    refine x_aload_n C dX4_renumberBy_29 0 rfl ?_
    refine gf_X4_13 C 1 rfl rfl dX4_renumberBy_30 ?_
    refine x_alen (v := nI nn) C 3 1 rfl rfl rfl dX4_renumberBy_33 ?_
    refine x_icmp_ge (tgt := 65) C dX4_renumberBy_34 (by decide) (fun hc => ?_) (fun hc => ?_)
    · replace hF := ifp hc hF
      cases hF
      exact x_sub [0, 1, 2, 4] rfl K
    · replace hF := ifn hc hF
      refine x_lload_n C dX4_renumberBy_37 3 rfl ?_
      refine x_aload_n C dX4_renumberBy_38 1 rfl ?_
      refine x_iload C dX4_renumberBy_39 5 rfl ?_
      obtain ⟨o5, h6, hF⟩ := bd_s hF
      refine x_callVi (st := [.long x3]) C (c_X3_thingAtPlace h6) xm_X3_thingAtPlace ml_X4_36 24 rfl rfl rfl rfl rfl rfl dX4_renumberBy_41 ⟨rfl, rfl⟩ ?_
      obtain ⟨o7, h8, hF⟩ := bd_s hF
      refine x_callNi (st := []) C (c_X8_isIn h8) xm_X8_isIn mn_X4_16 rfl rfl rfl rfl dX4_renumberBy_44 ⟨rfl, rfl⟩ ?_
      refine x_if_eq (tgt := 59) C dX4_renumberBy_47 (by decide) (fun hc => ?_) (fun hc => ?_)
      · replace hF := ifp hc hF
        refine x_iinc (v := x7 + 1) (lv2 := [(7, .int (x7 + 1)), (0, .ref (q 1)), (1, .ref (q 24)), (2, .int x2), (3, .long x3), (5, .long x5)]) C dX4_renumberBy_59 5 rfl rfl (by decide) rfl ?_
        refine x_goto (tgt := 27) C dX4_renumberBy_62 (by decide) ?_
        exact x_sub [1, 2, 3, 4, 5, 0] rfl (ih _ _ _ hF K)
      · replace hF := ifn hc hF
        refine x_lload C dX4_renumberBy_50 4 rfl ?_
        refine x_lconst (v := 1) C dX4_renumberBy_52 (by decide) ?_
        refine x_iload C dX4_renumberBy_53 5 rfl ?_
        refine x_lshl C dX4_renumberBy_55 ?_
        refine x_lor C dX4_renumberBy_56 ?_
        refine x_lstore (lv2 := [(5, .long (x5 ||| ((1 : Int64) <<< (x7.toInt64 &&& 63)))), (0, .ref (q 1)), (1, .ref (q 24)), (2, .int x2), (3, .long x3), (7, .int x7)]) C dX4_renumberBy_57 (by decide) rfl ?_
        refine x_iinc (v := x7 + 1) (lv2 := [(7, .int (x7 + 1)), (5, .long (x5 ||| ((1 : Int64) <<< (x7.toInt64 &&& 63)))), (0, .ref (q 1)), (1, .ref (q 24)), (2, .int x2), (3, .long x3)]) C dX4_renumberBy_59 5 rfl rfl (by decide) rfl ?_
        refine x_goto (tgt := 27) C dX4_renumberBy_62 (by decide) ?_
        exact x_sub [2, 3, 4, 5, 1, 0] rfl (ih _ _ _ hF K)
set_option maxHeartbeats 4000000 in
set_option maxRecDepth 100000 in
theorem w_X4_renumberBy_L2 {κ : xb_k} {Γ : xb_X} {q : Nat → Nat} {nn : Nat} {xro : (Nat → Int64)} {xfo : (Nat → Int32)} {xva : (Nat → Int32)} {xts : Int32} {xus : (Nat → Int32)} {xnu : (Nat → Int32)} {xth : Int32} {xsp : Int32} {xpr : (Nat → Int64)} {xpn : (Nat → Int64)} {xbs : Int32} {xwr : (Nat → Int32)} {xno : (Nat → Int32)} {xki : (Nat → Int32)} {xdi : (Nat → Int32)} {xde : (Nat → Int32)} {xst : (Nat → Int32)} {xta : (Nat → Int32)} {xcb : Int32} {xcd : Int32} {xbe : (Nat → Int32)} {xli : (Nat → Int32)} {xke : (Nat → Int32)} {xne : (Nat → Int64)}  {fu : Nat} (C : xb_C κ Γ 8 cX4_renumberBy RX4 { frames := 2, cells := 0, slots := 0, locals := 42 }) : ∀ (n : Nat) (x2 : Int32) (xrn : (Nat → Int64)) (o : (Nat → Int64)), F_X4_renumberBy_L2 fu nn xli xro n x2 xrn = some o → xb_W κ Γ 8 0 0 79 [(0, .ref (q 1))] [] (xw κ q nn xro o xfo xva xts xus xnu xth xsp xpr xpn xbs xwr xno xki xdi xde xst xta xcb xcd xbe xli xke xne) → xb_W κ Γ 8 0 0 2 [(0, .ref (q 1)), (1, .ref (q 24)), (2, .int x2)] [] (xw κ q nn xro xrn xfo xva xts xus xnu xth xsp xpr xpn xbs xwr xno xki xdi xde xst xta xcb xcd xbe xli xke xne) := by
  intro n
  induction n with
  | zero =>
    intro x2 xrn o hF K
    rw [F_X4_renumberBy_L2] at hF
    cases hF
  | succ n ih =>
    intro x2 xrn o hF K
    rw [F_X4_renumberBy_L2] at hF
    refine x_iload_n C dX4_renumberBy_2 2 rfl ?_
    refine x_aload_n C dX4_renumberBy_3 0 rfl ?_
    refine gf_X4_13 C 1 rfl rfl dX4_renumberBy_4 ?_
    refine x_alen (v := nI nn) C 3 1 rfl rfl rfl dX4_renumberBy_7 ?_
    refine x_icmp_ge (tgt := 79) C dX4_renumberBy_8 (by decide) (fun hc => ?_) (fun hc => ?_)
    · replace hF := ifp hc hF
      cases hF
      exact x_sub [0] rfl K
    · replace hF := ifn hc hF
      refine x_aload_n C dX4_renumberBy_11 0 rfl ?_
      refine x_aload_n C dX4_renumberBy_12 1 rfl ?_
      refine x_iload_n C dX4_renumberBy_13 2 rfl ?_
      obtain ⟨o1, h2, hF⟩ := bd_s hF
      refine x_callVi (st := [.ref (q 1)]) C (c_X3_thingAtPlace h2) xm_X3_thingAtPlace ml_X4_36 24 rfl rfl rfl rfl rfl rfl dX4_renumberBy_14 ⟨rfl, rfl⟩ ?_
      obtain ⟨o3, h4, hF⟩ := bd_s hF
      refine x_callVl (st := []) C (c_X4_rowOf h4) xm_X4_rowOf ml_X4_22 1 rfl rfl rfl rfl rfl rfl dX4_renumberBy_17 ⟨rfl, rfl⟩ ?_
      refine x_lstore_n (lv2 := [(3, .long o3), (0, .ref (q 1)), (1, .ref (q 24)), (2, .int x2)]) C dX4_renumberBy_20 rfl (by decide) rfl ?_
      refine x_lconst (v := 0) C dX4_renumberBy_21 (by decide) ?_
      refine x_lstore (lv2 := [(5, .long (0 : Int64)), (3, .long o3), (0, .ref (q 1)), (1, .ref (q 24)), (2, .int x2)]) C dX4_renumberBy_22 (by decide) rfl ?_
      refine x_iconst (v := 0) C dX4_renumberBy_24 (by decide) ?_
      refine x_istore (lv2 := [(7, .int (0 : Int32)), (5, .long (0 : Int64)), (3, .long o3), (0, .ref (q 1)), (1, .ref (q 24)), (2, .int x2)]) C dX4_renumberBy_25 (by decide) rfl ?_
      obtain ⟨o5, h6, hF⟩ := bd_s hF
      refine x_sub [3, 4, 5, 2, 1, 0] rfl (w_X4_renumberBy_L27 C fu _ _ _ h6 ?_)
      refine x_aload_n C dX4_renumberBy_65 0 rfl ?_
      refine gf_X4_13 C 1 rfl rfl dX4_renumberBy_66 ?_
      refine x_iload_n C dX4_renumberBy_69 2 rfl ?_
      refine x_lload C dX4_renumberBy_70 3 rfl ?_
      obtain ⟨b7, hF⟩ := ck_s hF
      refine x_last (ws2 := (xw κ q nn xro (vp_updL xrn x2.toNatClampNeg o5) xfo xva xts xus xnu xth xsp xpr xpn xbs xwr xno xki xdi xde xst xta xcb xcd xbe xli xke xne)) C 3 rfl b7 dX4_renumberBy_72 rfl ?_
      refine x_iinc (v := x2 + 1) (lv2 := [(2, .int (x2 + 1)), (0, .ref (q 1)), (1, .ref (q 24)), (5, .long o5)]) C dX4_renumberBy_73 2 rfl rfl (by decide) rfl ?_
      refine x_goto (tgt := 2) C dX4_renumberBy_76 (by decide) ?_
      exact x_sub [1, 2, 0] rfl (ih _ _ _ hF K)
set_option maxHeartbeats 4000000 in
set_option maxRecDepth 100000 in
theorem w_X4_renumberBy_L81 {κ : xb_k} {Γ : xb_X} {q : Nat → Nat} {nn : Nat} {xrn : (Nat → Int64)} {xfo : (Nat → Int32)} {xva : (Nat → Int32)} {xts : Int32} {xus : (Nat → Int32)} {xnu : (Nat → Int32)} {xth : Int32} {xsp : Int32} {xpr : (Nat → Int64)} {xpn : (Nat → Int64)} {xbs : Int32} {xwr : (Nat → Int32)} {xno : (Nat → Int32)} {xki : (Nat → Int32)} {xdi : (Nat → Int32)} {xde : (Nat → Int32)} {xst : (Nat → Int32)} {xta : (Nat → Int32)} {xcb : Int32} {xcd : Int32} {xbe : (Nat → Int32)} {xli : (Nat → Int32)} {xke : (Nat → Int32)} {xne : (Nat → Int64)}   (C : xb_C κ Γ 8 cX4_renumberBy RX4 { frames := 2, cells := 0, slots := 0, locals := 42 }) : ∀ (n : Nat) (x2 : Int32) (xro : (Nat → Int64)) (o : (Nat → Int64)), F_X4_renumberBy_L81 nn xrn n x2 xro = some o → xb_W κ Γ 8 0 0 117 [] [] (xw κ q nn o xrn xfo xva xts xus xnu xth xsp xpr xpn xbs xwr xno xki xdi xde xst xta xcb xcd xbe xli xke xne) → xb_W κ Γ 8 0 0 81 [(0, .ref (q 1)), (2, .int x2)] [] (xw κ q nn xro xrn xfo xva xts xus xnu xth xsp xpr xpn xbs xwr xno xki xdi xde xst xta xcb xcd xbe xli xke xne) := by
  intro n
  induction n with
  | zero =>
    intro x2 xro o hF K
    rw [F_X4_renumberBy_L81] at hF
    cases hF
  | succ n ih =>
    intro x2 xro o hF K
    rw [F_X4_renumberBy_L81] at hF
    refine x_iload_n C dX4_renumberBy_81 1 rfl ?_
    refine x_aload_n C dX4_renumberBy_82 0 rfl ?_
    refine gf_X4_7 C 1 rfl rfl dX4_renumberBy_83 ?_
    refine x_alen (v := nI nn) C 2 1 rfl rfl rfl dX4_renumberBy_86 ?_
    refine x_icmp_ge (tgt := 117) C dX4_renumberBy_87 (by decide) (fun hc => ?_) (fun hc => ?_)
    · replace hF := ifp hc hF
      cases hF
      exact x_sub [] rfl K
    · replace hF := ifn hc hF
      refine x_iload_n C dX4_renumberBy_90 1 rfl ?_
      refine x_aload_n C dX4_renumberBy_91 0 rfl ?_
      refine gf_X4_13 C 1 rfl rfl dX4_renumberBy_92 ?_
      refine x_alen (v := nI nn) C 3 1 rfl rfl rfl dX4_renumberBy_95 ?_
      refine x_icmp_ge (tgt := 117) C dX4_renumberBy_96 (by decide) (fun hc => ?_) (fun hc => ?_)
      · replace hF := ifp hc hF
        cases hF
        exact x_sub [] rfl K
      · replace hF := ifn hc hF
        refine x_aload_n C dX4_renumberBy_99 0 rfl ?_
        refine gf_X4_7 C 1 rfl rfl dX4_renumberBy_100 ?_
        refine x_iload_n C dX4_renumberBy_103 1 rfl ?_
        refine x_aload_n C dX4_renumberBy_104 0 rfl ?_
        refine gf_X4_13 C 1 rfl rfl dX4_renumberBy_105 ?_
        refine x_iload_n C dX4_renumberBy_108 1 rfl ?_
        obtain ⟨b10, hF⟩ := ck_s hF
        refine x_lald C 3 rfl b10 dX4_renumberBy_109 ?_
        obtain ⟨b11, hF⟩ := ck_s hF
        refine x_last (ws2 := (xw κ q nn (vp_updL xro x2.toNatClampNeg (xrn x2.toNatClampNeg)) xrn xfo xva xts xus xnu xth xsp xpr xpn xbs xwr xno xki xdi xde xst xta xcb xcd xbe xli xke xne)) C 2 rfl b11 dX4_renumberBy_110 rfl ?_
        refine x_iinc (v := x2 + 1) (lv2 := [(2, .int (x2 + 1)), (0, .ref (q 1))]) C dX4_renumberBy_111 1 rfl rfl (by decide) rfl ?_
        refine x_goto (tgt := 81) C dX4_renumberBy_114 (by decide) ?_
        exact x_sub [1, 0] rfl (ih _ _ _ hF K)
set_option maxHeartbeats 4000000 in
set_option maxRecDepth 100000 in
theorem c_X4_renumberBy {κ : xb_k} {q : Nat → Nat} {nn : Nat} {xro : (Nat → Int64)} {xrn : (Nat → Int64)} {xfo : (Nat → Int32)} {xva : (Nat → Int32)} {xts : Int32} {xus : (Nat → Int32)} {xnu : (Nat → Int32)} {xth : Int32} {xsp : Int32} {xpr : (Nat → Int64)} {xpn : (Nat → Int64)} {xbs : Int32} {xwr : (Nat → Int32)} {xno : (Nat → Int32)} {xki : (Nat → Int32)} {xdi : (Nat → Int32)} {xde : (Nat → Int32)} {xst : (Nat → Int32)} {xta : (Nat → Int32)} {xcb : Int32} {xcd : Int32} {xbe : (Nat → Int32)} {xli : (Nat → Int32)} {xke : (Nat → Int32)} {xne : (Nat → Int64)}  {fu : Nat} {o : (Nat → Int64) × (Nat → Int64)} (hF : F_X4_renumberBy fu nn xli xro xrn = some o) : Met κ.1 yX4_renumberBy [Cond.code yX4_renumberBy cX4_renumberBy 8 none] { frames := 2, cells := 0, slots := 0, locals := 42 } (xb_P κ [.ref (q 1), .ref (q 24)] (xw κ q nn xro xrn xfo xva xts xus xnu xth xsp xpr xpn xbs xwr xno xki xdi xde xst xta xcb xcd xbe xli xke xne)) (xb_Qv κ (xw κ q nn o.2 o.1 xfo xva xts xus xnu xth xsp xpr xpn xbs xwr xno xki xdi xde xst xta xcb xcd xbe xli xke xne)) 0 0 κ.2.2.1 := by
  refine x_enter (own := RX4) (lv0 := [(0, .ref (q 1)), (1, .ref (q 24))]) (by decide) rfl rfl rfl (fun Γ C E => ?_)
  unfold F_X4_renumberBy at hF
  refine x_iconst (v := 0) C dX4_renumberBy_0 (by decide) ?_
  refine x_istore_n (lv2 := [(2, .int (0 : Int32)), (0, .ref (q 1)), (1, .ref (q 24))]) C dX4_renumberBy_1 rfl (by decide) rfl ?_
  obtain ⟨o8, h9, hF⟩ := bd_s hF
  refine x_sub [1, 2, 0] rfl (w_X4_renumberBy_L2 C fu _ _ _ h9 ?_)
  refine x_iconst (v := 0) C dX4_renumberBy_79 (by decide) ?_
  refine x_istore_n (lv2 := [(2, .int (0 : Int32)), (0, .ref (q 1))]) C dX4_renumberBy_80 rfl (by decide) rfl ?_
  obtain ⟨o12, h13, hF⟩ := bd_s hF
  refine x_sub [1, 0] rfl (w_X4_renumberBy_L81 C fu _ _ _ h13 ?_)
  cases hF
  exact x_vret C E dX4_renumberBy_117
set_option maxHeartbeats 4000000 in
set_option maxRecDepth 100000 in
theorem c_X1_forget {κ : xb_k} {q : Nat → Nat} {nn : Nat} {xro : (Nat → Int64)} {xrn : (Nat → Int64)} {xfo : (Nat → Int32)} {xva : (Nat → Int32)} {xts : Int32} {xus : (Nat → Int32)} {xnu : (Nat → Int32)} {xth : Int32} {xsp : Int32} {xpr : (Nat → Int64)} {xpn : (Nat → Int64)} {xbs : Int32} {xwr : (Nat → Int32)} {xno : (Nat → Int32)} {xki : (Nat → Int32)} {xdi : (Nat → Int32)} {xde : (Nat → Int32)} {xst : (Nat → Int32)} {xta : (Nat → Int32)} {xcb : Int32} {xcd : Int32} {xbe : (Nat → Int32)} {xli : (Nat → Int32)} {xke : (Nat → Int32)} {xne : (Nat → Int64)}   {o : Int32} (hF : F_X1_forget xth = some o) : Met κ.1 yX1_forget [Cond.code yX1_forget cX1_forget 1 none] { frames := 0, cells := 0, slots := 0, locals := 0 } (xb_P κ [.ref (q 10)] (xw κ q nn xro xrn xfo xva xts xus xnu xth xsp xpr xpn xbs xwr xno xki xdi xde xst xta xcb xcd xbe xli xke xne)) (xb_Qv κ (xw κ q nn xro xrn xfo xva xts xus xnu o xsp xpr xpn xbs xwr xno xki xdi xde xst xta xcb xcd xbe xli xke xne)) 0 0 κ.2.2.1 := by
  refine x_enter (own := RX1) (lv0 := [(0, .ref (q 10))]) (by decide) rfl rfl rfl (fun Γ C E => ?_)
  unfold F_X1_forget at hF
  refine x_aload_n C dX1_forget_0 0 rfl ?_
  refine x_iconst (v := 0) C dX1_forget_1 (by decide) ?_
  refine pf_X1_15 (ws2 := (xw κ q nn xro xrn xfo xva xts xus xnu (0 : Int32) xsp xpr xpn xbs xwr xno xki xdi xde xst xta xcb xcd xbe xli xke xne)) C 10 rfl rfl rfl dX1_forget_2 rfl rfl ?_
  cases hF
  exact x_vret C E dX1_forget_5
set_option maxHeartbeats 4000000 in
set_option maxRecDepth 100000 in
theorem w_X4_countToLesser_L4 {κ : xb_k} {Γ : xb_X} {q : Nat → Nat} {nn : Nat} {xro : (Nat → Int64)} {xrn : (Nat → Int64)} {xfo : (Nat → Int32)} {xva : (Nat → Int32)} {xts : Int32} {xus : (Nat → Int32)} {xnu : (Nat → Int32)} {xth : Int32} {xsp : Int32} {xpr : (Nat → Int64)} {xpn : (Nat → Int64)} {xbs : Int32} {xwr : (Nat → Int32)} {xno : (Nat → Int32)} {xki : (Nat → Int32)} {xdi : (Nat → Int32)} {xde : (Nat → Int32)} {xst : (Nat → Int32)} {xta : (Nat → Int32)} {xcb : Int32} {xcd : Int32} {xbe : (Nat → Int32)} {xli : (Nat → Int32)} {xke : (Nat → Int32)} {xne : (Nat → Int64)}   (C : xb_C κ Γ 3 cX4_countToLesser RX4 { frames := 1, cells := 0, slots := 0, locals := 21 }) : ∀ (n : Nat) (x1 : Int32) (x2 : Int32) (o : Int32), F_X4_countToLesser_L4 nn xro n x1 x2 = some o → xb_W κ Γ 3 0 0 37 [(1, .int o)] [] (xw κ q nn xro xrn xfo xva xts xus xnu xth xsp xpr xpn xbs xwr xno xki xdi xde xst xta xcb xcd xbe xli xke xne) → xb_W κ Γ 3 0 0 4 [(0, .ref (q 1)), (1, .int x1), (2, .int x2)] [] (xw κ q nn xro xrn xfo xva xts xus xnu xth xsp xpr xpn xbs xwr xno xki xdi xde xst xta xcb xcd xbe xli xke xne) := by
  intro n
  induction n with
  | zero =>
    intro x1 x2 o hF K
    rw [F_X4_countToLesser_L4] at hF
    cases hF
  | succ n ih =>
    intro x1 x2 o hF K
    rw [F_X4_countToLesser_L4] at hF
    refine x_iload_n C dX4_countToLesser_4 2 rfl ?_
    refine x_aload_n C dX4_countToLesser_5 0 rfl ?_
    refine gf_X4_7 C 1 rfl rfl dX4_countToLesser_6 ?_
    refine x_alen (v := nI nn) C 2 1 rfl rfl rfl dX4_countToLesser_9 ?_
    refine x_icmp_ge (tgt := 37) C dX4_countToLesser_10 (by decide) (fun hc => ?_) (fun hc => ?_)
    · replace hF := ifp hc hF
      cases hF
      exact x_sub [1] rfl K
    · replace hF := ifn hc hF
      refine x_iload_n C dX4_countToLesser_13 1 rfl ?_
      refine x_aload_n C dX4_countToLesser_14 0 rfl ?_
      refine gf_X4_7 C 1 rfl rfl dX4_countToLesser_15 ?_
      refine x_iload_n C dX4_countToLesser_18 2 rfl ?_
      obtain ⟨b1, hF⟩ := ck_s hF
      refine x_lald C 2 rfl b1 dX4_countToLesser_19 ?_
      refine x_lconst (v := 1) C dX4_countToLesser_20 (by decide) ?_
      refine x_iload_n C dX4_countToLesser_21 2 rfl ?_
      refine x_lshl C dX4_countToLesser_22 ?_
      refine x_lconst (v := 1) C dX4_countToLesser_23 (by decide) ?_
      refine x_lsub C dX4_countToLesser_24 ?_
      refine x_land C dX4_countToLesser_25 ?_
      obtain ⟨o2, h3, hF⟩ := bd_s hF
      refine x_callSi (st := [.int x1]) C (c_J13_bitCount_95d88 h3) xm_J13_bitCount_95d88 ml_X4_30 rfl rfl rfl rfl dX4_countToLesser_26 ⟨rfl, rfl⟩ ?_
      refine x_iadd C dX4_countToLesser_29 ?_
      refine x_istore_n (lv2 := [(1, .int (x1 + o2)), (0, .ref (q 1)), (2, .int x2)]) C dX4_countToLesser_30 rfl (by decide) rfl ?_
      refine x_iinc (v := x2 + 1) (lv2 := [(2, .int (x2 + 1)), (1, .int (x1 + o2)), (0, .ref (q 1))]) C dX4_countToLesser_31 2 rfl rfl (by decide) rfl ?_
      refine x_goto (tgt := 4) C dX4_countToLesser_34 (by decide) ?_
      exact x_sub [2, 1, 0] rfl (ih _ _ _ hF K)
set_option maxHeartbeats 4000000 in
set_option maxRecDepth 100000 in
theorem c_X4_countToLesser {κ : xb_k} {q : Nat → Nat} {nn : Nat} {xro : (Nat → Int64)} {xrn : (Nat → Int64)} {xfo : (Nat → Int32)} {xva : (Nat → Int32)} {xts : Int32} {xus : (Nat → Int32)} {xnu : (Nat → Int32)} {xth : Int32} {xsp : Int32} {xpr : (Nat → Int64)} {xpn : (Nat → Int64)} {xbs : Int32} {xwr : (Nat → Int32)} {xno : (Nat → Int32)} {xki : (Nat → Int32)} {xdi : (Nat → Int32)} {xde : (Nat → Int32)} {xst : (Nat → Int32)} {xta : (Nat → Int32)} {xcb : Int32} {xcd : Int32} {xbe : (Nat → Int32)} {xli : (Nat → Int32)} {xke : (Nat → Int32)} {xne : (Nat → Int64)}  {fu : Nat} {o : Int32} (hF : F_X4_countToLesser fu nn xro = some o) : Met κ.1 yX4_countToLesser [Cond.code yX4_countToLesser cX4_countToLesser 3 (some .int)] { frames := 1, cells := 0, slots := 0, locals := 21 } (xb_P κ [.ref (q 1)] (xw κ q nn xro xrn xfo xva xts xus xnu xth xsp xpr xpn xbs xwr xno xki xdi xde xst xta xcb xcd xbe xli xke xne)) (xb_Qi κ o (xw κ q nn xro xrn xfo xva xts xus xnu xth xsp xpr xpn xbs xwr xno xki xdi xde xst xta xcb xcd xbe xli xke xne)) 0 0 κ.2.2.1 := by
  refine x_enter (own := RX4) (lv0 := [(0, .ref (q 1))]) (by decide) rfl rfl rfl (fun Γ C E => ?_)
  unfold F_X4_countToLesser at hF
  refine x_iconst (v := 0) C dX4_countToLesser_0 (by decide) ?_
  refine x_istore_n (lv2 := [(1, .int (0 : Int32)), (0, .ref (q 1))]) C dX4_countToLesser_1 rfl (by decide) rfl ?_
  refine x_iconst (v := 0) C dX4_countToLesser_2 (by decide) ?_
  refine x_istore_n (lv2 := [(2, .int (0 : Int32)), (1, .int (0 : Int32)), (0, .ref (q 1))]) C dX4_countToLesser_3 rfl (by decide) rfl ?_
  obtain ⟨o4, h5, hF⟩ := bd_s hF
  refine x_sub [2, 1, 0] rfl (w_X4_countToLesser_L4 C fu _ _ _ h5 ?_)
  refine x_iload_n C dX4_countToLesser_37 0 rfl ?_
  cases hF
  exact x_iret C E dX4_countToLesser_38
set_option maxHeartbeats 4000000 in
set_option maxRecDepth 100000 in
theorem c_X8_renumber {κ : xb_k} {q : Nat → Nat} {nn : Nat} {xro : (Nat → Int64)} {xrn : (Nat → Int64)} {xfo : (Nat → Int32)} {xva : (Nat → Int32)} {xts : Int32} {xus : (Nat → Int32)} {xnu : (Nat → Int32)} {xth : Int32} {xsp : Int32} {xpr : (Nat → Int64)} {xpn : (Nat → Int64)} {xbs : Int32} {xwr : (Nat → Int32)} {xno : (Nat → Int32)} {xki : (Nat → Int32)} {xdi : (Nat → Int32)} {xde : (Nat → Int32)} {xst : (Nat → Int32)} {xta : (Nat → Int32)} {xcb : Int32} {xcd : Int32} {xbe : (Nat → Int32)} {xli : (Nat → Int32)} {xke : (Nat → Int32)} {xne : (Nat → Int64)} {x1 : Int32} {fu : Nat} {o : Int32 × (Nat → Int32) × (Nat → Int32) × (Nat → Int64) × (Nat → Int64) × Int32} (hF : F_X8_renumber fu nn x1 xro xke xli xrn xth = some o) : Met κ.1 yX8_renumber [Cond.code yX8_renumber cX8_renumber 2 (some .int)] { frames := 4, cells := 0, slots := 0, locals := 97 } (xb_P κ [.ref (q 0), .int x1] (xw κ q nn xro xrn xfo xva xts xus xnu xth xsp xpr xpn xbs xwr xno xki xdi xde xst xta xcb xcd xbe xli xke xne)) (xb_Qi κ o.1 (xw κ q nn o.2.2.2.2.1 o.2.2.2.1 xfo xva xts xus xnu o.2.2.2.2.2 xsp xpr xpn xbs xwr xno xki xdi xde xst xta xcb xcd xbe o.2.2.1 o.2.1 xne)) 0 0 κ.2.2.1 := by
  refine x_enter (own := RX8) (lv0 := [(0, .ref (q 0)), (1, .int x1)]) (by decide) rfl rfl rfl (fun Γ C E => ?_)
  unfold F_X8_renumber at hF
  refine x_iload_n C dX8_renumber_0 1 rfl ?_
  refine x_iconst (v := 3) C dX8_renumber_1 (by decide) ?_
  obtain ⟨o1, h2, hF⟩ := bd_s hF
  refine x_callSi (st := []) C (c_X8_isBelow h2) xm_X8_isBelow ml_X8_89 rfl rfl rfl rfl dX8_renumber_2 ⟨rfl, rfl⟩ ?_
  refine x_if_ne (tgt := 11) C dX8_renumber_5 (by decide) (fun hc => ?_) (fun hc => ?_)
  · replace hF := ifn hc hF
    refine x_aload_n C dX8_renumber_11 0 rfl ?_
    refine gf_X8_58 C 0 rfl rfl dX8_renumber_12 ?_
    refine x_iload_n C dX8_renumber_15 1 rfl ?_
    refine x_aload_n C dX8_renumber_16 0 rfl ?_
    refine gf_X8_23 C 0 rfl rfl dX8_renumber_17 ?_
    obtain ⟨o3, h4, hF⟩ := bd_s hF
    refine x_callVv (st := []) C (c_X3_arrange h4) xm_X3_arrange ml_X8_205 24 rfl rfl rfl rfl rfl rfl dX8_renumber_20 ⟨rfl, rfl⟩ ?_
    refine x_aload_n C dX8_renumber_23 0 rfl ?_
    refine gf_X8_23 C 0 rfl rfl dX8_renumber_24 ?_
    refine x_aload_n C dX8_renumber_27 0 rfl ?_
    refine gf_X8_58 C 0 rfl rfl dX8_renumber_28 ?_
    obtain ⟨o5, h6, hF⟩ := bd_s hF
    refine x_callVv (st := []) C (c_X4_renumberBy h6) xm_X4_renumberBy ml_X8_212 1 rfl rfl rfl rfl rfl rfl dX8_renumber_31 ⟨rfl, rfl⟩ ?_
    refine x_aload_n C dX8_renumber_34 0 rfl ?_
    refine gf_X8_44 C 0 rfl rfl dX8_renumber_35 ?_
    obtain ⟨o7, h8, hF⟩ := bd_s hF
    refine x_callVv (st := []) C (c_X1_forget h8) xm_X1_forget ml_X8_216 10 rfl rfl rfl rfl rfl rfl dX8_renumber_38 ⟨rfl, rfl⟩ ?_
    refine x_aload_n C dX8_renumber_41 0 rfl ?_
    refine gf_X8_23 C 0 rfl rfl dX8_renumber_42 ?_
    obtain ⟨o9, h10, hF⟩ := bd_s hF
    refine x_callVi (st := []) C (c_X4_countToLesser h10) xm_X4_countToLesser ml_X8_219 1 rfl rfl rfl rfl rfl rfl dX8_renumber_45 ⟨rfl, rfl⟩ ?_
    cases hF
    exact x_iret C E dX8_renumber_48
  · replace hF := ifp hc hF
    refine x_bipush (v := (-2)) C dX8_renumber_8 (by decide) ?_
    cases hF
    exact x_iret C E dX8_renumber_10
set_option maxHeartbeats 4000000 in
set_option maxRecDepth 100000 in
theorem w_X7_findNear_L2 {κ : xb_k} {Γ : xb_X} {q : Nat → Nat} {nn : Nat} {xro : (Nat → Int64)} {xrn : (Nat → Int64)} {xfo : (Nat → Int32)} {xva : (Nat → Int32)} {xts : Int32} {xus : (Nat → Int32)} {xnu : (Nat → Int32)} {xth : Int32} {xsp : Int32} {xpr : (Nat → Int64)} {xpn : (Nat → Int64)} {xbs : Int32} {xwr : (Nat → Int32)} {xno : (Nat → Int32)} {xki : (Nat → Int32)} {xdi : (Nat → Int32)} {xde : (Nat → Int32)} {xst : (Nat → Int32)} {xta : (Nat → Int32)} {xcb : Int32} {xcd : Int32} {xbe : (Nat → Int32)} {xli : (Nat → Int32)} {xke : (Nat → Int32)}  {fu : Nat} (C : xb_C κ Γ 3 cX7_findNear RX7 { frames := 2, cells := 0, slots := 0, locals := 46 }) : ∀ (n : Nat) (x2 : Int32) (xne : (Nat → Int64)) (o : (Nat → Int64)), F_X7_findNear_L2 fu nn xro n x2 xne = some o → xb_W κ Γ 3 0 0 42 [] [] (xw κ q nn xro xrn xfo xva xts xus xnu xth xsp xpr xpn xbs xwr xno xki xdi xde xst xta xcb xcd xbe xli xke o) → xb_W κ Γ 3 0 0 2 [(0, .ref (q 27)), (1, .ref (q 1)), (2, .int x2)] [] (xw κ q nn xro xrn xfo xva xts xus xnu xth xsp xpr xpn xbs xwr xno xki xdi xde xst xta xcb xcd xbe xli xke xne) := by
  intro n
  induction n with
  | zero =>
    intro x2 xne o hF K
    rw [F_X7_findNear_L2] at hF
    cases hF
  | succ n ih =>
    intro x2 xne o hF K
    rw [F_X7_findNear_L2] at hF
    refine x_iload_n C dX7_findNear_2 2 rfl ?_
    refine x_aload_n C dX7_findNear_3 0 rfl ?_
    refine gf_X7_9 C 27 rfl rfl dX7_findNear_4 ?_
    refine x_alen (v := nI nn) C 28 1 rfl rfl rfl dX7_findNear_7 ?_
    refine x_icmp_ge (tgt := 42) C dX7_findNear_8 (by decide) (fun hc => ?_) (fun hc => ?_)
    · replace hF := ifp hc hF
      cases hF
      exact x_sub [] rfl K
    · replace hF := ifn hc hF
      refine x_aload_n C dX7_findNear_11 0 rfl ?_
      refine gf_X7_9 C 27 rfl rfl dX7_findNear_12 ?_
      refine x_iload_n C dX7_findNear_15 2 rfl ?_
      refine x_aload_n C dX7_findNear_16 1 rfl ?_
      refine x_iload_n C dX7_findNear_17 2 rfl ?_
      obtain ⟨o1, h2, hF⟩ := bd_s hF
      refine x_callVl (st := [.int x2, .ref (q 28)]) C (c_X4_rowOf h2) xm_X4_rowOf ml_X7_41 1 rfl rfl rfl rfl rfl rfl dX7_findNear_18 ⟨rfl, rfl⟩ ?_
      refine x_aload_n C dX7_findNear_21 1 rfl ?_
      refine x_iload_n C dX7_findNear_22 2 rfl ?_
      obtain ⟨o3, h4, hF⟩ := bd_s hF
      refine x_callVl (st := [.long o1, .int x2, .ref (q 28)]) C (c_X4_columnOf h4) xm_X4_columnOf ml_X7_44 1 rfl rfl rfl rfl rfl rfl dX7_findNear_23 ⟨rfl, rfl⟩ ?_
      refine x_lor C dX7_findNear_26 ?_
      refine x_lconst (v := 1) C dX7_findNear_27 (by decide) ?_
      refine x_iload_n C dX7_findNear_28 2 rfl ?_
      refine x_lshl C dX7_findNear_29 ?_
      refine x_ldc2 C dX7_findNear_30 kl_X7_23 ?_
      refine x_lxor C dX7_findNear_33 ?_
      refine x_land C dX7_findNear_34 ?_
      obtain ⟨b5, hF⟩ := ck_s hF
      refine x_last (ws2 := (xw κ q nn xro xrn xfo xva xts xus xnu xth xsp xpr xpn xbs xwr xno xki xdi xde xst xta xcb xcd xbe xli xke (vp_updL xne x2.toNatClampNeg ((o1 ||| o3) &&& (((1 : Int64) <<< (x2.toInt64 &&& 63)) ^^^ (-1 : Int64)))))) C 28 rfl b5 dX7_findNear_35 rfl ?_
      refine x_iinc (v := x2 + 1) (lv2 := [(2, .int (x2 + 1)), (0, .ref (q 27)), (1, .ref (q 1))]) C dX7_findNear_36 2 rfl rfl (by decide) rfl ?_
      refine x_goto (tgt := 2) C dX7_findNear_39 (by decide) ?_
      exact x_sub [1, 2, 0] rfl (ih _ _ _ hF K)
set_option maxHeartbeats 4000000 in
set_option maxRecDepth 100000 in
theorem c_X7_findNear {κ : xb_k} {q : Nat → Nat} {nn : Nat} {xro : (Nat → Int64)} {xrn : (Nat → Int64)} {xfo : (Nat → Int32)} {xva : (Nat → Int32)} {xts : Int32} {xus : (Nat → Int32)} {xnu : (Nat → Int32)} {xth : Int32} {xsp : Int32} {xpr : (Nat → Int64)} {xpn : (Nat → Int64)} {xbs : Int32} {xwr : (Nat → Int32)} {xno : (Nat → Int32)} {xki : (Nat → Int32)} {xdi : (Nat → Int32)} {xde : (Nat → Int32)} {xst : (Nat → Int32)} {xta : (Nat → Int32)} {xcb : Int32} {xcd : Int32} {xbe : (Nat → Int32)} {xli : (Nat → Int32)} {xke : (Nat → Int32)} {xne : (Nat → Int64)}  {fu : Nat} {o : (Nat → Int64)} (hF : F_X7_findNear fu nn xro xne = some o) : Met κ.1 yX7_findNear [Cond.code yX7_findNear cX7_findNear 3 none] { frames := 2, cells := 0, slots := 0, locals := 46 } (xb_P κ [.ref (q 27), .ref (q 1)] (xw κ q nn xro xrn xfo xva xts xus xnu xth xsp xpr xpn xbs xwr xno xki xdi xde xst xta xcb xcd xbe xli xke xne)) (xb_Qv κ (xw κ q nn xro xrn xfo xva xts xus xnu xth xsp xpr xpn xbs xwr xno xki xdi xde xst xta xcb xcd xbe xli xke o)) 0 0 κ.2.2.1 := by
  refine x_enter (own := RX7) (lv0 := [(0, .ref (q 27)), (1, .ref (q 1))]) (by decide) rfl rfl rfl (fun Γ C E => ?_)
  unfold F_X7_findNear at hF
  refine x_iconst (v := 0) C dX7_findNear_0 (by decide) ?_
  refine x_istore_n (lv2 := [(2, .int (0 : Int32)), (0, .ref (q 27)), (1, .ref (q 1))]) C dX7_findNear_1 rfl (by decide) rfl ?_
  obtain ⟨o6, h7, hF⟩ := bd_s hF
  refine x_sub [1, 2, 0] rfl (w_X7_findNear_L2 C fu _ _ _ h7 ?_)
  cases hF
  exact x_vret C E dX7_findNear_42
set_option maxHeartbeats 4000000 in
set_option maxRecDepth 100000 in
theorem w_X7_countThrees_L23 {κ : xb_k} {Γ : xb_X} {q : Nat → Nat} {nn : Nat} {xro : (Nat → Int64)} {xrn : (Nat → Int64)} {xfo : (Nat → Int32)} {xva : (Nat → Int32)} {xts : Int32} {xus : (Nat → Int32)} {xnu : (Nat → Int32)} {xth : Int32} {xsp : Int32} {xpr : (Nat → Int64)} {xpn : (Nat → Int64)} {xbs : Int32} {xwr : (Nat → Int32)} {xno : (Nat → Int32)} {xki : (Nat → Int32)} {xdi : (Nat → Int32)} {xde : (Nat → Int32)} {xst : (Nat → Int32)} {xta : (Nat → Int32)} {xcb : Int32} {xcd : Int32} {xbe : (Nat → Int32)} {xli : (Nat → Int32)} {xke : (Nat → Int32)} {xne : (Nat → Int64)} {x3 : Int32}  (C : xb_C κ Γ 7 cX7_countThrees RX7 { frames := 3, cells := 0, slots := 0, locals := 68 }) : ∀ (n : Nat) (x2 : Int32) (x4 : Int32) (o : Int32), F_X7_countThrees_L23 nn x3 xne n x2 x4 = some o → xb_W κ Γ 7 0 0 86 [(0, .ref (q 27)), (2, .int o), (3, .int x3)] [] (xw κ q nn xro xrn xfo xva xts xus xnu xth xsp xpr xpn xbs xwr xno xki xdi xde xst xta xcb xcd xbe xli xke xne) → xb_W κ Γ 7 0 0 23 [(0, .ref (q 27)), (2, .int x2), (3, .int x3), (4, .int x4)] [] (xw κ q nn xro xrn xfo xva xts xus xnu xth xsp xpr xpn xbs xwr xno xki xdi xde xst xta xcb xcd xbe xli xke xne) := by
  intro n
  induction n with
  | zero =>
    intro x2 x4 o hF K
    rw [F_X7_countThrees_L23] at hF
    cases hF
  | succ n ih =>
    intro x2 x4 o hF K
    rw [F_X7_countThrees_L23] at hF
    refine x_iload C dX7_countThrees_23 3 rfl ?_
    refine x_aload_n C dX7_countThrees_25 0 rfl ?_
    refine gf_X7_9 C 27 rfl rfl dX7_countThrees_26 ?_
    refine x_alen (v := nI nn) C 28 1 rfl rfl rfl dX7_countThrees_29 ?_
    refine x_icmp_ge (tgt := 86) C dX7_countThrees_30 (by decide) (fun hc => ?_) (fun hc => ?_)
    · replace hF := ifp hc hF
      cases hF
      exact x_sub [0, 1, 2] rfl K
    · replace hF := ifn hc hF
      refine x_aload_n C dX7_countThrees_33 0 rfl ?_
      refine gf_X7_9 C 27 rfl rfl dX7_countThrees_34 ?_
      refine x_iload_n C dX7_countThrees_37 2 rfl ?_
      obtain ⟨b3, hF⟩ := ck_s hF
      refine x_lald C 28 rfl b3 dX7_countThrees_38 ?_
      refine x_iload C dX7_countThrees_39 3 rfl ?_
      obtain ⟨o4, h5, hF⟩ := bd_s hF
      refine x_callNi (st := []) C (c_X8_isIn h5) xm_X8_isIn mn_X7_19 rfl rfl rfl rfl dX7_countThrees_41 ⟨rfl, rfl⟩ ?_
      refine x_if_eq (tgt := 80) C dX7_countThrees_44 (by decide) (fun hc => ?_) (fun hc => ?_)
      · replace hF := ifp hc hF
        refine x_iinc (v := x4 + 1) (lv2 := [(4, .int (x4 + 1)), (0, .ref (q 27)), (2, .int x2), (3, .int x3)]) C dX7_countThrees_80 3 rfl rfl (by decide) rfl ?_
        refine x_goto (tgt := 23) C dX7_countThrees_83 (by decide) ?_
        exact x_sub [1, 2, 3, 0] rfl (ih _ _ _ hF K)
      · replace hF := ifn hc hF
        refine x_ldc2 C dX7_countThrees_47 kl_X7_23 ?_
        refine x_iload C dX7_countThrees_50 3 rfl ?_
        refine x_lshl C dX7_countThrees_52 ?_
        refine x_iconst (v := 1) C dX7_countThrees_53 (by decide) ?_
        refine x_lshl C dX7_countThrees_54 ?_
        obtain ⟨v6, e7, hF⟩ := nm_s hF
        refine x_topl e7 ?_
        refine x_lstore (lv2 := [(5, .long v6), (0, .ref (q 27)), (2, .int x2), (3, .int x3), (4, .int x4)]) C dX7_countThrees_55 (by decide) rfl ?_
        refine x_iload_n C dX7_countThrees_57 2 rfl ?_
        refine x_aload_n C dX7_countThrees_58 1 rfl ?_
        refine gf_X7_9 C 27 rfl rfl dX7_countThrees_59 ?_
        refine x_iload_n C dX7_countThrees_62 3 rfl ?_
        obtain ⟨b8, hF⟩ := ck_s hF
        refine x_lald C 28 rfl b8 dX7_countThrees_63 ?_
        refine x_aload_n C dX7_countThrees_64 1 rfl ?_
        refine gf_X7_9 C 27 rfl rfl dX7_countThrees_65 ?_
        refine x_iload C dX7_countThrees_68 4 rfl ?_
        obtain ⟨b9, hF⟩ := ck_s hF
        refine x_lald C 28 rfl b9 dX7_countThrees_70 ?_
        refine x_land C dX7_countThrees_71 ?_
        refine x_lload C dX7_countThrees_72 0 rfl ?_
        refine x_land C dX7_countThrees_74 ?_
        obtain ⟨o10, h11, hF⟩ := bd_s hF
        refine x_callSi (st := [.int x2]) C (c_J13_bitCount_95d88 h11) xm_J13_bitCount_95d88 ml_X7_25 rfl rfl rfl rfl dX7_countThrees_75 ⟨rfl, rfl⟩ ?_
        refine x_iadd C dX7_countThrees_78 ?_
        refine x_istore_n (lv2 := [(2, .int (x2 + o10)), (5, .long v6), (0, .ref (q 27)), (3, .int x3), (4, .int x4)]) C dX7_countThrees_79 rfl (by decide) rfl ?_
        refine x_iinc (v := x4 + 1) (lv2 := [(4, .int (x4 + 1)), (2, .int (x2 + o10)), (5, .long v6), (0, .ref (q 27)), (3, .int x3)]) C dX7_countThrees_80 4 rfl rfl (by decide) rfl ?_
        refine x_goto (tgt := 23) C dX7_countThrees_83 (by decide) ?_
        exact x_sub [3, 1, 4, 0] rfl (ih _ _ _ hF K)
set_option maxHeartbeats 4000000 in
set_option maxRecDepth 100000 in
theorem w_X7_countThrees_L9 {κ : xb_k} {Γ : xb_X} {q : Nat → Nat} {nn : Nat} {xro : (Nat → Int64)} {xrn : (Nat → Int64)} {xfo : (Nat → Int32)} {xva : (Nat → Int32)} {xts : Int32} {xus : (Nat → Int32)} {xnu : (Nat → Int32)} {xth : Int32} {xsp : Int32} {xpr : (Nat → Int64)} {xpn : (Nat → Int64)} {xbs : Int32} {xwr : (Nat → Int32)} {xno : (Nat → Int32)} {xki : (Nat → Int32)} {xdi : (Nat → Int32)} {xde : (Nat → Int32)} {xst : (Nat → Int32)} {xta : (Nat → Int32)} {xcb : Int32} {xcd : Int32} {xbe : (Nat → Int32)} {xli : (Nat → Int32)} {xke : (Nat → Int32)} {xne : (Nat → Int64)}  {fu : Nat} (C : xb_C κ Γ 7 cX7_countThrees RX7 { frames := 3, cells := 0, slots := 0, locals := 68 }) : ∀ (n : Nat) (x2 : Int32) (x3 : Int32) (o : Int32), F_X7_countThrees_L9 fu nn xne n x2 x3 = some o → xb_W κ Γ 7 0 0 92 [(2, .int o)] [] (xw κ q nn xro xrn xfo xva xts xus xnu xth xsp xpr xpn xbs xwr xno xki xdi xde xst xta xcb xcd xbe xli xke xne) → xb_W κ Γ 7 0 0 9 [(0, .ref (q 27)), (2, .int x2), (3, .int x3)] [] (xw κ q nn xro xrn xfo xva xts xus xnu xth xsp xpr xpn xbs xwr xno xki xdi xde xst xta xcb xcd xbe xli xke xne) := by
  intro n
  induction n with
  | zero =>
    intro x2 x3 o hF K
    rw [F_X7_countThrees_L9] at hF
    cases hF
  | succ n ih =>
    intro x2 x3 o hF K
    rw [F_X7_countThrees_L9] at hF
    refine x_iload_n C dX7_countThrees_9 2 rfl ?_
    refine x_aload_n C dX7_countThrees_10 0 rfl ?_
    refine gf_X7_9 C 27 rfl rfl dX7_countThrees_11 ?_
    refine x_alen (v := nI nn) C 28 1 rfl rfl rfl dX7_countThrees_14 ?_
    refine x_icmp_ge (tgt := 92) C dX7_countThrees_15 (by decide) (fun hc => ?_) (fun hc => ?_)
    · replace hF := ifp hc hF
      cases hF
      exact x_sub [1] rfl K
    · replace hF := ifn hc hF
      refine x_iload_n C dX7_countThrees_18 2 rfl ?_
      refine x_iconst (v := 1) C dX7_countThrees_19 (by decide) ?_
      refine x_iadd C dX7_countThrees_20 ?_
      refine x_istore (lv2 := [(4, .int (x3 + (1 : Int32))), (0, .ref (q 27)), (2, .int x2), (3, .int x3)]) C dX7_countThrees_21 (by decide) rfl ?_
      obtain ⟨o3, h4, hF⟩ := bd_s hF
      refine x_sub [1, 2, 3, 0] rfl (w_X7_countThrees_L23 C fu _ _ _ h4 ?_)
      refine x_iinc (v := x3 + 1) (lv2 := [(3, .int (x3 + 1)), (0, .ref (q 27)), (2, .int o3)]) C dX7_countThrees_86 2 rfl rfl (by decide) rfl ?_
      refine x_goto (tgt := 9) C dX7_countThrees_89 (by decide) ?_
      exact x_sub [1, 2, 0] rfl (ih _ _ _ hF K)
set_option maxHeartbeats 4000000 in
set_option maxRecDepth 100000 in
theorem c_X7_countThrees {κ : xb_k} {q : Nat → Nat} {nn : Nat} {xro : (Nat → Int64)} {xrn : (Nat → Int64)} {xfo : (Nat → Int32)} {xva : (Nat → Int32)} {xts : Int32} {xus : (Nat → Int32)} {xnu : (Nat → Int32)} {xth : Int32} {xsp : Int32} {xpr : (Nat → Int64)} {xpn : (Nat → Int64)} {xbs : Int32} {xwr : (Nat → Int32)} {xno : (Nat → Int32)} {xki : (Nat → Int32)} {xdi : (Nat → Int32)} {xde : (Nat → Int32)} {xst : (Nat → Int32)} {xta : (Nat → Int32)} {xcb : Int32} {xcd : Int32} {xbe : (Nat → Int32)} {xli : (Nat → Int32)} {xke : (Nat → Int32)} {xne : (Nat → Int64)}  {fu : Nat} {o : Int32 × (Nat → Int64)} (hF : F_X7_countThrees fu nn xro xne = some o) : Met κ.1 yX7_countThrees [Cond.code yX7_countThrees cX7_countThrees 7 (some .int)] { frames := 3, cells := 0, slots := 0, locals := 68 } (xb_P κ [.ref (q 27), .ref (q 1)] (xw κ q nn xro xrn xfo xva xts xus xnu xth xsp xpr xpn xbs xwr xno xki xdi xde xst xta xcb xcd xbe xli xke xne)) (xb_Qi κ o.1 (xw κ q nn xro xrn xfo xva xts xus xnu xth xsp xpr xpn xbs xwr xno xki xdi xde xst xta xcb xcd xbe xli xke o.2)) 0 0 κ.2.2.1 := by
  refine x_enter (own := RX7) (lv0 := [(0, .ref (q 27)), (1, .ref (q 1))]) (by decide) rfl rfl rfl (fun Γ C E => ?_)
  unfold F_X7_countThrees at hF
  refine x_aload_n C dX7_countThrees_0 0 rfl ?_
  refine x_aload_n C dX7_countThrees_1 1 rfl ?_
  obtain ⟨o1, h2, hF⟩ := bd_s hF
  refine x_callVv (st := []) C (c_X7_findNear h2) xm_X7_findNear ml_X7_15 27 rfl rfl rfl rfl rfl rfl dX7_countThrees_2 ⟨rfl, rfl⟩ ?_
  refine x_iconst (v := 0) C dX7_countThrees_5 (by decide) ?_
  refine x_istore_n (lv2 := [(2, .int (0 : Int32)), (0, .ref (q 27)), (1, .ref (q 1))]) C dX7_countThrees_6 rfl (by decide) rfl ?_
  refine x_iconst (v := 0) C dX7_countThrees_7 (by decide) ?_
  refine x_istore_n (lv2 := [(3, .int (0 : Int32)), (2, .int (0 : Int32)), (0, .ref (q 27)), (1, .ref (q 1))]) C dX7_countThrees_8 rfl (by decide) rfl ?_
  obtain ⟨o5, h6, hF⟩ := bd_s hF
  refine x_sub [2, 1, 0] rfl (w_X7_countThrees_L9 C fu _ _ _ h6 ?_)
  refine x_iload_n C dX7_countThrees_92 0 rfl ?_
  cases hF
  exact x_iret C E dX7_countThrees_93

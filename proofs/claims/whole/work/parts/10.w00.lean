set_option maxHeartbeats 4000000 in
set_option maxRecDepth 100000 in
theorem c_X9_in {κ : xb_k} {ws : va_W}  {x0 : Int64} {x2 : Int64} {x4 : Int64}  {o : Int32} (hF : F_X9_in x0 x2 x4 = some o) : Met κ.1 yX9_in [Cond.code yX9_in cX9_in 6 (some .boolean)] { frames := 0, cells := 0, slots := 0, locals := 0 } (xb_P κ [.long x0, .long x2, .long x4] ws) (xb_Qi κ o ws) 0 0 κ.2.2.1 := by
  refine x_enter (own := RX9) (lv0 := [(0, .long x0), (2, .long x2), (4, .long x4)]) (by decide) rfl rfl rfl (fun Γ C E => ?_)
  unfold F_X9_in at hF
  refine x_lload_n C dX9_in_0 0 rfl ?_
  refine x_lload_n C dX9_in_1 1 rfl ?_
  refine x_lcmp C dX9_in_2 ?_
  refine x_if_lt (tgt := 17) C dX9_in_3 (by decide) (fun hc => ?_) (fun hc => ?_)
  · replace hF := ifp hc hF
    refine x_iconst (v := 0) C dX9_in_17 (by decide) ?_
    cases hF
    exact x_zret C E rfl dX9_in_18
  · replace hF := ifn hc hF
    refine x_lload_n C dX9_in_6 0 rfl ?_
    refine x_lload C dX9_in_7 2 rfl ?_
    refine x_lcmp C dX9_in_9 ?_
    refine x_if_gt (tgt := 17) C dX9_in_10 (by decide) (fun hc => ?_) (fun hc => ?_)
    · replace hF := ifp hc hF
      refine x_iconst (v := 0) C dX9_in_17 (by decide) ?_
      cases hF
      exact x_zret C E rfl dX9_in_18
    · replace hF := ifn hc hF
      refine x_iconst (v := 1) C dX9_in_13 (by decide) ?_
      refine x_goto (tgt := 18) C dX9_in_14 (by decide) ?_
      cases hF
      exact x_zret C E rfl dX9_in_18
set_option maxHeartbeats 4000000 in
set_option maxRecDepth 100000 in
theorem c_X9_isThing {κ : xb_k} {q : Nat → Nat} {mth : Int32} {mn : Int32} {mib : Int32} {mpa : Int32} {mwi : Int32} {mch : Int32} {mst : Int32} {msz : Int32} {mns : Int32} {mld : Int32} {mps : Int32} {mbb : Int32} {mno : (Nat → Int32)} {mpk : (Nat → Int32)} {mtu : (Nat → Int32)} {mfo : (Nat → Int32)} {mbi : (Nat → Int32)} {mwr : (Nat → Int32)} {mus : (Nat → Int32)} {mnu : (Nat → Int32)} {mli : (Nat → Int32)} {mot : (Nat → Int32)} {mbl : (Nat → Int32)} {mki : (Nat → Int32)} {mfr : (Nat → Int32)} {mde : (Nat → Int32)} {mbe : (Nat → Int32)} {mow : (Nat → Int32)} {mco : (Nat → Int32)} {mpt : (Nat → Int32)} {mle : (Nat → Int32)} {mpl : (Nat → Int32)} {mit : (Nat → Int32)} {mro : (Nat → Int32)} {maw : (Nat → Int32)} {x1 : Int32}  {o : Int32} (hF : F_X9_isThing x1 mn = some o) : Met κ.1 yX9_isThing [Cond.code yX9_isThing cX9_isThing 2 (some .boolean)] { frames := 1, cells := 0, slots := 0, locals := 25 } (xb_P κ [.ref (q 0), .int x1] (mw κ q mth mn mib mpa mwi mch mst msz mns mld mps mbb mno mpk mtu mfo mbi mwr mus mnu mli mot mbl mki mfr mde mbe mow mco mpt mle mpl mit mro maw)) (xb_Qi κ o (mw κ q mth mn mib mpa mwi mch mst msz mns mld mps mbb mno mpk mtu mfo mbi mwr mus mnu mli mot mbl mki mfr mde mbe mow mco mpt mle mpl mit mro maw)) 0 0 κ.2.2.1 := by
  refine x_enter (own := RX9) (lv0 := [(0, .ref (q 0)), (1, .int x1)]) (by decide) rfl rfl rfl (fun Γ C E => ?_)
  unfold F_X9_isThing at hF
  refine x_iload_n C dX9_isThing_0 1 rfl ?_
  refine x_i2l C dX9_isThing_1 ?_
  refine x_lconst (v := 0) C dX9_isThing_2 (by decide) ?_
  refine x_aload_n C dX9_isThing_3 0 rfl ?_
  refine gf_X9_93 C 0 rfl rfl dX9_isThing_4 ?_
  refine x_iconst (v := 1) C dX9_isThing_7 (by decide) ?_
  refine x_isub C dX9_isThing_8 ?_
  refine x_i2l C dX9_isThing_9 ?_
  obtain ⟨o1, h2, hF⟩ := bd_s hF
  refine x_callSi (st := []) C (c_X9_in h2) xm_X9_in ml_X9_96 rfl rfl rfl rfl dX9_isThing_10 ⟨rfl, rfl⟩ ?_
  obtain ⟨b3, hF⟩ := ck_s hF
  cases hF
  exact x_zret C E (zb_nar b3) dX9_isThing_13
set_option maxHeartbeats 4000000 in
set_option maxRecDepth 100000 in
theorem c_X9_turn {κ : xb_k} {q : Nat → Nat} {mth : Int32} {mn : Int32} {mib : Int32} {mpa : Int32} {mwi : Int32} {mch : Int32} {mst : Int32} {msz : Int32} {mns : Int32} {mld : Int32} {mps : Int32} {mbb : Int32} {mno : (Nat → Int32)} {mpk : (Nat → Int32)} {mtu : (Nat → Int32)} {mfo : (Nat → Int32)} {mbi : (Nat → Int32)} {mwr : (Nat → Int32)} {mus : (Nat → Int32)} {mnu : (Nat → Int32)} {mli : (Nat → Int32)} {mot : (Nat → Int32)} {mbl : (Nat → Int32)} {mki : (Nat → Int32)} {mfr : (Nat → Int32)} {mde : (Nat → Int32)} {mbe : (Nat → Int32)} {mow : (Nat → Int32)} {mco : (Nat → Int32)} {mpt : (Nat → Int32)} {mle : (Nat → Int32)} {mpl : (Nat → Int32)} {mit : (Nat → Int32)} {mro : (Nat → Int32)} {maw : (Nat → Int32)} {x1 : Int32} {x2 : Int32} {x3 : Int32}  {o : Int32 × Int32 × (Nat → Int32)} (hF : F_X9_turn x1 x2 x3 mno mib mpa mpk = some o) : Met κ.1 yX9_turn [Cond.code yX9_turn cX9_turn 6 (some .int)] { frames := 0, cells := 0, slots := 0, locals := 0 } (xb_P κ [.ref (q 0), .int x1, .int x2, .int x3] (mw κ q mth mn mib mpa mwi mch mst msz mns mld mps mbb mno mpk mtu mfo mbi mwr mus mnu mli mot mbl mki mfr mde mbe mow mco mpt mle mpl mit mro maw)) (xb_Qi κ o.1 (mw κ q mth mn mib o.2.1 mwi mch mst msz mns mld mps mbb o.2.2 mpk mtu mfo mbi mwr mus mnu mli mot mbl mki mfr mde mbe mow mco mpt mle mpl mit mro maw)) 0 0 κ.2.2.1 := by
  refine x_enter (own := RX9) (lv0 := [(0, .ref (q 0)), (1, .int x1), (2, .int x2), (3, .int x3)]) (by decide) rfl rfl rfl (fun Γ C E => ?_)
  unfold F_X9_turn at hF
  refine x_bipush (v := 48) C dX9_turn_0 (by decide) ?_
  refine x_iload_n C dX9_turn_2 1 rfl ?_
  refine x_imul C dX9_turn_3 ?_
  refine x_iload_n C dX9_turn_4 2 rfl ?_
  refine x_iadd C dX9_turn_5 ?_
  refine x_istore (lv2 := [(4, .int (((48 : Int32) * x1) + x2)), (0, .ref (q 0)), (1, .int x1), (2, .int x2), (3, .int x3)]) C dX9_turn_6 (by decide) rfl ?_
  refine x_aload_n C dX9_turn_8 1 rfl ?_
  refine gf_X9_13 C 0 rfl rfl dX9_turn_9 ?_
  refine x_iload C dX9_turn_12 0 rfl ?_
  obtain ⟨b1, hF⟩ := ck_s hF
  refine x_zald C 1 rfl b1 dX9_turn_14 ?_
  refine x_iload_n C dX9_turn_15 4 rfl ?_
  refine x_icmp_ne (tgt := 21) C dX9_turn_16 (by decide) (fun hc => ?_) (fun hc => ?_)
  · replace hF := ifn hc hF
    refine x_aload_n C dX9_turn_21 1 rfl ?_
    refine gf_X9_100 C 0 rfl rfl dX9_turn_22 ?_
    refine x_if_eq (tgt := 43) C dX9_turn_25 (by decide) (fun hc => ?_) (fun hc => ?_)
    · replace hF := ifp hc hF
      refine x_iconst (v := 0) C dX9_turn_43 (by decide) ?_
      refine x_istore (lv2 := [(5, .int (0 : Int32)), (4, .int (((48 : Int32) * x1) + x2)), (0, .ref (q 0)), (1, .int x1), (2, .int x2), (3, .int x3)]) C dX9_turn_44 (by decide) rfl ?_
      refine x_iload C dX9_turn_46 0 rfl ?_
      refine x_if_eq (tgt := 63) C dX9_turn_48 (by decide) (fun hc => ?_) (fun hc => ?_)
      · replace hF := ifp hc hF
        refine x_aload_n C dX9_turn_63 2 rfl ?_
        refine x_dup C dX9_turn_64 rfl ?_
        refine gf_X9_104 C 0 rfl rfl dX9_turn_65 ?_
        refine x_aload_n C dX9_turn_68 2 rfl ?_
        refine gf_X9_100 C 0 rfl rfl dX9_turn_69 ?_
        refine x_if_ne (tgt := 79) C dX9_turn_72 (by decide) (fun hc => ?_) (fun hc => ?_)
        · replace hF := ifn hc hF
          refine x_iload C dX9_turn_79 0 rfl ?_
          refine x_if_eq (tgt := 88) C dX9_turn_81 (by decide) (fun hc => ?_) (fun hc => ?_)
          · replace hF := ifp hc hF
            refine x_iconst (v := (-1)) C dX9_turn_88 (by decide) ?_
            refine x_iadd C dX9_turn_89 ?_
            refine pf_X9_104 (ws2 := (mw κ q mth mn mib (mpa + (-1 : Int32)) mwi mch mst msz mns mld mps mbb mno mpk mtu mfo mbi mwr mus mnu mli mot mbl mki mfr mde mbe mow mco mpt mle mpl mit mro maw)) C 0 rfl dX9_turn_90 rfl rfl ?_
            refine x_aload_n C dX9_turn_93 2 rfl ?_
            refine gf_X9_13 C 0 rfl rfl dX9_turn_94 ?_
            refine x_iload C dX9_turn_97 1 rfl ?_
            refine x_iload_n C dX9_turn_99 5 rfl ?_
            obtain ⟨b2, hF⟩ := ck_s hF
            refine x_zast (ws2 := (mw κ q mth mn mib (mpa + (-1 : Int32)) mwi mch mst msz mns mld mps mbb (upd mno (((48 : Int32) * x1) + x2).toNatClampNeg (vp_nar .boolean x3)) mpk mtu mfo mbi mwr mus mnu mli mot mbl mki mfr mde mbe mow mco mpt mle mpl mit mro maw)) C 1 rfl b2 dX9_turn_100 rfl ?_
            refine x_iconst (v := 1) C dX9_turn_101 (by decide) ?_
            cases hF
            exact x_iret C E dX9_turn_102
          · replace hF := ifn hc hF
            refine x_iconst (v := 1) C dX9_turn_84 (by decide) ?_
            refine x_goto (tgt := 89) C dX9_turn_85 (by decide) ?_
            refine x_iadd C dX9_turn_89 ?_
            refine pf_X9_104 (ws2 := (mw κ q mth mn mib (mpa + (1 : Int32)) mwi mch mst msz mns mld mps mbb mno mpk mtu mfo mbi mwr mus mnu mli mot mbl mki mfr mde mbe mow mco mpt mle mpl mit mro maw)) C 0 rfl dX9_turn_90 rfl rfl ?_
            refine x_aload_n C dX9_turn_93 2 rfl ?_
            refine gf_X9_13 C 0 rfl rfl dX9_turn_94 ?_
            refine x_iload C dX9_turn_97 1 rfl ?_
            refine x_iload_n C dX9_turn_99 5 rfl ?_
            obtain ⟨b3, hF⟩ := ck_s hF
            refine x_zast (ws2 := (mw κ q mth mn mib (mpa + (1 : Int32)) mwi mch mst msz mns mld mps mbb (upd mno (((48 : Int32) * x1) + x2).toNatClampNeg (vp_nar .boolean x3)) mpk mtu mfo mbi mwr mus mnu mli mot mbl mki mfr mde mbe mow mco mpt mle mpl mit mro maw)) C 1 rfl b3 dX9_turn_100 rfl ?_
            refine x_iconst (v := 1) C dX9_turn_101 (by decide) ?_
            cases hF
            exact x_iret C E dX9_turn_102
        · replace hF := ifp hc hF
          refine x_iconst (v := 0) C dX9_turn_75 (by decide) ?_
          refine x_goto (tgt := 89) C dX9_turn_76 (by decide) ?_
          refine x_iadd C dX9_turn_89 ?_
          refine pf_X9_104 (ws2 := (mw κ q mth mn mib (mpa + (0 : Int32)) mwi mch mst msz mns mld mps mbb mno mpk mtu mfo mbi mwr mus mnu mli mot mbl mki mfr mde mbe mow mco mpt mle mpl mit mro maw)) C 0 rfl dX9_turn_90 rfl rfl ?_
          refine x_aload_n C dX9_turn_93 2 rfl ?_
          refine gf_X9_13 C 0 rfl rfl dX9_turn_94 ?_
          refine x_iload C dX9_turn_97 1 rfl ?_
          refine x_iload_n C dX9_turn_99 5 rfl ?_
          obtain ⟨b4, hF⟩ := ck_s hF
          refine x_zast (ws2 := (mw κ q mth mn mib (mpa + (0 : Int32)) mwi mch mst msz mns mld mps mbb (upd mno (((48 : Int32) * x1) + x2).toNatClampNeg (vp_nar .boolean x3)) mpk mtu mfo mbi mwr mus mnu mli mot mbl mki mfr mde mbe mow mco mpt mle mpl mit mro maw)) C 1 rfl b4 dX9_turn_100 rfl ?_
          refine x_iconst (v := 1) C dX9_turn_101 (by decide) ?_
          cases hF
          exact x_iret C E dX9_turn_102
      · replace hF := ifn hc hF
        refine x_aload_n C dX9_turn_51 2 rfl ?_
        refine gf_X9_104 C 0 rfl rfl dX9_turn_52 ?_
        refine x_bipush (v := 40) C dX9_turn_55 (by decide) ?_
        refine x_icmp_ne (tgt := 63) C dX9_turn_57 (by decide) (fun hc => ?_) (fun hc => ?_)
        · replace hF := ifn hc hF
          refine x_aload_n C dX9_turn_63 2 rfl ?_
          refine x_dup C dX9_turn_64 rfl ?_
          refine gf_X9_104 C 0 rfl rfl dX9_turn_65 ?_
          refine x_aload_n C dX9_turn_68 2 rfl ?_
          refine gf_X9_100 C 0 rfl rfl dX9_turn_69 ?_
          refine x_if_ne (tgt := 79) C dX9_turn_72 (by decide) (fun hc => ?_) (fun hc => ?_)
          · replace hF := ifn hc hF
            refine x_iload C dX9_turn_79 0 rfl ?_
            refine x_if_eq (tgt := 88) C dX9_turn_81 (by decide) (fun hc => ?_) (fun hc => ?_)
            · replace hF := ifp hc hF
              refine x_iconst (v := (-1)) C dX9_turn_88 (by decide) ?_
              refine x_iadd C dX9_turn_89 ?_
              refine pf_X9_104 (ws2 := (mw κ q mth mn mib (mpa + (-1 : Int32)) mwi mch mst msz mns mld mps mbb mno mpk mtu mfo mbi mwr mus mnu mli mot mbl mki mfr mde mbe mow mco mpt mle mpl mit mro maw)) C 0 rfl dX9_turn_90 rfl rfl ?_
              refine x_aload_n C dX9_turn_93 2 rfl ?_
              refine gf_X9_13 C 0 rfl rfl dX9_turn_94 ?_
              refine x_iload C dX9_turn_97 1 rfl ?_
              refine x_iload_n C dX9_turn_99 5 rfl ?_
              obtain ⟨b5, hF⟩ := ck_s hF
              refine x_zast (ws2 := (mw κ q mth mn mib (mpa + (-1 : Int32)) mwi mch mst msz mns mld mps mbb (upd mno (((48 : Int32) * x1) + x2).toNatClampNeg (vp_nar .boolean x3)) mpk mtu mfo mbi mwr mus mnu mli mot mbl mki mfr mde mbe mow mco mpt mle mpl mit mro maw)) C 1 rfl b5 dX9_turn_100 rfl ?_
              refine x_iconst (v := 1) C dX9_turn_101 (by decide) ?_
              cases hF
              exact x_iret C E dX9_turn_102
            · replace hF := ifn hc hF
              refine x_iconst (v := 1) C dX9_turn_84 (by decide) ?_
              refine x_goto (tgt := 89) C dX9_turn_85 (by decide) ?_
              refine x_iadd C dX9_turn_89 ?_
              refine pf_X9_104 (ws2 := (mw κ q mth mn mib (mpa + (1 : Int32)) mwi mch mst msz mns mld mps mbb mno mpk mtu mfo mbi mwr mus mnu mli mot mbl mki mfr mde mbe mow mco mpt mle mpl mit mro maw)) C 0 rfl dX9_turn_90 rfl rfl ?_
              refine x_aload_n C dX9_turn_93 2 rfl ?_
              refine gf_X9_13 C 0 rfl rfl dX9_turn_94 ?_
              refine x_iload C dX9_turn_97 1 rfl ?_
              refine x_iload_n C dX9_turn_99 5 rfl ?_
              obtain ⟨b6, hF⟩ := ck_s hF
              refine x_zast (ws2 := (mw κ q mth mn mib (mpa + (1 : Int32)) mwi mch mst msz mns mld mps mbb (upd mno (((48 : Int32) * x1) + x2).toNatClampNeg (vp_nar .boolean x3)) mpk mtu mfo mbi mwr mus mnu mli mot mbl mki mfr mde mbe mow mco mpt mle mpl mit mro maw)) C 1 rfl b6 dX9_turn_100 rfl ?_
              refine x_iconst (v := 1) C dX9_turn_101 (by decide) ?_
              cases hF
              exact x_iret C E dX9_turn_102
          · replace hF := ifp hc hF
            refine x_iconst (v := 0) C dX9_turn_75 (by decide) ?_
            refine x_goto (tgt := 89) C dX9_turn_76 (by decide) ?_
            refine x_iadd C dX9_turn_89 ?_
            refine pf_X9_104 (ws2 := (mw κ q mth mn mib (mpa + (0 : Int32)) mwi mch mst msz mns mld mps mbb mno mpk mtu mfo mbi mwr mus mnu mli mot mbl mki mfr mde mbe mow mco mpt mle mpl mit mro maw)) C 0 rfl dX9_turn_90 rfl rfl ?_
            refine x_aload_n C dX9_turn_93 2 rfl ?_
            refine gf_X9_13 C 0 rfl rfl dX9_turn_94 ?_
            refine x_iload C dX9_turn_97 1 rfl ?_
            refine x_iload_n C dX9_turn_99 5 rfl ?_
            obtain ⟨b7, hF⟩ := ck_s hF
            refine x_zast (ws2 := (mw κ q mth mn mib (mpa + (0 : Int32)) mwi mch mst msz mns mld mps mbb (upd mno (((48 : Int32) * x1) + x2).toNatClampNeg (vp_nar .boolean x3)) mpk mtu mfo mbi mwr mus mnu mli mot mbl mki mfr mde mbe mow mco mpt mle mpl mit mro maw)) C 1 rfl b7 dX9_turn_100 rfl ?_
            refine x_iconst (v := 1) C dX9_turn_101 (by decide) ?_
            cases hF
            exact x_iret C E dX9_turn_102
        · replace hF := ifp hc hF
          refine x_bipush (v := (-4)) C dX9_turn_60 (by decide) ?_
          cases hF
          exact x_iret C E dX9_turn_62
    · replace hF := ifn hc hF
      refine x_aload_n C dX9_turn_28 1 rfl ?_
      refine gf_X9_17 C 0 rfl rfl dX9_turn_29 ?_
      refine x_iload C dX9_turn_32 0 rfl ?_
      obtain ⟨b8, hF⟩ := ck_s hF
      refine x_zald C 2 rfl b8 dX9_turn_34 ?_
      refine x_iload_n C dX9_turn_35 4 rfl ?_
      refine x_icmp_eq (tgt := 43) C dX9_turn_36 (by decide) (fun hc => ?_) (fun hc => ?_)
      · replace hF := ifp hc hF
        refine x_iconst (v := 0) C dX9_turn_43 (by decide) ?_
        refine x_istore (lv2 := [(5, .int (0 : Int32)), (4, .int (((48 : Int32) * x1) + x2)), (0, .ref (q 0)), (1, .int x1), (2, .int x2), (3, .int x3)]) C dX9_turn_44 (by decide) rfl ?_
        refine x_iload C dX9_turn_46 0 rfl ?_
        refine x_if_eq (tgt := 63) C dX9_turn_48 (by decide) (fun hc => ?_) (fun hc => ?_)
        · replace hF := ifp hc hF
          refine x_aload_n C dX9_turn_63 2 rfl ?_
          refine x_dup C dX9_turn_64 rfl ?_
          refine gf_X9_104 C 0 rfl rfl dX9_turn_65 ?_
          refine x_aload_n C dX9_turn_68 2 rfl ?_
          refine gf_X9_100 C 0 rfl rfl dX9_turn_69 ?_
          refine x_if_ne (tgt := 79) C dX9_turn_72 (by decide) (fun hc => ?_) (fun hc => ?_)
          · replace hF := ifn hc hF
            refine x_iload C dX9_turn_79 0 rfl ?_
            refine x_if_eq (tgt := 88) C dX9_turn_81 (by decide) (fun hc => ?_) (fun hc => ?_)
            · replace hF := ifp hc hF
              refine x_iconst (v := (-1)) C dX9_turn_88 (by decide) ?_
              refine x_iadd C dX9_turn_89 ?_
              refine pf_X9_104 (ws2 := (mw κ q mth mn mib (mpa + (-1 : Int32)) mwi mch mst msz mns mld mps mbb mno mpk mtu mfo mbi mwr mus mnu mli mot mbl mki mfr mde mbe mow mco mpt mle mpl mit mro maw)) C 0 rfl dX9_turn_90 rfl rfl ?_
              refine x_aload_n C dX9_turn_93 2 rfl ?_
              refine gf_X9_13 C 0 rfl rfl dX9_turn_94 ?_
              refine x_iload C dX9_turn_97 1 rfl ?_
              refine x_iload_n C dX9_turn_99 5 rfl ?_
              obtain ⟨b9, hF⟩ := ck_s hF
              refine x_zast (ws2 := (mw κ q mth mn mib (mpa + (-1 : Int32)) mwi mch mst msz mns mld mps mbb (upd mno (((48 : Int32) * x1) + x2).toNatClampNeg (vp_nar .boolean x3)) mpk mtu mfo mbi mwr mus mnu mli mot mbl mki mfr mde mbe mow mco mpt mle mpl mit mro maw)) C 1 rfl b9 dX9_turn_100 rfl ?_
              refine x_iconst (v := 1) C dX9_turn_101 (by decide) ?_
              cases hF
              exact x_iret C E dX9_turn_102
            · replace hF := ifn hc hF
              refine x_iconst (v := 1) C dX9_turn_84 (by decide) ?_
              refine x_goto (tgt := 89) C dX9_turn_85 (by decide) ?_
              refine x_iadd C dX9_turn_89 ?_
              refine pf_X9_104 (ws2 := (mw κ q mth mn mib (mpa + (1 : Int32)) mwi mch mst msz mns mld mps mbb mno mpk mtu mfo mbi mwr mus mnu mli mot mbl mki mfr mde mbe mow mco mpt mle mpl mit mro maw)) C 0 rfl dX9_turn_90 rfl rfl ?_
              refine x_aload_n C dX9_turn_93 2 rfl ?_
              refine gf_X9_13 C 0 rfl rfl dX9_turn_94 ?_
              refine x_iload C dX9_turn_97 1 rfl ?_
              refine x_iload_n C dX9_turn_99 5 rfl ?_
              obtain ⟨b10, hF⟩ := ck_s hF
              refine x_zast (ws2 := (mw κ q mth mn mib (mpa + (1 : Int32)) mwi mch mst msz mns mld mps mbb (upd mno (((48 : Int32) * x1) + x2).toNatClampNeg (vp_nar .boolean x3)) mpk mtu mfo mbi mwr mus mnu mli mot mbl mki mfr mde mbe mow mco mpt mle mpl mit mro maw)) C 1 rfl b10 dX9_turn_100 rfl ?_
              refine x_iconst (v := 1) C dX9_turn_101 (by decide) ?_
              cases hF
              exact x_iret C E dX9_turn_102
          · replace hF := ifp hc hF
            refine x_iconst (v := 0) C dX9_turn_75 (by decide) ?_
            refine x_goto (tgt := 89) C dX9_turn_76 (by decide) ?_
            refine x_iadd C dX9_turn_89 ?_
            refine pf_X9_104 (ws2 := (mw κ q mth mn mib (mpa + (0 : Int32)) mwi mch mst msz mns mld mps mbb mno mpk mtu mfo mbi mwr mus mnu mli mot mbl mki mfr mde mbe mow mco mpt mle mpl mit mro maw)) C 0 rfl dX9_turn_90 rfl rfl ?_
            refine x_aload_n C dX9_turn_93 2 rfl ?_
            refine gf_X9_13 C 0 rfl rfl dX9_turn_94 ?_
            refine x_iload C dX9_turn_97 1 rfl ?_
            refine x_iload_n C dX9_turn_99 5 rfl ?_
            obtain ⟨b11, hF⟩ := ck_s hF
            refine x_zast (ws2 := (mw κ q mth mn mib (mpa + (0 : Int32)) mwi mch mst msz mns mld mps mbb (upd mno (((48 : Int32) * x1) + x2).toNatClampNeg (vp_nar .boolean x3)) mpk mtu mfo mbi mwr mus mnu mli mot mbl mki mfr mde mbe mow mco mpt mle mpl mit mro maw)) C 1 rfl b11 dX9_turn_100 rfl ?_
            refine x_iconst (v := 1) C dX9_turn_101 (by decide) ?_
            cases hF
            exact x_iret C E dX9_turn_102
        · replace hF := ifn hc hF
          refine x_aload_n C dX9_turn_51 2 rfl ?_
          refine gf_X9_104 C 0 rfl rfl dX9_turn_52 ?_
          refine x_bipush (v := 40) C dX9_turn_55 (by decide) ?_
          refine x_icmp_ne (tgt := 63) C dX9_turn_57 (by decide) (fun hc => ?_) (fun hc => ?_)
          · replace hF := ifn hc hF
            refine x_aload_n C dX9_turn_63 2 rfl ?_
            refine x_dup C dX9_turn_64 rfl ?_
            refine gf_X9_104 C 0 rfl rfl dX9_turn_65 ?_
            refine x_aload_n C dX9_turn_68 2 rfl ?_
            refine gf_X9_100 C 0 rfl rfl dX9_turn_69 ?_
            refine x_if_ne (tgt := 79) C dX9_turn_72 (by decide) (fun hc => ?_) (fun hc => ?_)
            · replace hF := ifn hc hF
              refine x_iload C dX9_turn_79 0 rfl ?_
              refine x_if_eq (tgt := 88) C dX9_turn_81 (by decide) (fun hc => ?_) (fun hc => ?_)
              · replace hF := ifp hc hF
                refine x_iconst (v := (-1)) C dX9_turn_88 (by decide) ?_
                refine x_iadd C dX9_turn_89 ?_
                refine pf_X9_104 (ws2 := (mw κ q mth mn mib (mpa + (-1 : Int32)) mwi mch mst msz mns mld mps mbb mno mpk mtu mfo mbi mwr mus mnu mli mot mbl mki mfr mde mbe mow mco mpt mle mpl mit mro maw)) C 0 rfl dX9_turn_90 rfl rfl ?_
                refine x_aload_n C dX9_turn_93 2 rfl ?_
                refine gf_X9_13 C 0 rfl rfl dX9_turn_94 ?_
                refine x_iload C dX9_turn_97 1 rfl ?_
                refine x_iload_n C dX9_turn_99 5 rfl ?_
                obtain ⟨b12, hF⟩ := ck_s hF
                refine x_zast (ws2 := (mw κ q mth mn mib (mpa + (-1 : Int32)) mwi mch mst msz mns mld mps mbb (upd mno (((48 : Int32) * x1) + x2).toNatClampNeg (vp_nar .boolean x3)) mpk mtu mfo mbi mwr mus mnu mli mot mbl mki mfr mde mbe mow mco mpt mle mpl mit mro maw)) C 1 rfl b12 dX9_turn_100 rfl ?_
                refine x_iconst (v := 1) C dX9_turn_101 (by decide) ?_
                cases hF
                exact x_iret C E dX9_turn_102
              · replace hF := ifn hc hF
                refine x_iconst (v := 1) C dX9_turn_84 (by decide) ?_
                refine x_goto (tgt := 89) C dX9_turn_85 (by decide) ?_
                refine x_iadd C dX9_turn_89 ?_
                refine pf_X9_104 (ws2 := (mw κ q mth mn mib (mpa + (1 : Int32)) mwi mch mst msz mns mld mps mbb mno mpk mtu mfo mbi mwr mus mnu mli mot mbl mki mfr mde mbe mow mco mpt mle mpl mit mro maw)) C 0 rfl dX9_turn_90 rfl rfl ?_
                refine x_aload_n C dX9_turn_93 2 rfl ?_
                refine gf_X9_13 C 0 rfl rfl dX9_turn_94 ?_
                refine x_iload C dX9_turn_97 1 rfl ?_
                refine x_iload_n C dX9_turn_99 5 rfl ?_
                obtain ⟨b13, hF⟩ := ck_s hF
                refine x_zast (ws2 := (mw κ q mth mn mib (mpa + (1 : Int32)) mwi mch mst msz mns mld mps mbb (upd mno (((48 : Int32) * x1) + x2).toNatClampNeg (vp_nar .boolean x3)) mpk mtu mfo mbi mwr mus mnu mli mot mbl mki mfr mde mbe mow mco mpt mle mpl mit mro maw)) C 1 rfl b13 dX9_turn_100 rfl ?_
                refine x_iconst (v := 1) C dX9_turn_101 (by decide) ?_
                cases hF
                exact x_iret C E dX9_turn_102
            · replace hF := ifp hc hF
              refine x_iconst (v := 0) C dX9_turn_75 (by decide) ?_
              refine x_goto (tgt := 89) C dX9_turn_76 (by decide) ?_
              refine x_iadd C dX9_turn_89 ?_
              refine pf_X9_104 (ws2 := (mw κ q mth mn mib (mpa + (0 : Int32)) mwi mch mst msz mns mld mps mbb mno mpk mtu mfo mbi mwr mus mnu mli mot mbl mki mfr mde mbe mow mco mpt mle mpl mit mro maw)) C 0 rfl dX9_turn_90 rfl rfl ?_
              refine x_aload_n C dX9_turn_93 2 rfl ?_
              refine gf_X9_13 C 0 rfl rfl dX9_turn_94 ?_
              refine x_iload C dX9_turn_97 1 rfl ?_
              refine x_iload_n C dX9_turn_99 5 rfl ?_
              obtain ⟨b14, hF⟩ := ck_s hF
              refine x_zast (ws2 := (mw κ q mth mn mib (mpa + (0 : Int32)) mwi mch mst msz mns mld mps mbb (upd mno (((48 : Int32) * x1) + x2).toNatClampNeg (vp_nar .boolean x3)) mpk mtu mfo mbi mwr mus mnu mli mot mbl mki mfr mde mbe mow mco mpt mle mpl mit mro maw)) C 1 rfl b14 dX9_turn_100 rfl ?_
              refine x_iconst (v := 1) C dX9_turn_101 (by decide) ?_
              cases hF
              exact x_iret C E dX9_turn_102
          · replace hF := ifp hc hF
            refine x_bipush (v := (-4)) C dX9_turn_60 (by decide) ?_
            cases hF
            exact x_iret C E dX9_turn_62
      · replace hF := ifn hc hF
        refine x_iconst (v := 1) C dX9_turn_39 (by decide) ?_
        refine x_goto (tgt := 44) C dX9_turn_40 (by decide) ?_
        refine x_istore (lv2 := [(5, .int (1 : Int32)), (4, .int (((48 : Int32) * x1) + x2)), (0, .ref (q 0)), (1, .int x1), (2, .int x2), (3, .int x3)]) C dX9_turn_44 (by decide) rfl ?_
        refine x_iload C dX9_turn_46 0 rfl ?_
        refine x_if_eq (tgt := 63) C dX9_turn_48 (by decide) (fun hc => ?_) (fun hc => ?_)
        · replace hF := ifp hc hF
          refine x_aload_n C dX9_turn_63 2 rfl ?_
          refine x_dup C dX9_turn_64 rfl ?_
          refine gf_X9_104 C 0 rfl rfl dX9_turn_65 ?_
          refine x_aload_n C dX9_turn_68 2 rfl ?_
          refine gf_X9_100 C 0 rfl rfl dX9_turn_69 ?_
          refine x_if_ne (tgt := 79) C dX9_turn_72 (by decide) (fun hc => ?_) (fun hc => ?_)
          · replace hF := ifn hc hF
            refine x_iload C dX9_turn_79 0 rfl ?_
            refine x_if_eq (tgt := 88) C dX9_turn_81 (by decide) (fun hc => ?_) (fun hc => ?_)
            · replace hF := ifp hc hF
              refine x_iconst (v := (-1)) C dX9_turn_88 (by decide) ?_
              refine x_iadd C dX9_turn_89 ?_
              refine pf_X9_104 (ws2 := (mw κ q mth mn mib (mpa + (-1 : Int32)) mwi mch mst msz mns mld mps mbb mno mpk mtu mfo mbi mwr mus mnu mli mot mbl mki mfr mde mbe mow mco mpt mle mpl mit mro maw)) C 0 rfl dX9_turn_90 rfl rfl ?_
              refine x_aload_n C dX9_turn_93 2 rfl ?_
              refine gf_X9_13 C 0 rfl rfl dX9_turn_94 ?_
              refine x_iload C dX9_turn_97 1 rfl ?_
              refine x_iload_n C dX9_turn_99 5 rfl ?_
              obtain ⟨b15, hF⟩ := ck_s hF
              refine x_zast (ws2 := (mw κ q mth mn mib (mpa + (-1 : Int32)) mwi mch mst msz mns mld mps mbb (upd mno (((48 : Int32) * x1) + x2).toNatClampNeg (vp_nar .boolean x3)) mpk mtu mfo mbi mwr mus mnu mli mot mbl mki mfr mde mbe mow mco mpt mle mpl mit mro maw)) C 1 rfl b15 dX9_turn_100 rfl ?_
              refine x_iconst (v := 1) C dX9_turn_101 (by decide) ?_
              cases hF
              exact x_iret C E dX9_turn_102
            · replace hF := ifn hc hF
              refine x_iconst (v := 1) C dX9_turn_84 (by decide) ?_
              refine x_goto (tgt := 89) C dX9_turn_85 (by decide) ?_
              refine x_iadd C dX9_turn_89 ?_
              refine pf_X9_104 (ws2 := (mw κ q mth mn mib (mpa + (1 : Int32)) mwi mch mst msz mns mld mps mbb mno mpk mtu mfo mbi mwr mus mnu mli mot mbl mki mfr mde mbe mow mco mpt mle mpl mit mro maw)) C 0 rfl dX9_turn_90 rfl rfl ?_
              refine x_aload_n C dX9_turn_93 2 rfl ?_
              refine gf_X9_13 C 0 rfl rfl dX9_turn_94 ?_
              refine x_iload C dX9_turn_97 1 rfl ?_
              refine x_iload_n C dX9_turn_99 5 rfl ?_
              obtain ⟨b16, hF⟩ := ck_s hF
              refine x_zast (ws2 := (mw κ q mth mn mib (mpa + (1 : Int32)) mwi mch mst msz mns mld mps mbb (upd mno (((48 : Int32) * x1) + x2).toNatClampNeg (vp_nar .boolean x3)) mpk mtu mfo mbi mwr mus mnu mli mot mbl mki mfr mde mbe mow mco mpt mle mpl mit mro maw)) C 1 rfl b16 dX9_turn_100 rfl ?_
              refine x_iconst (v := 1) C dX9_turn_101 (by decide) ?_
              cases hF
              exact x_iret C E dX9_turn_102
          · replace hF := ifp hc hF
            refine x_iconst (v := 0) C dX9_turn_75 (by decide) ?_
            refine x_goto (tgt := 89) C dX9_turn_76 (by decide) ?_
            refine x_iadd C dX9_turn_89 ?_
            refine pf_X9_104 (ws2 := (mw κ q mth mn mib (mpa + (0 : Int32)) mwi mch mst msz mns mld mps mbb mno mpk mtu mfo mbi mwr mus mnu mli mot mbl mki mfr mde mbe mow mco mpt mle mpl mit mro maw)) C 0 rfl dX9_turn_90 rfl rfl ?_
            refine x_aload_n C dX9_turn_93 2 rfl ?_
            refine gf_X9_13 C 0 rfl rfl dX9_turn_94 ?_
            refine x_iload C dX9_turn_97 1 rfl ?_
            refine x_iload_n C dX9_turn_99 5 rfl ?_
            obtain ⟨b17, hF⟩ := ck_s hF
            refine x_zast (ws2 := (mw κ q mth mn mib (mpa + (0 : Int32)) mwi mch mst msz mns mld mps mbb (upd mno (((48 : Int32) * x1) + x2).toNatClampNeg (vp_nar .boolean x3)) mpk mtu mfo mbi mwr mus mnu mli mot mbl mki mfr mde mbe mow mco mpt mle mpl mit mro maw)) C 1 rfl b17 dX9_turn_100 rfl ?_
            refine x_iconst (v := 1) C dX9_turn_101 (by decide) ?_
            cases hF
            exact x_iret C E dX9_turn_102
        · replace hF := ifn hc hF
          refine x_aload_n C dX9_turn_51 2 rfl ?_
          refine gf_X9_104 C 0 rfl rfl dX9_turn_52 ?_
          refine x_bipush (v := 40) C dX9_turn_55 (by decide) ?_
          refine x_icmp_ne (tgt := 63) C dX9_turn_57 (by decide) (fun hc => ?_) (fun hc => ?_)
          · replace hF := ifn hc hF
            refine x_aload_n C dX9_turn_63 2 rfl ?_
            refine x_dup C dX9_turn_64 rfl ?_
            refine gf_X9_104 C 0 rfl rfl dX9_turn_65 ?_
            refine x_aload_n C dX9_turn_68 2 rfl ?_
            refine gf_X9_100 C 0 rfl rfl dX9_turn_69 ?_
            refine x_if_ne (tgt := 79) C dX9_turn_72 (by decide) (fun hc => ?_) (fun hc => ?_)
            · replace hF := ifn hc hF
              refine x_iload C dX9_turn_79 0 rfl ?_
              refine x_if_eq (tgt := 88) C dX9_turn_81 (by decide) (fun hc => ?_) (fun hc => ?_)
              · replace hF := ifp hc hF
                refine x_iconst (v := (-1)) C dX9_turn_88 (by decide) ?_
                refine x_iadd C dX9_turn_89 ?_
                refine pf_X9_104 (ws2 := (mw κ q mth mn mib (mpa + (-1 : Int32)) mwi mch mst msz mns mld mps mbb mno mpk mtu mfo mbi mwr mus mnu mli mot mbl mki mfr mde mbe mow mco mpt mle mpl mit mro maw)) C 0 rfl dX9_turn_90 rfl rfl ?_
                refine x_aload_n C dX9_turn_93 2 rfl ?_
                refine gf_X9_13 C 0 rfl rfl dX9_turn_94 ?_
                refine x_iload C dX9_turn_97 1 rfl ?_
                refine x_iload_n C dX9_turn_99 5 rfl ?_
                obtain ⟨b18, hF⟩ := ck_s hF
                refine x_zast (ws2 := (mw κ q mth mn mib (mpa + (-1 : Int32)) mwi mch mst msz mns mld mps mbb (upd mno (((48 : Int32) * x1) + x2).toNatClampNeg (vp_nar .boolean x3)) mpk mtu mfo mbi mwr mus mnu mli mot mbl mki mfr mde mbe mow mco mpt mle mpl mit mro maw)) C 1 rfl b18 dX9_turn_100 rfl ?_
                refine x_iconst (v := 1) C dX9_turn_101 (by decide) ?_
                cases hF
                exact x_iret C E dX9_turn_102
              · replace hF := ifn hc hF
                refine x_iconst (v := 1) C dX9_turn_84 (by decide) ?_
                refine x_goto (tgt := 89) C dX9_turn_85 (by decide) ?_
                refine x_iadd C dX9_turn_89 ?_
                refine pf_X9_104 (ws2 := (mw κ q mth mn mib (mpa + (1 : Int32)) mwi mch mst msz mns mld mps mbb mno mpk mtu mfo mbi mwr mus mnu mli mot mbl mki mfr mde mbe mow mco mpt mle mpl mit mro maw)) C 0 rfl dX9_turn_90 rfl rfl ?_
                refine x_aload_n C dX9_turn_93 2 rfl ?_
                refine gf_X9_13 C 0 rfl rfl dX9_turn_94 ?_
                refine x_iload C dX9_turn_97 1 rfl ?_
                refine x_iload_n C dX9_turn_99 5 rfl ?_
                obtain ⟨b19, hF⟩ := ck_s hF
                refine x_zast (ws2 := (mw κ q mth mn mib (mpa + (1 : Int32)) mwi mch mst msz mns mld mps mbb (upd mno (((48 : Int32) * x1) + x2).toNatClampNeg (vp_nar .boolean x3)) mpk mtu mfo mbi mwr mus mnu mli mot mbl mki mfr mde mbe mow mco mpt mle mpl mit mro maw)) C 1 rfl b19 dX9_turn_100 rfl ?_
                refine x_iconst (v := 1) C dX9_turn_101 (by decide) ?_
                cases hF
                exact x_iret C E dX9_turn_102
            · replace hF := ifp hc hF
              refine x_iconst (v := 0) C dX9_turn_75 (by decide) ?_
              refine x_goto (tgt := 89) C dX9_turn_76 (by decide) ?_
              refine x_iadd C dX9_turn_89 ?_
              refine pf_X9_104 (ws2 := (mw κ q mth mn mib (mpa + (0 : Int32)) mwi mch mst msz mns mld mps mbb mno mpk mtu mfo mbi mwr mus mnu mli mot mbl mki mfr mde mbe mow mco mpt mle mpl mit mro maw)) C 0 rfl dX9_turn_90 rfl rfl ?_
              refine x_aload_n C dX9_turn_93 2 rfl ?_
              refine gf_X9_13 C 0 rfl rfl dX9_turn_94 ?_
              refine x_iload C dX9_turn_97 1 rfl ?_
              refine x_iload_n C dX9_turn_99 5 rfl ?_
              obtain ⟨b20, hF⟩ := ck_s hF
              refine x_zast (ws2 := (mw κ q mth mn mib (mpa + (0 : Int32)) mwi mch mst msz mns mld mps mbb (upd mno (((48 : Int32) * x1) + x2).toNatClampNeg (vp_nar .boolean x3)) mpk mtu mfo mbi mwr mus mnu mli mot mbl mki mfr mde mbe mow mco mpt mle mpl mit mro maw)) C 1 rfl b20 dX9_turn_100 rfl ?_
              refine x_iconst (v := 1) C dX9_turn_101 (by decide) ?_
              cases hF
              exact x_iret C E dX9_turn_102
          · replace hF := ifp hc hF
            refine x_bipush (v := (-4)) C dX9_turn_60 (by decide) ?_
            cases hF
            exact x_iret C E dX9_turn_62
  · replace hF := ifp hc hF
    refine x_iconst (v := 0) C dX9_turn_19 (by decide) ?_
    cases hF
    exact x_iret C E dX9_turn_20
set_option maxHeartbeats 4000000 in
set_option maxRecDepth 100000 in
theorem c_X9_pair {κ : xb_k} {q : Nat → Nat} {mth : Int32} {mn : Int32} {mib : Int32} {mpa : Int32} {mwi : Int32} {mch : Int32} {mst : Int32} {msz : Int32} {mns : Int32} {mld : Int32} {mps : Int32} {mbb : Int32} {mno : (Nat → Int32)} {mpk : (Nat → Int32)} {mtu : (Nat → Int32)} {mfo : (Nat → Int32)} {mbi : (Nat → Int32)} {mwr : (Nat → Int32)} {mus : (Nat → Int32)} {mnu : (Nat → Int32)} {mli : (Nat → Int32)} {mot : (Nat → Int32)} {mbl : (Nat → Int32)} {mki : (Nat → Int32)} {mfr : (Nat → Int32)} {mde : (Nat → Int32)} {mbe : (Nat → Int32)} {mow : (Nat → Int32)} {mco : (Nat → Int32)} {mpt : (Nat → Int32)} {mle : (Nat → Int32)} {mpl : (Nat → Int32)} {mit : (Nat → Int32)} {mro : (Nat → Int32)} {maw : (Nat → Int32)} {x1 : Int32} {x2 : Int32}  {o : Int32 × Int32 × Int32 × (Nat → Int32)} (hF : F_X9_pair x1 x2 mth mn mno mib mpa mpk = some o) : Met κ.1 yX9_pair [Cond.code yX9_pair cX9_pair 3 (some .int)] { frames := 2, cells := 0, slots := 0, locals := 46 } (xb_P κ [.ref (q 0), .int x1, .int x2] (mw κ q mth mn mib mpa mwi mch mst msz mns mld mps mbb mno mpk mtu mfo mbi mwr mus mnu mli mot mbl mki mfr mde mbe mow mco mpt mle mpl mit mro maw)) (xb_Qi κ o.1 (mw κ q o.2.1 mn mib o.2.2.1 mwi mch mst msz mns mld mps mbb o.2.2.2 mpk mtu mfo mbi mwr mus mnu mli mot mbl mki mfr mde mbe mow mco mpt mle mpl mit mro maw)) 0 0 κ.2.2.1 := by
  refine x_enter (own := RX9) (lv0 := [(0, .ref (q 0)), (1, .int x1), (2, .int x2)]) (by decide) rfl rfl rfl (fun Γ C E => ?_)
  unfold F_X9_pair at hF
  refine x_aload_n C dX9_pair_0 0 rfl ?_
  refine x_iconst (v := 0) C dX9_pair_1 (by decide) ?_
  refine pf_X9_1 (ws2 := (mw κ q (0 : Int32) mn mib mpa mwi mch mst msz mns mld mps mbb mno mpk mtu mfo mbi mwr mus mnu mli mot mbl mki mfr mde mbe mow mco mpt mle mpl mit mro maw)) C 0 rfl dX9_pair_2 rfl rfl ?_
  refine x_aload_n C dX9_pair_5 0 rfl ?_
  refine x_iload_n C dX9_pair_6 1 rfl ?_
  obtain ⟨o1, h2, hF⟩ := bd_s hF
  refine x_callVi (st := []) C (c_X9_isThing h2) xm_X9_isThing ml_X9_107 0 rfl rfl rfl rfl rfl rfl dX9_pair_7 ⟨rfl, rfl⟩ ?_
  refine x_if_eq (tgt := 21) C dX9_pair_10 (by decide) (fun hc => ?_) (fun hc => ?_)
  · replace hF := ifp hc hF
    refine x_bipush (v := (-2)) C dX9_pair_21 (by decide) ?_
    refine x_goto (tgt := 33) C dX9_pair_23 (by decide) ?_
    cases hF
    exact x_iret C E dX9_pair_33
  · replace hF := ifn hc hF
    refine x_aload_n C dX9_pair_13 0 rfl ?_
    refine x_iload_n C dX9_pair_14 2 rfl ?_
    obtain ⟨o3, h4, hF⟩ := bd_s hF
    refine x_callVi (st := []) C (c_X9_isThing h4) xm_X9_isThing ml_X9_107 0 rfl rfl rfl rfl rfl rfl dX9_pair_15 ⟨rfl, rfl⟩ ?_
    refine x_if_ne (tgt := 26) C dX9_pair_18 (by decide) (fun hc => ?_) (fun hc => ?_)
    · replace hF := ifn hc hF
      refine x_aload_n C dX9_pair_26 0 rfl ?_
      refine x_iload_n C dX9_pair_27 1 rfl ?_
      refine x_iload_n C dX9_pair_28 2 rfl ?_
      refine x_iconst (v := 1) C dX9_pair_29 (by decide) ?_
      obtain ⟨o5, h6, hF⟩ := bd_s hF
      refine x_callVi (st := []) C (c_X9_turn h6) xm_X9_turn ml_X9_111 0 rfl rfl rfl rfl rfl rfl dX9_pair_30 ⟨rfl, rfl⟩ ?_
      cases hF
      exact x_iret C E dX9_pair_33
    · replace hF := ifp hc hF
      refine x_bipush (v := (-2)) C dX9_pair_21 (by decide) ?_
      refine x_goto (tgt := 33) C dX9_pair_23 (by decide) ?_
      cases hF
      exact x_iret C E dX9_pair_33
set_option maxHeartbeats 4000000 in
set_option maxRecDepth 100000 in
theorem c_X9_drop {κ : xb_k} {q : Nat → Nat} {mth : Int32} {mn : Int32} {mib : Int32} {mpa : Int32} {mwi : Int32} {mch : Int32} {mst : Int32} {msz : Int32} {mns : Int32} {mld : Int32} {mps : Int32} {mbb : Int32} {mno : (Nat → Int32)} {mpk : (Nat → Int32)} {mtu : (Nat → Int32)} {mfo : (Nat → Int32)} {mbi : (Nat → Int32)} {mwr : (Nat → Int32)} {mus : (Nat → Int32)} {mnu : (Nat → Int32)} {mli : (Nat → Int32)} {mot : (Nat → Int32)} {mbl : (Nat → Int32)} {mki : (Nat → Int32)} {mfr : (Nat → Int32)} {mde : (Nat → Int32)} {mbe : (Nat → Int32)} {mow : (Nat → Int32)} {mco : (Nat → Int32)} {mpt : (Nat → Int32)} {mle : (Nat → Int32)} {mpl : (Nat → Int32)} {mit : (Nat → Int32)} {mro : (Nat → Int32)} {maw : (Nat → Int32)} {x1 : Int32} {x2 : Int32}  {o : Int32 × Int32 × Int32 × (Nat → Int32)} (hF : F_X9_drop x1 x2 mth mn mno mib mpa mpk = some o) : Met κ.1 yX9_drop [Cond.code yX9_drop cX9_drop 3 (some .int)] { frames := 2, cells := 0, slots := 0, locals := 46 } (xb_P κ [.ref (q 0), .int x1, .int x2] (mw κ q mth mn mib mpa mwi mch mst msz mns mld mps mbb mno mpk mtu mfo mbi mwr mus mnu mli mot mbl mki mfr mde mbe mow mco mpt mle mpl mit mro maw)) (xb_Qi κ o.1 (mw κ q o.2.1 mn mib o.2.2.1 mwi mch mst msz mns mld mps mbb o.2.2.2 mpk mtu mfo mbi mwr mus mnu mli mot mbl mki mfr mde mbe mow mco mpt mle mpl mit mro maw)) 0 0 κ.2.2.1 := by
  refine x_enter (own := RX9) (lv0 := [(0, .ref (q 0)), (1, .int x1), (2, .int x2)]) (by decide) rfl rfl rfl (fun Γ C E => ?_)
  unfold F_X9_drop at hF
  refine x_aload_n C dX9_drop_0 0 rfl ?_
  refine x_iconst (v := 0) C dX9_drop_1 (by decide) ?_
  refine pf_X9_1 (ws2 := (mw κ q (0 : Int32) mn mib mpa mwi mch mst msz mns mld mps mbb mno mpk mtu mfo mbi mwr mus mnu mli mot mbl mki mfr mde mbe mow mco mpt mle mpl mit mro maw)) C 0 rfl dX9_drop_2 rfl rfl ?_
  refine x_aload_n C dX9_drop_5 0 rfl ?_
  refine x_iload_n C dX9_drop_6 1 rfl ?_
  obtain ⟨o1, h2, hF⟩ := bd_s hF
  refine x_callVi (st := []) C (c_X9_isThing h2) xm_X9_isThing ml_X9_107 0 rfl rfl rfl rfl rfl rfl dX9_drop_7 ⟨rfl, rfl⟩ ?_
  refine x_if_eq (tgt := 21) C dX9_drop_10 (by decide) (fun hc => ?_) (fun hc => ?_)
  · replace hF := ifp hc hF
    refine x_bipush (v := (-2)) C dX9_drop_21 (by decide) ?_
    refine x_goto (tgt := 33) C dX9_drop_23 (by decide) ?_
    cases hF
    exact x_iret C E dX9_drop_33
  · replace hF := ifn hc hF
    refine x_aload_n C dX9_drop_13 0 rfl ?_
    refine x_iload_n C dX9_drop_14 2 rfl ?_
    obtain ⟨o3, h4, hF⟩ := bd_s hF
    refine x_callVi (st := []) C (c_X9_isThing h4) xm_X9_isThing ml_X9_107 0 rfl rfl rfl rfl rfl rfl dX9_drop_15 ⟨rfl, rfl⟩ ?_
    refine x_if_ne (tgt := 26) C dX9_drop_18 (by decide) (fun hc => ?_) (fun hc => ?_)
    · replace hF := ifn hc hF
      refine x_aload_n C dX9_drop_26 0 rfl ?_
      refine x_iload_n C dX9_drop_27 1 rfl ?_
      refine x_iload_n C dX9_drop_28 2 rfl ?_
      refine x_iconst (v := 0) C dX9_drop_29 (by decide) ?_
      obtain ⟨o5, h6, hF⟩ := bd_s hF
      refine x_callVi (st := []) C (c_X9_turn h6) xm_X9_turn ml_X9_111 0 rfl rfl rfl rfl rfl rfl dX9_drop_30 ⟨rfl, rfl⟩ ?_
      cases hF
      exact x_iret C E dX9_drop_33
    · replace hF := ifp hc hF
      refine x_bipush (v := (-2)) C dX9_drop_21 (by decide) ?_
      refine x_goto (tgt := 33) C dX9_drop_23 (by decide) ?_
      cases hF
      exact x_iret C E dX9_drop_33
set_option maxHeartbeats 4000000 in
set_option maxRecDepth 100000 in
theorem c_X9_has {κ : xb_k} {q : Nat → Nat} {mth : Int32} {mn : Int32} {mib : Int32} {mpa : Int32} {mwi : Int32} {mch : Int32} {mst : Int32} {msz : Int32} {mns : Int32} {mld : Int32} {mps : Int32} {mbb : Int32} {mno : (Nat → Int32)} {mpk : (Nat → Int32)} {mtu : (Nat → Int32)} {mfo : (Nat → Int32)} {mbi : (Nat → Int32)} {mwr : (Nat → Int32)} {mus : (Nat → Int32)} {mnu : (Nat → Int32)} {mli : (Nat → Int32)} {mot : (Nat → Int32)} {mbl : (Nat → Int32)} {mki : (Nat → Int32)} {mfr : (Nat → Int32)} {mde : (Nat → Int32)} {mbe : (Nat → Int32)} {mow : (Nat → Int32)} {mco : (Nat → Int32)} {mpt : (Nat → Int32)} {mle : (Nat → Int32)} {mpl : (Nat → Int32)} {mit : (Nat → Int32)} {mro : (Nat → Int32)} {maw : (Nat → Int32)} {x1 : Int32} {x2 : Int32}  {o : Int32 × Int32} (hF : F_X9_has x1 x2 mth mn mno = some o) : Met κ.1 yX9_has [Cond.code yX9_has cX9_has 3 (some .int)] { frames := 2, cells := 0, slots := 0, locals := 46 } (xb_P κ [.ref (q 0), .int x1, .int x2] (mw κ q mth mn mib mpa mwi mch mst msz mns mld mps mbb mno mpk mtu mfo mbi mwr mus mnu mli mot mbl mki mfr mde mbe mow mco mpt mle mpl mit mro maw)) (xb_Qi κ o.1 (mw κ q o.2 mn mib mpa mwi mch mst msz mns mld mps mbb mno mpk mtu mfo mbi mwr mus mnu mli mot mbl mki mfr mde mbe mow mco mpt mle mpl mit mro maw)) 0 0 κ.2.2.1 := by
  refine x_enter (own := RX9) (lv0 := [(0, .ref (q 0)), (1, .int x1), (2, .int x2)]) (by decide) rfl rfl rfl (fun Γ C E => ?_)
  unfold F_X9_has at hF
  refine x_aload_n C dX9_has_0 0 rfl ?_
  refine x_iconst (v := 0) C dX9_has_1 (by decide) ?_
  refine pf_X9_1 (ws2 := (mw κ q (0 : Int32) mn mib mpa mwi mch mst msz mns mld mps mbb mno mpk mtu mfo mbi mwr mus mnu mli mot mbl mki mfr mde mbe mow mco mpt mle mpl mit mro maw)) C 0 rfl dX9_has_2 rfl rfl ?_
  refine x_aload_n C dX9_has_5 0 rfl ?_
  refine x_iload_n C dX9_has_6 1 rfl ?_
  obtain ⟨o1, h2, hF⟩ := bd_s hF
  refine x_callVi (st := []) C (c_X9_isThing h2) xm_X9_isThing ml_X9_107 0 rfl rfl rfl rfl rfl rfl dX9_has_7 ⟨rfl, rfl⟩ ?_
  refine x_if_eq (tgt := 21) C dX9_has_10 (by decide) (fun hc => ?_) (fun hc => ?_)
  · replace hF := ifp hc hF
    refine x_bipush (v := (-2)) C dX9_has_21 (by decide) ?_
    refine x_goto (tgt := 45) C dX9_has_23 (by decide) ?_
    cases hF
    exact x_iret C E dX9_has_45
  · replace hF := ifn hc hF
    refine x_aload_n C dX9_has_13 0 rfl ?_
    refine x_iload_n C dX9_has_14 2 rfl ?_
    obtain ⟨o3, h4, hF⟩ := bd_s hF
    refine x_callVi (st := []) C (c_X9_isThing h4) xm_X9_isThing ml_X9_107 0 rfl rfl rfl rfl rfl rfl dX9_has_15 ⟨rfl, rfl⟩ ?_
    refine x_if_ne (tgt := 26) C dX9_has_18 (by decide) (fun hc => ?_) (fun hc => ?_)
    · replace hF := ifn hc hF
      refine x_aload_n C dX9_has_26 0 rfl ?_
      refine gf_X9_13 C 0 rfl rfl dX9_has_27 ?_
      refine x_bipush (v := 48) C dX9_has_30 (by decide) ?_
      refine x_iload_n C dX9_has_32 1 rfl ?_
      refine x_imul C dX9_has_33 ?_
      refine x_iload_n C dX9_has_34 2 rfl ?_
      refine x_iadd C dX9_has_35 ?_
      obtain ⟨b5, hF⟩ := ck_s hF
      refine x_zald C 1 rfl b5 dX9_has_36 ?_
      refine x_if_eq (tgt := 44) C dX9_has_37 (by decide) (fun hc => ?_) (fun hc => ?_)
      · replace hF := ifp hc hF
        refine x_iconst (v := 0) C dX9_has_44 (by decide) ?_
        cases hF
        exact x_iret C E dX9_has_45
      · replace hF := ifn hc hF
        refine x_iconst (v := 1) C dX9_has_40 (by decide) ?_
        refine x_goto (tgt := 45) C dX9_has_41 (by decide) ?_
        cases hF
        exact x_iret C E dX9_has_45
    · replace hF := ifp hc hF
      refine x_bipush (v := (-2)) C dX9_has_21 (by decide) ?_
      refine x_goto (tgt := 45) C dX9_has_23 (by decide) ?_
      cases hF
      exact x_iret C E dX9_has_45
set_option maxHeartbeats 4000000 in
set_option maxRecDepth 100000 in
theorem w_X9_next_L22 {κ : xb_k} {Γ : xb_X} {q : Nat → Nat} {mth : Int32} {mn : Int32} {mib : Int32} {mpa : Int32} {mwi : Int32} {mch : Int32} {mst : Int32} {msz : Int32} {mns : Int32} {mld : Int32} {mps : Int32} {mbb : Int32} {mno : (Nat → Int32)} {mpk : (Nat → Int32)} {mtu : (Nat → Int32)} {mfo : (Nat → Int32)} {mbi : (Nat → Int32)} {mwr : (Nat → Int32)} {mus : (Nat → Int32)} {mnu : (Nat → Int32)} {mli : (Nat → Int32)} {mot : (Nat → Int32)} {mbl : (Nat → Int32)} {mki : (Nat → Int32)} {mfr : (Nat → Int32)} {mde : (Nat → Int32)} {mbe : (Nat → Int32)} {mow : (Nat → Int32)} {mco : (Nat → Int32)} {mpt : (Nat → Int32)} {mle : (Nat → Int32)} {mpl : (Nat → Int32)} {mit : (Nat → Int32)} {mro : (Nat → Int32)} {maw : (Nat → Int32)} {x1 : Int32}  (C : xb_C κ Γ 4 cX9_next RX9 { frames := 2, cells := 0, slots := 0, locals := 46 }) : ∀ (n : Nat) (x3 : Int32) (o : Int32 × Int32), F_X9_next_L22 x1 mn mno mth n x3 = some o → xb_E κ Γ (xb_Qi κ o.1 (mw κ q o.2 mn mib mpa mwi mch mst msz mns mld mps mbb mno mpk mtu mfo mbi mwr mus mnu mli mot mbl mki mfr mde mbe mow mco mpt mle mpl mit mro maw)) 0 0 (some .int) → xb_W κ Γ 4 0 0 22 [(0, .ref (q 0)), (1, .int x1), (3, .int x3)] [] (mw κ q mth mn mib mpa mwi mch mst msz mns mld mps mbb mno mpk mtu mfo mbi mwr mus mnu mli mot mbl mki mfr mde mbe mow mco mpt mle mpl mit mro maw) := by
  intro n
  induction n with
  | zero =>
    intro x3 o hF E
    rw [F_X9_next_L22] at hF
    cases hF
  | succ n ih =>
    intro x3 o hF E
    rw [F_X9_next_L22] at hF
    refine x_iload_n C dX9_next_22 2 rfl ?_
    refine x_aload_n C dX9_next_23 0 rfl ?_
    refine gf_X9_93 C 0 rfl rfl dX9_next_24 ?_
    refine x_icmp_ge (tgt := 52) C dX9_next_27 (by decide) (fun hc => ?_) (fun hc => ?_)
    · replace hF := ifp hc hF
      refine x_iconst (v := (-1)) C dX9_next_52 (by decide) ?_
      cases hF
      exact x_iret C E dX9_next_53
    · replace hF := ifn hc hF
      refine x_aload_n C dX9_next_30 0 rfl ?_
      refine gf_X9_13 C 0 rfl rfl dX9_next_31 ?_
      refine x_bipush (v := 48) C dX9_next_34 (by decide) ?_
      refine x_iload_n C dX9_next_36 1 rfl ?_
      refine x_imul C dX9_next_37 ?_
      refine x_iload_n C dX9_next_38 2 rfl ?_
      refine x_iadd C dX9_next_39 ?_
      obtain ⟨b3, hF⟩ := ck_s hF
      refine x_zald C 1 rfl b3 dX9_next_40 ?_
      refine x_if_eq (tgt := 46) C dX9_next_41 (by decide) (fun hc => ?_) (fun hc => ?_)
      · replace hF := ifp hc hF
        refine x_iinc (v := x3 + 1) (lv2 := [(3, .int (x3 + 1)), (0, .ref (q 0)), (1, .int x1)]) C dX9_next_46 2 rfl rfl (by decide) rfl ?_
        refine x_goto (tgt := 22) C dX9_next_49 (by decide) ?_
        exact x_sub [1, 2, 0] rfl (ih _ _ hF E)
      · replace hF := ifn hc hF
        refine x_iload_n C dX9_next_44 2 rfl ?_
        cases hF
        exact x_iret C E dX9_next_45
set_option maxHeartbeats 4000000 in
set_option maxRecDepth 100000 in
theorem c_X9_next {κ : xb_k} {q : Nat → Nat} {mth : Int32} {mn : Int32} {mib : Int32} {mpa : Int32} {mwi : Int32} {mch : Int32} {mst : Int32} {msz : Int32} {mns : Int32} {mld : Int32} {mps : Int32} {mbb : Int32} {mno : (Nat → Int32)} {mpk : (Nat → Int32)} {mtu : (Nat → Int32)} {mfo : (Nat → Int32)} {mbi : (Nat → Int32)} {mwr : (Nat → Int32)} {mus : (Nat → Int32)} {mnu : (Nat → Int32)} {mli : (Nat → Int32)} {mot : (Nat → Int32)} {mbl : (Nat → Int32)} {mki : (Nat → Int32)} {mfr : (Nat → Int32)} {mde : (Nat → Int32)} {mbe : (Nat → Int32)} {mow : (Nat → Int32)} {mco : (Nat → Int32)} {mpt : (Nat → Int32)} {mle : (Nat → Int32)} {mpl : (Nat → Int32)} {mit : (Nat → Int32)} {mro : (Nat → Int32)} {maw : (Nat → Int32)} {x1 : Int32} {x2 : Int32} {fu : Nat} {o : Int32 × Int32} (hF : F_X9_next fu x1 x2 mth mn mno = some o) : Met κ.1 yX9_next [Cond.code yX9_next cX9_next 4 (some .int)] { frames := 2, cells := 0, slots := 0, locals := 46 } (xb_P κ [.ref (q 0), .int x1, .int x2] (mw κ q mth mn mib mpa mwi mch mst msz mns mld mps mbb mno mpk mtu mfo mbi mwr mus mnu mli mot mbl mki mfr mde mbe mow mco mpt mle mpl mit mro maw)) (xb_Qi κ o.1 (mw κ q o.2 mn mib mpa mwi mch mst msz mns mld mps mbb mno mpk mtu mfo mbi mwr mus mnu mli mot mbl mki mfr mde mbe mow mco mpt mle mpl mit mro maw)) 0 0 κ.2.2.1 := by
  refine x_enter (own := RX9) (lv0 := [(0, .ref (q 0)), (1, .int x1), (2, .int x2)]) (by decide) rfl rfl rfl (fun Γ C E => ?_)
  unfold F_X9_next at hF
  refine x_aload_n C dX9_next_0 0 rfl ?_
  refine x_iconst (v := 0) C dX9_next_1 (by decide) ?_
  refine pf_X9_1 (ws2 := (mw κ q (0 : Int32) mn mib mpa mwi mch mst msz mns mld mps mbb mno mpk mtu mfo mbi mwr mus mnu mli mot mbl mki mfr mde mbe mow mco mpt mle mpl mit mro maw)) C 0 rfl dX9_next_2 rfl rfl ?_
  refine x_aload_n C dX9_next_5 0 rfl ?_
  refine x_iload_n C dX9_next_6 1 rfl ?_
  obtain ⟨o1, h2, hF⟩ := bd_s hF
  refine x_callVi (st := []) C (c_X9_isThing h2) xm_X9_isThing ml_X9_107 0 rfl rfl rfl rfl rfl rfl dX9_next_7 ⟨rfl, rfl⟩ ?_
  refine x_if_eq (tgt := 17) C dX9_next_10 (by decide) (fun hc => ?_) (fun hc => ?_)
  · replace hF := ifp hc hF
    refine x_bipush (v := (-2)) C dX9_next_17 (by decide) ?_
    cases hF
    exact x_iret C E dX9_next_19
  · replace hF := ifn hc hF
    refine x_iload_n C dX9_next_13 2 rfl ?_
    refine x_if_ge (tgt := 20) C dX9_next_14 (by decide) (fun hc => ?_) (fun hc => ?_)
    · replace hF := ifp hc hF
      refine x_iload_n C dX9_next_20 2 rfl ?_
      refine x_istore_n (lv2 := [(3, .int x2), (0, .ref (q 0)), (1, .int x1), (2, .int x2)]) C dX9_next_21 rfl (by decide) rfl ?_
      exact x_sub [1, 2, 0] rfl (w_X9_next_L22 C fu _ _ hF E)
    · replace hF := ifn hc hF
      refine x_bipush (v := (-2)) C dX9_next_17 (by decide) ?_
      cases hF
      exact x_iret C E dX9_next_19
set_option maxHeartbeats 4000000 in
set_option maxRecDepth 100000 in
theorem w_X9_rowSize_L4 {κ : xb_k} {Γ : xb_X} {q : Nat → Nat} {mth : Int32} {mn : Int32} {mib : Int32} {mpa : Int32} {mwi : Int32} {mch : Int32} {mst : Int32} {msz : Int32} {mns : Int32} {mld : Int32} {mps : Int32} {mbb : Int32} {mno : (Nat → Int32)} {mpk : (Nat → Int32)} {mtu : (Nat → Int32)} {mfo : (Nat → Int32)} {mbi : (Nat → Int32)} {mwr : (Nat → Int32)} {mus : (Nat → Int32)} {mnu : (Nat → Int32)} {mli : (Nat → Int32)} {mot : (Nat → Int32)} {mbl : (Nat → Int32)} {mki : (Nat → Int32)} {mfr : (Nat → Int32)} {mde : (Nat → Int32)} {mbe : (Nat → Int32)} {mow : (Nat → Int32)} {mco : (Nat → Int32)} {mpt : (Nat → Int32)} {mle : (Nat → Int32)} {mpl : (Nat → Int32)} {mit : (Nat → Int32)} {mro : (Nat → Int32)} {maw : (Nat → Int32)} {x1 : Int32}  (C : xb_C κ Γ 4 cX9_rowSize RX9 { frames := 0, cells := 0, slots := 0, locals := 0 }) : ∀ (n : Nat) (x2 : Int32) (x3 : Int32) (o : Int32), F_X9_rowSize_L4 x1 mn mno n x2 x3 = some o → xb_W κ Γ 4 0 0 40 [(2, .int o)] [] (mw κ q mth mn mib mpa mwi mch mst msz mns mld mps mbb mno mpk mtu mfo mbi mwr mus mnu mli mot mbl mki mfr mde mbe mow mco mpt mle mpl mit mro maw) → xb_W κ Γ 4 0 0 4 [(0, .ref (q 0)), (1, .int x1), (2, .int x2), (3, .int x3)] [] (mw κ q mth mn mib mpa mwi mch mst msz mns mld mps mbb mno mpk mtu mfo mbi mwr mus mnu mli mot mbl mki mfr mde mbe mow mco mpt mle mpl mit mro maw) := by
  intro n
  induction n with
  | zero =>
    intro x2 x3 o hF K
    rw [F_X9_rowSize_L4] at hF
    cases hF
  | succ n ih =>
    intro x2 x3 o hF K
    rw [F_X9_rowSize_L4] at hF
    refine x_iload_n C dX9_rowSize_4 3 rfl ?_
    refine x_aload_n C dX9_rowSize_5 0 rfl ?_
    refine gf_X9_93 C 0 rfl rfl dX9_rowSize_6 ?_
    refine x_icmp_ge (tgt := 40) C dX9_rowSize_9 (by decide) (fun hc => ?_) (fun hc => ?_)
    · replace hF := ifp hc hF
      cases hF
      exact x_sub [2] rfl K
    · replace hF := ifn hc hF
      refine x_iload_n C dX9_rowSize_12 2 rfl ?_
      refine x_aload_n C dX9_rowSize_13 0 rfl ?_
      refine gf_X9_13 C 0 rfl rfl dX9_rowSize_14 ?_
      refine x_bipush (v := 48) C dX9_rowSize_17 (by decide) ?_
      refine x_iload_n C dX9_rowSize_19 1 rfl ?_
      refine x_imul C dX9_rowSize_20 ?_
      refine x_iload_n C dX9_rowSize_21 3 rfl ?_
      refine x_iadd C dX9_rowSize_22 ?_
      obtain ⟨b1, hF⟩ := ck_s hF
      refine x_zald C 1 rfl b1 dX9_rowSize_23 ?_
      refine x_if_eq (tgt := 31) C dX9_rowSize_24 (by decide) (fun hc => ?_) (fun hc => ?_)
      · replace hF := ifp hc hF
        refine x_iconst (v := 0) C dX9_rowSize_31 (by decide) ?_
        refine x_iadd C dX9_rowSize_32 ?_
        refine x_istore_n (lv2 := [(2, .int (x2 + (0 : Int32))), (0, .ref (q 0)), (1, .int x1), (3, .int x3)]) C dX9_rowSize_33 rfl (by decide) rfl ?_
        refine x_iinc (v := x3 + 1) (lv2 := [(3, .int (x3 + 1)), (2, .int (x2 + (0 : Int32))), (0, .ref (q 0)), (1, .int x1)]) C dX9_rowSize_34 3 rfl rfl (by decide) rfl ?_
        refine x_goto (tgt := 4) C dX9_rowSize_37 (by decide) ?_
        exact x_sub [2, 3, 1, 0] rfl (ih _ _ _ hF K)
      · replace hF := ifn hc hF
        refine x_iconst (v := 1) C dX9_rowSize_27 (by decide) ?_
        refine x_goto (tgt := 32) C dX9_rowSize_28 (by decide) ?_
        refine x_iadd C dX9_rowSize_32 ?_
        refine x_istore_n (lv2 := [(2, .int (x2 + (1 : Int32))), (0, .ref (q 0)), (1, .int x1), (3, .int x3)]) C dX9_rowSize_33 rfl (by decide) rfl ?_
        refine x_iinc (v := x3 + 1) (lv2 := [(3, .int (x3 + 1)), (2, .int (x2 + (1 : Int32))), (0, .ref (q 0)), (1, .int x1)]) C dX9_rowSize_34 3 rfl rfl (by decide) rfl ?_
        refine x_goto (tgt := 4) C dX9_rowSize_37 (by decide) ?_
        exact x_sub [2, 3, 1, 0] rfl (ih _ _ _ hF K)
set_option maxHeartbeats 4000000 in
set_option maxRecDepth 100000 in
theorem c_X9_rowSize {κ : xb_k} {q : Nat → Nat} {mth : Int32} {mn : Int32} {mib : Int32} {mpa : Int32} {mwi : Int32} {mch : Int32} {mst : Int32} {msz : Int32} {mns : Int32} {mld : Int32} {mps : Int32} {mbb : Int32} {mno : (Nat → Int32)} {mpk : (Nat → Int32)} {mtu : (Nat → Int32)} {mfo : (Nat → Int32)} {mbi : (Nat → Int32)} {mwr : (Nat → Int32)} {mus : (Nat → Int32)} {mnu : (Nat → Int32)} {mli : (Nat → Int32)} {mot : (Nat → Int32)} {mbl : (Nat → Int32)} {mki : (Nat → Int32)} {mfr : (Nat → Int32)} {mde : (Nat → Int32)} {mbe : (Nat → Int32)} {mow : (Nat → Int32)} {mco : (Nat → Int32)} {mpt : (Nat → Int32)} {mle : (Nat → Int32)} {mpl : (Nat → Int32)} {mit : (Nat → Int32)} {mro : (Nat → Int32)} {maw : (Nat → Int32)} {x1 : Int32} {fu : Nat} {o : Int32} (hF : F_X9_rowSize fu x1 mn mno = some o) : Met κ.1 yX9_rowSize [Cond.code yX9_rowSize cX9_rowSize 4 (some .int)] { frames := 0, cells := 0, slots := 0, locals := 0 } (xb_P κ [.ref (q 0), .int x1] (mw κ q mth mn mib mpa mwi mch mst msz mns mld mps mbb mno mpk mtu mfo mbi mwr mus mnu mli mot mbl mki mfr mde mbe mow mco mpt mle mpl mit mro maw)) (xb_Qi κ o (mw κ q mth mn mib mpa mwi mch mst msz mns mld mps mbb mno mpk mtu mfo mbi mwr mus mnu mli mot mbl mki mfr mde mbe mow mco mpt mle mpl mit mro maw)) 0 0 κ.2.2.1 := by
  refine x_enter (own := RX9) (lv0 := [(0, .ref (q 0)), (1, .int x1)]) (by decide) rfl rfl rfl (fun Γ C E => ?_)
  unfold F_X9_rowSize at hF
  refine x_iconst (v := 0) C dX9_rowSize_0 (by decide) ?_
  refine x_istore_n (lv2 := [(2, .int (0 : Int32)), (0, .ref (q 0)), (1, .int x1)]) C dX9_rowSize_1 rfl (by decide) rfl ?_
  refine x_iconst (v := 0) C dX9_rowSize_2 (by decide) ?_
  refine x_istore_n (lv2 := [(3, .int (0 : Int32)), (2, .int (0 : Int32)), (0, .ref (q 0)), (1, .int x1)]) C dX9_rowSize_3 rfl (by decide) rfl ?_
  obtain ⟨o2, h3, hF⟩ := bd_s hF
  refine x_sub [2, 3, 1, 0] rfl (w_X9_rowSize_L4 C fu _ _ _ h3 ?_)
  refine x_iload_n C dX9_rowSize_40 0 rfl ?_
  cases hF
  exact x_iret C E dX9_rowSize_41
set_option maxHeartbeats 4000000 in
set_option maxRecDepth 100000 in
theorem w_X9_degree_L31 {κ : xb_k} {Γ : xb_X} {q : Nat → Nat} {mth : Int32} {mn : Int32} {mib : Int32} {mpa : Int32} {mwi : Int32} {mch : Int32} {mst : Int32} {msz : Int32} {mns : Int32} {mld : Int32} {mps : Int32} {mbb : Int32} {mno : (Nat → Int32)} {mpk : (Nat → Int32)} {mtu : (Nat → Int32)} {mfo : (Nat → Int32)} {mbi : (Nat → Int32)} {mwr : (Nat → Int32)} {mus : (Nat → Int32)} {mnu : (Nat → Int32)} {mli : (Nat → Int32)} {mot : (Nat → Int32)} {mbl : (Nat → Int32)} {mki : (Nat → Int32)} {mfr : (Nat → Int32)} {mde : (Nat → Int32)} {mbe : (Nat → Int32)} {mow : (Nat → Int32)} {mco : (Nat → Int32)} {mpt : (Nat → Int32)} {mle : (Nat → Int32)} {mpl : (Nat → Int32)} {mit : (Nat → Int32)} {mro : (Nat → Int32)} {maw : (Nat → Int32)} {x1 : Int32} {x2 : Int32}  (C : xb_C κ Γ 5 cX9_degree RX9 { frames := 2, cells := 0, slots := 0, locals := 46 }) : ∀ (n : Nat) (x3 : Int32) (x4 : Int32) (o : Int32), F_X9_degree_L31 x1 x2 mn mno n x3 x4 = some o → xb_W κ Γ 5 0 0 69 [(0, .ref (q 0)), (1, .int x1), (2, .int x2), (3, .int o)] [] (mw κ q mth mn mib mpa mwi mch mst msz mns mld mps mbb mno mpk mtu mfo mbi mwr mus mnu mli mot mbl mki mfr mde mbe mow mco mpt mle mpl mit mro maw) → xb_W κ Γ 5 0 0 31 [(0, .ref (q 0)), (1, .int x1), (2, .int x2), (3, .int x3), (4, .int x4)] [] (mw κ q mth mn mib mpa mwi mch mst msz mns mld mps mbb mno mpk mtu mfo mbi mwr mus mnu mli mot mbl mki mfr mde mbe mow mco mpt mle mpl mit mro maw) := by
  intro n
  induction n with
  | zero =>
    intro x3 x4 o hF K
    rw [F_X9_degree_L31] at hF
    cases hF
  | succ n ih =>
    intro x3 x4 o hF K
    rw [F_X9_degree_L31] at hF
    refine x_iload C dX9_degree_31 4 rfl ?_
    refine x_aload_n C dX9_degree_33 0 rfl ?_
    refine gf_X9_93 C 0 rfl rfl dX9_degree_34 ?_
    refine x_icmp_ge (tgt := 69) C dX9_degree_37 (by decide) (fun hc => ?_) (fun hc => ?_)
    · replace hF := ifp hc hF
      cases hF
      exact x_sub [0, 1, 2, 3] rfl K
    · replace hF := ifn hc hF
      refine x_iload_n C dX9_degree_40 3 rfl ?_
      refine x_aload_n C dX9_degree_41 0 rfl ?_
      refine gf_X9_13 C 0 rfl rfl dX9_degree_42 ?_
      refine x_bipush (v := 48) C dX9_degree_45 (by decide) ?_
      refine x_iload C dX9_degree_47 4 rfl ?_
      refine x_imul C dX9_degree_49 ?_
      refine x_iload_n C dX9_degree_50 1 rfl ?_
      refine x_iadd C dX9_degree_51 ?_
      obtain ⟨b5, hF⟩ := ck_s hF
      refine x_zald C 1 rfl b5 dX9_degree_52 ?_
      refine x_if_eq (tgt := 60) C dX9_degree_53 (by decide) (fun hc => ?_) (fun hc => ?_)
      · replace hF := ifp hc hF
        refine x_iconst (v := 0) C dX9_degree_60 (by decide) ?_
        refine x_iadd C dX9_degree_61 ?_
        refine x_istore_n (lv2 := [(3, .int (x3 + (0 : Int32))), (0, .ref (q 0)), (1, .int x1), (2, .int x2), (4, .int x4)]) C dX9_degree_62 rfl (by decide) rfl ?_
        refine x_iinc (v := x4 + 1) (lv2 := [(4, .int (x4 + 1)), (3, .int (x3 + (0 : Int32))), (0, .ref (q 0)), (1, .int x1), (2, .int x2)]) C dX9_degree_63 4 rfl rfl (by decide) rfl ?_
        refine x_goto (tgt := 31) C dX9_degree_66 (by decide) ?_
        exact x_sub [2, 3, 4, 1, 0] rfl (ih _ _ _ hF K)
      · replace hF := ifn hc hF
        refine x_iconst (v := 1) C dX9_degree_56 (by decide) ?_
        refine x_goto (tgt := 61) C dX9_degree_57 (by decide) ?_
        refine x_iadd C dX9_degree_61 ?_
        refine x_istore_n (lv2 := [(3, .int (x3 + (1 : Int32))), (0, .ref (q 0)), (1, .int x1), (2, .int x2), (4, .int x4)]) C dX9_degree_62 rfl (by decide) rfl ?_
        refine x_iinc (v := x4 + 1) (lv2 := [(4, .int (x4 + 1)), (3, .int (x3 + (1 : Int32))), (0, .ref (q 0)), (1, .int x1), (2, .int x2)]) C dX9_degree_63 4 rfl rfl (by decide) rfl ?_
        refine x_goto (tgt := 31) C dX9_degree_66 (by decide) ?_
        exact x_sub [2, 3, 4, 1, 0] rfl (ih _ _ _ hF K)
set_option maxHeartbeats 4000000 in
set_option maxRecDepth 100000 in
theorem c_X9_degree {κ : xb_k} {q : Nat → Nat} {mth : Int32} {mn : Int32} {mib : Int32} {mpa : Int32} {mwi : Int32} {mch : Int32} {mst : Int32} {msz : Int32} {mns : Int32} {mld : Int32} {mps : Int32} {mbb : Int32} {mno : (Nat → Int32)} {mpk : (Nat → Int32)} {mtu : (Nat → Int32)} {mfo : (Nat → Int32)} {mbi : (Nat → Int32)} {mwr : (Nat → Int32)} {mus : (Nat → Int32)} {mnu : (Nat → Int32)} {mli : (Nat → Int32)} {mot : (Nat → Int32)} {mbl : (Nat → Int32)} {mki : (Nat → Int32)} {mfr : (Nat → Int32)} {mde : (Nat → Int32)} {mbe : (Nat → Int32)} {mow : (Nat → Int32)} {mco : (Nat → Int32)} {mpt : (Nat → Int32)} {mle : (Nat → Int32)} {mpl : (Nat → Int32)} {mit : (Nat → Int32)} {mro : (Nat → Int32)} {maw : (Nat → Int32)} {x1 : Int32} {x2 : Int32} {fu : Nat} {o : Int32 × Int32} (hF : F_X9_degree fu x1 x2 mth mn mno = some o) : Met κ.1 yX9_degree [Cond.code yX9_degree cX9_degree 5 (some .int)] { frames := 2, cells := 0, slots := 0, locals := 46 } (xb_P κ [.ref (q 0), .int x1, .int x2] (mw κ q mth mn mib mpa mwi mch mst msz mns mld mps mbb mno mpk mtu mfo mbi mwr mus mnu mli mot mbl mki mfr mde mbe mow mco mpt mle mpl mit mro maw)) (xb_Qi κ o.1 (mw κ q o.2 mn mib mpa mwi mch mst msz mns mld mps mbb mno mpk mtu mfo mbi mwr mus mnu mli mot mbl mki mfr mde mbe mow mco mpt mle mpl mit mro maw)) 0 0 κ.2.2.1 := by
  refine x_enter (own := RX9) (lv0 := [(0, .ref (q 0)), (1, .int x1), (2, .int x2)]) (by decide) rfl rfl rfl (fun Γ C E => ?_)
  unfold F_X9_degree at hF
  refine x_aload_n C dX9_degree_0 0 rfl ?_
  refine x_iconst (v := 0) C dX9_degree_1 (by decide) ?_
  refine pf_X9_1 (ws2 := (mw κ q (0 : Int32) mn mib mpa mwi mch mst msz mns mld mps mbb mno mpk mtu mfo mbi mwr mus mnu mli mot mbl mki mfr mde mbe mow mco mpt mle mpl mit mro maw)) C 0 rfl dX9_degree_2 rfl rfl ?_
  refine x_aload_n C dX9_degree_5 0 rfl ?_
  refine x_iload_n C dX9_degree_6 1 rfl ?_
  obtain ⟨o1, h2, hF⟩ := bd_s hF
  refine x_callVi (st := []) C (c_X9_isThing h2) xm_X9_isThing ml_X9_107 0 rfl rfl rfl rfl rfl rfl dX9_degree_7 ⟨rfl, rfl⟩ ?_
  refine x_if_eq (tgt := 23) C dX9_degree_10 (by decide) (fun hc => ?_) (fun hc => ?_)
  · replace hF := ifp hc hF
    refine x_bipush (v := (-2)) C dX9_degree_23 (by decide) ?_
    cases hF
    exact x_iret C E dX9_degree_25
  · replace hF := ifn hc hF
    refine x_iload_n C dX9_degree_13 2 rfl ?_
    refine x_i2l C dX9_degree_14 ?_
    refine x_lconst (v := 0) C dX9_degree_15 (by decide) ?_
    refine x_lconst (v := 1) C dX9_degree_16 (by decide) ?_
    obtain ⟨o3, h4, hF⟩ := bd_s hF
    refine x_callSi (st := []) C (c_X9_in h4) xm_X9_in ml_X9_96 rfl rfl rfl rfl dX9_degree_17 ⟨rfl, rfl⟩ ?_
    refine x_if_ne (tgt := 26) C dX9_degree_20 (by decide) (fun hc => ?_) (fun hc => ?_)
    · replace hF := ifn hc hF
      refine x_iconst (v := 0) C dX9_degree_26 (by decide) ?_
      refine x_istore_n (lv2 := [(3, .int (0 : Int32)), (0, .ref (q 0)), (1, .int x1), (2, .int x2)]) C dX9_degree_27 rfl (by decide) rfl ?_
      refine x_iconst (v := 0) C dX9_degree_28 (by decide) ?_
      refine x_istore (lv2 := [(4, .int (0 : Int32)), (3, .int (0 : Int32)), (0, .ref (q 0)), (1, .int x1), (2, .int x2)]) C dX9_degree_29 (by decide) rfl ?_
      obtain ⟨o6, h7, hF⟩ := bd_s hF
      refine x_sub [2, 3, 4, 1, 0] rfl (w_X9_degree_L31 C fu _ _ _ h7 ?_)
      refine x_iload_n C dX9_degree_69 2 rfl ?_
      refine x_if_ne (tgt := 81) C dX9_degree_70 (by decide) (fun hc => ?_) (fun hc => ?_)
      · replace hF := ifn hc hF
        refine x_iload_n C dX9_degree_81 3 rfl ?_
        cases hF
        exact x_iret C E dX9_degree_82
      · replace hF := ifp hc hF
        refine x_aload_n C dX9_degree_73 0 rfl ?_
        refine x_iload_n C dX9_degree_74 1 rfl ?_
        obtain ⟨o8, h9, hF⟩ := bd_s hF
        refine x_callVi (st := []) C (c_X9_rowSize h9) xm_X9_rowSize ml_X9_115 0 rfl rfl rfl rfl rfl rfl dX9_degree_75 ⟨rfl, rfl⟩ ?_
        refine x_goto (tgt := 82) C dX9_degree_78 (by decide) ?_
        cases hF
        exact x_iret C E dX9_degree_82
    · replace hF := ifp hc hF
      refine x_bipush (v := (-2)) C dX9_degree_23 (by decide) ?_
      cases hF
      exact x_iret C E dX9_degree_25
set_option maxHeartbeats 4000000 in
set_option maxRecDepth 100000 in
theorem w_X9_meet_L29 {κ : xb_k} {Γ : xb_X} {q : Nat → Nat} {mth : Int32} {mn : Int32} {mib : Int32} {mpa : Int32} {mwi : Int32} {mch : Int32} {mst : Int32} {msz : Int32} {mns : Int32} {mld : Int32} {mps : Int32} {mbb : Int32} {mno : (Nat → Int32)} {mpk : (Nat → Int32)} {mtu : (Nat → Int32)} {mfo : (Nat → Int32)} {mbi : (Nat → Int32)} {mwr : (Nat → Int32)} {mus : (Nat → Int32)} {mnu : (Nat → Int32)} {mli : (Nat → Int32)} {mot : (Nat → Int32)} {mbl : (Nat → Int32)} {mki : (Nat → Int32)} {mfr : (Nat → Int32)} {mde : (Nat → Int32)} {mbe : (Nat → Int32)} {mow : (Nat → Int32)} {mco : (Nat → Int32)} {mpt : (Nat → Int32)} {mle : (Nat → Int32)} {mpl : (Nat → Int32)} {mit : (Nat → Int32)} {mro : (Nat → Int32)} {maw : (Nat → Int32)} {x1 : Int32} {x2 : Int32}  (C : xb_C κ Γ 5 cX9_meet RX9 { frames := 2, cells := 0, slots := 0, locals := 46 }) : ∀ (n : Nat) (x3 : Int32) (x4 : Int32) (o : Int32), F_X9_meet_L29 x1 x2 mn mno n x3 x4 = some o → xb_W κ Γ 5 0 0 82 [(3, .int o)] [] (mw κ q mth mn mib mpa mwi mch mst msz mns mld mps mbb mno mpk mtu mfo mbi mwr mus mnu mli mot mbl mki mfr mde mbe mow mco mpt mle mpl mit mro maw) → xb_W κ Γ 5 0 0 29 [(0, .ref (q 0)), (1, .int x1), (2, .int x2), (3, .int x3), (4, .int x4)] [] (mw κ q mth mn mib mpa mwi mch mst msz mns mld mps mbb mno mpk mtu mfo mbi mwr mus mnu mli mot mbl mki mfr mde mbe mow mco mpt mle mpl mit mro maw) := by
  intro n
  induction n with
  | zero =>
    intro x3 x4 o hF K
    rw [F_X9_meet_L29] at hF
    cases hF
  | succ n ih =>
    intro x3 x4 o hF K
    rw [F_X9_meet_L29] at hF
    refine x_iload C dX9_meet_29 4 rfl ?_
    refine x_aload_n C dX9_meet_31 0 rfl ?_
    refine gf_X9_93 C 0 rfl rfl dX9_meet_32 ?_
    refine x_icmp_ge (tgt := 82) C dX9_meet_35 (by decide) (fun hc => ?_) (fun hc => ?_)
    · replace hF := ifp hc hF
      cases hF
      exact x_sub [3] rfl K
    · replace hF := ifn hc hF
      refine x_iload_n C dX9_meet_38 3 rfl ?_
      refine x_aload_n C dX9_meet_39 0 rfl ?_
      refine gf_X9_13 C 0 rfl rfl dX9_meet_40 ?_
      refine x_bipush (v := 48) C dX9_meet_43 (by decide) ?_
      refine x_iload_n C dX9_meet_45 1 rfl ?_
      refine x_imul C dX9_meet_46 ?_
      refine x_iload C dX9_meet_47 4 rfl ?_
      refine x_iadd C dX9_meet_49 ?_
      obtain ⟨b5, hF⟩ := ck_s hF
      refine x_zald C 1 rfl b5 dX9_meet_50 ?_
      refine x_if_eq (tgt := 73) C dX9_meet_51 (by decide) (fun hc => ?_) (fun hc => ?_)
      · replace hF := ifp hc hF
        refine x_iconst (v := 0) C dX9_meet_73 (by decide) ?_
        refine x_iadd C dX9_meet_74 ?_
        refine x_istore_n (lv2 := [(3, .int (x3 + (0 : Int32))), (0, .ref (q 0)), (1, .int x1), (2, .int x2), (4, .int x4)]) C dX9_meet_75 rfl (by decide) rfl ?_
        refine x_iinc (v := x4 + 1) (lv2 := [(4, .int (x4 + 1)), (3, .int (x3 + (0 : Int32))), (0, .ref (q 0)), (1, .int x1), (2, .int x2)]) C dX9_meet_76 4 rfl rfl (by decide) rfl ?_
        refine x_goto (tgt := 29) C dX9_meet_79 (by decide) ?_
        exact x_sub [2, 3, 4, 1, 0] rfl (ih _ _ _ hF K)
      · replace hF := ifn hc hF
        refine x_aload_n C dX9_meet_54 0 rfl ?_
        refine gf_X9_13 C 0 rfl rfl dX9_meet_55 ?_
        refine x_bipush (v := 48) C dX9_meet_58 (by decide) ?_
        refine x_iload_n C dX9_meet_60 2 rfl ?_
        refine x_imul C dX9_meet_61 ?_
        refine x_iload C dX9_meet_62 4 rfl ?_
        refine x_iadd C dX9_meet_64 ?_
        obtain ⟨b6, hF⟩ := ck_s hF
        refine x_zald C 1 rfl b6 dX9_meet_65 ?_
        refine x_if_eq (tgt := 73) C dX9_meet_66 (by decide) (fun hc => ?_) (fun hc => ?_)
        · replace hF := ifp hc hF
          refine x_iconst (v := 0) C dX9_meet_73 (by decide) ?_
          refine x_iadd C dX9_meet_74 ?_
          refine x_istore_n (lv2 := [(3, .int (x3 + (0 : Int32))), (0, .ref (q 0)), (1, .int x1), (2, .int x2), (4, .int x4)]) C dX9_meet_75 rfl (by decide) rfl ?_
          refine x_iinc (v := x4 + 1) (lv2 := [(4, .int (x4 + 1)), (3, .int (x3 + (0 : Int32))), (0, .ref (q 0)), (1, .int x1), (2, .int x2)]) C dX9_meet_76 4 rfl rfl (by decide) rfl ?_
          refine x_goto (tgt := 29) C dX9_meet_79 (by decide) ?_
          exact x_sub [2, 3, 4, 1, 0] rfl (ih _ _ _ hF K)
        · replace hF := ifn hc hF
          refine x_iconst (v := 1) C dX9_meet_69 (by decide) ?_
          refine x_goto (tgt := 74) C dX9_meet_70 (by decide) ?_
          refine x_iadd C dX9_meet_74 ?_
          refine x_istore_n (lv2 := [(3, .int (x3 + (1 : Int32))), (0, .ref (q 0)), (1, .int x1), (2, .int x2), (4, .int x4)]) C dX9_meet_75 rfl (by decide) rfl ?_
          refine x_iinc (v := x4 + 1) (lv2 := [(4, .int (x4 + 1)), (3, .int (x3 + (1 : Int32))), (0, .ref (q 0)), (1, .int x1), (2, .int x2)]) C dX9_meet_76 4 rfl rfl (by decide) rfl ?_
          refine x_goto (tgt := 29) C dX9_meet_79 (by decide) ?_
          exact x_sub [2, 3, 4, 1, 0] rfl (ih _ _ _ hF K)
set_option maxHeartbeats 4000000 in
set_option maxRecDepth 100000 in
theorem c_X9_meet {κ : xb_k} {q : Nat → Nat} {mth : Int32} {mn : Int32} {mib : Int32} {mpa : Int32} {mwi : Int32} {mch : Int32} {mst : Int32} {msz : Int32} {mns : Int32} {mld : Int32} {mps : Int32} {mbb : Int32} {mno : (Nat → Int32)} {mpk : (Nat → Int32)} {mtu : (Nat → Int32)} {mfo : (Nat → Int32)} {mbi : (Nat → Int32)} {mwr : (Nat → Int32)} {mus : (Nat → Int32)} {mnu : (Nat → Int32)} {mli : (Nat → Int32)} {mot : (Nat → Int32)} {mbl : (Nat → Int32)} {mki : (Nat → Int32)} {mfr : (Nat → Int32)} {mde : (Nat → Int32)} {mbe : (Nat → Int32)} {mow : (Nat → Int32)} {mco : (Nat → Int32)} {mpt : (Nat → Int32)} {mle : (Nat → Int32)} {mpl : (Nat → Int32)} {mit : (Nat → Int32)} {mro : (Nat → Int32)} {maw : (Nat → Int32)} {x1 : Int32} {x2 : Int32} {fu : Nat} {o : Int32 × Int32} (hF : F_X9_meet fu x1 x2 mth mn mno = some o) : Met κ.1 yX9_meet [Cond.code yX9_meet cX9_meet 5 (some .int)] { frames := 2, cells := 0, slots := 0, locals := 46 } (xb_P κ [.ref (q 0), .int x1, .int x2] (mw κ q mth mn mib mpa mwi mch mst msz mns mld mps mbb mno mpk mtu mfo mbi mwr mus mnu mli mot mbl mki mfr mde mbe mow mco mpt mle mpl mit mro maw)) (xb_Qi κ o.1 (mw κ q o.2 mn mib mpa mwi mch mst msz mns mld mps mbb mno mpk mtu mfo mbi mwr mus mnu mli mot mbl mki mfr mde mbe mow mco mpt mle mpl mit mro maw)) 0 0 κ.2.2.1 := by
  refine x_enter (own := RX9) (lv0 := [(0, .ref (q 0)), (1, .int x1), (2, .int x2)]) (by decide) rfl rfl rfl (fun Γ C E => ?_)
  unfold F_X9_meet at hF
  refine x_aload_n C dX9_meet_0 0 rfl ?_
  refine x_iconst (v := 0) C dX9_meet_1 (by decide) ?_
  refine pf_X9_1 (ws2 := (mw κ q (0 : Int32) mn mib mpa mwi mch mst msz mns mld mps mbb mno mpk mtu mfo mbi mwr mus mnu mli mot mbl mki mfr mde mbe mow mco mpt mle mpl mit mro maw)) C 0 rfl dX9_meet_2 rfl rfl ?_
  refine x_aload_n C dX9_meet_5 0 rfl ?_
  refine x_iload_n C dX9_meet_6 1 rfl ?_
  obtain ⟨o1, h2, hF⟩ := bd_s hF
  refine x_callVi (st := []) C (c_X9_isThing h2) xm_X9_isThing ml_X9_107 0 rfl rfl rfl rfl rfl rfl dX9_meet_7 ⟨rfl, rfl⟩ ?_
  refine x_if_eq (tgt := 21) C dX9_meet_10 (by decide) (fun hc => ?_) (fun hc => ?_)
  · replace hF := ifp hc hF
    refine x_bipush (v := (-2)) C dX9_meet_21 (by decide) ?_
    cases hF
    exact x_iret C E dX9_meet_23
  · replace hF := ifn hc hF
    refine x_aload_n C dX9_meet_13 0 rfl ?_
    refine x_iload_n C dX9_meet_14 2 rfl ?_
    obtain ⟨o3, h4, hF⟩ := bd_s hF
    refine x_callVi (st := []) C (c_X9_isThing h4) xm_X9_isThing ml_X9_107 0 rfl rfl rfl rfl rfl rfl dX9_meet_15 ⟨rfl, rfl⟩ ?_
    refine x_if_ne (tgt := 24) C dX9_meet_18 (by decide) (fun hc => ?_) (fun hc => ?_)
    · replace hF := ifn hc hF
      refine x_iconst (v := 0) C dX9_meet_24 (by decide) ?_
      refine x_istore_n (lv2 := [(3, .int (0 : Int32)), (0, .ref (q 0)), (1, .int x1), (2, .int x2)]) C dX9_meet_25 rfl (by decide) rfl ?_
      refine x_iconst (v := 0) C dX9_meet_26 (by decide) ?_
      refine x_istore (lv2 := [(4, .int (0 : Int32)), (3, .int (0 : Int32)), (0, .ref (q 0)), (1, .int x1), (2, .int x2)]) C dX9_meet_27 (by decide) rfl ?_
      obtain ⟨o7, h8, hF⟩ := bd_s hF
      refine x_sub [2, 3, 4, 1, 0] rfl (w_X9_meet_L29 C fu _ _ _ h8 ?_)
      refine x_iload_n C dX9_meet_82 0 rfl ?_
      cases hF
      exact x_iret C E dX9_meet_83
    · replace hF := ifp hc hF
      refine x_bipush (v := (-2)) C dX9_meet_21 (by decide) ?_
      cases hF
      exact x_iret C E dX9_meet_23
set_option maxHeartbeats 4000000 in
set_option maxRecDepth 100000 in
theorem w_X9_back_L21 {κ : xb_k} {Γ : xb_X} {q : Nat → Nat} {mth : Int32} {mn : Int32} {mib : Int32} {mpa : Int32} {mwi : Int32} {mch : Int32} {mst : Int32} {msz : Int32} {mns : Int32} {mld : Int32} {mps : Int32} {mbb : Int32} {mno : (Nat → Int32)} {mpk : (Nat → Int32)} {mtu : (Nat → Int32)} {mfo : (Nat → Int32)} {mbi : (Nat → Int32)} {mwr : (Nat → Int32)} {mus : (Nat → Int32)} {mnu : (Nat → Int32)} {mli : (Nat → Int32)} {mot : (Nat → Int32)} {mbl : (Nat → Int32)} {mki : (Nat → Int32)} {mfr : (Nat → Int32)} {mde : (Nat → Int32)} {mbe : (Nat → Int32)} {mow : (Nat → Int32)} {mco : (Nat → Int32)} {mpt : (Nat → Int32)} {mle : (Nat → Int32)} {mpl : (Nat → Int32)} {mit : (Nat → Int32)} {mro : (Nat → Int32)} {maw : (Nat → Int32)} {x1 : Int32}  (C : xb_C κ Γ 5 cX9_back RX9 { frames := 2, cells := 0, slots := 0, locals := 46 }) : ∀ (n : Nat) (x3 : Int32) (x4 : Int32) (o : Int32 × Int32), F_X9_back_L21 x1 mn mno mth n x3 x4 = some o → xb_E κ Γ (xb_Qi κ o.1 (mw κ q o.2 mn mib mpa mwi mch mst msz mns mld mps mbb mno mpk mtu mfo mbi mwr mus mnu mli mot mbl mki mfr mde mbe mow mco mpt mle mpl mit mro maw)) 0 0 (some .int) → xb_W κ Γ 5 0 0 21 [(0, .ref (q 0)), (1, .int x1), (3, .int x3), (4, .int x4)] [] (mw κ q mth mn mib mpa mwi mch mst msz mns mld mps mbb mno mpk mtu mfo mbi mwr mus mnu mli mot mbl mki mfr mde mbe mow mco mpt mle mpl mit mro maw) := by
  intro n
  induction n with
  | zero =>
    intro x3 x4 o hF E
    rw [F_X9_back_L21] at hF
    cases hF
  | succ n ih =>
    intro x3 x4 o hF E
    rw [F_X9_back_L21] at hF
    refine x_iload C dX9_back_21 3 rfl ?_
    refine x_aload_n C dX9_back_23 0 rfl ?_
    refine gf_X9_93 C 0 rfl rfl dX9_back_24 ?_
    refine x_icmp_ge (tgt := 61) C dX9_back_27 (by decide) (fun hc => ?_) (fun hc => ?_)
    · replace hF := ifp hc hF
      refine x_iconst (v := (-1)) C dX9_back_61 (by decide) ?_
      cases hF
      exact x_iret C E dX9_back_62
    · replace hF := ifn hc hF
      refine x_aload_n C dX9_back_30 0 rfl ?_
      refine gf_X9_13 C 0 rfl rfl dX9_back_31 ?_
      refine x_bipush (v := 48) C dX9_back_34 (by decide) ?_
      refine x_iload C dX9_back_36 3 rfl ?_
      refine x_imul C dX9_back_38 ?_
      refine x_iload_n C dX9_back_39 1 rfl ?_
      refine x_iadd C dX9_back_40 ?_
      obtain ⟨b3, hF⟩ := ck_s hF
      refine x_zald C 1 rfl b3 dX9_back_41 ?_
      refine x_if_eq (tgt := 55) C dX9_back_42 (by decide) (fun hc => ?_) (fun hc => ?_)
      · replace hF := ifp hc hF
        refine x_iinc (v := x4 + 1) (lv2 := [(4, .int (x4 + 1)), (0, .ref (q 0)), (1, .int x1), (3, .int x3)]) C dX9_back_55 3 rfl rfl (by decide) rfl ?_
        refine x_goto (tgt := 21) C dX9_back_58 (by decide) ?_
        exact x_sub [1, 2, 3, 0] rfl (ih _ _ _ hF E)
      · replace hF := ifn hc hF
        refine x_iload_n C dX9_back_45 2 rfl ?_
        refine x_if_ne (tgt := 52) C dX9_back_46 (by decide) (fun hc => ?_) (fun hc => ?_)
        · replace hF := ifn hc hF
          refine x_iinc (v := x3 + (-1)) (lv2 := [(3, .int (x3 + (-1))), (0, .ref (q 0)), (1, .int x1), (4, .int x4)]) C dX9_back_52 2 rfl rfl (by decide) rfl ?_
          refine x_iinc (v := x4 + 1) (lv2 := [(4, .int (x4 + 1)), (3, .int (x3 + (-1))), (0, .ref (q 0)), (1, .int x1)]) C dX9_back_55 3 rfl rfl (by decide) rfl ?_
          refine x_goto (tgt := 21) C dX9_back_58 (by decide) ?_
          exact x_sub [2, 3, 1, 0] rfl (ih _ _ _ hF E)
        · replace hF := ifp hc hF
          refine x_iload C dX9_back_49 3 rfl ?_
          cases hF
          exact x_iret C E dX9_back_51
set_option maxHeartbeats 4000000 in
set_option maxRecDepth 100000 in
theorem c_X9_back {κ : xb_k} {q : Nat → Nat} {mth : Int32} {mn : Int32} {mib : Int32} {mpa : Int32} {mwi : Int32} {mch : Int32} {mst : Int32} {msz : Int32} {mns : Int32} {mld : Int32} {mps : Int32} {mbb : Int32} {mno : (Nat → Int32)} {mpk : (Nat → Int32)} {mtu : (Nat → Int32)} {mfo : (Nat → Int32)} {mbi : (Nat → Int32)} {mwr : (Nat → Int32)} {mus : (Nat → Int32)} {mnu : (Nat → Int32)} {mli : (Nat → Int32)} {mot : (Nat → Int32)} {mbl : (Nat → Int32)} {mki : (Nat → Int32)} {mfr : (Nat → Int32)} {mde : (Nat → Int32)} {mbe : (Nat → Int32)} {mow : (Nat → Int32)} {mco : (Nat → Int32)} {mpt : (Nat → Int32)} {mle : (Nat → Int32)} {mpl : (Nat → Int32)} {mit : (Nat → Int32)} {mro : (Nat → Int32)} {maw : (Nat → Int32)} {x1 : Int32} {x2 : Int32} {fu : Nat} {o : Int32 × Int32} (hF : F_X9_back fu x1 x2 mth mn mno = some o) : Met κ.1 yX9_back [Cond.code yX9_back cX9_back 5 (some .int)] { frames := 2, cells := 0, slots := 0, locals := 46 } (xb_P κ [.ref (q 0), .int x1, .int x2] (mw κ q mth mn mib mpa mwi mch mst msz mns mld mps mbb mno mpk mtu mfo mbi mwr mus mnu mli mot mbl mki mfr mde mbe mow mco mpt mle mpl mit mro maw)) (xb_Qi κ o.1 (mw κ q o.2 mn mib mpa mwi mch mst msz mns mld mps mbb mno mpk mtu mfo mbi mwr mus mnu mli mot mbl mki mfr mde mbe mow mco mpt mle mpl mit mro maw)) 0 0 κ.2.2.1 := by
  refine x_enter (own := RX9) (lv0 := [(0, .ref (q 0)), (1, .int x1), (2, .int x2)]) (by decide) rfl rfl rfl (fun Γ C E => ?_)
  unfold F_X9_back at hF
  refine x_aload_n C dX9_back_0 0 rfl ?_
  refine x_iconst (v := 0) C dX9_back_1 (by decide) ?_
  refine pf_X9_1 (ws2 := (mw κ q (0 : Int32) mn mib mpa mwi mch mst msz mns mld mps mbb mno mpk mtu mfo mbi mwr mus mnu mli mot mbl mki mfr mde mbe mow mco mpt mle mpl mit mro maw)) C 0 rfl dX9_back_2 rfl rfl ?_
  refine x_aload_n C dX9_back_5 0 rfl ?_
  refine x_iload_n C dX9_back_6 1 rfl ?_
  obtain ⟨o1, h2, hF⟩ := bd_s hF
  refine x_callVi (st := []) C (c_X9_isThing h2) xm_X9_isThing ml_X9_107 0 rfl rfl rfl rfl rfl rfl dX9_back_7 ⟨rfl, rfl⟩ ?_
  refine x_if_ne (tgt := 16) C dX9_back_10 (by decide) (fun hc => ?_) (fun hc => ?_)
  · replace hF := ifn hc hF
    refine x_iload_n C dX9_back_16 2 rfl ?_
    refine x_istore_n (lv2 := [(3, .int x2), (0, .ref (q 0)), (1, .int x1), (2, .int x2)]) C dX9_back_17 rfl (by decide) rfl ?_
    refine x_iconst (v := 0) C dX9_back_18 (by decide) ?_
    refine x_istore (lv2 := [(4, .int (0 : Int32)), (3, .int x2), (0, .ref (q 0)), (1, .int x1), (2, .int x2)]) C dX9_back_19 (by decide) rfl ?_
    exact x_sub [2, 3, 1, 0] rfl (w_X9_back_L21 C fu _ _ _ hF E)
  · replace hF := ifp hc hF
    refine x_bipush (v := (-2)) C dX9_back_13 (by decide) ?_
    cases hF
    exact x_iret C E dX9_back_15
set_option maxHeartbeats 4000000 in
set_option maxRecDepth 100000 in
theorem c_X9_form {κ : xb_k} {q : Nat → Nat} {mth : Int32} {mn : Int32} {mib : Int32} {mpa : Int32} {mwi : Int32} {mch : Int32} {mst : Int32} {msz : Int32} {mns : Int32} {mld : Int32} {mps : Int32} {mbb : Int32} {mno : (Nat → Int32)} {mpk : (Nat → Int32)} {mtu : (Nat → Int32)} {mfo : (Nat → Int32)} {mbi : (Nat → Int32)} {mwr : (Nat → Int32)} {mus : (Nat → Int32)} {mnu : (Nat → Int32)} {mli : (Nat → Int32)} {mot : (Nat → Int32)} {mbl : (Nat → Int32)} {mki : (Nat → Int32)} {mfr : (Nat → Int32)} {mde : (Nat → Int32)} {mbe : (Nat → Int32)} {mow : (Nat → Int32)} {mco : (Nat → Int32)} {mpt : (Nat → Int32)} {mle : (Nat → Int32)} {mpl : (Nat → Int32)} {mit : (Nat → Int32)} {mro : (Nat → Int32)} {maw : (Nat → Int32)} {x1 : Int32} {x2 : Int32}  {o : Int32 × Int32 × (Nat → Int32)} (hF : F_X9_form x1 x2 mth mfo = some o) : Met κ.1 yX9_form [Cond.code yX9_form cX9_form 4 (some .int)] { frames := 1, cells := 0, slots := 0, locals := 25 } (xb_P κ [.ref (q 0), .int x1, .int x2] (mw κ q mth mn mib mpa mwi mch mst msz mns mld mps mbb mno mpk mtu mfo mbi mwr mus mnu mli mot mbl mki mfr mde mbe mow mco mpt mle mpl mit mro maw)) (xb_Qi κ o.1 (mw κ q o.2.1 mn mib mpa mwi mch mst msz mns mld mps mbb mno mpk mtu o.2.2 mbi mwr mus mnu mli mot mbl mki mfr mde mbe mow mco mpt mle mpl mit mro maw)) 0 0 κ.2.2.1 := by
  refine x_enter (own := RX9) (lv0 := [(0, .ref (q 0)), (1, .int x1), (2, .int x2)]) (by decide) rfl rfl rfl (fun Γ C E => ?_)
  unfold F_X9_form at hF
  refine x_aload_n C dX9_form_0 0 rfl ?_
  refine x_iconst (v := 0) C dX9_form_1 (by decide) ?_
  refine pf_X9_1 (ws2 := (mw κ q (0 : Int32) mn mib mpa mwi mch mst msz mns mld mps mbb mno mpk mtu mfo mbi mwr mus mnu mli mot mbl mki mfr mde mbe mow mco mpt mle mpl mit mro maw)) C 0 rfl dX9_form_2 rfl rfl ?_
  refine x_iload_n C dX9_form_5 1 rfl ?_
  refine x_i2l C dX9_form_6 ?_
  refine x_lconst (v := 0) C dX9_form_7 (by decide) ?_
  refine x_ldc2 C dX9_form_8 kl_X9_183 ?_
  obtain ⟨o1, h2, hF⟩ := bd_s hF
  refine x_callSi (st := []) C (c_X9_in h2) xm_X9_in ml_X9_96 rfl rfl rfl rfl dX9_form_11 ⟨rfl, rfl⟩ ?_
  refine x_if_eq (tgt := 29) C dX9_form_14 (by decide) (fun hc => ?_) (fun hc => ?_)
  · replace hF := ifp hc hF
    refine x_bipush (v := (-2)) C dX9_form_29 (by decide) ?_
    cases hF
    exact x_iret C E dX9_form_31
  · replace hF := ifn hc hF
    refine x_iload_n C dX9_form_17 2 rfl ?_
    refine x_i2l C dX9_form_18 ?_
    refine x_lconst (v := 0) C dX9_form_19 (by decide) ?_
    refine x_ldc2 C dX9_form_20 kl_X9_185 ?_
    obtain ⟨o3, h4, hF⟩ := bd_s hF
    refine x_callSi (st := []) C (c_X9_in h4) xm_X9_in ml_X9_96 rfl rfl rfl rfl dX9_form_23 ⟨rfl, rfl⟩ ?_
    refine x_if_ne (tgt := 32) C dX9_form_26 (by decide) (fun hc => ?_) (fun hc => ?_)
    · replace hF := ifn hc hF
      refine x_aload_n C dX9_form_32 0 rfl ?_
      refine gf_X9_23 C 0 rfl rfl dX9_form_33 ?_
      refine x_iload_n C dX9_form_36 1 rfl ?_
      obtain ⟨b5, hF⟩ := ck_s hF
      refine x_iald C 4 rfl b5 dX9_form_37 ?_
      refine x_istore_n (lv2 := [(3, .int (mfo x1.toNatClampNeg)), (0, .ref (q 0)), (1, .int x1), (2, .int x2)]) C dX9_form_38 rfl (by decide) rfl ?_
      refine x_aload_n C dX9_form_39 1 rfl ?_
      refine gf_X9_23 C 0 rfl rfl dX9_form_40 ?_
      refine x_iload_n C dX9_form_43 2 rfl ?_
      refine x_iload_n C dX9_form_44 3 rfl ?_
      obtain ⟨b6, hF⟩ := ck_s hF
      refine x_iast (ws2 := (mw κ q (0 : Int32) mn mib mpa mwi mch mst msz mns mld mps mbb mno mpk mtu (upd mfo x1.toNatClampNeg x2) mbi mwr mus mnu mli mot mbl mki mfr mde mbe mow mco mpt mle mpl mit mro maw)) C 4 rfl b6 dX9_form_45 rfl ?_
      refine x_iload_n C dX9_form_46 0 rfl ?_
      cases hF
      exact x_iret C E dX9_form_47
    · replace hF := ifp hc hF
      refine x_bipush (v := (-2)) C dX9_form_29 (by decide) ?_
      cases hF
      exact x_iret C E dX9_form_31
set_option maxHeartbeats 4000000 in
set_option maxRecDepth 100000 in
theorem c_X9_setting {κ : xb_k} {q : Nat → Nat} {mth : Int32} {mn : Int32} {mib : Int32} {mpa : Int32} {mwi : Int32} {mch : Int32} {mst : Int32} {msz : Int32} {mns : Int32} {mld : Int32} {mps : Int32} {mbb : Int32} {mno : (Nat → Int32)} {mpk : (Nat → Int32)} {mtu : (Nat → Int32)} {mfo : (Nat → Int32)} {mbi : (Nat → Int32)} {mwr : (Nat → Int32)} {mus : (Nat → Int32)} {mnu : (Nat → Int32)} {mli : (Nat → Int32)} {mot : (Nat → Int32)} {mbl : (Nat → Int32)} {mki : (Nat → Int32)} {mfr : (Nat → Int32)} {mde : (Nat → Int32)} {mbe : (Nat → Int32)} {mow : (Nat → Int32)} {mco : (Nat → Int32)} {mpt : (Nat → Int32)} {mle : (Nat → Int32)} {mpl : (Nat → Int32)} {mit : (Nat → Int32)} {mro : (Nat → Int32)} {maw : (Nat → Int32)} {x1 : Int32} {x2 : Int32}  {o : Int32 × Int32 × Int32 × Int32 × Int32} (hF : F_X9_setting x1 x2 mth mst mch mwi = some o) : Met κ.1 yX9_setting [Cond.code yX9_setting cX9_setting 4 (some .int)] { frames := 1, cells := 0, slots := 0, locals := 25 } (xb_P κ [.ref (q 0), .int x1, .int x2] (mw κ q mth mn mib mpa mwi mch mst msz mns mld mps mbb mno mpk mtu mfo mbi mwr mus mnu mli mot mbl mki mfr mde mbe mow mco mpt mle mpl mit mro maw)) (xb_Qi κ o.1 (mw κ q o.2.1 mn mib mpa o.2.2.2.2 o.2.2.2.1 o.2.2.1 msz mns mld mps mbb mno mpk mtu mfo mbi mwr mus mnu mli mot mbl mki mfr mde mbe mow mco mpt mle mpl mit mro maw)) 0 0 κ.2.2.1 := by
  refine x_enter (own := RX9) (lv0 := [(0, .ref (q 0)), (1, .int x1), (2, .int x2)]) (by decide) rfl rfl rfl (fun Γ C E => ?_)
  unfold F_X9_setting at hF
  refine x_aload_n C dX9_setting_0 0 rfl ?_
  refine x_iconst (v := 0) C dX9_setting_1 (by decide) ?_
  refine pf_X9_1 (ws2 := (mw κ q (0 : Int32) mn mib mpa mwi mch mst msz mns mld mps mbb mno mpk mtu mfo mbi mwr mus mnu mli mot mbl mki mfr mde mbe mow mco mpt mle mpl mit mro maw)) C 0 rfl dX9_setting_2 rfl rfl ?_
  refine x_iload_n C dX9_setting_5 1 rfl ?_
  refine x_if_ne (tgt := 33) C dX9_setting_6 (by decide) (fun hc => ?_) (fun hc => ?_)
  · replace hF := ifn hc hF
    refine x_iload_n C dX9_setting_33 1 rfl ?_
    refine x_iconst (v := 1) C dX9_setting_34 (by decide) ?_
    refine x_icmp_ne (tgt := 62) C dX9_setting_35 (by decide) (fun hc => ?_) (fun hc => ?_)
    · replace hF := ifn hc hF
      refine x_iload_n C dX9_setting_62 1 rfl ?_
      refine x_iconst (v := 2) C dX9_setting_63 (by decide) ?_
      refine x_icmp_ne (tgt := 91) C dX9_setting_64 (by decide) (fun hc => ?_) (fun hc => ?_)
      · replace hF := ifn hc hF
        refine x_bipush (v := (-2)) C dX9_setting_91 (by decide) ?_
        cases hF
        exact x_iret C E dX9_setting_93
      · replace hF := ifp hc hF
        refine x_iload_n C dX9_setting_67 2 rfl ?_
        refine x_i2l C dX9_setting_68 ?_
        refine x_lconst (v := 1) C dX9_setting_69 (by decide) ?_
        refine x_ldc2 C dX9_setting_70 kl_X9_185 ?_
        obtain ⟨o1, h2, hF⟩ := bd_s hF
        refine x_callSi (st := []) C (c_X9_in h2) xm_X9_in ml_X9_96 rfl rfl rfl rfl dX9_setting_73 ⟨rfl, rfl⟩ ?_
        refine x_if_eq (tgt := 91) C dX9_setting_76 (by decide) (fun hc => ?_) (fun hc => ?_)
        · replace hF := ifp hc hF
          refine x_bipush (v := (-2)) C dX9_setting_91 (by decide) ?_
          cases hF
          exact x_iret C E dX9_setting_93
        · replace hF := ifn hc hF
          refine x_aload_n C dX9_setting_79 0 rfl ?_
          refine gf_X9_33 C 0 rfl rfl dX9_setting_80 ?_
          refine x_istore_n (lv2 := [(3, .int mst), (0, .ref (q 0)), (1, .int x1), (2, .int x2)]) C dX9_setting_83 rfl (by decide) rfl ?_
          refine x_aload_n C dX9_setting_84 1 rfl ?_
          refine x_iload_n C dX9_setting_85 3 rfl ?_
          refine pf_X9_33 (ws2 := (mw κ q (0 : Int32) mn mib mpa mwi mch x2 msz mns mld mps mbb mno mpk mtu mfo mbi mwr mus mnu mli mot mbl mki mfr mde mbe mow mco mpt mle mpl mit mro maw)) C 0 rfl dX9_setting_86 rfl rfl ?_
          refine x_iload_n C dX9_setting_89 0 rfl ?_
          cases hF
          exact x_iret C E dX9_setting_90
    · replace hF := ifp hc hF
      refine x_iload_n C dX9_setting_38 2 rfl ?_
      refine x_i2l C dX9_setting_39 ?_
      refine x_lconst (v := 0) C dX9_setting_40 (by decide) ?_
      refine x_ldc2 C dX9_setting_41 kl_X9_187 ?_
      obtain ⟨o3, h4, hF⟩ := bd_s hF
      refine x_callSi (st := []) C (c_X9_in h4) xm_X9_in ml_X9_96 rfl rfl rfl rfl dX9_setting_44 ⟨rfl, rfl⟩ ?_
      refine x_if_eq (tgt := 62) C dX9_setting_47 (by decide) (fun hc => ?_) (fun hc => ?_)
      · replace hF := ifp hc hF
        refine x_iload_n C dX9_setting_62 1 rfl ?_
        refine x_iconst (v := 2) C dX9_setting_63 (by decide) ?_
        refine x_icmp_ne (tgt := 91) C dX9_setting_64 (by decide) (fun hc => ?_) (fun hc => ?_)
        · replace hF := ifn hc hF
          refine x_bipush (v := (-2)) C dX9_setting_91 (by decide) ?_
          cases hF
          exact x_iret C E dX9_setting_93
        · replace hF := ifp hc hF
          refine x_iload_n C dX9_setting_67 2 rfl ?_
          refine x_i2l C dX9_setting_68 ?_
          refine x_lconst (v := 1) C dX9_setting_69 (by decide) ?_
          refine x_ldc2 C dX9_setting_70 kl_X9_185 ?_
          obtain ⟨o5, h6, hF⟩ := bd_s hF
          refine x_callSi (st := []) C (c_X9_in h6) xm_X9_in ml_X9_96 rfl rfl rfl rfl dX9_setting_73 ⟨rfl, rfl⟩ ?_
          refine x_if_eq (tgt := 91) C dX9_setting_76 (by decide) (fun hc => ?_) (fun hc => ?_)
          · replace hF := ifp hc hF
            refine x_bipush (v := (-2)) C dX9_setting_91 (by decide) ?_
            cases hF
            exact x_iret C E dX9_setting_93
          · replace hF := ifn hc hF
            refine x_aload_n C dX9_setting_79 0 rfl ?_
            refine gf_X9_33 C 0 rfl rfl dX9_setting_80 ?_
            refine x_istore_n (lv2 := [(3, .int mst), (0, .ref (q 0)), (1, .int x1), (2, .int x2)]) C dX9_setting_83 rfl (by decide) rfl ?_
            refine x_aload_n C dX9_setting_84 1 rfl ?_
            refine x_iload_n C dX9_setting_85 3 rfl ?_
            refine pf_X9_33 (ws2 := (mw κ q (0 : Int32) mn mib mpa mwi mch x2 msz mns mld mps mbb mno mpk mtu mfo mbi mwr mus mnu mli mot mbl mki mfr mde mbe mow mco mpt mle mpl mit mro maw)) C 0 rfl dX9_setting_86 rfl rfl ?_
            refine x_iload_n C dX9_setting_89 0 rfl ?_
            cases hF
            exact x_iret C E dX9_setting_90
      · replace hF := ifn hc hF
        refine x_aload_n C dX9_setting_50 0 rfl ?_
        refine gf_X9_30 C 0 rfl rfl dX9_setting_51 ?_
        refine x_istore_n (lv2 := [(3, .int mch), (0, .ref (q 0)), (1, .int x1), (2, .int x2)]) C dX9_setting_54 rfl (by decide) rfl ?_
        refine x_aload_n C dX9_setting_55 1 rfl ?_
        refine x_iload_n C dX9_setting_56 3 rfl ?_
        refine pf_X9_30 (ws2 := (mw κ q (0 : Int32) mn mib mpa mwi x2 mst msz mns mld mps mbb mno mpk mtu mfo mbi mwr mus mnu mli mot mbl mki mfr mde mbe mow mco mpt mle mpl mit mro maw)) C 0 rfl dX9_setting_57 rfl rfl ?_
        refine x_iload_n C dX9_setting_60 0 rfl ?_
        cases hF
        exact x_iret C E dX9_setting_61
  · replace hF := ifp hc hF
    refine x_iload_n C dX9_setting_9 2 rfl ?_
    refine x_i2l C dX9_setting_10 ?_
    refine x_lconst (v := 0) C dX9_setting_11 (by decide) ?_
    refine x_ldc2 C dX9_setting_12 kl_X9_183 ?_
    obtain ⟨o7, h8, hF⟩ := bd_s hF
    refine x_callSi (st := []) C (c_X9_in h8) xm_X9_in ml_X9_96 rfl rfl rfl rfl dX9_setting_15 ⟨rfl, rfl⟩ ?_
    refine x_if_eq (tgt := 33) C dX9_setting_18 (by decide) (fun hc => ?_) (fun hc => ?_)
    · replace hF := ifp hc hF
      refine x_iload_n C dX9_setting_33 1 rfl ?_
      refine x_iconst (v := 1) C dX9_setting_34 (by decide) ?_
      refine x_icmp_ne (tgt := 62) C dX9_setting_35 (by decide) (fun hc => ?_) (fun hc => ?_)
      · replace hF := ifn hc hF
        refine x_iload_n C dX9_setting_62 1 rfl ?_
        refine x_iconst (v := 2) C dX9_setting_63 (by decide) ?_
        refine x_icmp_ne (tgt := 91) C dX9_setting_64 (by decide) (fun hc => ?_) (fun hc => ?_)
        · replace hF := ifn hc hF
          refine x_bipush (v := (-2)) C dX9_setting_91 (by decide) ?_
          cases hF
          exact x_iret C E dX9_setting_93
        · replace hF := ifp hc hF
          refine x_iload_n C dX9_setting_67 2 rfl ?_
          refine x_i2l C dX9_setting_68 ?_
          refine x_lconst (v := 1) C dX9_setting_69 (by decide) ?_
          refine x_ldc2 C dX9_setting_70 kl_X9_185 ?_
          obtain ⟨o9, h10, hF⟩ := bd_s hF
          refine x_callSi (st := []) C (c_X9_in h10) xm_X9_in ml_X9_96 rfl rfl rfl rfl dX9_setting_73 ⟨rfl, rfl⟩ ?_
          refine x_if_eq (tgt := 91) C dX9_setting_76 (by decide) (fun hc => ?_) (fun hc => ?_)
          · replace hF := ifp hc hF
            refine x_bipush (v := (-2)) C dX9_setting_91 (by decide) ?_
            cases hF
            exact x_iret C E dX9_setting_93
          · replace hF := ifn hc hF
            refine x_aload_n C dX9_setting_79 0 rfl ?_
            refine gf_X9_33 C 0 rfl rfl dX9_setting_80 ?_
            refine x_istore_n (lv2 := [(3, .int mst), (0, .ref (q 0)), (1, .int x1), (2, .int x2)]) C dX9_setting_83 rfl (by decide) rfl ?_
            refine x_aload_n C dX9_setting_84 1 rfl ?_
            refine x_iload_n C dX9_setting_85 3 rfl ?_
            refine pf_X9_33 (ws2 := (mw κ q (0 : Int32) mn mib mpa mwi mch x2 msz mns mld mps mbb mno mpk mtu mfo mbi mwr mus mnu mli mot mbl mki mfr mde mbe mow mco mpt mle mpl mit mro maw)) C 0 rfl dX9_setting_86 rfl rfl ?_
            refine x_iload_n C dX9_setting_89 0 rfl ?_
            cases hF
            exact x_iret C E dX9_setting_90
      · replace hF := ifp hc hF
        refine x_iload_n C dX9_setting_38 2 rfl ?_
        refine x_i2l C dX9_setting_39 ?_
        refine x_lconst (v := 0) C dX9_setting_40 (by decide) ?_
        refine x_ldc2 C dX9_setting_41 kl_X9_187 ?_
        obtain ⟨o11, h12, hF⟩ := bd_s hF
        refine x_callSi (st := []) C (c_X9_in h12) xm_X9_in ml_X9_96 rfl rfl rfl rfl dX9_setting_44 ⟨rfl, rfl⟩ ?_
        refine x_if_eq (tgt := 62) C dX9_setting_47 (by decide) (fun hc => ?_) (fun hc => ?_)
        · replace hF := ifp hc hF
          refine x_iload_n C dX9_setting_62 1 rfl ?_
          refine x_iconst (v := 2) C dX9_setting_63 (by decide) ?_
          refine x_icmp_ne (tgt := 91) C dX9_setting_64 (by decide) (fun hc => ?_) (fun hc => ?_)
          · replace hF := ifn hc hF
            refine x_bipush (v := (-2)) C dX9_setting_91 (by decide) ?_
            cases hF
            exact x_iret C E dX9_setting_93
          · replace hF := ifp hc hF
            refine x_iload_n C dX9_setting_67 2 rfl ?_
            refine x_i2l C dX9_setting_68 ?_
            refine x_lconst (v := 1) C dX9_setting_69 (by decide) ?_
            refine x_ldc2 C dX9_setting_70 kl_X9_185 ?_
            obtain ⟨o13, h14, hF⟩ := bd_s hF
            refine x_callSi (st := []) C (c_X9_in h14) xm_X9_in ml_X9_96 rfl rfl rfl rfl dX9_setting_73 ⟨rfl, rfl⟩ ?_
            refine x_if_eq (tgt := 91) C dX9_setting_76 (by decide) (fun hc => ?_) (fun hc => ?_)
            · replace hF := ifp hc hF
              refine x_bipush (v := (-2)) C dX9_setting_91 (by decide) ?_
              cases hF
              exact x_iret C E dX9_setting_93
            · replace hF := ifn hc hF
              refine x_aload_n C dX9_setting_79 0 rfl ?_
              refine gf_X9_33 C 0 rfl rfl dX9_setting_80 ?_
              refine x_istore_n (lv2 := [(3, .int mst), (0, .ref (q 0)), (1, .int x1), (2, .int x2)]) C dX9_setting_83 rfl (by decide) rfl ?_
              refine x_aload_n C dX9_setting_84 1 rfl ?_
              refine x_iload_n C dX9_setting_85 3 rfl ?_
              refine pf_X9_33 (ws2 := (mw κ q (0 : Int32) mn mib mpa mwi mch x2 msz mns mld mps mbb mno mpk mtu mfo mbi mwr mus mnu mli mot mbl mki mfr mde mbe mow mco mpt mle mpl mit mro maw)) C 0 rfl dX9_setting_86 rfl rfl ?_
              refine x_iload_n C dX9_setting_89 0 rfl ?_
              cases hF
              exact x_iret C E dX9_setting_90
        · replace hF := ifn hc hF
          refine x_aload_n C dX9_setting_50 0 rfl ?_
          refine gf_X9_30 C 0 rfl rfl dX9_setting_51 ?_
          refine x_istore_n (lv2 := [(3, .int mch), (0, .ref (q 0)), (1, .int x1), (2, .int x2)]) C dX9_setting_54 rfl (by decide) rfl ?_
          refine x_aload_n C dX9_setting_55 1 rfl ?_
          refine x_iload_n C dX9_setting_56 3 rfl ?_
          refine pf_X9_30 (ws2 := (mw κ q (0 : Int32) mn mib mpa mwi x2 mst msz mns mld mps mbb mno mpk mtu mfo mbi mwr mus mnu mli mot mbl mki mfr mde mbe mow mco mpt mle mpl mit mro maw)) C 0 rfl dX9_setting_57 rfl rfl ?_
          refine x_iload_n C dX9_setting_60 0 rfl ?_
          cases hF
          exact x_iret C E dX9_setting_61
    · replace hF := ifn hc hF
      refine x_aload_n C dX9_setting_21 0 rfl ?_
      refine gf_X9_27 C 0 rfl rfl dX9_setting_22 ?_
      refine x_istore_n (lv2 := [(3, .int mwi), (0, .ref (q 0)), (1, .int x1), (2, .int x2)]) C dX9_setting_25 rfl (by decide) rfl ?_
      refine x_aload_n C dX9_setting_26 1 rfl ?_
      refine x_iload_n C dX9_setting_27 3 rfl ?_
      refine pf_X9_27 (ws2 := (mw κ q (0 : Int32) mn mib mpa x2 mch mst msz mns mld mps mbb mno mpk mtu mfo mbi mwr mus mnu mli mot mbl mki mfr mde mbe mow mco mpt mle mpl mit mro maw)) C 0 rfl dX9_setting_28 rfl rfl ?_
      refine x_iload_n C dX9_setting_31 0 rfl ?_
      cases hF
      exact x_iret C E dX9_setting_32
set_option maxHeartbeats 4000000 in
set_option maxRecDepth 100000 in
theorem w_X9_bitsOf_L4 {κ : xb_k} {Γ : xb_X} {ws : va_W}    (C : xb_C κ Γ 3 cX9_bitsOf RX9 { frames := 0, cells := 0, slots := 0, locals := 0 }) : ∀ (n : Nat) (x1 : Int32) (x2 : Int32) (o : Int32), F_X9_bitsOf_L4 n x1 x2 = some o → xb_W κ Γ 3 0 0 18 [(1, .int o)] [] ws → xb_W κ Γ 3 0 0 4 [(1, .int x1), (2, .int x2)] [] ws := by
  intro n
  induction n with
  | zero =>
    intro x1 x2 o hF K
    rw [F_X9_bitsOf_L4] at hF
    cases hF
  | succ n ih =>
    intro x1 x2 o hF K
    rw [F_X9_bitsOf_L4] at hF
    refine x_iload_n C dX9_bitsOf_4 1 rfl ?_
    refine x_if_le (tgt := 18) C dX9_bitsOf_5 (by decide) (fun hc => ?_) (fun hc => ?_)
    · replace hF := ifp hc hF
      cases hF
      exact x_sub [0] rfl K
    · replace hF := ifn hc hF
      refine x_iinc (v := x1 + 1) (lv2 := [(1, .int (x1 + 1)), (2, .int x2)]) C dX9_bitsOf_8 0 rfl rfl (by decide) rfl ?_
      refine x_iload_n C dX9_bitsOf_11 1 rfl ?_
      refine x_iconst (v := 2) C dX9_bitsOf_12 (by decide) ?_
      refine x_idiv C dX9_bitsOf_13 (by decide) ?_
      refine x_istore_n (lv2 := [(2, .int (x2 / (2 : Int32))), (1, .int (x1 + 1))]) C dX9_bitsOf_14 rfl (by decide) rfl ?_
      refine x_goto (tgt := 4) C dX9_bitsOf_15 (by decide) ?_
      exact x_sub [1, 0] rfl (ih _ _ _ hF K)
set_option maxHeartbeats 4000000 in
set_option maxRecDepth 100000 in
theorem c_X9_bitsOf {κ : xb_k} {ws : va_W}  {x0 : Int32} {fu : Nat} {o : Int32} (hF : F_X9_bitsOf fu x0 = some o) : Met κ.1 yX9_bitsOf [Cond.code yX9_bitsOf cX9_bitsOf 3 (some .int)] { frames := 0, cells := 0, slots := 0, locals := 0 } (xb_P κ [.int x0] ws) (xb_Qi κ o ws) 0 0 κ.2.2.1 := by
  refine x_enter (own := RX9) (lv0 := [(0, .int x0)]) (by decide) rfl rfl rfl (fun Γ C E => ?_)
  unfold F_X9_bitsOf at hF
  refine x_iconst (v := 0) C dX9_bitsOf_0 (by decide) ?_
  refine x_istore_n (lv2 := [(1, .int (0 : Int32)), (0, .int x0)]) C dX9_bitsOf_1 rfl (by decide) rfl ?_
  refine x_iload_n C dX9_bitsOf_2 1 rfl ?_
  refine x_istore_n (lv2 := [(2, .int x0), (1, .int (0 : Int32)), (0, .int x0)]) C dX9_bitsOf_3 rfl (by decide) rfl ?_
  obtain ⟨o1, h2, hF⟩ := bd_s hF
  refine x_sub [1, 0] rfl (w_X9_bitsOf_L4 C fu _ _ _ h2 ?_)
  refine x_iload_n C dX9_bitsOf_18 0 rfl ?_
  cases hF
  exact x_iret C E dX9_bitsOf_19
set_option maxHeartbeats 4000000 in
set_option maxRecDepth 100000 in
theorem c_X9_lengthIn {κ : xb_k} {ws : va_W}  {x0 : Int32} {x1 : Int32} {fu : Nat} {o : Int32} (hF : F_X9_lengthIn fu x0 x1 = some o) : Met κ.1 yX9_lengthIn [Cond.code yX9_lengthIn cX9_lengthIn 3 (some .int)] { frames := 1, cells := 0, slots := 0, locals := 22 } (xb_P κ [.int x0, .int x1] ws) (xb_Qi κ o ws) 0 0 κ.2.2.1 := by
  refine x_enter (own := RX9) (lv0 := [(0, .int x0), (1, .int x1)]) (by decide) rfl rfl rfl (fun Γ C E => ?_)
  unfold F_X9_lengthIn at hF
  refine x_iload_n C dX9_lengthIn_0 1 rfl ?_
  refine x_iconst (v := 1) C dX9_lengthIn_1 (by decide) ?_
  refine x_iadd C dX9_lengthIn_2 ?_
  obtain ⟨o1, h2, hF⟩ := bd_s hF
  refine x_callSi (st := []) C (c_X9_bitsOf h2) xm_X9_bitsOf ml_X9_119 rfl rfl rfl rfl dX9_lengthIn_3 ⟨rfl, rfl⟩ ?_
  refine x_istore_n (lv2 := [(2, .int o1), (0, .int x0), (1, .int x1)]) C dX9_lengthIn_6 rfl (by decide) rfl ?_
  refine x_iload_n C dX9_lengthIn_7 1 rfl ?_
  refine x_if_ne (tgt := 17) C dX9_lengthIn_8 (by decide) (fun hc => ?_) (fun hc => ?_)
  · replace hF := ifn hc hF
    refine x_iload_n C dX9_lengthIn_17 1 rfl ?_
    refine x_iconst (v := 1) C dX9_lengthIn_18 (by decide) ?_
    refine x_icmp_ne (tgt := 30) C dX9_lengthIn_19 (by decide) (fun hc => ?_) (fun hc => ?_)
    · replace hF := ifn hc hF
      refine x_iload_n C dX9_lengthIn_30 1 rfl ?_
      refine x_iconst (v := 2) C dX9_lengthIn_31 (by decide) ?_
      refine x_icmp_ne (tgt := 50) C dX9_lengthIn_32 (by decide) (fun hc => ?_) (fun hc => ?_)
      · replace hF := ifn hc hF
        refine x_iload_n C dX9_lengthIn_50 2 rfl ?_
        refine x_iload_n C dX9_lengthIn_51 1 rfl ?_
        refine x_iconst (v := 3) C dX9_lengthIn_52 (by decide) ?_
        refine x_isub C dX9_lengthIn_53 ?_
        refine x_ishr C dX9_lengthIn_54 ?_
        refine x_iconst (v := 1) C dX9_lengthIn_55 (by decide) ?_
        refine x_iadd C dX9_lengthIn_56 ?_
        refine x_iload_n C dX9_lengthIn_57 1 rfl ?_
        refine x_iadd C dX9_lengthIn_58 ?_
        refine x_iconst (v := 3) C dX9_lengthIn_59 (by decide) ?_
        refine x_isub C dX9_lengthIn_60 ?_
        cases hF
        exact x_iret C E dX9_lengthIn_61
      · replace hF := ifp hc hF
        refine x_iconst (v := 2) C dX9_lengthIn_35 (by decide) ?_
        refine x_iload_n C dX9_lengthIn_36 0 rfl ?_
        obtain ⟨o3, h4, hF⟩ := bd_s hF
        refine x_callSi (st := [.int (2 : Int32)]) C (c_X9_bitsOf h4) xm_X9_bitsOf ml_X9_119 rfl rfl rfl rfl dX9_lengthIn_37 ⟨rfl, rfl⟩ ?_
        refine x_imul C dX9_lengthIn_40 ?_
        refine x_iconst (v := 1) C dX9_lengthIn_41 (by decide) ?_
        refine x_isub C dX9_lengthIn_42 ?_
        refine x_iload_n C dX9_lengthIn_43 0 rfl ?_
        refine x_iadd C dX9_lengthIn_44 ?_
        refine x_iconst (v := 1) C dX9_lengthIn_45 (by decide) ?_
        refine x_isub C dX9_lengthIn_46 ?_
        refine x_goto (tgt := 61) C dX9_lengthIn_47 (by decide) ?_
        cases hF
        exact x_iret C E dX9_lengthIn_61
    · replace hF := ifp hc hF
      refine x_iconst (v := 2) C dX9_lengthIn_22 (by decide) ?_
      refine x_iload_n C dX9_lengthIn_23 0 rfl ?_
      refine x_imul C dX9_lengthIn_24 ?_
      refine x_iconst (v := 1) C dX9_lengthIn_25 (by decide) ?_
      refine x_isub C dX9_lengthIn_26 ?_
      refine x_goto (tgt := 61) C dX9_lengthIn_27 (by decide) ?_
      cases hF
      exact x_iret C E dX9_lengthIn_61
  · replace hF := ifp hc hF
    refine x_iload_n C dX9_lengthIn_11 2 rfl ?_
    refine x_iconst (v := 1) C dX9_lengthIn_12 (by decide) ?_
    refine x_iadd C dX9_lengthIn_13 ?_
    refine x_goto (tgt := 61) C dX9_lengthIn_14 (by decide) ?_
    cases hF
    exact x_iret C E dX9_lengthIn_61
set_option maxHeartbeats 4000000 in
set_option maxRecDepth 100000 in
theorem c_X9_length {κ : xb_k} {q : Nat → Nat} {mth : Int32} {mn : Int32} {mib : Int32} {mpa : Int32} {mwi : Int32} {mch : Int32} {mst : Int32} {msz : Int32} {mns : Int32} {mld : Int32} {mps : Int32} {mbb : Int32} {mno : (Nat → Int32)} {mpk : (Nat → Int32)} {mtu : (Nat → Int32)} {mfo : (Nat → Int32)} {mbi : (Nat → Int32)} {mwr : (Nat → Int32)} {mus : (Nat → Int32)} {mnu : (Nat → Int32)} {mli : (Nat → Int32)} {mot : (Nat → Int32)} {mbl : (Nat → Int32)} {mki : (Nat → Int32)} {mfr : (Nat → Int32)} {mde : (Nat → Int32)} {mbe : (Nat → Int32)} {mow : (Nat → Int32)} {mco : (Nat → Int32)} {mpt : (Nat → Int32)} {mle : (Nat → Int32)} {mpl : (Nat → Int32)} {mit : (Nat → Int32)} {mro : (Nat → Int32)} {maw : (Nat → Int32)} {x1 : Int32} {x2 : Int32} {fu : Nat} {o : Int32 × Int32} (hF : F_X9_length fu x1 x2 mth = some o) : Met κ.1 yX9_length [Cond.code yX9_length cX9_length 3 (some .int)] { frames := 2, cells := 0, slots := 0, locals := 44 } (xb_P κ [.ref (q 0), .int x1, .int x2] (mw κ q mth mn mib mpa mwi mch mst msz mns mld mps mbb mno mpk mtu mfo mbi mwr mus mnu mli mot mbl mki mfr mde mbe mow mco mpt mle mpl mit mro maw)) (xb_Qi κ o.1 (mw κ q o.2 mn mib mpa mwi mch mst msz mns mld mps mbb mno mpk mtu mfo mbi mwr mus mnu mli mot mbl mki mfr mde mbe mow mco mpt mle mpl mit mro maw)) 0 0 κ.2.2.1 := by
  refine x_enter (own := RX9) (lv0 := [(0, .ref (q 0)), (1, .int x1), (2, .int x2)]) (by decide) rfl rfl rfl (fun Γ C E => ?_)
  unfold F_X9_length at hF
  refine x_aload_n C dX9_length_0 0 rfl ?_
  refine x_iconst (v := 0) C dX9_length_1 (by decide) ?_
  refine pf_X9_1 (ws2 := (mw κ q (0 : Int32) mn mib mpa mwi mch mst msz mns mld mps mbb mno mpk mtu mfo mbi mwr mus mnu mli mot mbl mki mfr mde mbe mow mco mpt mle mpl mit mro maw)) C 0 rfl dX9_length_2 rfl rfl ?_
  refine x_iload_n C dX9_length_5 1 rfl ?_
  refine x_i2l C dX9_length_6 ?_
  refine x_lconst (v := 0) C dX9_length_7 (by decide) ?_
  refine x_ldc2 C dX9_length_8 kl_X9_185 ?_
  obtain ⟨o1, h2, hF⟩ := bd_s hF
  refine x_callSi (st := []) C (c_X9_in h2) xm_X9_in ml_X9_96 rfl rfl rfl rfl dX9_length_11 ⟨rfl, rfl⟩ ?_
  refine x_if_eq (tgt := 37) C dX9_length_14 (by decide) (fun hc => ?_) (fun hc => ?_)
  · replace hF := ifp hc hF
    refine x_bipush (v := (-2)) C dX9_length_37 (by decide) ?_
    cases hF
    exact x_iret C E dX9_length_39
  · replace hF := ifn hc hF
    refine x_iload_n C dX9_length_17 2 rfl ?_
    refine x_i2l C dX9_length_18 ?_
    refine x_lconst (v := 0) C dX9_length_19 (by decide) ?_
    refine x_ldc2 C dX9_length_20 kl_X9_189 ?_
    obtain ⟨o3, h4, hF⟩ := bd_s hF
    refine x_callSi (st := []) C (c_X9_in h4) xm_X9_in ml_X9_96 rfl rfl rfl rfl dX9_length_23 ⟨rfl, rfl⟩ ?_
    refine x_if_eq (tgt := 37) C dX9_length_26 (by decide) (fun hc => ?_) (fun hc => ?_)
    · replace hF := ifp hc hF
      refine x_bipush (v := (-2)) C dX9_length_37 (by decide) ?_
      cases hF
      exact x_iret C E dX9_length_39
    · replace hF := ifn hc hF
      refine x_iload_n C dX9_length_29 1 rfl ?_
      refine x_iload_n C dX9_length_30 2 rfl ?_
      obtain ⟨o5, h6, hF⟩ := bd_s hF
      refine x_callSi (st := []) C (c_X9_lengthIn h6) xm_X9_lengthIn ml_X9_171 rfl rfl rfl rfl dX9_length_31 ⟨rfl, rfl⟩ ?_
      refine x_goto (tgt := 39) C dX9_length_34 (by decide) ?_
      cases hF
      exact x_iret C E dX9_length_39
set_option maxHeartbeats 4000000 in
set_option maxRecDepth 100000 in
theorem c_X9_say {κ : xb_k} {q : Nat → Nat} {mth : Int32} {mn : Int32} {mib : Int32} {mpa : Int32} {mwi : Int32} {mch : Int32} {mst : Int32} {msz : Int32} {mns : Int32} {mld : Int32} {mps : Int32} {mbb : Int32} {mno : (Nat → Int32)} {mpk : (Nat → Int32)} {mtu : (Nat → Int32)} {mfo : (Nat → Int32)} {mbi : (Nat → Int32)} {mwr : (Nat → Int32)} {mus : (Nat → Int32)} {mnu : (Nat → Int32)} {mli : (Nat → Int32)} {mot : (Nat → Int32)} {mbl : (Nat → Int32)} {mki : (Nat → Int32)} {mfr : (Nat → Int32)} {mde : (Nat → Int32)} {mbe : (Nat → Int32)} {mow : (Nat → Int32)} {mco : (Nat → Int32)} {mpt : (Nat → Int32)} {mle : (Nat → Int32)} {mpl : (Nat → Int32)} {mit : (Nat → Int32)} {mro : (Nat → Int32)} {maw : (Nat → Int32)} {x1 : Int32} {x2 : Int32}  {o : (Nat → Int32) × (Nat → Int32) × Int32} (hF : F_X9_say x1 x2 mns mus mnu = some o) : Met κ.1 yX9_say [Cond.code yX9_say cX9_say 3 none] { frames := 0, cells := 0, slots := 0, locals := 0 } (xb_P κ [.ref (q 0), .int x1, .int x2] (mw κ q mth mn mib mpa mwi mch mst msz mns mld mps mbb mno mpk mtu mfo mbi mwr mus mnu mli mot mbl mki mfr mde mbe mow mco mpt mle mpl mit mro maw)) (xb_Qv κ (mw κ q mth mn mib mpa mwi mch mst msz o.2.2 mld mps mbb mno mpk mtu mfo mbi mwr o.1 o.2.1 mli mot mbl mki mfr mde mbe mow mco mpt mle mpl mit mro maw)) 0 0 κ.2.2.1 := by
  refine x_enter (own := RX9) (lv0 := [(0, .ref (q 0)), (1, .int x1), (2, .int x2)]) (by decide) rfl rfl rfl (fun Γ C E => ?_)
  unfold F_X9_say at hF
  refine x_aload_n C dX9_say_0 0 rfl ?_
  refine gf_X9_42 C 0 rfl rfl dX9_say_1 ?_
  refine x_aload_n C dX9_say_4 0 rfl ?_
  refine gf_X9_139 C 0 rfl rfl dX9_say_5 ?_
  refine x_iload_n C dX9_say_8 1 rfl ?_
  obtain ⟨b1, hF⟩ := ck_s hF
  refine x_iast (ws2 := (mw κ q mth mn mib mpa mwi mch mst msz mns mld mps mbb mno mpk mtu mfo mbi mwr (upd mus mns.toNatClampNeg x1) mnu mli mot mbl mki mfr mde mbe mow mco mpt mle mpl mit mro maw)) C 7 rfl b1 dX9_say_9 rfl ?_
  refine x_aload_n C dX9_say_10 0 rfl ?_
  refine gf_X9_45 C 0 rfl rfl dX9_say_11 ?_
  refine x_aload_n C dX9_say_14 0 rfl ?_
  refine gf_X9_139 C 0 rfl rfl dX9_say_15 ?_
  refine x_iload_n C dX9_say_18 2 rfl ?_
  obtain ⟨b2, hF⟩ := ck_s hF
  refine x_iast (ws2 := (mw κ q mth mn mib mpa mwi mch mst msz mns mld mps mbb mno mpk mtu mfo mbi mwr (upd mus mns.toNatClampNeg x1) (upd mnu mns.toNatClampNeg x2) mli mot mbl mki mfr mde mbe mow mco mpt mle mpl mit mro maw)) C 8 rfl b2 dX9_say_19 rfl ?_
  refine x_aload_n C dX9_say_20 0 rfl ?_
  refine x_dup C dX9_say_21 rfl ?_
  refine gf_X9_139 C 0 rfl rfl dX9_say_22 ?_
  refine x_iconst (v := 1) C dX9_say_25 (by decide) ?_
  refine x_iadd C dX9_say_26 ?_
  refine pf_X9_139 (ws2 := (mw κ q mth mn mib mpa mwi mch mst msz (mns + (1 : Int32)) mld mps mbb mno mpk mtu mfo mbi mwr (upd mus mns.toNatClampNeg x1) (upd mnu mns.toNatClampNeg x2) mli mot mbl mki mfr mde mbe mow mco mpt mle mpl mit mro maw)) C 0 rfl dX9_say_27 rfl rfl ?_
  cases hF
  exact x_vret C E dX9_say_30
set_option maxHeartbeats 4000000 in
set_option maxRecDepth 100000 in
theorem w_X9_take_L8 {κ : xb_k} {Γ : xb_X} {q : Nat → Nat} {mth : Int32} {mn : Int32} {mib : Int32} {mpa : Int32} {mwi : Int32} {mch : Int32} {mst : Int32} {msz : Int32} {mns : Int32} {mps : Int32} {mbb : Int32} {mno : (Nat → Int32)} {mpk : (Nat → Int32)} {mtu : (Nat → Int32)} {mfo : (Nat → Int32)} {mbi : (Nat → Int32)} {mwr : (Nat → Int32)} {mus : (Nat → Int32)} {mnu : (Nat → Int32)} {mot : (Nat → Int32)} {mbl : (Nat → Int32)} {mki : (Nat → Int32)} {mfr : (Nat → Int32)} {mde : (Nat → Int32)} {mbe : (Nat → Int32)} {mow : (Nat → Int32)} {mco : (Nat → Int32)} {mpt : (Nat → Int32)} {mle : (Nat → Int32)} {mpl : (Nat → Int32)} {mit : (Nat → Int32)} {mro : (Nat → Int32)} {maw : (Nat → Int32)} {x2 : Int32} {x3 : Int32}  (C : xb_C κ Γ 5 cX9_take RX9 { frames := 0, cells := 0, slots := 0, locals := 0 }) : ∀ (n : Nat) (x4 : Int32) (mli : (Nat → Int32)) (mld : Int32) (o : (Nat → Int32) × Int32), F_X9_take_L8 x2 x3 mn mno n x4 mli mld = some o → xb_W κ Γ 5 0 0 73 [] [] (mw κ q mth mn mib mpa mwi mch mst msz mns o.2 mps mbb mno mpk mtu mfo mbi mwr mus mnu o.1 mot mbl mki mfr mde mbe mow mco mpt mle mpl mit mro maw) → xb_W κ Γ 5 0 0 8 [(0, .ref (q 0)), (1, .ref (q 1)), (2, .int x2), (3, .int x3), (4, .int x4)] [] (mw κ q mth mn mib mpa mwi mch mst msz mns mld mps mbb mno mpk mtu mfo mbi mwr mus mnu mli mot mbl mki mfr mde mbe mow mco mpt mle mpl mit mro maw) := by
  intro n
  induction n with
  | zero =>
    intro x4 mli mld o hF K
    rw [F_X9_take_L8] at hF
    cases hF
  | succ n ih =>
    intro x4 mli mld o hF K
    rw [F_X9_take_L8] at hF
    refine x_iload C dX9_take_8 4 rfl ?_
    refine x_aload_n C dX9_take_10 0 rfl ?_
    refine gf_X9_93 C 0 rfl rfl dX9_take_11 ?_
    refine x_icmp_ge (tgt := 73) C dX9_take_14 (by decide) (fun hc => ?_) (fun hc => ?_)
    · replace hF := ifp hc hF
      cases hF
      exact x_sub [] rfl K
    · replace hF := ifn hc hF
      refine x_aload_n C dX9_take_17 1 rfl ?_
      refine x_bipush (v := 48) C dX9_take_18 (by decide) ?_
      refine x_iload_n C dX9_take_20 2 rfl ?_
      refine x_imul C dX9_take_21 ?_
      refine x_iload C dX9_take_22 4 rfl ?_
      refine x_iadd C dX9_take_24 ?_
      obtain ⟨b1, hF⟩ := ck_s hF
      refine x_zald C 1 rfl b1 dX9_take_25 ?_
      refine x_if_eq (tgt := 67) C dX9_take_26 (by decide) (fun hc => ?_) (fun hc => ?_)
      · replace hF := ifp hc hF
        refine x_iinc (v := x4 + 1) (lv2 := [(4, .int (x4 + 1)), (0, .ref (q 0)), (1, .ref (q 1)), (2, .int x2), (3, .int x3)]) C dX9_take_67 4 rfl rfl (by decide) rfl ?_
        refine x_goto (tgt := 8) C dX9_take_70 (by decide) ?_
        exact x_sub [1, 2, 3, 4, 0] rfl (ih _ _ _ _ hF K)
      · replace hF := ifn hc hF
        refine x_iload_n C dX9_take_29 3 rfl ?_
        refine x_iload_n C dX9_take_30 2 rfl ?_
        refine x_icmp_eq (tgt := 46) C dX9_take_31 (by decide) (fun hc => ?_) (fun hc => ?_)
        · replace hF := ifp hc hF
          refine x_aload_n C dX9_take_46 0 rfl ?_
          refine gf_X9_48 C 0 rfl rfl dX9_take_47 ?_
          refine x_aload_n C dX9_take_50 0 rfl ?_
          refine gf_X9_142 C 0 rfl rfl dX9_take_51 ?_
          refine x_iload C dX9_take_54 4 rfl ?_
          obtain ⟨b2, hF⟩ := ck_s hF
          refine x_iast (ws2 := (mw κ q mth mn mib mpa mwi mch mst msz mns mld mps mbb mno mpk mtu mfo mbi mwr mus mnu (upd mli mld.toNatClampNeg x4) mot mbl mki mfr mde mbe mow mco mpt mle mpl mit mro maw)) C 9 rfl b2 dX9_take_56 rfl ?_
          refine x_aload_n C dX9_take_57 0 rfl ?_
          refine x_dup C dX9_take_58 rfl ?_
          refine gf_X9_142 C 0 rfl rfl dX9_take_59 ?_
          refine x_iconst (v := 1) C dX9_take_62 (by decide) ?_
          refine x_iadd C dX9_take_63 ?_
          refine pf_X9_142 (ws2 := (mw κ q mth mn mib mpa mwi mch mst msz mns (mld + (1 : Int32)) mps mbb mno mpk mtu mfo mbi mwr mus mnu (upd mli mld.toNatClampNeg x4) mot mbl mki mfr mde mbe mow mco mpt mle mpl mit mro maw)) C 0 rfl dX9_take_64 rfl rfl ?_
          refine x_iinc (v := x4 + 1) (lv2 := [(4, .int (x4 + 1)), (0, .ref (q 0)), (1, .ref (q 1)), (2, .int x2), (3, .int x3)]) C dX9_take_67 4 rfl rfl (by decide) rfl ?_
          refine x_goto (tgt := 8) C dX9_take_70 (by decide) ?_
          exact x_sub [1, 2, 3, 4, 0] rfl (ih _ _ _ _ hF K)
        · replace hF := ifn hc hF
          refine x_aload_n C dX9_take_34 1 rfl ?_
          refine x_bipush (v := 48) C dX9_take_35 (by decide) ?_
          refine x_iload_n C dX9_take_37 3 rfl ?_
          refine x_imul C dX9_take_38 ?_
          refine x_iload C dX9_take_39 4 rfl ?_
          refine x_iadd C dX9_take_41 ?_
          obtain ⟨b3, hF⟩ := ck_s hF
          refine x_zald C 1 rfl b3 dX9_take_42 ?_
          refine x_if_ne (tgt := 67) C dX9_take_43 (by decide) (fun hc => ?_) (fun hc => ?_)
          · replace hF := ifn hc hF
            refine x_iinc (v := x4 + 1) (lv2 := [(4, .int (x4 + 1)), (0, .ref (q 0)), (1, .ref (q 1)), (2, .int x2), (3, .int x3)]) C dX9_take_67 4 rfl rfl (by decide) rfl ?_
            refine x_goto (tgt := 8) C dX9_take_70 (by decide) ?_
            exact x_sub [1, 2, 3, 4, 0] rfl (ih _ _ _ _ hF K)
          · replace hF := ifp hc hF
            refine x_aload_n C dX9_take_46 0 rfl ?_
            refine gf_X9_48 C 0 rfl rfl dX9_take_47 ?_
            refine x_aload_n C dX9_take_50 0 rfl ?_
            refine gf_X9_142 C 0 rfl rfl dX9_take_51 ?_
            refine x_iload C dX9_take_54 4 rfl ?_
            obtain ⟨b4, hF⟩ := ck_s hF
            refine x_iast (ws2 := (mw κ q mth mn mib mpa mwi mch mst msz mns mld mps mbb mno mpk mtu mfo mbi mwr mus mnu (upd mli mld.toNatClampNeg x4) mot mbl mki mfr mde mbe mow mco mpt mle mpl mit mro maw)) C 9 rfl b4 dX9_take_56 rfl ?_
            refine x_aload_n C dX9_take_57 0 rfl ?_
            refine x_dup C dX9_take_58 rfl ?_
            refine gf_X9_142 C 0 rfl rfl dX9_take_59 ?_
            refine x_iconst (v := 1) C dX9_take_62 (by decide) ?_
            refine x_iadd C dX9_take_63 ?_
            refine pf_X9_142 (ws2 := (mw κ q mth mn mib mpa mwi mch mst msz mns (mld + (1 : Int32)) mps mbb mno mpk mtu mfo mbi mwr mus mnu (upd mli mld.toNatClampNeg x4) mot mbl mki mfr mde mbe mow mco mpt mle mpl mit mro maw)) C 0 rfl dX9_take_64 rfl rfl ?_
            refine x_iinc (v := x4 + 1) (lv2 := [(4, .int (x4 + 1)), (0, .ref (q 0)), (1, .ref (q 1)), (2, .int x2), (3, .int x3)]) C dX9_take_67 4 rfl rfl (by decide) rfl ?_
            refine x_goto (tgt := 8) C dX9_take_70 (by decide) ?_
            exact x_sub [1, 2, 3, 4, 0] rfl (ih _ _ _ _ hF K)
set_option maxHeartbeats 4000000 in
set_option maxRecDepth 100000 in
theorem c_X9_take {κ : xb_k} {q : Nat → Nat} {mth : Int32} {mn : Int32} {mib : Int32} {mpa : Int32} {mwi : Int32} {mch : Int32} {mst : Int32} {msz : Int32} {mns : Int32} {mld : Int32} {mps : Int32} {mbb : Int32} {mno : (Nat → Int32)} {mpk : (Nat → Int32)} {mtu : (Nat → Int32)} {mfo : (Nat → Int32)} {mbi : (Nat → Int32)} {mwr : (Nat → Int32)} {mus : (Nat → Int32)} {mnu : (Nat → Int32)} {mli : (Nat → Int32)} {mot : (Nat → Int32)} {mbl : (Nat → Int32)} {mki : (Nat → Int32)} {mfr : (Nat → Int32)} {mde : (Nat → Int32)} {mbe : (Nat → Int32)} {mow : (Nat → Int32)} {mco : (Nat → Int32)} {mpt : (Nat → Int32)} {mle : (Nat → Int32)} {mpl : (Nat → Int32)} {mit : (Nat → Int32)} {mro : (Nat → Int32)} {maw : (Nat → Int32)} {x2 : Int32} {x3 : Int32} {fu : Nat} {o : Int32 × (Nat → Int32)} (hF : F_X9_take fu x2 x3 mld mn mno mli = some o) : Met κ.1 yX9_take [Cond.code yX9_take cX9_take 5 none] { frames := 0, cells := 0, slots := 0, locals := 0 } (xb_P κ [.ref (q 0), .ref (q 1), .int x2, .int x3] (mw κ q mth mn mib mpa mwi mch mst msz mns mld mps mbb mno mpk mtu mfo mbi mwr mus mnu mli mot mbl mki mfr mde mbe mow mco mpt mle mpl mit mro maw)) (xb_Qv κ (mw κ q mth mn mib mpa mwi mch mst msz mns o.1 mps mbb mno mpk mtu mfo mbi mwr mus mnu o.2 mot mbl mki mfr mde mbe mow mco mpt mle mpl mit mro maw)) 0 0 κ.2.2.1 := by
  refine x_enter (own := RX9) (lv0 := [(0, .ref (q 0)), (1, .ref (q 1)), (2, .int x2), (3, .int x3)]) (by decide) rfl rfl rfl (fun Γ C E => ?_)
  unfold F_X9_take at hF
  refine x_aload_n C dX9_take_0 0 rfl ?_
  refine x_iconst (v := 0) C dX9_take_1 (by decide) ?_
  refine pf_X9_142 (ws2 := (mw κ q mth mn mib mpa mwi mch mst msz mns (0 : Int32) mps mbb mno mpk mtu mfo mbi mwr mus mnu mli mot mbl mki mfr mde mbe mow mco mpt mle mpl mit mro maw)) C 0 rfl dX9_take_2 rfl rfl ?_
  refine x_iconst (v := 0) C dX9_take_5 (by decide) ?_
  refine x_istore (lv2 := [(4, .int (0 : Int32)), (0, .ref (q 0)), (1, .ref (q 1)), (2, .int x2), (3, .int x3)]) C dX9_take_6 (by decide) rfl ?_
  obtain ⟨o5, h6, hF⟩ := bd_s hF
  refine x_sub [1, 2, 3, 4, 0] rfl (w_X9_take_L8 C fu _ _ _ _ h6 ?_)
  cases hF
  exact x_vret C E dX9_take_73

set_option maxHeartbeats 4000000 in
set_option maxRecDepth 100000 in
theorem w_X9_take_0_2_L8 {κ : xb_k} {Γ : xb_X} {q : Nat → Nat} {mth : Int32} {mn : Int32} {mib : Int32} {mpa : Int32} {mwi : Int32} {mch : Int32} {mst : Int32} {msz : Int32} {mns : Int32} {mps : Int32} {mbb : Int32} {mno : (Nat → Int32)} {mpk : (Nat → Int32)} {mtu : (Nat → Int32)} {mfo : (Nat → Int32)} {mbi : (Nat → Int32)} {mwr : (Nat → Int32)} {mus : (Nat → Int32)} {mnu : (Nat → Int32)} {mot : (Nat → Int32)} {mbl : (Nat → Int32)} {mki : (Nat → Int32)} {mfr : (Nat → Int32)} {mde : (Nat → Int32)} {mbe : (Nat → Int32)} {mow : (Nat → Int32)} {mco : (Nat → Int32)} {mpt : (Nat → Int32)} {mle : (Nat → Int32)} {mpl : (Nat → Int32)} {mit : (Nat → Int32)} {mro : (Nat → Int32)} {maw : (Nat → Int32)} {x2 : Int32} {x3 : Int32}  (C : xb_C κ Γ 5 cX9_take RX9 { frames := 0, cells := 0, slots := 0, locals := 0 }) : ∀ (n : Nat) (x4 : Int32) (mli : (Nat → Int32)) (mld : Int32) (o : (Nat → Int32) × Int32), F_X9_take_L8 x2 x3 mn mpk n x4 mli mld = some o → xb_W κ Γ 5 0 0 73 [] [] (mw κ q mth mn mib mpa mwi mch mst msz mns o.2 mps mbb mno mpk mtu mfo mbi mwr mus mnu o.1 mot mbl mki mfr mde mbe mow mco mpt mle mpl mit mro maw) → xb_W κ Γ 5 0 0 8 [(0, .ref (q 0)), (1, .ref (q 2)), (2, .int x2), (3, .int x3), (4, .int x4)] [] (mw κ q mth mn mib mpa mwi mch mst msz mns mld mps mbb mno mpk mtu mfo mbi mwr mus mnu mli mot mbl mki mfr mde mbe mow mco mpt mle mpl mit mro maw) := by
  intro n
  induction n with
  | zero =>
    intro x4 mli mld o hF K
    rw [F_X9_take_L8] at hF
    cases hF
  | succ n ih =>
    intro x4 mli mld o hF K
    rw [F_X9_take_L8] at hF
    refine x_iload C dX9_take_8 4 rfl ?_
    refine x_aload_n C dX9_take_10 0 rfl ?_
    refine gf_X9_93 C 0 rfl rfl dX9_take_11 ?_
    refine x_icmp_ge (tgt := 73) C dX9_take_14 (by decide) (fun hc => ?_) (fun hc => ?_)
    · replace hF := ifp hc hF
      cases hF
      exact x_sub [] rfl K
    · replace hF := ifn hc hF
      refine x_aload_n C dX9_take_17 1 rfl ?_
      refine x_bipush (v := 48) C dX9_take_18 (by decide) ?_
      refine x_iload_n C dX9_take_20 2 rfl ?_
      refine x_imul C dX9_take_21 ?_
      refine x_iload C dX9_take_22 4 rfl ?_
      refine x_iadd C dX9_take_24 ?_
      obtain ⟨b1, hF⟩ := ck_s hF
      refine x_zald C 2 rfl b1 dX9_take_25 ?_
      refine x_if_eq (tgt := 67) C dX9_take_26 (by decide) (fun hc => ?_) (fun hc => ?_)
      · replace hF := ifp hc hF
        refine x_iinc (v := x4 + 1) (lv2 := [(4, .int (x4 + 1)), (0, .ref (q 0)), (1, .ref (q 2)), (2, .int x2), (3, .int x3)]) C dX9_take_67 4 rfl rfl (by decide) rfl ?_
        refine x_goto (tgt := 8) C dX9_take_70 (by decide) ?_
        exact x_sub [1, 2, 3, 4, 0] rfl (ih _ _ _ _ hF K)
      · replace hF := ifn hc hF
        refine x_iload_n C dX9_take_29 3 rfl ?_
        refine x_iload_n C dX9_take_30 2 rfl ?_
        refine x_icmp_eq (tgt := 46) C dX9_take_31 (by decide) (fun hc => ?_) (fun hc => ?_)
        · replace hF := ifp hc hF
          refine x_aload_n C dX9_take_46 0 rfl ?_
          refine gf_X9_48 C 0 rfl rfl dX9_take_47 ?_
          refine x_aload_n C dX9_take_50 0 rfl ?_
          refine gf_X9_142 C 0 rfl rfl dX9_take_51 ?_
          refine x_iload C dX9_take_54 4 rfl ?_
          obtain ⟨b2, hF⟩ := ck_s hF
          refine x_iast (ws2 := (mw κ q mth mn mib mpa mwi mch mst msz mns mld mps mbb mno mpk mtu mfo mbi mwr mus mnu (upd mli mld.toNatClampNeg x4) mot mbl mki mfr mde mbe mow mco mpt mle mpl mit mro maw)) C 9 rfl b2 dX9_take_56 rfl ?_
          refine x_aload_n C dX9_take_57 0 rfl ?_
          refine x_dup C dX9_take_58 rfl ?_
          refine gf_X9_142 C 0 rfl rfl dX9_take_59 ?_
          refine x_iconst (v := 1) C dX9_take_62 (by decide) ?_
          refine x_iadd C dX9_take_63 ?_
          refine pf_X9_142 (ws2 := (mw κ q mth mn mib mpa mwi mch mst msz mns (mld + (1 : Int32)) mps mbb mno mpk mtu mfo mbi mwr mus mnu (upd mli mld.toNatClampNeg x4) mot mbl mki mfr mde mbe mow mco mpt mle mpl mit mro maw)) C 0 rfl dX9_take_64 rfl rfl ?_
          refine x_iinc (v := x4 + 1) (lv2 := [(4, .int (x4 + 1)), (0, .ref (q 0)), (1, .ref (q 2)), (2, .int x2), (3, .int x3)]) C dX9_take_67 4 rfl rfl (by decide) rfl ?_
          refine x_goto (tgt := 8) C dX9_take_70 (by decide) ?_
          exact x_sub [1, 2, 3, 4, 0] rfl (ih _ _ _ _ hF K)
        · replace hF := ifn hc hF
          refine x_aload_n C dX9_take_34 1 rfl ?_
          refine x_bipush (v := 48) C dX9_take_35 (by decide) ?_
          refine x_iload_n C dX9_take_37 3 rfl ?_
          refine x_imul C dX9_take_38 ?_
          refine x_iload C dX9_take_39 4 rfl ?_
          refine x_iadd C dX9_take_41 ?_
          obtain ⟨b3, hF⟩ := ck_s hF
          refine x_zald C 2 rfl b3 dX9_take_42 ?_
          refine x_if_ne (tgt := 67) C dX9_take_43 (by decide) (fun hc => ?_) (fun hc => ?_)
          · replace hF := ifn hc hF
            refine x_iinc (v := x4 + 1) (lv2 := [(4, .int (x4 + 1)), (0, .ref (q 0)), (1, .ref (q 2)), (2, .int x2), (3, .int x3)]) C dX9_take_67 4 rfl rfl (by decide) rfl ?_
            refine x_goto (tgt := 8) C dX9_take_70 (by decide) ?_
            exact x_sub [1, 2, 3, 4, 0] rfl (ih _ _ _ _ hF K)
          · replace hF := ifp hc hF
            refine x_aload_n C dX9_take_46 0 rfl ?_
            refine gf_X9_48 C 0 rfl rfl dX9_take_47 ?_
            refine x_aload_n C dX9_take_50 0 rfl ?_
            refine gf_X9_142 C 0 rfl rfl dX9_take_51 ?_
            refine x_iload C dX9_take_54 4 rfl ?_
            obtain ⟨b4, hF⟩ := ck_s hF
            refine x_iast (ws2 := (mw κ q mth mn mib mpa mwi mch mst msz mns mld mps mbb mno mpk mtu mfo mbi mwr mus mnu (upd mli mld.toNatClampNeg x4) mot mbl mki mfr mde mbe mow mco mpt mle mpl mit mro maw)) C 9 rfl b4 dX9_take_56 rfl ?_
            refine x_aload_n C dX9_take_57 0 rfl ?_
            refine x_dup C dX9_take_58 rfl ?_
            refine gf_X9_142 C 0 rfl rfl dX9_take_59 ?_
            refine x_iconst (v := 1) C dX9_take_62 (by decide) ?_
            refine x_iadd C dX9_take_63 ?_
            refine pf_X9_142 (ws2 := (mw κ q mth mn mib mpa mwi mch mst msz mns (mld + (1 : Int32)) mps mbb mno mpk mtu mfo mbi mwr mus mnu (upd mli mld.toNatClampNeg x4) mot mbl mki mfr mde mbe mow mco mpt mle mpl mit mro maw)) C 0 rfl dX9_take_64 rfl rfl ?_
            refine x_iinc (v := x4 + 1) (lv2 := [(4, .int (x4 + 1)), (0, .ref (q 0)), (1, .ref (q 2)), (2, .int x2), (3, .int x3)]) C dX9_take_67 4 rfl rfl (by decide) rfl ?_
            refine x_goto (tgt := 8) C dX9_take_70 (by decide) ?_
            exact x_sub [1, 2, 3, 4, 0] rfl (ih _ _ _ _ hF K)
set_option maxHeartbeats 4000000 in
set_option maxRecDepth 100000 in
theorem c_X9_take_0_2 {κ : xb_k} {q : Nat → Nat} {mth : Int32} {mn : Int32} {mib : Int32} {mpa : Int32} {mwi : Int32} {mch : Int32} {mst : Int32} {msz : Int32} {mns : Int32} {mld : Int32} {mps : Int32} {mbb : Int32} {mno : (Nat → Int32)} {mpk : (Nat → Int32)} {mtu : (Nat → Int32)} {mfo : (Nat → Int32)} {mbi : (Nat → Int32)} {mwr : (Nat → Int32)} {mus : (Nat → Int32)} {mnu : (Nat → Int32)} {mli : (Nat → Int32)} {mot : (Nat → Int32)} {mbl : (Nat → Int32)} {mki : (Nat → Int32)} {mfr : (Nat → Int32)} {mde : (Nat → Int32)} {mbe : (Nat → Int32)} {mow : (Nat → Int32)} {mco : (Nat → Int32)} {mpt : (Nat → Int32)} {mle : (Nat → Int32)} {mpl : (Nat → Int32)} {mit : (Nat → Int32)} {mro : (Nat → Int32)} {maw : (Nat → Int32)} {x2 : Int32} {x3 : Int32} {fu : Nat} {o : Int32 × (Nat → Int32)} (hF : F_X9_take fu x2 x3 mld mn mpk mli = some o) : Met κ.1 yX9_take [Cond.code yX9_take cX9_take 5 none] { frames := 0, cells := 0, slots := 0, locals := 0 } (xb_P κ [.ref (q 0), .ref (q 2), .int x2, .int x3] (mw κ q mth mn mib mpa mwi mch mst msz mns mld mps mbb mno mpk mtu mfo mbi mwr mus mnu mli mot mbl mki mfr mde mbe mow mco mpt mle mpl mit mro maw)) (xb_Qv κ (mw κ q mth mn mib mpa mwi mch mst msz mns o.1 mps mbb mno mpk mtu mfo mbi mwr mus mnu o.2 mot mbl mki mfr mde mbe mow mco mpt mle mpl mit mro maw)) 0 0 κ.2.2.1 := by
  refine x_enter (own := RX9) (lv0 := [(0, .ref (q 0)), (1, .ref (q 2)), (2, .int x2), (3, .int x3)]) (by decide) rfl rfl rfl (fun Γ C E => ?_)
  unfold F_X9_take at hF
  refine x_aload_n C dX9_take_0 0 rfl ?_
  refine x_iconst (v := 0) C dX9_take_1 (by decide) ?_
  refine pf_X9_142 (ws2 := (mw κ q mth mn mib mpa mwi mch mst msz mns (0 : Int32) mps mbb mno mpk mtu mfo mbi mwr mus mnu mli mot mbl mki mfr mde mbe mow mco mpt mle mpl mit mro maw)) C 0 rfl dX9_take_2 rfl rfl ?_
  refine x_iconst (v := 0) C dX9_take_5 (by decide) ?_
  refine x_istore (lv2 := [(4, .int (0 : Int32)), (0, .ref (q 0)), (1, .ref (q 2)), (2, .int x2), (3, .int x3)]) C dX9_take_6 (by decide) rfl ?_
  obtain ⟨o5, h6, hF⟩ := bd_s hF
  refine x_sub [1, 2, 3, 4, 0] rfl (w_X9_take_0_2_L8 C fu _ _ _ _ h6 ?_)
  cases hF
  exact x_vret C E dX9_take_73
set_option maxHeartbeats 4000000 in
set_option maxRecDepth 100000 in
theorem w_X9_tellCopied_0_2_L16 {κ : xb_k} {Γ : xb_X} {q : Nat → Nat} {mth : Int32} {mn : Int32} {mib : Int32} {mpa : Int32} {mwi : Int32} {mch : Int32} {mst : Int32} {msz : Int32} {mns : Int32} {mld : Int32} {mps : Int32} {mbb : Int32} {mno : (Nat → Int32)} {mpk : (Nat → Int32)} {mtu : (Nat → Int32)} {mfo : (Nat → Int32)} {mbi : (Nat → Int32)} {mwr : (Nat → Int32)} {mus : (Nat → Int32)} {mnu : (Nat → Int32)} {mli : (Nat → Int32)} {mot : (Nat → Int32)} {mki : (Nat → Int32)} {mfr : (Nat → Int32)} {mde : (Nat → Int32)} {mbe : (Nat → Int32)} {mow : (Nat → Int32)} {mco : (Nat → Int32)} {mpt : (Nat → Int32)} {mle : (Nat → Int32)} {mpl : (Nat → Int32)} {mit : (Nat → Int32)} {mro : (Nat → Int32)} {maw : (Nat → Int32)} {x2 : Int32} {x3 : Int32}  (C : xb_C κ Γ 7 cX9_tellCopied RX9 { frames := 3, cells := 0, slots := 0, locals := 72 }) : ∀ (n : Nat) (x4 : Int32) (x5 : Int32) (x6 : Int32) (mbl : (Nat → Int32)) (o : Int32 × (Nat → Int32)), F_X9_tellCopied_L16 x2 x3 mn mpk n x4 x5 x6 mbl = some o → xb_W κ Γ 7 0 0 93 [(0, .ref (q 0)), (1, .ref (q 2)), (2, .int x2), (3, .int x3), (4, .int o.1)] [] (mw κ q mth mn mib mpa mwi mch mst msz mns mld mps mbb mno mpk mtu mfo mbi mwr mus mnu mli mot o.2 mki mfr mde mbe mow mco mpt mle mpl mit mro maw) → xb_W κ Γ 7 0 0 16 [(0, .ref (q 0)), (1, .ref (q 2)), (2, .int x2), (3, .int x3), (4, .int x4), (5, .int x5), (6, .int x6)] [] (mw κ q mth mn mib mpa mwi mch mst msz mns mld mps mbb mno mpk mtu mfo mbi mwr mus mnu mli mot mbl mki mfr mde mbe mow mco mpt mle mpl mit mro maw) := by
  intro n
  induction n with
  | zero =>
    intro x4 x5 x6 mbl o hF K
    rw [F_X9_tellCopied_L16] at hF
    cases hF
  | succ n ih =>
    intro x4 x5 x6 mbl o hF K
    rw [F_X9_tellCopied_L16] at hF
    refine x_iload C dX9_tellCopied_16 6 rfl ?_
    refine x_aload_n C dX9_tellCopied_18 0 rfl ?_
    refine gf_X9_93 C 0 rfl rfl dX9_tellCopied_19 ?_
    refine x_icmp_ge (tgt := 93) C dX9_tellCopied_22 (by decide) (fun hc => ?_) (fun hc => ?_)
    · replace hF := ifp hc hF
      cases hF
      exact x_sub [0, 1, 2, 3, 4] rfl K
    · replace hF := ifn hc hF
      refine x_aload_n C dX9_tellCopied_25 1 rfl ?_
      refine x_bipush (v := 48) C dX9_tellCopied_26 (by decide) ?_
      refine x_iload_n C dX9_tellCopied_28 3 rfl ?_
      refine x_imul C dX9_tellCopied_29 ?_
      refine x_iload C dX9_tellCopied_30 6 rfl ?_
      refine x_iadd C dX9_tellCopied_32 ?_
      obtain ⟨b2, hF⟩ := ck_s hF
      refine x_zald C 2 rfl b2 dX9_tellCopied_33 ?_
      refine x_if_eq (tgt := 87) C dX9_tellCopied_34 (by decide) (fun hc => ?_) (fun hc => ?_)
      · replace hF := ifp hc hF
        refine x_iinc (v := x6 + 1) (lv2 := [(6, .int (x6 + 1)), (0, .ref (q 0)), (1, .ref (q 2)), (2, .int x2), (3, .int x3), (4, .int x4), (5, .int x5)]) C dX9_tellCopied_87 6 rfl rfl (by decide) rfl ?_
        refine x_goto (tgt := 16) C dX9_tellCopied_90 (by decide) ?_
        exact x_sub [1, 2, 3, 4, 5, 6, 0] rfl (ih _ _ _ _ _ hF K)
      · replace hF := ifn hc hF
        refine x_aload_n C dX9_tellCopied_37 1 rfl ?_
        refine x_bipush (v := 48) C dX9_tellCopied_38 (by decide) ?_
        refine x_iload_n C dX9_tellCopied_40 2 rfl ?_
        refine x_imul C dX9_tellCopied_41 ?_
        refine x_iload C dX9_tellCopied_42 6 rfl ?_
        refine x_iadd C dX9_tellCopied_44 ?_
        obtain ⟨b3, hF⟩ := ck_s hF
        refine x_zald C 2 rfl b3 dX9_tellCopied_45 ?_
        refine x_iload C dX9_tellCopied_46 5 rfl ?_
        refine x_icmp_eq (tgt := 74) C dX9_tellCopied_48 (by decide) (fun hc => ?_) (fun hc => ?_)
        · replace hF := ifp hc hF
          refine x_aload_n C dX9_tellCopied_74 0 rfl ?_
          refine gf_X9_54 C 0 rfl rfl dX9_tellCopied_75 ?_
          refine x_iload C dX9_tellCopied_78 4 rfl ?_
          refine x_iconst (v := 1) C dX9_tellCopied_80 (by decide) ?_
          refine x_isub C dX9_tellCopied_81 ?_
          refine x_dup2 C dX9_tellCopied_82 rfl rfl ?_
          obtain ⟨b4, hF⟩ := ck_s hF
          refine x_iald C 11 rfl b4 dX9_tellCopied_83 ?_
          refine x_iconst (v := 1) C dX9_tellCopied_84 (by decide) ?_
          refine x_iadd C dX9_tellCopied_85 ?_
          obtain ⟨b5, hF⟩ := ck_s hF
          refine x_iast (ws2 := (mw κ q mth mn mib mpa mwi mch mst msz mns mld mps mbb mno mpk mtu mfo mbi mwr mus mnu mli mot (upd mbl (x4 - (1 : Int32)).toNatClampNeg ((mbl (x4 - (1 : Int32)).toNatClampNeg) + (1 : Int32))) mki mfr mde mbe mow mco mpt mle mpl mit mro maw)) C 11 rfl b5 dX9_tellCopied_86 rfl ?_
          refine x_iinc (v := x6 + 1) (lv2 := [(6, .int (x6 + 1)), (0, .ref (q 0)), (1, .ref (q 2)), (2, .int x2), (3, .int x3), (4, .int x4), (5, .int x5)]) C dX9_tellCopied_87 6 rfl rfl (by decide) rfl ?_
          refine x_goto (tgt := 16) C dX9_tellCopied_90 (by decide) ?_
          exact x_sub [1, 2, 3, 4, 5, 6, 0] rfl (ih _ _ _ _ _ hF K)
        · replace hF := ifn hc hF
          refine x_iload C dX9_tellCopied_51 5 rfl ?_
          refine x_if_ne (tgt := 60) C dX9_tellCopied_53 (by decide) (fun hc => ?_) (fun hc => ?_)
          · replace hF := ifn hc hF
            refine x_iconst (v := 0) C dX9_tellCopied_60 (by decide) ?_
            refine x_istore (lv2 := [(5, .int (0 : Int32)), (0, .ref (q 0)), (1, .ref (q 2)), (2, .int x2), (3, .int x3), (4, .int x4), (6, .int x6)]) C dX9_tellCopied_61 (by decide) rfl ?_
            refine x_aload_n C dX9_tellCopied_63 1 rfl ?_
            refine gf_X9_54 C 0 rfl rfl dX9_tellCopied_64 ?_
            refine x_iload C dX9_tellCopied_67 5 rfl ?_
            refine x_iconst (v := 0) C dX9_tellCopied_69 (by decide) ?_
            obtain ⟨b6, hF⟩ := ck_s hF
            refine x_iast (ws2 := (mw κ q mth mn mib mpa mwi mch mst msz mns mld mps mbb mno mpk mtu mfo mbi mwr mus mnu mli mot (upd mbl x4.toNatClampNeg (0 : Int32)) mki mfr mde mbe mow mco mpt mle mpl mit mro maw)) C 11 rfl b6 dX9_tellCopied_70 rfl ?_
            refine x_iinc (v := x4 + 1) (lv2 := [(4, .int (x4 + 1)), (5, .int (0 : Int32)), (0, .ref (q 0)), (1, .ref (q 2)), (2, .int x2), (3, .int x3), (6, .int x6)]) C dX9_tellCopied_71 5 rfl rfl (by decide) rfl ?_
            refine x_aload_n C dX9_tellCopied_74 2 rfl ?_
            refine gf_X9_54 C 0 rfl rfl dX9_tellCopied_75 ?_
            refine x_iload C dX9_tellCopied_78 0 rfl ?_
            refine x_iconst (v := 1) C dX9_tellCopied_80 (by decide) ?_
            refine x_isub C dX9_tellCopied_81 ?_
            refine x_dup2 C dX9_tellCopied_82 rfl rfl ?_
            obtain ⟨b7, hF⟩ := ck_s hF
            refine x_iald C 11 rfl b7 dX9_tellCopied_83 ?_
            refine x_iconst (v := 1) C dX9_tellCopied_84 (by decide) ?_
            refine x_iadd C dX9_tellCopied_85 ?_
            obtain ⟨b8, hF⟩ := ck_s hF
            refine x_iast (ws2 := (mw κ q mth mn mib mpa mwi mch mst msz mns mld mps mbb mno mpk mtu mfo mbi mwr mus mnu mli mot (upd (upd mbl x4.toNatClampNeg (0 : Int32)) ((x4 + 1) - (1 : Int32)).toNatClampNeg (((upd mbl x4.toNatClampNeg (0 : Int32)) ((x4 + 1) - (1 : Int32)).toNatClampNeg) + (1 : Int32))) mki mfr mde mbe mow mco mpt mle mpl mit mro maw)) C 11 rfl b8 dX9_tellCopied_86 rfl ?_
            refine x_iinc (v := x6 + 1) (lv2 := [(6, .int (x6 + 1)), (4, .int (x4 + 1)), (5, .int (0 : Int32)), (0, .ref (q 0)), (1, .ref (q 2)), (2, .int x2), (3, .int x3)]) C dX9_tellCopied_87 6 rfl rfl (by decide) rfl ?_
            refine x_goto (tgt := 16) C dX9_tellCopied_90 (by decide) ?_
            exact x_sub [3, 4, 5, 6, 1, 2, 0] rfl (ih _ _ _ _ _ hF K)
          · replace hF := ifp hc hF
            refine x_iconst (v := 1) C dX9_tellCopied_56 (by decide) ?_
            refine x_goto (tgt := 61) C dX9_tellCopied_57 (by decide) ?_
            refine x_istore (lv2 := [(5, .int (1 : Int32)), (0, .ref (q 0)), (1, .ref (q 2)), (2, .int x2), (3, .int x3), (4, .int x4), (6, .int x6)]) C dX9_tellCopied_61 (by decide) rfl ?_
            refine x_aload_n C dX9_tellCopied_63 1 rfl ?_
            refine gf_X9_54 C 0 rfl rfl dX9_tellCopied_64 ?_
            refine x_iload C dX9_tellCopied_67 5 rfl ?_
            refine x_iconst (v := 0) C dX9_tellCopied_69 (by decide) ?_
            obtain ⟨b9, hF⟩ := ck_s hF
            refine x_iast (ws2 := (mw κ q mth mn mib mpa mwi mch mst msz mns mld mps mbb mno mpk mtu mfo mbi mwr mus mnu mli mot (upd mbl x4.toNatClampNeg (0 : Int32)) mki mfr mde mbe mow mco mpt mle mpl mit mro maw)) C 11 rfl b9 dX9_tellCopied_70 rfl ?_
            refine x_iinc (v := x4 + 1) (lv2 := [(4, .int (x4 + 1)), (5, .int (1 : Int32)), (0, .ref (q 0)), (1, .ref (q 2)), (2, .int x2), (3, .int x3), (6, .int x6)]) C dX9_tellCopied_71 5 rfl rfl (by decide) rfl ?_
            refine x_aload_n C dX9_tellCopied_74 2 rfl ?_
            refine gf_X9_54 C 0 rfl rfl dX9_tellCopied_75 ?_
            refine x_iload C dX9_tellCopied_78 0 rfl ?_
            refine x_iconst (v := 1) C dX9_tellCopied_80 (by decide) ?_
            refine x_isub C dX9_tellCopied_81 ?_
            refine x_dup2 C dX9_tellCopied_82 rfl rfl ?_
            obtain ⟨b10, hF⟩ := ck_s hF
            refine x_iald C 11 rfl b10 dX9_tellCopied_83 ?_
            refine x_iconst (v := 1) C dX9_tellCopied_84 (by decide) ?_
            refine x_iadd C dX9_tellCopied_85 ?_
            obtain ⟨b11, hF⟩ := ck_s hF
            refine x_iast (ws2 := (mw κ q mth mn mib mpa mwi mch mst msz mns mld mps mbb mno mpk mtu mfo mbi mwr mus mnu mli mot (upd (upd mbl x4.toNatClampNeg (0 : Int32)) ((x4 + 1) - (1 : Int32)).toNatClampNeg (((upd mbl x4.toNatClampNeg (0 : Int32)) ((x4 + 1) - (1 : Int32)).toNatClampNeg) + (1 : Int32))) mki mfr mde mbe mow mco mpt mle mpl mit mro maw)) C 11 rfl b11 dX9_tellCopied_86 rfl ?_
            refine x_iinc (v := x6 + 1) (lv2 := [(6, .int (x6 + 1)), (4, .int (x4 + 1)), (5, .int (1 : Int32)), (0, .ref (q 0)), (1, .ref (q 2)), (2, .int x2), (3, .int x3)]) C dX9_tellCopied_87 6 rfl rfl (by decide) rfl ?_
            refine x_goto (tgt := 16) C dX9_tellCopied_90 (by decide) ?_
            exact x_sub [3, 4, 5, 6, 1, 2, 0] rfl (ih _ _ _ _ _ hF K)
set_option maxHeartbeats 4000000 in
set_option maxRecDepth 100000 in
theorem w_X9_tellCopied_0_2_L115 {κ : xb_k} {Γ : xb_X} {q : Nat → Nat} {mth : Int32} {mn : Int32} {mib : Int32} {mpa : Int32} {mwi : Int32} {mch : Int32} {mst : Int32} {msz : Int32} {mld : Int32} {mps : Int32} {mbb : Int32} {mno : (Nat → Int32)} {mpk : (Nat → Int32)} {mtu : (Nat → Int32)} {mfo : (Nat → Int32)} {mbi : (Nat → Int32)} {mwr : (Nat → Int32)} {mli : (Nat → Int32)} {mot : (Nat → Int32)} {mbl : (Nat → Int32)} {mki : (Nat → Int32)} {mfr : (Nat → Int32)} {mde : (Nat → Int32)} {mbe : (Nat → Int32)} {mow : (Nat → Int32)} {mco : (Nat → Int32)} {mpt : (Nat → Int32)} {mle : (Nat → Int32)} {mpl : (Nat → Int32)} {mit : (Nat → Int32)} {mro : (Nat → Int32)} {maw : (Nat → Int32)} {x2 : Int32} {x3 : Int32} {x4 : Int32}  (C : xb_C κ Γ 7 cX9_tellCopied RX9 { frames := 3, cells := 0, slots := 0, locals := 72 }) : ∀ (n : Nat) (x6 : Int32) (mus : (Nat → Int32)) (mnu : (Nat → Int32)) (mns : Int32) (o : (Nat → Int32) × (Nat → Int32) × Int32), F_X9_tellCopied_L115 x2 x3 x4 mbl n x6 mus mnu mns = some o → xb_W κ Γ 7 0 0 158 [(0, .ref (q 0)), (1, .ref (q 2)), (2, .int x2), (3, .int x3)] [] (mw κ q mth mn mib mpa mwi mch mst msz o.2.2 mld mps mbb mno mpk mtu mfo mbi mwr o.1 o.2.1 mli mot mbl mki mfr mde mbe mow mco mpt mle mpl mit mro maw) → xb_W κ Γ 7 0 0 115 [(0, .ref (q 0)), (1, .ref (q 2)), (2, .int x2), (3, .int x3), (4, .int x4), (6, .int x6)] [] (mw κ q mth mn mib mpa mwi mch mst msz mns mld mps mbb mno mpk mtu mfo mbi mwr mus mnu mli mot mbl mki mfr mde mbe mow mco mpt mle mpl mit mro maw) := by
  intro n
  induction n with
  | zero =>
    intro x6 mus mnu mns o hF K
    rw [F_X9_tellCopied_L115] at hF
    cases hF
  | succ n ih =>
    intro x6 mus mnu mns o hF K
    rw [F_X9_tellCopied_L115] at hF
    refine x_iload C dX9_tellCopied_115 5 rfl ?_
    refine x_iconst (v := 1) C dX9_tellCopied_117 (by decide) ?_
    refine x_iadd C dX9_tellCopied_118 ?_
    refine x_iload C dX9_tellCopied_119 4 rfl ?_
    refine x_icmp_ge (tgt := 158) C dX9_tellCopied_121 (by decide) (fun hc => ?_) (fun hc => ?_)
    · replace hF := ifp hc hF
      cases hF
      exact x_sub [0, 1, 2, 3] rfl K
    · replace hF := ifn hc hF
      refine x_aload_n C dX9_tellCopied_124 0 rfl ?_
      refine x_iconst (v := 5) C dX9_tellCopied_125 (by decide) ?_
      refine x_iload C dX9_tellCopied_126 5 rfl ?_
      refine x_if_ne (tgt := 140) C dX9_tellCopied_128 (by decide) (fun hc => ?_) (fun hc => ?_)
      · replace hF := ifn hc hF
        refine x_aload_n C dX9_tellCopied_140 0 rfl ?_
        refine gf_X9_54 C 0 rfl rfl dX9_tellCopied_141 ?_
        refine x_iload C dX9_tellCopied_144 5 rfl ?_
        obtain ⟨b18, hF⟩ := ck_s hF
        refine x_iald C 11 rfl b18 dX9_tellCopied_146 ?_
        refine x_iconst (v := 1) C dX9_tellCopied_147 (by decide) ?_
        refine x_isub C dX9_tellCopied_148 ?_
        obtain ⟨o19, h20, hF⟩ := bd_s hF
        refine x_callVv (st := []) C (c_X9_say h20) xm_X9_say ml_X9_145 0 rfl rfl rfl rfl rfl rfl dX9_tellCopied_149 ⟨rfl, rfl⟩ ?_
        refine x_iinc (v := x6 + 1) (lv2 := [(6, .int (x6 + 1)), (0, .ref (q 0)), (1, .ref (q 2)), (2, .int x2), (3, .int x3), (4, .int x4)]) C dX9_tellCopied_152 5 rfl rfl (by decide) rfl ?_
        refine x_goto (tgt := 115) C dX9_tellCopied_155 (by decide) ?_
        exact x_sub [1, 2, 3, 4, 5, 0] rfl (ih _ _ _ _ _ hF K)
      · replace hF := ifp hc hF
        refine x_aload_n C dX9_tellCopied_131 0 rfl ?_
        refine gf_X9_54 C 0 rfl rfl dX9_tellCopied_132 ?_
        refine x_iconst (v := 0) C dX9_tellCopied_135 (by decide) ?_
        obtain ⟨b21, hF⟩ := ck_s hF
        refine x_iald C 11 rfl b21 dX9_tellCopied_136 ?_
        refine x_goto (tgt := 149) C dX9_tellCopied_137 (by decide) ?_
        obtain ⟨o22, h23, hF⟩ := bd_s hF
        refine x_callVv (st := []) C (c_X9_say h23) xm_X9_say ml_X9_145 0 rfl rfl rfl rfl rfl rfl dX9_tellCopied_149 ⟨rfl, rfl⟩ ?_
        refine x_iinc (v := x6 + 1) (lv2 := [(6, .int (x6 + 1)), (0, .ref (q 0)), (1, .ref (q 2)), (2, .int x2), (3, .int x3), (4, .int x4)]) C dX9_tellCopied_152 5 rfl rfl (by decide) rfl ?_
        refine x_goto (tgt := 115) C dX9_tellCopied_155 (by decide) ?_
        exact x_sub [1, 2, 3, 4, 5, 0] rfl (ih _ _ _ _ _ hF K)
set_option maxHeartbeats 4000000 in
set_option maxRecDepth 100000 in
theorem c_X9_tellCopied_0_2 {κ : xb_k} {q : Nat → Nat} {mth : Int32} {mn : Int32} {mib : Int32} {mpa : Int32} {mwi : Int32} {mch : Int32} {mst : Int32} {msz : Int32} {mns : Int32} {mld : Int32} {mps : Int32} {mbb : Int32} {mno : (Nat → Int32)} {mpk : (Nat → Int32)} {mtu : (Nat → Int32)} {mfo : (Nat → Int32)} {mbi : (Nat → Int32)} {mwr : (Nat → Int32)} {mus : (Nat → Int32)} {mnu : (Nat → Int32)} {mli : (Nat → Int32)} {mot : (Nat → Int32)} {mbl : (Nat → Int32)} {mki : (Nat → Int32)} {mfr : (Nat → Int32)} {mde : (Nat → Int32)} {mbe : (Nat → Int32)} {mow : (Nat → Int32)} {mco : (Nat → Int32)} {mpt : (Nat → Int32)} {mle : (Nat → Int32)} {mpl : (Nat → Int32)} {mit : (Nat → Int32)} {mro : (Nat → Int32)} {maw : (Nat → Int32)} {x2 : Int32} {x3 : Int32} {fu : Nat} {o : (Nat → Int32) × (Nat → Int32) × (Nat → Int32) × Int32 × Int32 × (Nat → Int32) × (Nat → Int32)} (hF : F_X9_tellCopied fu x2 x3 mbl mn mpk mns mus mnu mld mli mot = some o) : Met κ.1 yX9_tellCopied [Cond.code yX9_tellCopied cX9_tellCopied 7 none] { frames := 3, cells := 0, slots := 0, locals := 72 } (xb_P κ [.ref (q 0), .ref (q 2), .int x2, .int x3] (mw κ q mth mn mib mpa mwi mch mst msz mns mld mps mbb mno mpk mtu mfo mbi mwr mus mnu mli mot mbl mki mfr mde mbe mow mco mpt mle mpl mit mro maw)) (xb_Qv κ (mw κ q mth mn mib mpa mwi mch mst msz o.2.2.2.1 o.2.2.2.2.1 mps mbb mno mpk mtu mfo mbi mwr o.2.1 o.2.2.1 o.2.2.2.2.2.1 o.2.2.2.2.2.2 o.1 mki mfr mde mbe mow mco mpt mle mpl mit mro maw)) 0 0 κ.2.2.1 := by
  refine x_enter (own := RX9) (lv0 := [(0, .ref (q 0)), (1, .ref (q 2)), (2, .int x2), (3, .int x3)]) (by decide) rfl rfl rfl (fun Γ C E => ?_)
  unfold F_X9_tellCopied at hF
  refine x_iconst (v := 1) C dX9_tellCopied_0 (by decide) ?_
  refine x_istore (lv2 := [(4, .int (1 : Int32)), (0, .ref (q 0)), (1, .ref (q 2)), (2, .int x2), (3, .int x3)]) C dX9_tellCopied_1 (by decide) rfl ?_
  refine x_aload_n C dX9_tellCopied_3 1 rfl ?_
  refine gf_X9_54 C 0 rfl rfl dX9_tellCopied_4 ?_
  refine x_iconst (v := 0) C dX9_tellCopied_7 (by decide) ?_
  refine x_iconst (v := 0) C dX9_tellCopied_8 (by decide) ?_
  obtain ⟨b1, hF⟩ := ck_s hF
  refine x_iast (ws2 := (mw κ q mth mn mib mpa mwi mch mst msz mns mld mps mbb mno mpk mtu mfo mbi mwr mus mnu mli mot (upd mbl (0 : Int32).toNatClampNeg (0 : Int32)) mki mfr mde mbe mow mco mpt mle mpl mit mro maw)) C 11 rfl b1 dX9_tellCopied_9 rfl ?_
  refine x_iconst (v := 1) C dX9_tellCopied_10 (by decide) ?_
  refine x_istore (lv2 := [(5, .int (1 : Int32)), (4, .int (1 : Int32)), (0, .ref (q 0)), (1, .ref (q 2)), (2, .int x2), (3, .int x3)]) C dX9_tellCopied_11 (by decide) rfl ?_
  refine x_iconst (v := 0) C dX9_tellCopied_13 (by decide) ?_
  refine x_istore (lv2 := [(6, .int (0 : Int32)), (5, .int (1 : Int32)), (4, .int (1 : Int32)), (0, .ref (q 0)), (1, .ref (q 2)), (2, .int x2), (3, .int x3)]) C dX9_tellCopied_14 (by decide) rfl ?_
  obtain ⟨o12, h13, hF⟩ := bd_s hF
  refine x_sub [3, 4, 5, 6, 2, 1, 0] rfl (w_X9_tellCopied_0_2_L16 C fu _ _ _ _ _ h13 ?_)
  refine x_aload_n C dX9_tellCopied_93 0 rfl ?_
  refine x_iconst (v := 4) C dX9_tellCopied_94 (by decide) ?_
  refine x_iload_n C dX9_tellCopied_95 2 rfl ?_
  refine x_iload_n C dX9_tellCopied_96 3 rfl ?_
  refine x_isub C dX9_tellCopied_97 ?_
  refine x_iconst (v := 1) C dX9_tellCopied_98 (by decide) ?_
  refine x_isub C dX9_tellCopied_99 ?_
  obtain ⟨o14, h15, hF⟩ := bd_s hF
  refine x_callVv (st := []) C (c_X9_say h15) xm_X9_say ml_X9_145 0 rfl rfl rfl rfl rfl rfl dX9_tellCopied_100 ⟨rfl, rfl⟩ ?_
  refine x_aload_n C dX9_tellCopied_103 0 rfl ?_
  refine x_iconst (v := 1) C dX9_tellCopied_104 (by decide) ?_
  refine x_iload C dX9_tellCopied_105 4 rfl ?_
  refine x_iconst (v := 1) C dX9_tellCopied_107 (by decide) ?_
  refine x_isub C dX9_tellCopied_108 ?_
  obtain ⟨o16, h17, hF⟩ := bd_s hF
  refine x_callVv (st := []) C (c_X9_say h17) xm_X9_say ml_X9_145 0 rfl rfl rfl rfl rfl rfl dX9_tellCopied_109 ⟨rfl, rfl⟩ ?_
  refine x_iconst (v := 0) C dX9_tellCopied_112 (by decide) ?_
  refine x_istore (lv2 := [(6, .int (0 : Int32)), (0, .ref (q 0)), (1, .ref (q 2)), (2, .int x2), (3, .int x3), (4, .int o12.1)]) C dX9_tellCopied_113 (by decide) rfl ?_
  obtain ⟨o24, h25, hF⟩ := bd_s hF
  refine x_sub [1, 2, 3, 4, 5, 0] rfl (w_X9_tellCopied_0_2_L115 C fu _ _ _ _ _ h25 ?_)
  refine x_aload_n C dX9_tellCopied_158 0 rfl ?_
  refine x_aload_n C dX9_tellCopied_159 1 rfl ?_
  refine x_iload_n C dX9_tellCopied_160 2 rfl ?_
  refine x_iload_n C dX9_tellCopied_161 3 rfl ?_
  obtain ⟨o26, h27, hF⟩ := bd_s hF
  refine x_callVv (st := []) C (c_X9_take_0_2 h27) xm_X9_take ml_X9_157 0 rfl rfl rfl rfl rfl rfl dX9_tellCopied_162 ⟨rfl, rfl⟩ ?_
  refine x_aload_n C dX9_tellCopied_165 0 rfl ?_
  refine x_iload_n C dX9_tellCopied_166 2 rfl ?_
  obtain ⟨o28, h29, hF⟩ := bd_s hF
  refine x_callVv (st := []) C (c_X9_tellSpans h29) xm_X9_tellSpans ml_X9_161 0 rfl rfl rfl rfl rfl rfl dX9_tellCopied_167 ⟨rfl, rfl⟩ ?_
  cases hF
  exact x_vret C E dX9_tellCopied_170
set_option maxHeartbeats 4000000 in
set_option maxRecDepth 100000 in
theorem w_X9_tellDense_0_2_L45 {κ : xb_k} {Γ : xb_X} {q : Nat → Nat} {mth : Int32} {mn : Int32} {mib : Int32} {mpa : Int32} {mwi : Int32} {mch : Int32} {mst : Int32} {msz : Int32} {mld : Int32} {mps : Int32} {mbb : Int32} {mno : (Nat → Int32)} {mpk : (Nat → Int32)} {mtu : (Nat → Int32)} {mfo : (Nat → Int32)} {mbi : (Nat → Int32)} {mwr : (Nat → Int32)} {mli : (Nat → Int32)} {mot : (Nat → Int32)} {mbl : (Nat → Int32)} {mki : (Nat → Int32)} {mfr : (Nat → Int32)} {mde : (Nat → Int32)} {mbe : (Nat → Int32)} {mow : (Nat → Int32)} {mco : (Nat → Int32)} {mpt : (Nat → Int32)} {mle : (Nat → Int32)} {mpl : (Nat → Int32)} {mit : (Nat → Int32)} {mro : (Nat → Int32)} {maw : (Nat → Int32)} {x2 : Int32} {x4 : Int32}  (C : xb_C κ Γ 6 cX9_tellDense RX9 { frames := 1, cells := 0, slots := 0, locals := 22 }) : ∀ (n : Nat) (x5 : Int32) (mus : (Nat → Int32)) (mnu : (Nat → Int32)) (mns : Int32) (o : (Nat → Int32) × (Nat → Int32) × Int32), F_X9_tellDense_L45 x2 x4 mpk n x5 mus mnu mns = some o → xb_W κ Γ 6 0 0 81 [] [] (mw κ q mth mn mib mpa mwi mch mst msz o.2.2 mld mps mbb mno mpk mtu mfo mbi mwr o.1 o.2.1 mli mot mbl mki mfr mde mbe mow mco mpt mle mpl mit mro maw) → xb_W κ Γ 6 0 0 45 [(0, .ref (q 0)), (1, .ref (q 2)), (2, .int x2), (4, .int x4), (5, .int x5)] [] (mw κ q mth mn mib mpa mwi mch mst msz mns mld mps mbb mno mpk mtu mfo mbi mwr mus mnu mli mot mbl mki mfr mde mbe mow mco mpt mle mpl mit mro maw) := by
  intro n
  induction n with
  | zero =>
    intro x5 mus mnu mns o hF K
    rw [F_X9_tellDense_L45] at hF
    cases hF
  | succ n ih =>
    intro x5 mus mnu mns o hF K
    rw [F_X9_tellDense_L45] at hF
    refine x_iload C dX9_tellDense_45 4 rfl ?_
    refine x_iload C dX9_tellDense_47 3 rfl ?_
    refine x_icmp_ge (tgt := 81) C dX9_tellDense_49 (by decide) (fun hc => ?_) (fun hc => ?_)
    · replace hF := ifp hc hF
      cases hF
      exact x_sub [] rfl K
    · replace hF := ifn hc hF
      refine x_aload_n C dX9_tellDense_52 0 rfl ?_
      refine x_bipush (v := 8) C dX9_tellDense_53 (by decide) ?_
      refine x_aload_n C dX9_tellDense_55 1 rfl ?_
      refine x_bipush (v := 48) C dX9_tellDense_56 (by decide) ?_
      refine x_iload_n C dX9_tellDense_58 2 rfl ?_
      refine x_imul C dX9_tellDense_59 ?_
      refine x_iload C dX9_tellDense_60 4 rfl ?_
      refine x_iadd C dX9_tellDense_62 ?_
      obtain ⟨b9, hF⟩ := ck_s hF
      refine x_zald C 2 rfl b9 dX9_tellDense_63 ?_
      refine x_if_eq (tgt := 71) C dX9_tellDense_64 (by decide) (fun hc => ?_) (fun hc => ?_)
      · replace hF := ifp hc hF
        refine x_iconst (v := 0) C dX9_tellDense_71 (by decide) ?_
        obtain ⟨o10, h11, hF⟩ := bd_s hF
        refine x_callVv (st := []) C (c_X9_say h11) xm_X9_say ml_X9_145 0 rfl rfl rfl rfl rfl rfl dX9_tellDense_72 ⟨rfl, rfl⟩ ?_
        refine x_iinc (v := x5 + 1) (lv2 := [(5, .int (x5 + 1)), (0, .ref (q 0)), (1, .ref (q 2)), (2, .int x2), (4, .int x4)]) C dX9_tellDense_75 4 rfl rfl (by decide) rfl ?_
        refine x_goto (tgt := 45) C dX9_tellDense_78 (by decide) ?_
        exact x_sub [1, 2, 3, 4, 0] rfl (ih _ _ _ _ _ hF K)
      · replace hF := ifn hc hF
        refine x_iconst (v := 1) C dX9_tellDense_67 (by decide) ?_
        refine x_goto (tgt := 72) C dX9_tellDense_68 (by decide) ?_
        obtain ⟨o12, h13, hF⟩ := bd_s hF
        refine x_callVv (st := []) C (c_X9_say h13) xm_X9_say ml_X9_145 0 rfl rfl rfl rfl rfl rfl dX9_tellDense_72 ⟨rfl, rfl⟩ ?_
        refine x_iinc (v := x5 + 1) (lv2 := [(5, .int (x5 + 1)), (0, .ref (q 0)), (1, .ref (q 2)), (2, .int x2), (4, .int x4)]) C dX9_tellDense_75 4 rfl rfl (by decide) rfl ?_
        refine x_goto (tgt := 45) C dX9_tellDense_78 (by decide) ?_
        exact x_sub [1, 2, 3, 4, 0] rfl (ih _ _ _ _ _ hF K)
set_option maxHeartbeats 4000000 in
set_option maxRecDepth 100000 in
theorem c_X9_tellDense_0_2 {κ : xb_k} {q : Nat → Nat} {mth : Int32} {mn : Int32} {mib : Int32} {mpa : Int32} {mwi : Int32} {mch : Int32} {mst : Int32} {msz : Int32} {mns : Int32} {mld : Int32} {mps : Int32} {mbb : Int32} {mno : (Nat → Int32)} {mpk : (Nat → Int32)} {mtu : (Nat → Int32)} {mfo : (Nat → Int32)} {mbi : (Nat → Int32)} {mwr : (Nat → Int32)} {mus : (Nat → Int32)} {mnu : (Nat → Int32)} {mli : (Nat → Int32)} {mot : (Nat → Int32)} {mbl : (Nat → Int32)} {mki : (Nat → Int32)} {mfr : (Nat → Int32)} {mde : (Nat → Int32)} {mbe : (Nat → Int32)} {mow : (Nat → Int32)} {mco : (Nat → Int32)} {mpt : (Nat → Int32)} {mle : (Nat → Int32)} {mpl : (Nat → Int32)} {mit : (Nat → Int32)} {mro : (Nat → Int32)} {maw : (Nat → Int32)} {x2 : Int32} {fu : Nat} {o : (Nat → Int32) × (Nat → Int32) × Int32} (hF : F_X9_tellDense fu x2 mli mld mns mus mnu mpk = some o) : Met κ.1 yX9_tellDense [Cond.code yX9_tellDense cX9_tellDense 6 none] { frames := 1, cells := 0, slots := 0, locals := 22 } (xb_P κ [.ref (q 0), .ref (q 2), .int x2] (mw κ q mth mn mib mpa mwi mch mst msz mns mld mps mbb mno mpk mtu mfo mbi mwr mus mnu mli mot mbl mki mfr mde mbe mow mco mpt mle mpl mit mro maw)) (xb_Qv κ (mw κ q mth mn mib mpa mwi mch mst msz o.2.2 mld mps mbb mno mpk mtu mfo mbi mwr o.1 o.2.1 mli mot mbl mki mfr mde mbe mow mco mpt mle mpl mit mro maw)) 0 0 κ.2.2.1 := by
  refine x_enter (own := RX9) (lv0 := [(0, .ref (q 0)), (1, .ref (q 2)), (2, .int x2)]) (by decide) rfl rfl rfl (fun Γ C E => ?_)
  unfold F_X9_tellDense at hF
  refine x_aload_n C dX9_tellDense_0 0 rfl ?_
  refine gf_X9_48 C 0 rfl rfl dX9_tellDense_1 ?_
  refine x_iconst (v := 0) C dX9_tellDense_4 (by decide) ?_
  obtain ⟨b1, hF⟩ := ck_s hF
  refine x_iald C 9 rfl b1 dX9_tellDense_5 ?_
  refine x_istore_n (lv2 := [(3, .int (mli (0 : Int32).toNatClampNeg)), (0, .ref (q 0)), (1, .ref (q 2)), (2, .int x2)]) C dX9_tellDense_6 rfl (by decide) rfl ?_
  refine x_aload_n C dX9_tellDense_7 1 rfl ?_
  refine gf_X9_48 C 0 rfl rfl dX9_tellDense_8 ?_
  refine x_aload_n C dX9_tellDense_11 1 rfl ?_
  refine gf_X9_142 C 0 rfl rfl dX9_tellDense_12 ?_
  refine x_iconst (v := 1) C dX9_tellDense_15 (by decide) ?_
  refine x_isub C dX9_tellDense_16 ?_
  obtain ⟨b2, hF⟩ := ck_s hF
  refine x_iald C 9 rfl b2 dX9_tellDense_17 ?_
  refine x_istore (lv2 := [(4, .int (mli (mld - (1 : Int32)).toNatClampNeg)), (3, .int (mli (0 : Int32).toNatClampNeg)), (0, .ref (q 0)), (1, .ref (q 2)), (2, .int x2)]) C dX9_tellDense_18 (by decide) rfl ?_
  refine x_aload_n C dX9_tellDense_20 2 rfl ?_
  refine x_iconst (v := 2) C dX9_tellDense_21 (by decide) ?_
  refine x_iload_n C dX9_tellDense_22 1 rfl ?_
  refine x_iload_n C dX9_tellDense_23 4 rfl ?_
  refine x_isub C dX9_tellDense_24 ?_
  obtain ⟨o3, h4, hF⟩ := bd_s hF
  refine x_callSi (st := [.int (2 : Int32), .ref (q 0)]) C (c_X9_folded h4) xm_X9_folded ml_X9_148 rfl rfl rfl rfl dX9_tellDense_25 ⟨rfl, rfl⟩ ?_
  obtain ⟨o5, h6, hF⟩ := bd_s hF
  refine x_callVv (st := []) C (c_X9_say h6) xm_X9_say ml_X9_145 0 rfl rfl rfl rfl rfl rfl dX9_tellDense_28 ⟨rfl, rfl⟩ ?_
  refine x_aload_n C dX9_tellDense_31 2 rfl ?_
  refine x_iconst (v := 1) C dX9_tellDense_32 (by decide) ?_
  refine x_iload C dX9_tellDense_33 0 rfl ?_
  refine x_iload_n C dX9_tellDense_35 1 rfl ?_
  refine x_isub C dX9_tellDense_36 ?_
  obtain ⟨o7, h8, hF⟩ := bd_s hF
  refine x_callVv (st := []) C (c_X9_say h8) xm_X9_say ml_X9_145 0 rfl rfl rfl rfl rfl rfl dX9_tellDense_37 ⟨rfl, rfl⟩ ?_
  refine x_iload_n C dX9_tellDense_40 1 rfl ?_
  refine x_iconst (v := 1) C dX9_tellDense_41 (by decide) ?_
  refine x_iadd C dX9_tellDense_42 ?_
  refine x_istore (lv2 := [(5, .int ((mli (0 : Int32).toNatClampNeg) + (1 : Int32))), (4, .int (mli (mld - (1 : Int32)).toNatClampNeg)), (3, .int (mli (0 : Int32).toNatClampNeg)), (0, .ref (q 0)), (1, .ref (q 2)), (2, .int x2)]) C dX9_tellDense_43 (by decide) rfl ?_
  obtain ⟨o14, h15, hF⟩ := bd_s hF
  refine x_sub [3, 4, 5, 1, 0] rfl (w_X9_tellDense_0_2_L45 C fu _ _ _ _ _ h15 ?_)
  cases hF
  exact x_vret C E dX9_tellDense_81
set_option maxHeartbeats 4000000 in
set_option maxRecDepth 100000 in
theorem c_X9_tell_0_2 {κ : xb_k} {q : Nat → Nat} {mth : Int32} {mn : Int32} {mib : Int32} {mpa : Int32} {mwi : Int32} {mch : Int32} {mst : Int32} {msz : Int32} {mns : Int32} {mld : Int32} {mps : Int32} {mbb : Int32} {mno : (Nat → Int32)} {mpk : (Nat → Int32)} {mtu : (Nat → Int32)} {mfo : (Nat → Int32)} {mbi : (Nat → Int32)} {mwr : (Nat → Int32)} {mus : (Nat → Int32)} {mnu : (Nat → Int32)} {mli : (Nat → Int32)} {mot : (Nat → Int32)} {mbl : (Nat → Int32)} {mki : (Nat → Int32)} {mfr : (Nat → Int32)} {mde : (Nat → Int32)} {mbe : (Nat → Int32)} {mow : (Nat → Int32)} {mco : (Nat → Int32)} {mpt : (Nat → Int32)} {mle : (Nat → Int32)} {mpl : (Nat → Int32)} {mit : (Nat → Int32)} {mro : (Nat → Int32)} {maw : (Nat → Int32)} {x2 : Int32} {x3 : Int32} {x4 : Int32} {fu : Nat} {o : Int32 × (Nat → Int32) × (Nat → Int32) × Int32 × (Nat → Int32) × (Nat → Int32) × (Nat → Int32)} (hF : F_X9_tell fu x2 x3 x4 mns mus mnu mld mn mpk mli mot mbl = some o) : Met κ.1 yX9_tell [Cond.code yX9_tell cX9_tell 5 none] { frames := 4, cells := 0, slots := 0, locals := 98 } (xb_P κ [.ref (q 0), .ref (q 2), .int x2, .int x3, .int x4] (mw κ q mth mn mib mpa mwi mch mst msz mns mld mps mbb mno mpk mtu mfo mbi mwr mus mnu mli mot mbl mki mfr mde mbe mow mco mpt mle mpl mit mro maw)) (xb_Qv κ (mw κ q mth mn mib mpa mwi mch mst msz o.1 o.2.2.2.1 mps mbb mno mpk mtu mfo mbi mwr o.2.1 o.2.2.1 o.2.2.2.2.1 o.2.2.2.2.2.1 o.2.2.2.2.2.2 mki mfr mde mbe mow mco mpt mle mpl mit mro maw)) 0 0 κ.2.2.1 := by
  refine x_enter (own := RX9) (lv0 := [(0, .ref (q 0)), (1, .ref (q 2)), (2, .int x2), (3, .int x3), (4, .int x4)]) (by decide) rfl rfl rfl (fun Γ C E => ?_)
  unfold F_X9_tell at hF
  refine x_aload_n C dX9_tell_0 0 rfl ?_
  refine x_iconst (v := 0) C dX9_tell_1 (by decide) ?_
  refine pf_X9_139 (ws2 := (mw κ q mth mn mib mpa mwi mch mst msz (0 : Int32) mld mps mbb mno mpk mtu mfo mbi mwr mus mnu mli mot mbl mki mfr mde mbe mow mco mpt mle mpl mit mro maw)) C 0 rfl dX9_tell_2 rfl rfl ?_
  refine x_aload_n C dX9_tell_5 0 rfl ?_
  refine x_iconst (v := 0) C dX9_tell_6 (by decide) ?_
  refine x_iload_n C dX9_tell_7 3 rfl ?_
  obtain ⟨o1, h2, hF⟩ := bd_s hF
  refine x_callVv (st := []) C (c_X9_say h2) xm_X9_say ml_X9_145 0 rfl rfl rfl rfl rfl rfl dX9_tell_8 ⟨rfl, rfl⟩ ?_
  refine x_aload_n C dX9_tell_11 0 rfl ?_
  refine x_aload_n C dX9_tell_12 1 rfl ?_
  refine x_iload_n C dX9_tell_13 2 rfl ?_
  refine x_iload_n C dX9_tell_14 2 rfl ?_
  obtain ⟨o3, h4, hF⟩ := bd_s hF
  refine x_callVv (st := []) C (c_X9_take_0_2 h4) xm_X9_take ml_X9_157 0 rfl rfl rfl rfl rfl rfl dX9_tell_15 ⟨rfl, rfl⟩ ?_
  refine x_iload_n C dX9_tell_18 3 rfl ?_
  by_cases hs19_0 : x3 = 0
  · replace hF := ifp hs19_0 hF
    refine x_tswIn (off := 29) (tgt := 48) 0 C dX9_tell_19 hs19_0 (by decide) (by decide) rfl (by decide) ?_
    refine x_aload_n C dX9_tell_48 0 rfl ?_
    refine x_iload_n C dX9_tell_49 2 rfl ?_
    obtain ⟨o5, h6, hF⟩ := bd_s hF
    refine x_callVv (st := []) C (c_X9_tellPlain h6) xm_X9_tellPlain ml_X9_154 0 rfl rfl rfl rfl rfl rfl dX9_tell_50 ⟨rfl, rfl⟩ ?_
    refine x_goto (tgt := 95) C dX9_tell_53 (by decide) ?_
    cases hF
    exact x_vret C E dX9_tell_95
  · replace hF := ifn hs19_0 hF
    by_cases hs19_1 : x3 = 1
    · replace hF := ifp hs19_1 hF
      refine x_tswIn (off := 37) (tgt := 56) 1 C dX9_tell_19 hs19_1 (by decide) (by decide) rfl (by decide) ?_
      refine x_aload_n C dX9_tell_56 0 rfl ?_
      refine x_iload_n C dX9_tell_57 2 rfl ?_
      obtain ⟨o7, h8, hF⟩ := bd_s hF
      refine x_callVv (st := []) C (c_X9_tellSpans h8) xm_X9_tellSpans ml_X9_161 0 rfl rfl rfl rfl rfl rfl dX9_tell_58 ⟨rfl, rfl⟩ ?_
      refine x_goto (tgt := 95) C dX9_tell_61 (by decide) ?_
      cases hF
      exact x_vret C E dX9_tell_95
    · replace hF := ifn hs19_1 hF
      by_cases hs19_2 : x3 = 2
      · replace hF := ifp hs19_2 hF
        refine x_tswIn (off := 45) (tgt := 64) 2 C dX9_tell_19 hs19_2 (by decide) (by decide) rfl (by decide) ?_
        refine x_aload_n C dX9_tell_64 0 rfl ?_
        refine x_aload_n C dX9_tell_65 1 rfl ?_
        refine x_iload_n C dX9_tell_66 2 rfl ?_
        refine x_iload_n C dX9_tell_67 2 rfl ?_
        refine x_iload C dX9_tell_68 4 rfl ?_
        refine x_isub C dX9_tell_70 ?_
        obtain ⟨o9, h10, hF⟩ := bd_s hF
        refine x_callVv (st := []) C (c_X9_tellCopied_0_2 h10) xm_X9_tellCopied ml_X9_164 0 rfl rfl rfl rfl rfl rfl dX9_tell_71 ⟨rfl, rfl⟩ ?_
        refine x_goto (tgt := 95) C dX9_tell_74 (by decide) ?_
        cases hF
        exact x_vret C E dX9_tell_95
      · replace hF := ifn hs19_2 hF
        by_cases hs19_3 : x3 = 3
        · replace hF := ifp hs19_3 hF
          refine x_tswIn (off := 58) (tgt := 77) 3 C dX9_tell_19 hs19_3 (by decide) (by decide) rfl (by decide) ?_
          refine x_aload_n C dX9_tell_77 0 rfl ?_
          refine x_iconst (v := 4) C dX9_tell_78 (by decide) ?_
          refine x_iload C dX9_tell_79 4 rfl ?_
          refine x_iconst (v := 1) C dX9_tell_81 (by decide) ?_
          refine x_isub C dX9_tell_82 ?_
          obtain ⟨o11, h12, hF⟩ := bd_s hF
          refine x_callVv (st := []) C (c_X9_say h12) xm_X9_say ml_X9_145 0 rfl rfl rfl rfl rfl rfl dX9_tell_83 ⟨rfl, rfl⟩ ?_
          refine x_goto (tgt := 95) C dX9_tell_86 (by decide) ?_
          cases hF
          exact x_vret C E dX9_tell_95
        · replace hF := ifn hs19_3 hF
          refine x_tswOut (tgt := 89) C dX9_tell_19 (ts_out 3 (by decide) (fun k hk => by match k, hk with | 0, _ => exact hs19_0 | 1, _ => exact hs19_1 | 2, _ => exact hs19_2 | 3, _ => exact hs19_3 | (k + 4), hk => exact absurd hk (by omega))) (by decide) ?_
          refine x_aload_n C dX9_tell_89 0 rfl ?_
          refine x_aload_n C dX9_tell_90 1 rfl ?_
          refine x_iload_n C dX9_tell_91 2 rfl ?_
          obtain ⟨o13, h14, hF⟩ := bd_s hF
          refine x_callVv (st := []) C (c_X9_tellDense_0_2 h14) xm_X9_tellDense ml_X9_167 0 rfl rfl rfl rfl rfl rfl dX9_tell_92 ⟨rfl, rfl⟩ ?_
          cases hF
          exact x_vret C E dX9_tell_95
set_option maxHeartbeats 4000000 in
set_option maxRecDepth 100000 in
theorem c_X9_bitsBy_0_2 {κ : xb_k} {q : Nat → Nat} {mth : Int32} {mn : Int32} {mib : Int32} {mpa : Int32} {mwi : Int32} {mch : Int32} {mst : Int32} {msz : Int32} {mns : Int32} {mld : Int32} {mps : Int32} {mbb : Int32} {mno : (Nat → Int32)} {mpk : (Nat → Int32)} {mtu : (Nat → Int32)} {mfo : (Nat → Int32)} {mbi : (Nat → Int32)} {mwr : (Nat → Int32)} {mus : (Nat → Int32)} {mnu : (Nat → Int32)} {mli : (Nat → Int32)} {mot : (Nat → Int32)} {mbl : (Nat → Int32)} {mki : (Nat → Int32)} {mfr : (Nat → Int32)} {mde : (Nat → Int32)} {mbe : (Nat → Int32)} {mow : (Nat → Int32)} {mco : (Nat → Int32)} {mpt : (Nat → Int32)} {mle : (Nat → Int32)} {mpl : (Nat → Int32)} {mit : (Nat → Int32)} {mro : (Nat → Int32)} {maw : (Nat → Int32)} {x2 : Int32} {x3 : Int32} {x4 : Int32} {fu : Nat} {o : Int32 × Int32 × (Nat → Int32) × (Nat → Int32) × Int32 × (Nat → Int32) × (Nat → Int32) × (Nat → Int32)} (hF : F_X9_bitsBy fu x2 x3 x4 mns mus mnu mld mn mpk mli mot mbl mfo = some o) : Met κ.1 yX9_bitsBy [Cond.code yX9_bitsBy cX9_bitsBy 5 (some .int)] { frames := 5, cells := 0, slots := 0, locals := 122 } (xb_P κ [.ref (q 0), .ref (q 2), .int x2, .int x3, .int x4] (mw κ q mth mn mib mpa mwi mch mst msz mns mld mps mbb mno mpk mtu mfo mbi mwr mus mnu mli mot mbl mki mfr mde mbe mow mco mpt mle mpl mit mro maw)) (xb_Qi κ o.1 (mw κ q mth mn mib mpa mwi mch mst msz o.2.1 o.2.2.2.2.1 mps mbb mno mpk mtu mfo mbi mwr o.2.2.1 o.2.2.2.1 o.2.2.2.2.2.1 o.2.2.2.2.2.2.1 o.2.2.2.2.2.2.2 mki mfr mde mbe mow mco mpt mle mpl mit mro maw)) 0 0 κ.2.2.1 := by
  refine x_enter (own := RX9) (lv0 := [(0, .ref (q 0)), (1, .ref (q 2)), (2, .int x2), (3, .int x3), (4, .int x4)]) (by decide) rfl rfl rfl (fun Γ C E => ?_)
  unfold F_X9_bitsBy at hF
  refine x_aload_n C dX9_bitsBy_0 0 rfl ?_
  refine x_aload_n C dX9_bitsBy_1 1 rfl ?_
  refine x_iload_n C dX9_bitsBy_2 2 rfl ?_
  refine x_iload_n C dX9_bitsBy_3 3 rfl ?_
  refine x_iload C dX9_bitsBy_4 4 rfl ?_
  obtain ⟨o1, h2, hF⟩ := bd_s hF
  refine x_callVv (st := []) C (c_X9_tell_0_2 h2) xm_X9_tell ml_X9_175 0 rfl rfl rfl rfl rfl rfl dX9_bitsBy_6 ⟨rfl, rfl⟩ ?_
  refine x_aload_n C dX9_bitsBy_9 0 rfl ?_
  obtain ⟨o3, h4, hF⟩ := bd_s hF
  refine x_callVi (st := []) C (c_X9_numbersBits h4) xm_X9_numbersBits ml_X9_179 0 rfl rfl rfl rfl rfl rfl dX9_bitsBy_10 ⟨rfl, rfl⟩ ?_
  cases hF
  exact x_iret C E dX9_bitsBy_13
set_option maxHeartbeats 4000000 in
set_option maxRecDepth 100000 in
theorem c_X9_consider {κ : xb_k} {q : Nat → Nat} {mth : Int32} {mn : Int32} {mib : Int32} {mpa : Int32} {mwi : Int32} {mch : Int32} {mst : Int32} {msz : Int32} {mns : Int32} {mld : Int32} {mps : Int32} {mbb : Int32} {mno : (Nat → Int32)} {mpk : (Nat → Int32)} {mtu : (Nat → Int32)} {mfo : (Nat → Int32)} {mbi : (Nat → Int32)} {mwr : (Nat → Int32)} {mus : (Nat → Int32)} {mnu : (Nat → Int32)} {mli : (Nat → Int32)} {mot : (Nat → Int32)} {mbl : (Nat → Int32)} {mki : (Nat → Int32)} {mfr : (Nat → Int32)} {mde : (Nat → Int32)} {mbe : (Nat → Int32)} {mow : (Nat → Int32)} {mco : (Nat → Int32)} {mpt : (Nat → Int32)} {mle : (Nat → Int32)} {mpl : (Nat → Int32)} {mit : (Nat → Int32)} {mro : (Nat → Int32)} {maw : (Nat → Int32)} {x1 : Int32} {x2 : Int32} {x3 : Int32} {x4 : Int32} {fu : Nat} {o : Int32 × (Nat → Int32) × (Nat → Int32) × Int32 × (Nat → Int32) × (Nat → Int32) × (Nat → Int32) × Int32 × (Nat → Int32) × (Nat → Int32) × (Nat → Int32)} (hF : F_X9_consider fu x1 x2 x3 x4 mns mus mnu mld mn mpk mli mot mbl mfo mbb mki mfr mde = some o) : Met κ.1 yX9_consider [Cond.code yX9_consider cX9_consider 6 none] { frames := 6, cells := 0, slots := 0, locals := 146 } (xb_P κ [.ref (q 0), .int x1, .int x2, .int x3, .int x4] (mw κ q mth mn mib mpa mwi mch mst msz mns mld mps mbb mno mpk mtu mfo mbi mwr mus mnu mli mot mbl mki mfr mde mbe mow mco mpt mle mpl mit mro maw)) (xb_Qv κ (mw κ q mth mn mib mpa mwi mch mst msz o.1 o.2.2.2.1 mps o.2.2.2.2.2.2.2.1 mno mpk mtu mfo mbi mwr o.2.1 o.2.2.1 o.2.2.2.2.1 o.2.2.2.2.2.1 o.2.2.2.2.2.2.1 o.2.2.2.2.2.2.2.2.1 o.2.2.2.2.2.2.2.2.2.1 o.2.2.2.2.2.2.2.2.2.2 mbe mow mco mpt mle mpl mit mro maw)) 0 0 κ.2.2.1 := by
  refine x_enter (own := RX9) (lv0 := [(0, .ref (q 0)), (1, .int x1), (2, .int x2), (3, .int x3), (4, .int x4)]) (by decide) rfl rfl rfl (fun Γ C E => ?_)
  unfold F_X9_consider at hF
  refine x_aload_n C dX9_consider_0 0 rfl ?_
  refine x_aload_n C dX9_consider_1 0 rfl ?_
  refine gf_X9_17 C 0 rfl rfl dX9_consider_2 ?_
  refine x_iload_n C dX9_consider_5 1 rfl ?_
  refine x_iload_n C dX9_consider_6 2 rfl ?_
  refine x_iload_n C dX9_consider_7 3 rfl ?_
  obtain ⟨o1, h2, hF⟩ := bd_s hF
  refine x_callVi (st := []) C (c_X9_bitsBy_0_2 h2) xm_X9_bitsBy ml_X9_197 0 rfl rfl rfl rfl rfl rfl dX9_consider_8 ⟨rfl, rfl⟩ ?_
  refine x_istore (lv2 := [(5, .int o1.1), (0, .ref (q 0)), (1, .int x1), (2, .int x2), (3, .int x3), (4, .int x4)]) C dX9_consider_11 (by decide) rfl ?_
  refine x_aload_n C dX9_consider_13 1 rfl ?_
  refine gf_X9_204 C 0 rfl rfl dX9_consider_14 ?_
  refine x_iconst (v := (-1)) C dX9_consider_17 (by decide) ?_
  refine x_icmp_eq (tgt := 30) C dX9_consider_18 (by decide) (fun hc => ?_) (fun hc => ?_)
  · replace hF := ifp hc hF
    refine x_aload_n C dX9_consider_30 1 rfl ?_
    refine x_iload C dX9_consider_31 0 rfl ?_
    refine pf_X9_204 (ws2 := (mw κ q mth mn mib mpa mwi mch mst msz o1.2.1 o1.2.2.2.2.1 mps o1.1 mno mpk mtu mfo mbi mwr o1.2.2.1 o1.2.2.2.1 o1.2.2.2.2.2.1 o1.2.2.2.2.2.2.1 o1.2.2.2.2.2.2.2 mki mfr mde mbe mow mco mpt mle mpl mit mro maw)) C 0 rfl dX9_consider_33 rfl rfl ?_
    refine x_aload_n C dX9_consider_36 1 rfl ?_
    refine gf_X9_57 C 0 rfl rfl dX9_consider_37 ?_
    refine x_iload_n C dX9_consider_40 2 rfl ?_
    refine x_iload_n C dX9_consider_41 3 rfl ?_
    obtain ⟨b3, hF⟩ := ck_s hF
    refine x_iast (ws2 := (mw κ q mth mn mib mpa mwi mch mst msz o1.2.1 o1.2.2.2.2.1 mps o1.1 mno mpk mtu mfo mbi mwr o1.2.2.1 o1.2.2.2.1 o1.2.2.2.2.2.1 o1.2.2.2.2.2.2.1 o1.2.2.2.2.2.2.2 (upd mki x1.toNatClampNeg x2) mfr mde mbe mow mco mpt mle mpl mit mro maw)) C 12 rfl b3 dX9_consider_42 rfl ?_
    refine x_aload_n C dX9_consider_43 1 rfl ?_
    refine gf_X9_60 C 0 rfl rfl dX9_consider_44 ?_
    refine x_iload_n C dX9_consider_47 2 rfl ?_
    refine x_iload_n C dX9_consider_48 4 rfl ?_
    obtain ⟨b4, hF⟩ := ck_s hF
    refine x_iast (ws2 := (mw κ q mth mn mib mpa mwi mch mst msz o1.2.1 o1.2.2.2.2.1 mps o1.1 mno mpk mtu mfo mbi mwr o1.2.2.1 o1.2.2.2.1 o1.2.2.2.2.2.1 o1.2.2.2.2.2.2.1 o1.2.2.2.2.2.2.2 (upd mki x1.toNatClampNeg x2) (upd mfr x1.toNatClampNeg x3) mde mbe mow mco mpt mle mpl mit mro maw)) C 13 rfl b4 dX9_consider_49 rfl ?_
    refine x_aload_n C dX9_consider_50 1 rfl ?_
    refine gf_X9_63 C 0 rfl rfl dX9_consider_51 ?_
    refine x_iload_n C dX9_consider_54 2 rfl ?_
    refine x_iload C dX9_consider_55 5 rfl ?_
    obtain ⟨b5, hF⟩ := ck_s hF
    refine x_iast (ws2 := (mw κ q mth mn mib mpa mwi mch mst msz o1.2.1 o1.2.2.2.2.1 mps o1.1 mno mpk mtu mfo mbi mwr o1.2.2.1 o1.2.2.2.1 o1.2.2.2.2.2.1 o1.2.2.2.2.2.2.1 o1.2.2.2.2.2.2.2 (upd mki x1.toNatClampNeg x2) (upd mfr x1.toNatClampNeg x3) (upd mde x1.toNatClampNeg x4) mbe mow mco mpt mle mpl mit mro maw)) C 14 rfl b5 dX9_consider_57 rfl ?_
    cases hF
    exact x_vret C E dX9_consider_58
  · replace hF := ifn hc hF
    refine x_iload C dX9_consider_21 0 rfl ?_
    refine x_aload_n C dX9_consider_23 1 rfl ?_
    refine gf_X9_204 C 0 rfl rfl dX9_consider_24 ?_
    refine x_icmp_ge (tgt := 58) C dX9_consider_27 (by decide) (fun hc => ?_) (fun hc => ?_)
    · replace hF := ifp hc hF
      cases hF
      exact x_vret C E dX9_consider_58
    · replace hF := ifn hc hF
      refine x_aload_n C dX9_consider_30 1 rfl ?_
      refine x_iload C dX9_consider_31 0 rfl ?_
      refine pf_X9_204 (ws2 := (mw κ q mth mn mib mpa mwi mch mst msz o1.2.1 o1.2.2.2.2.1 mps o1.1 mno mpk mtu mfo mbi mwr o1.2.2.1 o1.2.2.2.1 o1.2.2.2.2.2.1 o1.2.2.2.2.2.2.1 o1.2.2.2.2.2.2.2 mki mfr mde mbe mow mco mpt mle mpl mit mro maw)) C 0 rfl dX9_consider_33 rfl rfl ?_
      refine x_aload_n C dX9_consider_36 1 rfl ?_
      refine gf_X9_57 C 0 rfl rfl dX9_consider_37 ?_
      refine x_iload_n C dX9_consider_40 2 rfl ?_
      refine x_iload_n C dX9_consider_41 3 rfl ?_
      obtain ⟨b6, hF⟩ := ck_s hF
      refine x_iast (ws2 := (mw κ q mth mn mib mpa mwi mch mst msz o1.2.1 o1.2.2.2.2.1 mps o1.1 mno mpk mtu mfo mbi mwr o1.2.2.1 o1.2.2.2.1 o1.2.2.2.2.2.1 o1.2.2.2.2.2.2.1 o1.2.2.2.2.2.2.2 (upd mki x1.toNatClampNeg x2) mfr mde mbe mow mco mpt mle mpl mit mro maw)) C 12 rfl b6 dX9_consider_42 rfl ?_
      refine x_aload_n C dX9_consider_43 1 rfl ?_
      refine gf_X9_60 C 0 rfl rfl dX9_consider_44 ?_
      refine x_iload_n C dX9_consider_47 2 rfl ?_
      refine x_iload_n C dX9_consider_48 4 rfl ?_
      obtain ⟨b7, hF⟩ := ck_s hF
      refine x_iast (ws2 := (mw κ q mth mn mib mpa mwi mch mst msz o1.2.1 o1.2.2.2.2.1 mps o1.1 mno mpk mtu mfo mbi mwr o1.2.2.1 o1.2.2.2.1 o1.2.2.2.2.2.1 o1.2.2.2.2.2.2.1 o1.2.2.2.2.2.2.2 (upd mki x1.toNatClampNeg x2) (upd mfr x1.toNatClampNeg x3) mde mbe mow mco mpt mle mpl mit mro maw)) C 13 rfl b7 dX9_consider_49 rfl ?_
      refine x_aload_n C dX9_consider_50 1 rfl ?_
      refine gf_X9_63 C 0 rfl rfl dX9_consider_51 ?_
      refine x_iload_n C dX9_consider_54 2 rfl ?_
      refine x_iload C dX9_consider_55 5 rfl ?_
      obtain ⟨b8, hF⟩ := ck_s hF
      refine x_iast (ws2 := (mw κ q mth mn mib mpa mwi mch mst msz o1.2.1 o1.2.2.2.2.1 mps o1.1 mno mpk mtu mfo mbi mwr o1.2.2.1 o1.2.2.2.1 o1.2.2.2.2.2.1 o1.2.2.2.2.2.2.1 o1.2.2.2.2.2.2.2 (upd mki x1.toNatClampNeg x2) (upd mfr x1.toNatClampNeg x3) (upd mde x1.toNatClampNeg x4) mbe mow mco mpt mle mpl mit mro maw)) C 14 rfl b8 dX9_consider_57 rfl ?_
      cases hF
      exact x_vret C E dX9_consider_58
set_option maxHeartbeats 4000000 in
set_option maxRecDepth 100000 in
theorem w_X9_isSame_0_2_L6 {κ : xb_k} {Γ : xb_X} {q : Nat → Nat} {mth : Int32} {mn : Int32} {mib : Int32} {mpa : Int32} {mwi : Int32} {mch : Int32} {mst : Int32} {msz : Int32} {mns : Int32} {mld : Int32} {mps : Int32} {mbb : Int32} {mno : (Nat → Int32)} {mpk : (Nat → Int32)} {mtu : (Nat → Int32)} {mfo : (Nat → Int32)} {mbi : (Nat → Int32)} {mwr : (Nat → Int32)} {mus : (Nat → Int32)} {mnu : (Nat → Int32)} {mli : (Nat → Int32)} {mot : (Nat → Int32)} {mbl : (Nat → Int32)} {mki : (Nat → Int32)} {mfr : (Nat → Int32)} {mde : (Nat → Int32)} {mbe : (Nat → Int32)} {mow : (Nat → Int32)} {mco : (Nat → Int32)} {mpt : (Nat → Int32)} {mle : (Nat → Int32)} {mpl : (Nat → Int32)} {mit : (Nat → Int32)} {mro : (Nat → Int32)} {maw : (Nat → Int32)} {x2 : Int32} {x3 : Int32}  (C : xb_C κ Γ 6 cX9_isSame RX9 { frames := 0, cells := 0, slots := 0, locals := 0 }) : ∀ (n : Nat) (x4 : Int32) (x5 : Int32) (o : Int32), F_X9_isSame_L6 x2 x3 mn mpk n x4 x5 = some o → xb_W κ Γ 6 0 0 54 [(4, .int o)] [] (mw κ q mth mn mib mpa mwi mch mst msz mns mld mps mbb mno mpk mtu mfo mbi mwr mus mnu mli mot mbl mki mfr mde mbe mow mco mpt mle mpl mit mro maw) → xb_W κ Γ 6 0 0 6 [(0, .ref (q 0)), (1, .ref (q 2)), (2, .int x2), (3, .int x3), (4, .int x4), (5, .int x5)] [] (mw κ q mth mn mib mpa mwi mch mst msz mns mld mps mbb mno mpk mtu mfo mbi mwr mus mnu mli mot mbl mki mfr mde mbe mow mco mpt mle mpl mit mro maw) := by
  intro n
  induction n with
  | zero =>
    intro x4 x5 o hF K
    rw [F_X9_isSame_L6] at hF
    cases hF
  | succ n ih =>
    intro x4 x5 o hF K
    rw [F_X9_isSame_L6] at hF
    refine x_iload C dX9_isSame_6 5 rfl ?_
    refine x_aload_n C dX9_isSame_8 0 rfl ?_
    refine gf_X9_93 C 0 rfl rfl dX9_isSame_9 ?_
    refine x_icmp_ge (tgt := 54) C dX9_isSame_12 (by decide) (fun hc => ?_) (fun hc => ?_)
    · replace hF := ifp hc hF
      cases hF
      exact x_sub [4] rfl K
    · replace hF := ifn hc hF
      refine x_iload C dX9_isSame_15 4 rfl ?_
      refine x_if_eq (tgt := 45) C dX9_isSame_17 (by decide) (fun hc => ?_) (fun hc => ?_)
      · replace hF := ifp hc hF
        refine x_iconst (v := 0) C dX9_isSame_45 (by decide) ?_
        refine x_istore (lv2 := [(4, .int (0 : Int32)), (0, .ref (q 0)), (1, .ref (q 2)), (2, .int x2), (3, .int x3), (5, .int x5)]) C dX9_isSame_46 (by decide) rfl ?_
        refine x_iinc (v := x5 + 1) (lv2 := [(5, .int (x5 + 1)), (4, .int (0 : Int32)), (0, .ref (q 0)), (1, .ref (q 2)), (2, .int x2), (3, .int x3)]) C dX9_isSame_48 5 rfl rfl (by decide) rfl ?_
        refine x_goto (tgt := 6) C dX9_isSame_51 (by decide) ?_
        exact x_sub [2, 3, 4, 5, 1, 0] rfl (ih _ _ _ hF K)
      · replace hF := ifn hc hF
        refine x_aload_n C dX9_isSame_20 1 rfl ?_
        refine x_bipush (v := 48) C dX9_isSame_21 (by decide) ?_
        refine x_iload_n C dX9_isSame_23 2 rfl ?_
        refine x_imul C dX9_isSame_24 ?_
        refine x_iload C dX9_isSame_25 5 rfl ?_
        refine x_iadd C dX9_isSame_27 ?_
        obtain ⟨b1, hF⟩ := ck_s hF
        refine x_zald C 2 rfl b1 dX9_isSame_28 ?_
        refine x_aload_n C dX9_isSame_29 1 rfl ?_
        refine x_bipush (v := 48) C dX9_isSame_30 (by decide) ?_
        refine x_iload_n C dX9_isSame_32 3 rfl ?_
        refine x_imul C dX9_isSame_33 ?_
        refine x_iload C dX9_isSame_34 5 rfl ?_
        refine x_iadd C dX9_isSame_36 ?_
        obtain ⟨b2, hF⟩ := ck_s hF
        refine x_zald C 2 rfl b2 dX9_isSame_37 ?_
        refine x_icmp_ne (tgt := 45) C dX9_isSame_38 (by decide) (fun hc => ?_) (fun hc => ?_)
        · replace hF := ifn hc hF
          refine x_iconst (v := 0) C dX9_isSame_45 (by decide) ?_
          refine x_istore (lv2 := [(4, .int (0 : Int32)), (0, .ref (q 0)), (1, .ref (q 2)), (2, .int x2), (3, .int x3), (5, .int x5)]) C dX9_isSame_46 (by decide) rfl ?_
          refine x_iinc (v := x5 + 1) (lv2 := [(5, .int (x5 + 1)), (4, .int (0 : Int32)), (0, .ref (q 0)), (1, .ref (q 2)), (2, .int x2), (3, .int x3)]) C dX9_isSame_48 5 rfl rfl (by decide) rfl ?_
          refine x_goto (tgt := 6) C dX9_isSame_51 (by decide) ?_
          exact x_sub [2, 3, 4, 5, 1, 0] rfl (ih _ _ _ hF K)
        · replace hF := ifp hc hF
          refine x_iconst (v := 1) C dX9_isSame_41 (by decide) ?_
          refine x_goto (tgt := 46) C dX9_isSame_42 (by decide) ?_
          refine x_istore (lv2 := [(4, .int (1 : Int32)), (0, .ref (q 0)), (1, .ref (q 2)), (2, .int x2), (3, .int x3), (5, .int x5)]) C dX9_isSame_46 (by decide) rfl ?_
          refine x_iinc (v := x5 + 1) (lv2 := [(5, .int (x5 + 1)), (4, .int (1 : Int32)), (0, .ref (q 0)), (1, .ref (q 2)), (2, .int x2), (3, .int x3)]) C dX9_isSame_48 5 rfl rfl (by decide) rfl ?_
          refine x_goto (tgt := 6) C dX9_isSame_51 (by decide) ?_
          exact x_sub [2, 3, 4, 5, 1, 0] rfl (ih _ _ _ hF K)
set_option maxHeartbeats 4000000 in
set_option maxRecDepth 100000 in
theorem c_X9_isSame_0_2 {κ : xb_k} {q : Nat → Nat} {mth : Int32} {mn : Int32} {mib : Int32} {mpa : Int32} {mwi : Int32} {mch : Int32} {mst : Int32} {msz : Int32} {mns : Int32} {mld : Int32} {mps : Int32} {mbb : Int32} {mno : (Nat → Int32)} {mpk : (Nat → Int32)} {mtu : (Nat → Int32)} {mfo : (Nat → Int32)} {mbi : (Nat → Int32)} {mwr : (Nat → Int32)} {mus : (Nat → Int32)} {mnu : (Nat → Int32)} {mli : (Nat → Int32)} {mot : (Nat → Int32)} {mbl : (Nat → Int32)} {mki : (Nat → Int32)} {mfr : (Nat → Int32)} {mde : (Nat → Int32)} {mbe : (Nat → Int32)} {mow : (Nat → Int32)} {mco : (Nat → Int32)} {mpt : (Nat → Int32)} {mle : (Nat → Int32)} {mpl : (Nat → Int32)} {mit : (Nat → Int32)} {mro : (Nat → Int32)} {maw : (Nat → Int32)} {x2 : Int32} {x3 : Int32} {fu : Nat} {o : Int32} (hF : F_X9_isSame fu x2 x3 mn mpk = some o) : Met κ.1 yX9_isSame [Cond.code yX9_isSame cX9_isSame 6 (some .boolean)] { frames := 0, cells := 0, slots := 0, locals := 0 } (xb_P κ [.ref (q 0), .ref (q 2), .int x2, .int x3] (mw κ q mth mn mib mpa mwi mch mst msz mns mld mps mbb mno mpk mtu mfo mbi mwr mus mnu mli mot mbl mki mfr mde mbe mow mco mpt mle mpl mit mro maw)) (xb_Qi κ o (mw κ q mth mn mib mpa mwi mch mst msz mns mld mps mbb mno mpk mtu mfo mbi mwr mus mnu mli mot mbl mki mfr mde mbe mow mco mpt mle mpl mit mro maw)) 0 0 κ.2.2.1 := by
  refine x_enter (own := RX9) (lv0 := [(0, .ref (q 0)), (1, .ref (q 2)), (2, .int x2), (3, .int x3)]) (by decide) rfl rfl rfl (fun Γ C E => ?_)
  unfold F_X9_isSame at hF
  refine x_iconst (v := 1) C dX9_isSame_0 (by decide) ?_
  refine x_istore (lv2 := [(4, .int (1 : Int32)), (0, .ref (q 0)), (1, .ref (q 2)), (2, .int x2), (3, .int x3)]) C dX9_isSame_1 (by decide) rfl ?_
  refine x_iconst (v := 0) C dX9_isSame_3 (by decide) ?_
  refine x_istore (lv2 := [(5, .int (0 : Int32)), (4, .int (1 : Int32)), (0, .ref (q 0)), (1, .ref (q 2)), (2, .int x2), (3, .int x3)]) C dX9_isSame_4 (by decide) rfl ?_
  obtain ⟨o3, h4, hF⟩ := bd_s hF
  refine x_sub [2, 3, 4, 5, 1, 0] rfl (w_X9_isSame_0_2_L6 C fu _ _ _ h4 ?_)
  refine x_iload C dX9_isSame_54 0 rfl ?_
  obtain ⟨b5, hF⟩ := ck_s hF
  cases hF
  exact x_zret C E (zb_nar b5) dX9_isSame_56
set_option maxHeartbeats 4000000 in
set_option maxRecDepth 100000 in
theorem w_X9_choose_L30 {κ : xb_k} {Γ : xb_X} {q : Nat → Nat} {mth : Int32} {mn : Int32} {mib : Int32} {mpa : Int32} {mwi : Int32} {mch : Int32} {mst : Int32} {msz : Int32} {mps : Int32} {mno : (Nat → Int32)} {mpk : (Nat → Int32)} {mtu : (Nat → Int32)} {mfo : (Nat → Int32)} {mbi : (Nat → Int32)} {mwr : (Nat → Int32)} {mbe : (Nat → Int32)} {mow : (Nat → Int32)} {mco : (Nat → Int32)} {mpt : (Nat → Int32)} {mle : (Nat → Int32)} {mpl : (Nat → Int32)} {mit : (Nat → Int32)} {mro : (Nat → Int32)} {maw : (Nat → Int32)} {x1 : Int32} {x2 : Int32} {fu : Nat} (C : xb_C κ Γ 5 cX9_choose RX9 { frames := 7, cells := 0, slots := 0, locals := 171 }) : ∀ (n : Nat) (x3 : Int32) (mns : Int32) (mus : (Nat → Int32)) (mnu : (Nat → Int32)) (mld : Int32) (mli : (Nat → Int32)) (mot : (Nat → Int32)) (mbl : (Nat → Int32)) (mbb : Int32) (mki : (Nat → Int32)) (mfr : (Nat → Int32)) (mde : (Nat → Int32)) (o : Int32 × (Nat → Int32) × (Nat → Int32) × Int32 × (Nat → Int32) × (Nat → Int32) × (Nat → Int32) × Int32 × (Nat → Int32) × (Nat → Int32) × (Nat → Int32)), F_X9_choose_L30 fu x1 x2 mwi mch mn mpk mfo n x3 mns mus mnu mld mli mot mbl mbb mki mfr mde = some o → xb_W κ Γ 5 0 0 113 [(0, .ref (q 0)), (1, .int x1), (2, .int x2)] [] (mw κ q mth mn mib mpa mwi mch mst msz o.1 o.2.2.2.1 mps o.2.2.2.2.2.2.2.1 mno mpk mtu mfo mbi mwr o.2.1 o.2.2.1 o.2.2.2.2.1 o.2.2.2.2.2.1 o.2.2.2.2.2.2.1 o.2.2.2.2.2.2.2.2.1 o.2.2.2.2.2.2.2.2.2.1 o.2.2.2.2.2.2.2.2.2.2 mbe mow mco mpt mle mpl mit mro maw) → xb_W κ Γ 5 0 0 30 [(0, .ref (q 0)), (1, .int x1), (2, .int x2), (3, .int x3)] [] (mw κ q mth mn mib mpa mwi mch mst msz mns mld mps mbb mno mpk mtu mfo mbi mwr mus mnu mli mot mbl mki mfr mde mbe mow mco mpt mle mpl mit mro maw) := by
  intro n
  induction n with
  | zero =>
    intro x3 mns mus mnu mld mli mot mbl mbb mki mfr mde o hF K
    rw [F_X9_choose_L30] at hF
    cases hF
  | succ n ih =>
    intro x3 mns mus mnu mld mli mot mbl mbb mki mfr mde o hF K
    rw [F_X9_choose_L30] at hF
    refine x_iload_n C dX9_choose_30 3 rfl ?_
    refine x_aload_n C dX9_choose_31 0 rfl ?_
    refine gf_X9_27 C 0 rfl rfl dX9_choose_32 ?_
    refine x_icmp_gt (tgt := 113) C dX9_choose_35 (by decide) (fun hc => ?_) (fun hc => ?_)
    · replace hF := ifp hc hF
      cases hF
      exact x_sub [0, 1, 2] rfl K
    · replace hF := ifn hc hF
      refine x_iload_n C dX9_choose_38 3 rfl ?_
      refine x_iload_n C dX9_choose_39 1 rfl ?_
      refine x_icmp_gt (tgt := 113) C dX9_choose_40 (by decide) (fun hc => ?_) (fun hc => ?_)
      · replace hF := ifp hc hF
        cases hF
        exact x_sub [0, 1, 2] rfl K
      · replace hF := ifn hc hF
        refine x_aload_n C dX9_choose_43 0 rfl ?_
        refine gf_X9_63 C 0 rfl rfl dX9_choose_44 ?_
        refine x_iload_n C dX9_choose_47 1 rfl ?_
        refine x_iload_n C dX9_choose_48 3 rfl ?_
        refine x_isub C dX9_choose_49 ?_
        obtain ⟨b5, hF⟩ := ck_s hF
        refine x_iald C 14 rfl b5 dX9_choose_50 ?_
        refine x_aload_n C dX9_choose_51 0 rfl ?_
        refine gf_X9_30 C 0 rfl rfl dX9_choose_52 ?_
        refine x_icmp_ge (tgt := 82) C dX9_choose_55 (by decide) (fun hc => ?_) (fun hc => ?_)
        · replace hF := ifp hc hF
          refine x_iconst (v := 0) C dX9_choose_82 (by decide) ?_
          refine x_istore (lv2 := [(4, .int (0 : Int32)), (0, .ref (q 0)), (1, .int x1), (2, .int x2), (3, .int x3)]) C dX9_choose_83 (by decide) rfl ?_
          refine x_iload C dX9_choose_85 0 rfl ?_
          refine x_if_eq (tgt := 107) C dX9_choose_87 (by decide) (fun hc => ?_) (fun hc => ?_)
          · replace hF := ifp hc hF
            refine x_iinc (v := x3 + 1) (lv2 := [(3, .int (x3 + 1)), (4, .int (0 : Int32)), (0, .ref (q 0)), (1, .int x1), (2, .int x2)]) C dX9_choose_107 4 rfl rfl (by decide) rfl ?_
            refine x_goto (tgt := 30) C dX9_choose_110 (by decide) ?_
            exact x_sub [2, 3, 4, 0] rfl (ih _ _ _ _ _ _ _ _ _ _ _ _ _ hF K)
          · replace hF := ifn hc hF
            refine x_aload_n C dX9_choose_90 1 rfl ?_
            refine x_iload_n C dX9_choose_91 2 rfl ?_
            refine x_iload_n C dX9_choose_92 3 rfl ?_
            refine x_iload_n C dX9_choose_93 4 rfl ?_
            refine x_aload_n C dX9_choose_94 1 rfl ?_
            refine gf_X9_63 C 0 rfl rfl dX9_choose_95 ?_
            refine x_iload_n C dX9_choose_98 2 rfl ?_
            refine x_iload_n C dX9_choose_99 4 rfl ?_
            refine x_isub C dX9_choose_100 ?_
            obtain ⟨b6, hF⟩ := ck_s hF
            refine x_iald C 14 rfl b6 dX9_choose_101 ?_
            refine x_iconst (v := 1) C dX9_choose_102 (by decide) ?_
            refine x_iadd C dX9_choose_103 ?_
            obtain ⟨o7, h8, hF⟩ := bd_s hF
            refine x_callVv (st := []) C (c_X9_consider h8) xm_X9_consider ml_X9_207 0 rfl rfl rfl rfl rfl rfl dX9_choose_104 ⟨rfl, rfl⟩ ?_
            refine x_iinc (v := x3 + 1) (lv2 := [(3, .int (x3 + 1)), (4, .int (0 : Int32)), (0, .ref (q 0)), (1, .int x1), (2, .int x2)]) C dX9_choose_107 4 rfl rfl (by decide) rfl ?_
            refine x_goto (tgt := 30) C dX9_choose_110 (by decide) ?_
            exact x_sub [2, 3, 4, 0] rfl (ih _ _ _ _ _ _ _ _ _ _ _ _ _ hF K)
        · replace hF := ifn hc hF
          refine x_iload_n C dX9_choose_58 2 rfl ?_
          refine x_iconst (v := 2) C dX9_choose_59 (by decide) ?_
          refine x_icmp_eq (tgt := 78) C dX9_choose_60 (by decide) (fun hc => ?_) (fun hc => ?_)
          · replace hF := ifp hc hF
            refine x_iconst (v := 1) C dX9_choose_78 (by decide) ?_
            refine x_goto (tgt := 83) C dX9_choose_79 (by decide) ?_
            refine x_istore (lv2 := [(4, .int (1 : Int32)), (0, .ref (q 0)), (1, .int x1), (2, .int x2), (3, .int x3)]) C dX9_choose_83 (by decide) rfl ?_
            refine x_iload C dX9_choose_85 0 rfl ?_
            refine x_if_eq (tgt := 107) C dX9_choose_87 (by decide) (fun hc => ?_) (fun hc => ?_)
            · replace hF := ifp hc hF
              refine x_iinc (v := x3 + 1) (lv2 := [(3, .int (x3 + 1)), (4, .int (1 : Int32)), (0, .ref (q 0)), (1, .int x1), (2, .int x2)]) C dX9_choose_107 4 rfl rfl (by decide) rfl ?_
              refine x_goto (tgt := 30) C dX9_choose_110 (by decide) ?_
              exact x_sub [2, 3, 4, 0] rfl (ih _ _ _ _ _ _ _ _ _ _ _ _ _ hF K)
            · replace hF := ifn hc hF
              refine x_aload_n C dX9_choose_90 1 rfl ?_
              refine x_iload_n C dX9_choose_91 2 rfl ?_
              refine x_iload_n C dX9_choose_92 3 rfl ?_
              refine x_iload_n C dX9_choose_93 4 rfl ?_
              refine x_aload_n C dX9_choose_94 1 rfl ?_
              refine gf_X9_63 C 0 rfl rfl dX9_choose_95 ?_
              refine x_iload_n C dX9_choose_98 2 rfl ?_
              refine x_iload_n C dX9_choose_99 4 rfl ?_
              refine x_isub C dX9_choose_100 ?_
              obtain ⟨b9, hF⟩ := ck_s hF
              refine x_iald C 14 rfl b9 dX9_choose_101 ?_
              refine x_iconst (v := 1) C dX9_choose_102 (by decide) ?_
              refine x_iadd C dX9_choose_103 ?_
              obtain ⟨o10, h11, hF⟩ := bd_s hF
              refine x_callVv (st := []) C (c_X9_consider h11) xm_X9_consider ml_X9_207 0 rfl rfl rfl rfl rfl rfl dX9_choose_104 ⟨rfl, rfl⟩ ?_
              refine x_iinc (v := x3 + 1) (lv2 := [(3, .int (x3 + 1)), (4, .int (1 : Int32)), (0, .ref (q 0)), (1, .int x1), (2, .int x2)]) C dX9_choose_107 4 rfl rfl (by decide) rfl ?_
              refine x_goto (tgt := 30) C dX9_choose_110 (by decide) ?_
              exact x_sub [2, 3, 4, 0] rfl (ih _ _ _ _ _ _ _ _ _ _ _ _ _ hF K)
          · replace hF := ifn hc hF
            refine x_aload_n C dX9_choose_63 0 rfl ?_
            refine x_aload_n C dX9_choose_64 0 rfl ?_
            refine gf_X9_17 C 0 rfl rfl dX9_choose_65 ?_
            refine x_iload_n C dX9_choose_68 1 rfl ?_
            refine x_iload_n C dX9_choose_69 1 rfl ?_
            refine x_iload_n C dX9_choose_70 3 rfl ?_
            refine x_isub C dX9_choose_71 ?_
            obtain ⟨o12, h13, hF⟩ := bd_s hF
            refine x_callVi (st := []) C (c_X9_isSame_0_2 h13) xm_X9_isSame ml_X9_193 0 rfl rfl rfl rfl rfl rfl dX9_choose_72 ⟨rfl, rfl⟩ ?_
            refine x_if_eq (tgt := 82) C dX9_choose_75 (by decide) (fun hc => ?_) (fun hc => ?_)
            · replace hF := ifp hc hF
              refine x_iconst (v := 0) C dX9_choose_82 (by decide) ?_
              refine x_istore (lv2 := [(4, .int (0 : Int32)), (0, .ref (q 0)), (1, .int x1), (2, .int x2), (3, .int x3)]) C dX9_choose_83 (by decide) rfl ?_
              refine x_iload C dX9_choose_85 0 rfl ?_
              refine x_if_eq (tgt := 107) C dX9_choose_87 (by decide) (fun hc => ?_) (fun hc => ?_)
              · replace hF := ifp hc hF
                refine x_iinc (v := x3 + 1) (lv2 := [(3, .int (x3 + 1)), (4, .int (0 : Int32)), (0, .ref (q 0)), (1, .int x1), (2, .int x2)]) C dX9_choose_107 4 rfl rfl (by decide) rfl ?_
                refine x_goto (tgt := 30) C dX9_choose_110 (by decide) ?_
                exact x_sub [2, 3, 4, 0] rfl (ih _ _ _ _ _ _ _ _ _ _ _ _ _ hF K)
              · replace hF := ifn hc hF
                refine x_aload_n C dX9_choose_90 1 rfl ?_
                refine x_iload_n C dX9_choose_91 2 rfl ?_
                refine x_iload_n C dX9_choose_92 3 rfl ?_
                refine x_iload_n C dX9_choose_93 4 rfl ?_
                refine x_aload_n C dX9_choose_94 1 rfl ?_
                refine gf_X9_63 C 0 rfl rfl dX9_choose_95 ?_
                refine x_iload_n C dX9_choose_98 2 rfl ?_
                refine x_iload_n C dX9_choose_99 4 rfl ?_
                refine x_isub C dX9_choose_100 ?_
                obtain ⟨b14, hF⟩ := ck_s hF
                refine x_iald C 14 rfl b14 dX9_choose_101 ?_
                refine x_iconst (v := 1) C dX9_choose_102 (by decide) ?_
                refine x_iadd C dX9_choose_103 ?_
                obtain ⟨o15, h16, hF⟩ := bd_s hF
                refine x_callVv (st := []) C (c_X9_consider h16) xm_X9_consider ml_X9_207 0 rfl rfl rfl rfl rfl rfl dX9_choose_104 ⟨rfl, rfl⟩ ?_
                refine x_iinc (v := x3 + 1) (lv2 := [(3, .int (x3 + 1)), (4, .int (0 : Int32)), (0, .ref (q 0)), (1, .int x1), (2, .int x2)]) C dX9_choose_107 4 rfl rfl (by decide) rfl ?_
                refine x_goto (tgt := 30) C dX9_choose_110 (by decide) ?_
                exact x_sub [2, 3, 4, 0] rfl (ih _ _ _ _ _ _ _ _ _ _ _ _ _ hF K)
            · replace hF := ifn hc hF
              refine x_iconst (v := 1) C dX9_choose_78 (by decide) ?_
              refine x_goto (tgt := 83) C dX9_choose_79 (by decide) ?_
              refine x_istore (lv2 := [(4, .int (1 : Int32)), (0, .ref (q 0)), (1, .int x1), (2, .int x2), (3, .int x3)]) C dX9_choose_83 (by decide) rfl ?_
              refine x_iload C dX9_choose_85 0 rfl ?_
              refine x_if_eq (tgt := 107) C dX9_choose_87 (by decide) (fun hc => ?_) (fun hc => ?_)
              · replace hF := ifp hc hF
                refine x_iinc (v := x3 + 1) (lv2 := [(3, .int (x3 + 1)), (4, .int (1 : Int32)), (0, .ref (q 0)), (1, .int x1), (2, .int x2)]) C dX9_choose_107 4 rfl rfl (by decide) rfl ?_
                refine x_goto (tgt := 30) C dX9_choose_110 (by decide) ?_
                exact x_sub [2, 3, 4, 0] rfl (ih _ _ _ _ _ _ _ _ _ _ _ _ _ hF K)
              · replace hF := ifn hc hF
                refine x_aload_n C dX9_choose_90 1 rfl ?_
                refine x_iload_n C dX9_choose_91 2 rfl ?_
                refine x_iload_n C dX9_choose_92 3 rfl ?_
                refine x_iload_n C dX9_choose_93 4 rfl ?_
                refine x_aload_n C dX9_choose_94 1 rfl ?_
                refine gf_X9_63 C 0 rfl rfl dX9_choose_95 ?_
                refine x_iload_n C dX9_choose_98 2 rfl ?_
                refine x_iload_n C dX9_choose_99 4 rfl ?_
                refine x_isub C dX9_choose_100 ?_
                obtain ⟨b17, hF⟩ := ck_s hF
                refine x_iald C 14 rfl b17 dX9_choose_101 ?_
                refine x_iconst (v := 1) C dX9_choose_102 (by decide) ?_
                refine x_iadd C dX9_choose_103 ?_
                obtain ⟨o18, h19, hF⟩ := bd_s hF
                refine x_callVv (st := []) C (c_X9_consider h19) xm_X9_consider ml_X9_207 0 rfl rfl rfl rfl rfl rfl dX9_choose_104 ⟨rfl, rfl⟩ ?_
                refine x_iinc (v := x3 + 1) (lv2 := [(3, .int (x3 + 1)), (4, .int (1 : Int32)), (0, .ref (q 0)), (1, .int x1), (2, .int x2)]) C dX9_choose_107 4 rfl rfl (by decide) rfl ?_
                refine x_goto (tgt := 30) C dX9_choose_110 (by decide) ?_
                exact x_sub [2, 3, 4, 0] rfl (ih _ _ _ _ _ _ _ _ _ _ _ _ _ hF K)
set_option maxHeartbeats 4000000 in
set_option maxRecDepth 100000 in
theorem w_X9_choose_L23 {κ : xb_k} {Γ : xb_X} {q : Nat → Nat} {mth : Int32} {mn : Int32} {mib : Int32} {mpa : Int32} {mwi : Int32} {mch : Int32} {mst : Int32} {msz : Int32} {mps : Int32} {mno : (Nat → Int32)} {mpk : (Nat → Int32)} {mtu : (Nat → Int32)} {mfo : (Nat → Int32)} {mbi : (Nat → Int32)} {mwr : (Nat → Int32)} {mbe : (Nat → Int32)} {mow : (Nat → Int32)} {mco : (Nat → Int32)} {mpt : (Nat → Int32)} {mle : (Nat → Int32)} {mpl : (Nat → Int32)} {mit : (Nat → Int32)} {mro : (Nat → Int32)} {maw : (Nat → Int32)} {x1 : Int32} {fu : Nat} (C : xb_C κ Γ 5 cX9_choose RX9 { frames := 7, cells := 0, slots := 0, locals := 171 }) : ∀ (n : Nat) (x2 : Int32) (mns : Int32) (mus : (Nat → Int32)) (mnu : (Nat → Int32)) (mld : Int32) (mli : (Nat → Int32)) (mot : (Nat → Int32)) (mbl : (Nat → Int32)) (mbb : Int32) (mki : (Nat → Int32)) (mfr : (Nat → Int32)) (mde : (Nat → Int32)) (o : Int32 × (Nat → Int32) × (Nat → Int32) × Int32 × (Nat → Int32) × (Nat → Int32) × (Nat → Int32) × Int32 × (Nat → Int32) × (Nat → Int32) × (Nat → Int32)), F_X9_choose_L23 fu x1 mwi mch mn mpk mfo n x2 mns mus mnu mld mli mot mbl mbb mki mfr mde = some o → xb_W κ Γ 5 0 0 119 [(0, .ref (q 0)), (1, .int x1)] [] (mw κ q mth mn mib mpa mwi mch mst msz o.1 o.2.2.2.1 mps o.2.2.2.2.2.2.2.1 mno mpk mtu mfo mbi mwr o.2.1 o.2.2.1 o.2.2.2.2.1 o.2.2.2.2.2.1 o.2.2.2.2.2.2.1 o.2.2.2.2.2.2.2.2.1 o.2.2.2.2.2.2.2.2.2.1 o.2.2.2.2.2.2.2.2.2.2 mbe mow mco mpt mle mpl mit mro maw) → xb_W κ Γ 5 0 0 23 [(0, .ref (q 0)), (1, .int x1), (2, .int x2)] [] (mw κ q mth mn mib mpa mwi mch mst msz mns mld mps mbb mno mpk mtu mfo mbi mwr mus mnu mli mot mbl mki mfr mde mbe mow mco mpt mle mpl mit mro maw) := by
  intro n
  induction n with
  | zero =>
    intro x2 mns mus mnu mld mli mot mbl mbb mki mfr mde o hF K
    rw [F_X9_choose_L23] at hF
    cases hF
  | succ n ih =>
    intro x2 mns mus mnu mld mli mot mbl mbb mki mfr mde o hF K
    rw [F_X9_choose_L23] at hF
    refine x_iload_n C dX9_choose_23 2 rfl ?_
    refine x_iconst (v := 4) C dX9_choose_24 (by decide) ?_
    refine x_icmp_ge (tgt := 119) C dX9_choose_25 (by decide) (fun hc => ?_) (fun hc => ?_)
    · replace hF := ifp hc hF
      cases hF
      exact x_sub [0, 1] rfl K
    · replace hF := ifn hc hF
      refine x_iconst (v := 1) C dX9_choose_28 (by decide) ?_
      refine x_istore_n (lv2 := [(3, .int (1 : Int32)), (0, .ref (q 0)), (1, .int x1), (2, .int x2)]) C dX9_choose_29 rfl (by decide) rfl ?_
      obtain ⟨o5, h6, hF⟩ := bd_s hF
      refine x_sub [1, 2, 3, 0] rfl (w_X9_choose_L30 C fu _ _ _ _ _ _ _ _ _ _ _ _ _ h6 ?_)
      refine x_iinc (v := x2 + 1) (lv2 := [(2, .int (x2 + 1)), (0, .ref (q 0)), (1, .int x1)]) C dX9_choose_113 2 rfl rfl (by decide) rfl ?_
      refine x_goto (tgt := 23) C dX9_choose_116 (by decide) ?_
      exact x_sub [1, 2, 0] rfl (ih _ _ _ _ _ _ _ _ _ _ _ _ _ hF K)
set_option maxHeartbeats 4000000 in
set_option maxRecDepth 100000 in
theorem c_X9_choose {κ : xb_k} {q : Nat → Nat} {mth : Int32} {mn : Int32} {mib : Int32} {mpa : Int32} {mwi : Int32} {mch : Int32} {mst : Int32} {msz : Int32} {mns : Int32} {mld : Int32} {mps : Int32} {mbb : Int32} {mno : (Nat → Int32)} {mpk : (Nat → Int32)} {mtu : (Nat → Int32)} {mfo : (Nat → Int32)} {mbi : (Nat → Int32)} {mwr : (Nat → Int32)} {mus : (Nat → Int32)} {mnu : (Nat → Int32)} {mli : (Nat → Int32)} {mot : (Nat → Int32)} {mbl : (Nat → Int32)} {mki : (Nat → Int32)} {mfr : (Nat → Int32)} {mde : (Nat → Int32)} {mbe : (Nat → Int32)} {mow : (Nat → Int32)} {mco : (Nat → Int32)} {mpt : (Nat → Int32)} {mle : (Nat → Int32)} {mpl : (Nat → Int32)} {mit : (Nat → Int32)} {mro : (Nat → Int32)} {maw : (Nat → Int32)} {x1 : Int32} {fu : Nat} {o : Int32 × Int32 × (Nat → Int32) × (Nat → Int32) × Int32 × (Nat → Int32) × (Nat → Int32) × (Nat → Int32) × (Nat → Int32) × (Nat → Int32) × (Nat → Int32)} (hF : F_X9_choose fu x1 mbb mns mus mnu mld mn mpk mli mot mbl mfo mki mfr mde mwi mch = some o) : Met κ.1 yX9_choose [Cond.code yX9_choose cX9_choose 5 none] { frames := 7, cells := 0, slots := 0, locals := 171 } (xb_P κ [.ref (q 0), .int x1] (mw κ q mth mn mib mpa mwi mch mst msz mns mld mps mbb mno mpk mtu mfo mbi mwr mus mnu mli mot mbl mki mfr mde mbe mow mco mpt mle mpl mit mro maw)) (xb_Qv κ (mw κ q mth mn mib mpa mwi mch mst msz o.2.1 o.2.2.2.2.1 mps o.1 mno mpk mtu mfo mbi mwr o.2.2.1 o.2.2.2.1 o.2.2.2.2.2.1 o.2.2.2.2.2.2.1 o.2.2.2.2.2.2.2.1 o.2.2.2.2.2.2.2.2.1 o.2.2.2.2.2.2.2.2.2.1 o.2.2.2.2.2.2.2.2.2.2 mbe mow mco mpt mle mpl mit mro maw)) 0 0 κ.2.2.1 := by
  refine x_enter (own := RX9) (lv0 := [(0, .ref (q 0)), (1, .int x1)]) (by decide) rfl rfl rfl (fun Γ C E => ?_)
  unfold F_X9_choose at hF
  refine x_aload_n C dX9_choose_0 0 rfl ?_
  refine x_iconst (v := (-1)) C dX9_choose_1 (by decide) ?_
  refine pf_X9_204 (ws2 := (mw κ q mth mn mib mpa mwi mch mst msz mns mld mps (-1 : Int32) mno mpk mtu mfo mbi mwr mus mnu mli mot mbl mki mfr mde mbe mow mco mpt mle mpl mit mro maw)) C 0 rfl dX9_choose_2 rfl rfl ?_
  refine x_aload_n C dX9_choose_5 0 rfl ?_
  refine x_iload_n C dX9_choose_6 1 rfl ?_
  refine x_iconst (v := 0) C dX9_choose_7 (by decide) ?_
  refine x_iconst (v := 0) C dX9_choose_8 (by decide) ?_
  refine x_iconst (v := 0) C dX9_choose_9 (by decide) ?_
  obtain ⟨o1, h2, hF⟩ := bd_s hF
  refine x_callVv (st := []) C (c_X9_consider h2) xm_X9_consider ml_X9_207 0 rfl rfl rfl rfl rfl rfl dX9_choose_10 ⟨rfl, rfl⟩ ?_
  refine x_aload_n C dX9_choose_13 0 rfl ?_
  refine x_iload_n C dX9_choose_14 1 rfl ?_
  refine x_iconst (v := 1) C dX9_choose_15 (by decide) ?_
  refine x_iconst (v := 0) C dX9_choose_16 (by decide) ?_
  refine x_iconst (v := 0) C dX9_choose_17 (by decide) ?_
  obtain ⟨o3, h4, hF⟩ := bd_s hF
  refine x_callVv (st := []) C (c_X9_consider h4) xm_X9_consider ml_X9_207 0 rfl rfl rfl rfl rfl rfl dX9_choose_18 ⟨rfl, rfl⟩ ?_
  refine x_iconst (v := 2) C dX9_choose_21 (by decide) ?_
  refine x_istore_n (lv2 := [(2, .int (2 : Int32)), (0, .ref (q 0)), (1, .int x1)]) C dX9_choose_22 rfl (by decide) rfl ?_
  obtain ⟨o7, h8, hF⟩ := bd_s hF
  refine x_sub [1, 2, 0] rfl (w_X9_choose_L23 C fu _ _ _ _ _ _ _ _ _ _ _ _ _ h8 ?_)
  refine x_aload_n C dX9_choose_119 0 rfl ?_
  refine x_aload_n C dX9_choose_120 0 rfl ?_
  refine gf_X9_17 C 0 rfl rfl dX9_choose_121 ?_
  refine x_iload_n C dX9_choose_124 1 rfl ?_
  refine x_iload_n C dX9_choose_125 1 rfl ?_
  obtain ⟨o9, h10, hF⟩ := bd_s hF
  refine x_callVv (st := []) C (c_X9_take_0_2 h10) xm_X9_take ml_X9_157 0 rfl rfl rfl rfl rfl rfl dX9_choose_126 ⟨rfl, rfl⟩ ?_
  refine x_aload_n C dX9_choose_129 0 rfl ?_
  refine gf_X9_142 C 0 rfl rfl dX9_choose_130 ?_
  refine x_if_le (tgt := 144) C dX9_choose_133 (by decide) (fun hc => ?_) (fun hc => ?_)
  · replace hF := ifp hc hF
    cases hF
    exact x_vret C E dX9_choose_144
  · replace hF := ifn hc hF
    refine x_aload_n C dX9_choose_136 0 rfl ?_
    refine x_iload_n C dX9_choose_137 1 rfl ?_
    refine x_iconst (v := 4) C dX9_choose_138 (by decide) ?_
    refine x_iconst (v := 0) C dX9_choose_139 (by decide) ?_
    refine x_iconst (v := 0) C dX9_choose_140 (by decide) ?_
    obtain ⟨o11, h12, hF⟩ := bd_s hF
    refine x_callVv (st := []) C (c_X9_consider h12) xm_X9_consider ml_X9_207 0 rfl rfl rfl rfl rfl rfl dX9_choose_141 ⟨rfl, rfl⟩ ?_
    cases hF
    exact x_vret C E dX9_choose_144
set_option maxHeartbeats 4000000 in
set_option maxRecDepth 100000 in
theorem c_X9_putBit {κ : xb_k} {q : Nat → Nat} {mth : Int32} {mn : Int32} {mib : Int32} {mpa : Int32} {mwi : Int32} {mch : Int32} {mst : Int32} {msz : Int32} {mns : Int32} {mld : Int32} {mps : Int32} {mbb : Int32} {mno : (Nat → Int32)} {mpk : (Nat → Int32)} {mtu : (Nat → Int32)} {mfo : (Nat → Int32)} {mbi : (Nat → Int32)} {mwr : (Nat → Int32)} {mus : (Nat → Int32)} {mnu : (Nat → Int32)} {mli : (Nat → Int32)} {mot : (Nat → Int32)} {mbl : (Nat → Int32)} {mki : (Nat → Int32)} {mfr : (Nat → Int32)} {mde : (Nat → Int32)} {mbe : (Nat → Int32)} {mow : (Nat → Int32)} {mco : (Nat → Int32)} {mpt : (Nat → Int32)} {mle : (Nat → Int32)} {mpl : (Nat → Int32)} {mit : (Nat → Int32)} {mro : (Nat → Int32)} {maw : (Nat → Int32)} {x1 : Int32}  {o : (Nat → Int32) × Int32} (hF : F_X9_putBit x1 msz mbi = some o) : Met κ.1 yX9_putBit [Cond.code yX9_putBit cX9_putBit 2 none] { frames := 0, cells := 0, slots := 0, locals := 0 } (xb_P κ [.ref (q 0), .int x1] (mw κ q mth mn mib mpa mwi mch mst msz mns mld mps mbb mno mpk mtu mfo mbi mwr mus mnu mli mot mbl mki mfr mde mbe mow mco mpt mle mpl mit mro maw)) (xb_Qv κ (mw κ q mth mn mib mpa mwi mch mst o.2 mns mld mps mbb mno mpk mtu mfo o.1 mwr mus mnu mli mot mbl mki mfr mde mbe mow mco mpt mle mpl mit mro maw)) 0 0 κ.2.2.1 := by
  refine x_enter (own := RX9) (lv0 := [(0, .ref (q 0)), (1, .int x1)]) (by decide) rfl rfl rfl (fun Γ C E => ?_)
  unfold F_X9_putBit at hF
  refine x_aload_n C dX9_putBit_0 0 rfl ?_
  refine gf_X9_36 C 0 rfl rfl dX9_putBit_1 ?_
  refine x_aload_n C dX9_putBit_4 0 rfl ?_
  refine gf_X9_122 C 0 rfl rfl dX9_putBit_5 ?_
  refine x_iload_n C dX9_putBit_8 1 rfl ?_
  obtain ⟨b1, hF⟩ := ck_s hF
  refine x_iast (ws2 := (mw κ q mth mn mib mpa mwi mch mst msz mns mld mps mbb mno mpk mtu mfo (upd mbi msz.toNatClampNeg x1) mwr mus mnu mli mot mbl mki mfr mde mbe mow mco mpt mle mpl mit mro maw)) C 5 rfl b1 dX9_putBit_9 rfl ?_
  refine x_aload_n C dX9_putBit_10 0 rfl ?_
  refine x_dup C dX9_putBit_11 rfl ?_
  refine gf_X9_122 C 0 rfl rfl dX9_putBit_12 ?_
  refine x_iconst (v := 1) C dX9_putBit_15 (by decide) ?_
  refine x_iadd C dX9_putBit_16 ?_
  refine pf_X9_122 (ws2 := (mw κ q mth mn mib mpa mwi mch mst (msz + (1 : Int32)) mns mld mps mbb mno mpk mtu mfo (upd mbi msz.toNatClampNeg x1) mwr mus mnu mli mot mbl mki mfr mde mbe mow mco mpt mle mpl mit mro maw)) C 0 rfl dX9_putBit_17 rfl rfl ?_
  cases hF
  exact x_vret C E dX9_putBit_20
set_option maxHeartbeats 4000000 in
set_option maxRecDepth 100000 in
theorem w_X9_putUnary_L2 {κ : xb_k} {Γ : xb_X} {q : Nat → Nat} {mth : Int32} {mn : Int32} {mib : Int32} {mpa : Int32} {mwi : Int32} {mch : Int32} {mst : Int32} {mns : Int32} {mld : Int32} {mps : Int32} {mbb : Int32} {mno : (Nat → Int32)} {mpk : (Nat → Int32)} {mtu : (Nat → Int32)} {mfo : (Nat → Int32)} {mwr : (Nat → Int32)} {mus : (Nat → Int32)} {mnu : (Nat → Int32)} {mli : (Nat → Int32)} {mot : (Nat → Int32)} {mbl : (Nat → Int32)} {mki : (Nat → Int32)} {mfr : (Nat → Int32)} {mde : (Nat → Int32)} {mbe : (Nat → Int32)} {mow : (Nat → Int32)} {mco : (Nat → Int32)} {mpt : (Nat → Int32)} {mle : (Nat → Int32)} {mpl : (Nat → Int32)} {mit : (Nat → Int32)} {mro : (Nat → Int32)} {maw : (Nat → Int32)} {x1 : Int32}  (C : xb_C κ Γ 3 cX9_putUnary RX9 { frames := 1, cells := 0, slots := 0, locals := 21 }) : ∀ (n : Nat) (x2 : Int32) (mbi : (Nat → Int32)) (msz : Int32) (o : (Nat → Int32) × Int32), F_X9_putUnary_L2 x1 n x2 mbi msz = some o → xb_W κ Γ 3 0 0 18 [(0, .ref (q 0))] [] (mw κ q mth mn mib mpa mwi mch mst o.2 mns mld mps mbb mno mpk mtu mfo o.1 mwr mus mnu mli mot mbl mki mfr mde mbe mow mco mpt mle mpl mit mro maw) → xb_W κ Γ 3 0 0 2 [(0, .ref (q 0)), (1, .int x1), (2, .int x2)] [] (mw κ q mth mn mib mpa mwi mch mst msz mns mld mps mbb mno mpk mtu mfo mbi mwr mus mnu mli mot mbl mki mfr mde mbe mow mco mpt mle mpl mit mro maw) := by
  intro n
  induction n with
  | zero =>
    intro x2 mbi msz o hF K
    rw [F_X9_putUnary_L2] at hF
    cases hF
  | succ n ih =>
    intro x2 mbi msz o hF K
    rw [F_X9_putUnary_L2] at hF
    refine x_iload_n C dX9_putUnary_2 2 rfl ?_
    refine x_iload_n C dX9_putUnary_3 1 rfl ?_
    refine x_icmp_ge (tgt := 18) C dX9_putUnary_4 (by decide) (fun hc => ?_) (fun hc => ?_)
    · replace hF := ifp hc hF
      cases hF
      exact x_sub [0] rfl K
    · replace hF := ifn hc hF
      refine x_aload_n C dX9_putUnary_7 0 rfl ?_
      refine x_iconst (v := 0) C dX9_putUnary_8 (by decide) ?_
      obtain ⟨o1, h2, hF⟩ := bd_s hF
      refine x_callVv (st := []) C (c_X9_putBit h2) xm_X9_putBit ml_X9_125 0 rfl rfl rfl rfl rfl rfl dX9_putUnary_9 ⟨rfl, rfl⟩ ?_
      refine x_iinc (v := x2 + 1) (lv2 := [(2, .int (x2 + 1)), (0, .ref (q 0)), (1, .int x1)]) C dX9_putUnary_12 2 rfl rfl (by decide) rfl ?_
      refine x_goto (tgt := 2) C dX9_putUnary_15 (by decide) ?_
      exact x_sub [1, 2, 0] rfl (ih _ _ _ _ hF K)
set_option maxHeartbeats 4000000 in
set_option maxRecDepth 100000 in
theorem c_X9_putUnary {κ : xb_k} {q : Nat → Nat} {mth : Int32} {mn : Int32} {mib : Int32} {mpa : Int32} {mwi : Int32} {mch : Int32} {mst : Int32} {msz : Int32} {mns : Int32} {mld : Int32} {mps : Int32} {mbb : Int32} {mno : (Nat → Int32)} {mpk : (Nat → Int32)} {mtu : (Nat → Int32)} {mfo : (Nat → Int32)} {mbi : (Nat → Int32)} {mwr : (Nat → Int32)} {mus : (Nat → Int32)} {mnu : (Nat → Int32)} {mli : (Nat → Int32)} {mot : (Nat → Int32)} {mbl : (Nat → Int32)} {mki : (Nat → Int32)} {mfr : (Nat → Int32)} {mde : (Nat → Int32)} {mbe : (Nat → Int32)} {mow : (Nat → Int32)} {mco : (Nat → Int32)} {mpt : (Nat → Int32)} {mle : (Nat → Int32)} {mpl : (Nat → Int32)} {mit : (Nat → Int32)} {mro : (Nat → Int32)} {maw : (Nat → Int32)} {x1 : Int32} {fu : Nat} {o : (Nat → Int32) × Int32} (hF : F_X9_putUnary fu x1 msz mbi = some o) : Met κ.1 yX9_putUnary [Cond.code yX9_putUnary cX9_putUnary 3 none] { frames := 1, cells := 0, slots := 0, locals := 21 } (xb_P κ [.ref (q 0), .int x1] (mw κ q mth mn mib mpa mwi mch mst msz mns mld mps mbb mno mpk mtu mfo mbi mwr mus mnu mli mot mbl mki mfr mde mbe mow mco mpt mle mpl mit mro maw)) (xb_Qv κ (mw κ q mth mn mib mpa mwi mch mst o.2 mns mld mps mbb mno mpk mtu mfo o.1 mwr mus mnu mli mot mbl mki mfr mde mbe mow mco mpt mle mpl mit mro maw)) 0 0 κ.2.2.1 := by
  refine x_enter (own := RX9) (lv0 := [(0, .ref (q 0)), (1, .int x1)]) (by decide) rfl rfl rfl (fun Γ C E => ?_)
  unfold F_X9_putUnary at hF
  refine x_iconst (v := 0) C dX9_putUnary_0 (by decide) ?_
  refine x_istore_n (lv2 := [(2, .int (0 : Int32)), (0, .ref (q 0)), (1, .int x1)]) C dX9_putUnary_1 rfl (by decide) rfl ?_
  obtain ⟨o3, h4, hF⟩ := bd_s hF
  refine x_sub [1, 2, 0] rfl (w_X9_putUnary_L2 C fu _ _ _ _ h4 ?_)
  refine x_aload_n C dX9_putUnary_18 0 rfl ?_
  refine x_iconst (v := 1) C dX9_putUnary_19 (by decide) ?_
  obtain ⟨o5, h6, hF⟩ := bd_s hF
  refine x_callVv (st := []) C (c_X9_putBit h6) xm_X9_putBit ml_X9_125 0 rfl rfl rfl rfl rfl rfl dX9_putUnary_20 ⟨rfl, rfl⟩ ?_
  cases hF
  exact x_vret C E dX9_putUnary_23
set_option maxHeartbeats 4000000 in
set_option maxRecDepth 100000 in
theorem w_X9_putBits_L4 {κ : xb_k} {Γ : xb_X} {q : Nat → Nat} {mth : Int32} {mn : Int32} {mib : Int32} {mpa : Int32} {mwi : Int32} {mch : Int32} {mst : Int32} {mns : Int32} {mld : Int32} {mps : Int32} {mbb : Int32} {mno : (Nat → Int32)} {mpk : (Nat → Int32)} {mtu : (Nat → Int32)} {mfo : (Nat → Int32)} {mwr : (Nat → Int32)} {mus : (Nat → Int32)} {mnu : (Nat → Int32)} {mli : (Nat → Int32)} {mot : (Nat → Int32)} {mbl : (Nat → Int32)} {mki : (Nat → Int32)} {mfr : (Nat → Int32)} {mde : (Nat → Int32)} {mbe : (Nat → Int32)} {mow : (Nat → Int32)} {mco : (Nat → Int32)} {mpt : (Nat → Int32)} {mle : (Nat → Int32)} {mpl : (Nat → Int32)} {mit : (Nat → Int32)} {mro : (Nat → Int32)} {maw : (Nat → Int32)} {x1 : Int32}  (C : xb_C κ Γ 4 cX9_putBits RX9 { frames := 1, cells := 0, slots := 0, locals := 21 }) : ∀ (n : Nat) (x3 : Int32) (mbi : (Nat → Int32)) (msz : Int32) (o : (Nat → Int32) × Int32), F_X9_putBits_L4 x1 n x3 mbi msz = some o → xb_W κ Γ 4 0 0 23 [] [] (mw κ q mth mn mib mpa mwi mch mst o.2 mns mld mps mbb mno mpk mtu mfo o.1 mwr mus mnu mli mot mbl mki mfr mde mbe mow mco mpt mle mpl mit mro maw) → xb_W κ Γ 4 0 0 4 [(0, .ref (q 0)), (1, .int x1), (3, .int x3)] [] (mw κ q mth mn mib mpa mwi mch mst msz mns mld mps mbb mno mpk mtu mfo mbi mwr mus mnu mli mot mbl mki mfr mde mbe mow mco mpt mle mpl mit mro maw) := by
  intro n
  induction n with
  | zero =>
    intro x3 mbi msz o hF K
    rw [F_X9_putBits_L4] at hF
    cases hF
  | succ n ih =>
    intro x3 mbi msz o hF K
    rw [F_X9_putBits_L4] at hF
    refine x_iload_n C dX9_putBits_4 2 rfl ?_
    refine x_if_lt (tgt := 23) C dX9_putBits_5 (by decide) (fun hc => ?_) (fun hc => ?_)
    · replace hF := ifp hc hF
      cases hF
      exact x_sub [] rfl K
    · replace hF := ifn hc hF
      refine x_aload_n C dX9_putBits_8 0 rfl ?_
      refine x_iload_n C dX9_putBits_9 1 rfl ?_
      refine x_iload_n C dX9_putBits_10 2 rfl ?_
      refine x_ishr C dX9_putBits_11 ?_
      refine x_iconst (v := 1) C dX9_putBits_12 (by decide) ?_
      refine x_iand C dX9_putBits_13 ?_
      obtain ⟨o1, h2, hF⟩ := bd_s hF
      refine x_callVv (st := []) C (c_X9_putBit h2) xm_X9_putBit ml_X9_125 0 rfl rfl rfl rfl rfl rfl dX9_putBits_14 ⟨rfl, rfl⟩ ?_
      refine x_iinc (v := x3 + (-1)) (lv2 := [(3, .int (x3 + (-1))), (0, .ref (q 0)), (1, .int x1)]) C dX9_putBits_17 2 rfl rfl (by decide) rfl ?_
      refine x_goto (tgt := 4) C dX9_putBits_20 (by decide) ?_
      exact x_sub [1, 2, 0] rfl (ih _ _ _ _ hF K)
set_option maxHeartbeats 4000000 in
set_option maxRecDepth 100000 in
theorem c_X9_putBits {κ : xb_k} {q : Nat → Nat} {mth : Int32} {mn : Int32} {mib : Int32} {mpa : Int32} {mwi : Int32} {mch : Int32} {mst : Int32} {msz : Int32} {mns : Int32} {mld : Int32} {mps : Int32} {mbb : Int32} {mno : (Nat → Int32)} {mpk : (Nat → Int32)} {mtu : (Nat → Int32)} {mfo : (Nat → Int32)} {mbi : (Nat → Int32)} {mwr : (Nat → Int32)} {mus : (Nat → Int32)} {mnu : (Nat → Int32)} {mli : (Nat → Int32)} {mot : (Nat → Int32)} {mbl : (Nat → Int32)} {mki : (Nat → Int32)} {mfr : (Nat → Int32)} {mde : (Nat → Int32)} {mbe : (Nat → Int32)} {mow : (Nat → Int32)} {mco : (Nat → Int32)} {mpt : (Nat → Int32)} {mle : (Nat → Int32)} {mpl : (Nat → Int32)} {mit : (Nat → Int32)} {mro : (Nat → Int32)} {maw : (Nat → Int32)} {x1 : Int32} {x2 : Int32} {fu : Nat} {o : (Nat → Int32) × Int32} (hF : F_X9_putBits fu x1 x2 msz mbi = some o) : Met κ.1 yX9_putBits [Cond.code yX9_putBits cX9_putBits 4 none] { frames := 1, cells := 0, slots := 0, locals := 21 } (xb_P κ [.ref (q 0), .int x1, .int x2] (mw κ q mth mn mib mpa mwi mch mst msz mns mld mps mbb mno mpk mtu mfo mbi mwr mus mnu mli mot mbl mki mfr mde mbe mow mco mpt mle mpl mit mro maw)) (xb_Qv κ (mw κ q mth mn mib mpa mwi mch mst o.2 mns mld mps mbb mno mpk mtu mfo o.1 mwr mus mnu mli mot mbl mki mfr mde mbe mow mco mpt mle mpl mit mro maw)) 0 0 κ.2.2.1 := by
  refine x_enter (own := RX9) (lv0 := [(0, .ref (q 0)), (1, .int x1), (2, .int x2)]) (by decide) rfl rfl rfl (fun Γ C E => ?_)
  unfold F_X9_putBits at hF
  refine x_iload_n C dX9_putBits_0 2 rfl ?_
  refine x_iconst (v := 1) C dX9_putBits_1 (by decide) ?_
  refine x_isub C dX9_putBits_2 ?_
  refine x_istore_n (lv2 := [(3, .int (x2 - (1 : Int32))), (0, .ref (q 0)), (1, .int x1), (2, .int x2)]) C dX9_putBits_3 rfl (by decide) rfl ?_
  obtain ⟨o3, h4, hF⟩ := bd_s hF
  refine x_sub [1, 2, 0] rfl (w_X9_putBits_L4 C fu _ _ _ _ h4 ?_)
  cases hF
  exact x_vret C E dX9_putBits_23
set_option maxHeartbeats 4000000 in
set_option maxRecDepth 100000 in
theorem w_X9_putDoubled_L9 {κ : xb_k} {Γ : xb_X} {q : Nat → Nat} {mth : Int32} {mn : Int32} {mib : Int32} {mpa : Int32} {mwi : Int32} {mch : Int32} {mst : Int32} {mns : Int32} {mld : Int32} {mps : Int32} {mbb : Int32} {mno : (Nat → Int32)} {mpk : (Nat → Int32)} {mtu : (Nat → Int32)} {mfo : (Nat → Int32)} {mwr : (Nat → Int32)} {mus : (Nat → Int32)} {mnu : (Nat → Int32)} {mli : (Nat → Int32)} {mot : (Nat → Int32)} {mbl : (Nat → Int32)} {mki : (Nat → Int32)} {mfr : (Nat → Int32)} {mde : (Nat → Int32)} {mbe : (Nat → Int32)} {mow : (Nat → Int32)} {mco : (Nat → Int32)} {mpt : (Nat → Int32)} {mle : (Nat → Int32)} {mpl : (Nat → Int32)} {mit : (Nat → Int32)} {mro : (Nat → Int32)} {maw : (Nat → Int32)} {x1 : Int32} {x2 : Int32}  (C : xb_C κ Γ 4 cX9_putDoubled RX9 { frames := 2, cells := 0, slots := 0, locals := 44 }) : ∀ (n : Nat) (x3 : Int32) (mbi : (Nat → Int32)) (msz : Int32) (o : (Nat → Int32) × Int32), F_X9_putDoubled_L9 x1 x2 n x3 mbi msz = some o → xb_W κ Γ 4 0 0 25 [(0, .ref (q 0)), (1, .int x1), (2, .int x2)] [] (mw κ q mth mn mib mpa mwi mch mst o.2 mns mld mps mbb mno mpk mtu mfo o.1 mwr mus mnu mli mot mbl mki mfr mde mbe mow mco mpt mle mpl mit mro maw) → xb_W κ Γ 4 0 0 9 [(0, .ref (q 0)), (1, .int x1), (2, .int x2), (3, .int x3)] [] (mw κ q mth mn mib mpa mwi mch mst msz mns mld mps mbb mno mpk mtu mfo mbi mwr mus mnu mli mot mbl mki mfr mde mbe mow mco mpt mle mpl mit mro maw) := by
  intro n
  induction n with
  | zero =>
    intro x3 mbi msz o hF K
    rw [F_X9_putDoubled_L9] at hF
    cases hF
  | succ n ih =>
    intro x3 mbi msz o hF K
    rw [F_X9_putDoubled_L9] at hF
    refine x_iload_n C dX9_putDoubled_9 3 rfl ?_
    refine x_iload_n C dX9_putDoubled_10 2 rfl ?_
    refine x_icmp_ge (tgt := 25) C dX9_putDoubled_11 (by decide) (fun hc => ?_) (fun hc => ?_)
    · replace hF := ifp hc hF
      cases hF
      exact x_sub [0, 1, 2] rfl K
    · replace hF := ifn hc hF
      refine x_aload_n C dX9_putDoubled_14 0 rfl ?_
      refine x_iconst (v := 0) C dX9_putDoubled_15 (by decide) ?_
      obtain ⟨o3, h4, hF⟩ := bd_s hF
      refine x_callVv (st := []) C (c_X9_putBit h4) xm_X9_putBit ml_X9_125 0 rfl rfl rfl rfl rfl rfl dX9_putDoubled_16 ⟨rfl, rfl⟩ ?_
      refine x_iinc (v := x3 + 1) (lv2 := [(3, .int (x3 + 1)), (0, .ref (q 0)), (1, .int x1), (2, .int x2)]) C dX9_putDoubled_19 3 rfl rfl (by decide) rfl ?_
      refine x_goto (tgt := 9) C dX9_putDoubled_22 (by decide) ?_
      exact x_sub [1, 2, 3, 0] rfl (ih _ _ _ _ hF K)
set_option maxHeartbeats 4000000 in
set_option maxRecDepth 100000 in
theorem c_X9_putDoubled {κ : xb_k} {q : Nat → Nat} {mth : Int32} {mn : Int32} {mib : Int32} {mpa : Int32} {mwi : Int32} {mch : Int32} {mst : Int32} {msz : Int32} {mns : Int32} {mld : Int32} {mps : Int32} {mbb : Int32} {mno : (Nat → Int32)} {mpk : (Nat → Int32)} {mtu : (Nat → Int32)} {mfo : (Nat → Int32)} {mbi : (Nat → Int32)} {mwr : (Nat → Int32)} {mus : (Nat → Int32)} {mnu : (Nat → Int32)} {mli : (Nat → Int32)} {mot : (Nat → Int32)} {mbl : (Nat → Int32)} {mki : (Nat → Int32)} {mfr : (Nat → Int32)} {mde : (Nat → Int32)} {mbe : (Nat → Int32)} {mow : (Nat → Int32)} {mco : (Nat → Int32)} {mpt : (Nat → Int32)} {mle : (Nat → Int32)} {mpl : (Nat → Int32)} {mit : (Nat → Int32)} {mro : (Nat → Int32)} {maw : (Nat → Int32)} {x1 : Int32} {fu : Nat} {o : (Nat → Int32) × Int32} (hF : F_X9_putDoubled fu x1 msz mbi = some o) : Met κ.1 yX9_putDoubled [Cond.code yX9_putDoubled cX9_putDoubled 4 none] { frames := 2, cells := 0, slots := 0, locals := 44 } (xb_P κ [.ref (q 0), .int x1] (mw κ q mth mn mib mpa mwi mch mst msz mns mld mps mbb mno mpk mtu mfo mbi mwr mus mnu mli mot mbl mki mfr mde mbe mow mco mpt mle mpl mit mro maw)) (xb_Qv κ (mw κ q mth mn mib mpa mwi mch mst o.2 mns mld mps mbb mno mpk mtu mfo o.1 mwr mus mnu mli mot mbl mki mfr mde mbe mow mco mpt mle mpl mit mro maw)) 0 0 κ.2.2.1 := by
  refine x_enter (own := RX9) (lv0 := [(0, .ref (q 0)), (1, .int x1)]) (by decide) rfl rfl rfl (fun Γ C E => ?_)
  unfold F_X9_putDoubled at hF
  refine x_iload_n C dX9_putDoubled_0 1 rfl ?_
  refine x_iconst (v := 1) C dX9_putDoubled_1 (by decide) ?_
  refine x_iadd C dX9_putDoubled_2 ?_
  obtain ⟨o1, h2, hF⟩ := bd_s hF
  refine x_callSi (st := []) C (c_X9_bitsOf h2) xm_X9_bitsOf ml_X9_119 rfl rfl rfl rfl dX9_putDoubled_3 ⟨rfl, rfl⟩ ?_
  refine x_istore_n (lv2 := [(2, .int o1), (0, .ref (q 0)), (1, .int x1)]) C dX9_putDoubled_6 rfl (by decide) rfl ?_
  refine x_iconst (v := 1) C dX9_putDoubled_7 (by decide) ?_
  refine x_istore_n (lv2 := [(3, .int (1 : Int32)), (2, .int o1), (0, .ref (q 0)), (1, .int x1)]) C dX9_putDoubled_8 rfl (by decide) rfl ?_
  obtain ⟨o5, h6, hF⟩ := bd_s hF
  refine x_sub [2, 3, 1, 0] rfl (w_X9_putDoubled_L9 C fu _ _ _ _ h6 ?_)
  refine x_aload_n C dX9_putDoubled_25 0 rfl ?_
  refine x_iload_n C dX9_putDoubled_26 1 rfl ?_
  refine x_iconst (v := 1) C dX9_putDoubled_27 (by decide) ?_
  refine x_iadd C dX9_putDoubled_28 ?_
  refine x_iload_n C dX9_putDoubled_29 2 rfl ?_
  obtain ⟨o7, h8, hF⟩ := bd_s hF
  refine x_callVv (st := []) C (c_X9_putBits h8) xm_X9_putBits ml_X9_129 0 rfl rfl rfl rfl rfl rfl dX9_putDoubled_30 ⟨rfl, rfl⟩ ?_
  cases hF
  exact x_vret C E dX9_putDoubled_33
set_option maxHeartbeats 4000000 in
set_option maxRecDepth 100000 in
theorem c_X9_putNumber {κ : xb_k} {q : Nat → Nat} {mth : Int32} {mn : Int32} {mib : Int32} {mpa : Int32} {mwi : Int32} {mch : Int32} {mst : Int32} {msz : Int32} {mns : Int32} {mld : Int32} {mps : Int32} {mbb : Int32} {mno : (Nat → Int32)} {mpk : (Nat → Int32)} {mtu : (Nat → Int32)} {mfo : (Nat → Int32)} {mbi : (Nat → Int32)} {mwr : (Nat → Int32)} {mus : (Nat → Int32)} {mnu : (Nat → Int32)} {mli : (Nat → Int32)} {mot : (Nat → Int32)} {mbl : (Nat → Int32)} {mki : (Nat → Int32)} {mfr : (Nat → Int32)} {mde : (Nat → Int32)} {mbe : (Nat → Int32)} {mow : (Nat → Int32)} {mco : (Nat → Int32)} {mpt : (Nat → Int32)} {mle : (Nat → Int32)} {mpl : (Nat → Int32)} {mit : (Nat → Int32)} {mro : (Nat → Int32)} {maw : (Nat → Int32)} {x1 : Int32} {x2 : Int32} {fu : Nat} {o : (Nat → Int32) × Int32} (hF : F_X9_putNumber fu x1 x2 msz mbi = some o) : Met κ.1 yX9_putNumber [Cond.code yX9_putNumber cX9_putNumber 4 none] { frames := 3, cells := 0, slots := 0, locals := 67 } (xb_P κ [.ref (q 0), .int x1, .int x2] (mw κ q mth mn mib mpa mwi mch mst msz mns mld mps mbb mno mpk mtu mfo mbi mwr mus mnu mli mot mbl mki mfr mde mbe mow mco mpt mle mpl mit mro maw)) (xb_Qv κ (mw κ q mth mn mib mpa mwi mch mst o.2 mns mld mps mbb mno mpk mtu mfo o.1 mwr mus mnu mli mot mbl mki mfr mde mbe mow mco mpt mle mpl mit mro maw)) 0 0 κ.2.2.1 := by
  refine x_enter (own := RX9) (lv0 := [(0, .ref (q 0)), (1, .int x1), (2, .int x2)]) (by decide) rfl rfl rfl (fun Γ C E => ?_)
  unfold F_X9_putNumber at hF
  refine x_iload_n C dX9_putNumber_0 1 rfl ?_
  refine x_if_ne (tgt := 12) C dX9_putNumber_1 (by decide) (fun hc => ?_) (fun hc => ?_)
  · replace hF := ifn hc hF
    refine x_iload_n C dX9_putNumber_12 1 rfl ?_
    refine x_iconst (v := 1) C dX9_putNumber_13 (by decide) ?_
    refine x_icmp_ne (tgt := 25) C dX9_putNumber_14 (by decide) (fun hc => ?_) (fun hc => ?_)
    · replace hF := ifn hc hF
      refine x_iload_n C dX9_putNumber_25 1 rfl ?_
      refine x_iconst (v := 2) C dX9_putNumber_26 (by decide) ?_
      refine x_icmp_ne (tgt := 57) C dX9_putNumber_27 (by decide) (fun hc => ?_) (fun hc => ?_)
      · replace hF := ifn hc hF
        refine x_aload_n C dX9_putNumber_57 0 rfl ?_
        refine x_iload_n C dX9_putNumber_58 2 rfl ?_
        refine x_iload_n C dX9_putNumber_59 1 rfl ?_
        refine x_iconst (v := 3) C dX9_putNumber_60 (by decide) ?_
        refine x_isub C dX9_putNumber_61 ?_
        refine x_ishr C dX9_putNumber_62 ?_
        obtain ⟨o1, h2, hF⟩ := bd_s hF
        refine x_callVv (st := []) C (c_X9_putUnary h2) xm_X9_putUnary ml_X9_133 0 rfl rfl rfl rfl rfl rfl dX9_putNumber_63 ⟨rfl, rfl⟩ ?_
        refine x_aload_n C dX9_putNumber_66 0 rfl ?_
        refine x_iload_n C dX9_putNumber_67 2 rfl ?_
        refine x_iload_n C dX9_putNumber_68 1 rfl ?_
        refine x_iconst (v := 3) C dX9_putNumber_69 (by decide) ?_
        refine x_isub C dX9_putNumber_70 ?_
        obtain ⟨o3, h4, hF⟩ := bd_s hF
        refine x_callVv (st := []) C (c_X9_putBits h4) xm_X9_putBits ml_X9_129 0 rfl rfl rfl rfl rfl rfl dX9_putNumber_71 ⟨rfl, rfl⟩ ?_
        cases hF
        exact x_vret C E dX9_putNumber_74
      · replace hF := ifp hc hF
        refine x_iload_n C dX9_putNumber_30 2 rfl ?_
        refine x_iconst (v := 1) C dX9_putNumber_31 (by decide) ?_
        refine x_iadd C dX9_putNumber_32 ?_
        obtain ⟨o5, h6, hF⟩ := bd_s hF
        refine x_callSi (st := []) C (c_X9_bitsOf h6) xm_X9_bitsOf ml_X9_119 rfl rfl rfl rfl dX9_putNumber_33 ⟨rfl, rfl⟩ ?_
        refine x_istore_n (lv2 := [(3, .int o5), (0, .ref (q 0)), (1, .int x1), (2, .int x2)]) C dX9_putNumber_36 rfl (by decide) rfl ?_
        refine x_aload_n C dX9_putNumber_37 1 rfl ?_
        refine x_iload_n C dX9_putNumber_38 0 rfl ?_
        refine x_iconst (v := 1) C dX9_putNumber_39 (by decide) ?_
        refine x_isub C dX9_putNumber_40 ?_
        obtain ⟨o7, h8, hF⟩ := bd_s hF
        refine x_callVv (st := []) C (c_X9_putDoubled h8) xm_X9_putDoubled ml_X9_136 0 rfl rfl rfl rfl rfl rfl dX9_putNumber_41 ⟨rfl, rfl⟩ ?_
        refine x_aload_n C dX9_putNumber_44 1 rfl ?_
        refine x_iload_n C dX9_putNumber_45 3 rfl ?_
        refine x_iconst (v := 1) C dX9_putNumber_46 (by decide) ?_
        refine x_iadd C dX9_putNumber_47 ?_
        refine x_iload_n C dX9_putNumber_48 0 rfl ?_
        refine x_iconst (v := 1) C dX9_putNumber_49 (by decide) ?_
        refine x_isub C dX9_putNumber_50 ?_
        obtain ⟨o9, h10, hF⟩ := bd_s hF
        refine x_callVv (st := []) C (c_X9_putBits h10) xm_X9_putBits ml_X9_129 0 rfl rfl rfl rfl rfl rfl dX9_putNumber_51 ⟨rfl, rfl⟩ ?_
        refine x_goto (tgt := 74) C dX9_putNumber_54 (by decide) ?_
        cases hF
        exact x_vret C E dX9_putNumber_74
    · replace hF := ifp hc hF
      refine x_aload_n C dX9_putNumber_17 0 rfl ?_
      refine x_iload_n C dX9_putNumber_18 2 rfl ?_
      obtain ⟨o11, h12, hF⟩ := bd_s hF
      refine x_callVv (st := []) C (c_X9_putDoubled h12) xm_X9_putDoubled ml_X9_136 0 rfl rfl rfl rfl rfl rfl dX9_putNumber_19 ⟨rfl, rfl⟩ ?_
      refine x_goto (tgt := 74) C dX9_putNumber_22 (by decide) ?_
      cases hF
      exact x_vret C E dX9_putNumber_74
  · replace hF := ifp hc hF
    refine x_aload_n C dX9_putNumber_4 0 rfl ?_
    refine x_iload_n C dX9_putNumber_5 2 rfl ?_
    obtain ⟨o13, h14, hF⟩ := bd_s hF
    refine x_callVv (st := []) C (c_X9_putUnary h14) xm_X9_putUnary ml_X9_133 0 rfl rfl rfl rfl rfl rfl dX9_putNumber_6 ⟨rfl, rfl⟩ ?_
    refine x_goto (tgt := 74) C dX9_putNumber_9 (by decide) ?_
    cases hF
    exact x_vret C E dX9_putNumber_74
set_option maxHeartbeats 4000000 in
set_option maxRecDepth 100000 in
theorem w_X9_writeRow_L12 {κ : xb_k} {Γ : xb_X} {q : Nat → Nat} {mth : Int32} {mn : Int32} {mib : Int32} {mpa : Int32} {mwi : Int32} {mch : Int32} {mst : Int32} {mns : Int32} {mld : Int32} {mps : Int32} {mbb : Int32} {mno : (Nat → Int32)} {mpk : (Nat → Int32)} {mtu : (Nat → Int32)} {mfo : (Nat → Int32)} {mwr : (Nat → Int32)} {mus : (Nat → Int32)} {mnu : (Nat → Int32)} {mli : (Nat → Int32)} {mot : (Nat → Int32)} {mbl : (Nat → Int32)} {mki : (Nat → Int32)} {mfr : (Nat → Int32)} {mde : (Nat → Int32)} {mbe : (Nat → Int32)} {mow : (Nat → Int32)} {mco : (Nat → Int32)} {mpt : (Nat → Int32)} {mle : (Nat → Int32)} {mpl : (Nat → Int32)} {mit : (Nat → Int32)} {mro : (Nat → Int32)} {maw : (Nat → Int32)}  {fu : Nat} (C : xb_C κ Γ 3 cX9_writeRow RX9 { frames := 4, cells := 0, slots := 0, locals := 90 }) : ∀ (n : Nat) (x2 : Int32) (mbi : (Nat → Int32)) (msz : Int32) (o : (Nat → Int32) × Int32), F_X9_writeRow_L12 fu mns mus mfo mnu n x2 mbi msz = some o → xb_W κ Γ 3 0 0 71 [] [] (mw κ q mth mn mib mpa mwi mch mst o.2 mns mld mps mbb mno mpk mtu mfo o.1 mwr mus mnu mli mot mbl mki mfr mde mbe mow mco mpt mle mpl mit mro maw) → xb_W κ Γ 3 0 0 12 [(0, .ref (q 0)), (2, .int x2)] [] (mw κ q mth mn mib mpa mwi mch mst msz mns mld mps mbb mno mpk mtu mfo mbi mwr mus mnu mli mot mbl mki mfr mde mbe mow mco mpt mle mpl mit mro maw) := by
  intro n
  induction n with
  | zero =>
    intro x2 mbi msz o hF K
    rw [F_X9_writeRow_L12] at hF
    cases hF
  | succ n ih =>
    intro x2 mbi msz o hF K
    rw [F_X9_writeRow_L12] at hF
    refine x_iload_n C dX9_writeRow_12 1 rfl ?_
    refine x_aload_n C dX9_writeRow_13 0 rfl ?_
    refine gf_X9_139 C 0 rfl rfl dX9_writeRow_14 ?_
    refine x_icmp_ge (tgt := 71) C dX9_writeRow_17 (by decide) (fun hc => ?_) (fun hc => ?_)
    · replace hF := ifp hc hF
      cases hF
      exact x_sub [] rfl K
    · replace hF := ifn hc hF
      refine x_aload_n C dX9_writeRow_20 0 rfl ?_
      refine gf_X9_42 C 0 rfl rfl dX9_writeRow_21 ?_
      refine x_iload_n C dX9_writeRow_24 1 rfl ?_
      obtain ⟨b2, hF⟩ := ck_s hF
      refine x_iald C 7 rfl b2 dX9_writeRow_25 ?_
      refine x_bipush (v := 8) C dX9_writeRow_26 (by decide) ?_
      refine x_icmp_ne (tgt := 44) C dX9_writeRow_28 (by decide) (fun hc => ?_) (fun hc => ?_)
      · replace hF := ifn hc hF
        refine x_aload_n C dX9_writeRow_44 0 rfl ?_
        refine x_aload_n C dX9_writeRow_45 0 rfl ?_
        refine gf_X9_23 C 0 rfl rfl dX9_writeRow_46 ?_
        refine x_aload_n C dX9_writeRow_49 0 rfl ?_
        refine gf_X9_42 C 0 rfl rfl dX9_writeRow_50 ?_
        refine x_iload_n C dX9_writeRow_53 1 rfl ?_
        obtain ⟨b3, hF⟩ := ck_s hF
        refine x_iald C 7 rfl b3 dX9_writeRow_54 ?_
        obtain ⟨b4, hF⟩ := ck_s hF
        refine x_iald C 4 rfl b4 dX9_writeRow_55 ?_
        refine x_aload_n C dX9_writeRow_56 0 rfl ?_
        refine gf_X9_45 C 0 rfl rfl dX9_writeRow_57 ?_
        refine x_iload_n C dX9_writeRow_60 1 rfl ?_
        obtain ⟨b5, hF⟩ := ck_s hF
        refine x_iald C 8 rfl b5 dX9_writeRow_61 ?_
        obtain ⟨o6, h7, hF⟩ := bd_s hF
        refine x_callVv (st := []) C (c_X9_putNumber h7) xm_X9_putNumber ml_X9_201 0 rfl rfl rfl rfl rfl rfl dX9_writeRow_62 ⟨rfl, rfl⟩ ?_
        refine x_iinc (v := x2 + 1) (lv2 := [(2, .int (x2 + 1)), (0, .ref (q 0))]) C dX9_writeRow_65 1 rfl rfl (by decide) rfl ?_
        refine x_goto (tgt := 12) C dX9_writeRow_68 (by decide) ?_
        exact x_sub [1, 0] rfl (ih _ _ _ _ hF K)
      · replace hF := ifp hc hF
        refine x_aload_n C dX9_writeRow_31 0 rfl ?_
        refine x_aload_n C dX9_writeRow_32 0 rfl ?_
        refine gf_X9_45 C 0 rfl rfl dX9_writeRow_33 ?_
        refine x_iload_n C dX9_writeRow_36 1 rfl ?_
        obtain ⟨b8, hF⟩ := ck_s hF
        refine x_iald C 8 rfl b8 dX9_writeRow_37 ?_
        obtain ⟨o9, h10, hF⟩ := bd_s hF
        refine x_callVv (st := []) C (c_X9_putBit h10) xm_X9_putBit ml_X9_125 0 rfl rfl rfl rfl rfl rfl dX9_writeRow_38 ⟨rfl, rfl⟩ ?_
        refine x_goto (tgt := 65) C dX9_writeRow_41 (by decide) ?_
        refine x_iinc (v := x2 + 1) (lv2 := [(2, .int (x2 + 1)), (0, .ref (q 0))]) C dX9_writeRow_65 1 rfl rfl (by decide) rfl ?_
        refine x_goto (tgt := 12) C dX9_writeRow_68 (by decide) ?_
        exact x_sub [1, 0] rfl (ih _ _ _ _ hF K)
set_option maxHeartbeats 4000000 in
set_option maxRecDepth 100000 in
theorem c_X9_writeRow {κ : xb_k} {q : Nat → Nat} {mth : Int32} {mn : Int32} {mib : Int32} {mpa : Int32} {mwi : Int32} {mch : Int32} {mst : Int32} {msz : Int32} {mns : Int32} {mld : Int32} {mps : Int32} {mbb : Int32} {mno : (Nat → Int32)} {mpk : (Nat → Int32)} {mtu : (Nat → Int32)} {mfo : (Nat → Int32)} {mbi : (Nat → Int32)} {mwr : (Nat → Int32)} {mus : (Nat → Int32)} {mnu : (Nat → Int32)} {mli : (Nat → Int32)} {mot : (Nat → Int32)} {mbl : (Nat → Int32)} {mki : (Nat → Int32)} {mfr : (Nat → Int32)} {mde : (Nat → Int32)} {mbe : (Nat → Int32)} {mow : (Nat → Int32)} {mco : (Nat → Int32)} {mpt : (Nat → Int32)} {mle : (Nat → Int32)} {mpl : (Nat → Int32)} {mit : (Nat → Int32)} {mro : (Nat → Int32)} {maw : (Nat → Int32)} {x1 : Int32} {fu : Nat} {o : (Nat → Int32) × (Nat → Int32) × Int32} (hF : F_X9_writeRow fu x1 msz mbe mns mus mfo mnu mbi = some o) : Met κ.1 yX9_writeRow [Cond.code yX9_writeRow cX9_writeRow 3 none] { frames := 4, cells := 0, slots := 0, locals := 90 } (xb_P κ [.ref (q 0), .int x1] (mw κ q mth mn mib mpa mwi mch mst msz mns mld mps mbb mno mpk mtu mfo mbi mwr mus mnu mli mot mbl mki mfr mde mbe mow mco mpt mle mpl mit mro maw)) (xb_Qv κ (mw κ q mth mn mib mpa mwi mch mst o.2.2 mns mld mps mbb mno mpk mtu mfo o.2.1 mwr mus mnu mli mot mbl mki mfr mde o.1 mow mco mpt mle mpl mit mro maw)) 0 0 κ.2.2.1 := by
  refine x_enter (own := RX9) (lv0 := [(0, .ref (q 0)), (1, .int x1)]) (by decide) rfl rfl rfl (fun Γ C E => ?_)
  unfold F_X9_writeRow at hF
  refine x_aload_n C dX9_writeRow_0 0 rfl ?_
  refine gf_X9_66 C 0 rfl rfl dX9_writeRow_1 ?_
  refine x_iload_n C dX9_writeRow_4 1 rfl ?_
  refine x_aload_n C dX9_writeRow_5 0 rfl ?_
  refine gf_X9_122 C 0 rfl rfl dX9_writeRow_6 ?_
  obtain ⟨b1, hF⟩ := ck_s hF
  refine x_iast (ws2 := (mw κ q mth mn mib mpa mwi mch mst msz mns mld mps mbb mno mpk mtu mfo mbi mwr mus mnu mli mot mbl mki mfr mde (upd mbe x1.toNatClampNeg msz) mow mco mpt mle mpl mit mro maw)) C 15 rfl b1 dX9_writeRow_9 rfl ?_
  refine x_iconst (v := 0) C dX9_writeRow_10 (by decide) ?_
  refine x_istore_n (lv2 := [(2, .int (0 : Int32)), (0, .ref (q 0)), (1, .int x1)]) C dX9_writeRow_11 rfl (by decide) rfl ?_
  obtain ⟨o11, h12, hF⟩ := bd_s hF
  refine x_sub [1, 0] rfl (w_X9_writeRow_L12 C fu _ _ _ _ h12 ?_)
  cases hF
  exact x_vret C E dX9_writeRow_71

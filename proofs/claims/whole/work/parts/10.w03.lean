set_option maxHeartbeats 4000000 in
set_option maxRecDepth 100000 in
theorem w_X9_closeBook_L18 {κ : xb_k} {Γ : xb_X} {q : Nat → Nat} {mth : Int32} {mn : Int32} {mib : Int32} {mpa : Int32} {mwi : Int32} {mch : Int32} {mst : Int32} {msz : Int32} {mns : Int32} {mld : Int32} {mps : Int32} {mbb : Int32} {mno : (Nat → Int32)} {mpk : (Nat → Int32)} {mtu : (Nat → Int32)} {mfo : (Nat → Int32)} {mwr : (Nat → Int32)} {mus : (Nat → Int32)} {mnu : (Nat → Int32)} {mli : (Nat → Int32)} {mot : (Nat → Int32)} {mbl : (Nat → Int32)} {mki : (Nat → Int32)} {mfr : (Nat → Int32)} {mde : (Nat → Int32)} {mbe : (Nat → Int32)} {mow : (Nat → Int32)} {mco : (Nat → Int32)} {mpt : (Nat → Int32)} {mle : (Nat → Int32)} {mpl : (Nat → Int32)} {mit : (Nat → Int32)} {mro : (Nat → Int32)} {maw : (Nat → Int32)}   (C : xb_C κ Γ 2 cX9_closeBook RX9 { frames := 0, cells := 0, slots := 0, locals := 0 }) : ∀ (n : Nat) (x1 : Int32) (mbi : (Nat → Int32)) (o : (Nat → Int32)), F_X9_closeBook_L18 msz n x1 mbi = some o → xb_W κ Γ 2 0 0 42 [(0, .ref (q 0))] [] (mw κ q mth mn mib mpa mwi mch mst msz mns mld mps mbb mno mpk mtu mfo o mwr mus mnu mli mot mbl mki mfr mde mbe mow mco mpt mle mpl mit mro maw) → xb_W κ Γ 2 0 0 18 [(0, .ref (q 0)), (1, .int x1)] [] (mw κ q mth mn mib mpa mwi mch mst msz mns mld mps mbb mno mpk mtu mfo mbi mwr mus mnu mli mot mbl mki mfr mde mbe mow mco mpt mle mpl mit mro maw) := by
  intro n
  induction n with
  | zero =>
    intro x1 mbi o hF K
    rw [F_X9_closeBook_L18] at hF
    cases hF
  | succ n ih =>
    intro x1 mbi o hF K
    rw [F_X9_closeBook_L18] at hF
    refine x_iload_n C dX9_closeBook_18 1 rfl ?_
    refine x_aload_n C dX9_closeBook_19 0 rfl ?_
    refine gf_X9_122 C 0 rfl rfl dX9_closeBook_20 ?_
    refine x_bipush (v := 8) C dX9_closeBook_23 (by decide) ?_
    refine x_iadd C dX9_closeBook_25 ?_
    refine x_icmp_ge (tgt := 42) C dX9_closeBook_26 (by decide) (fun hc => ?_) (fun hc => ?_)
    · replace hF := ifp hc hF
      cases hF
      exact x_sub [0] rfl K
    · replace hF := ifn hc hF
      refine x_aload_n C dX9_closeBook_29 0 rfl ?_
      refine gf_X9_36 C 0 rfl rfl dX9_closeBook_30 ?_
      refine x_iload_n C dX9_closeBook_33 1 rfl ?_
      refine x_iconst (v := 0) C dX9_closeBook_34 (by decide) ?_
      obtain ⟨b2, hF⟩ := ck_s hF
      refine x_iast (ws2 := (mw κ q mth mn mib mpa mwi mch mst msz mns mld mps mbb mno mpk mtu mfo (upd mbi x1.toNatClampNeg (0 : Int32)) mwr mus mnu mli mot mbl mki mfr mde mbe mow mco mpt mle mpl mit mro maw)) C 5 rfl b2 dX9_closeBook_35 rfl ?_
      refine x_iinc (v := x1 + 1) (lv2 := [(1, .int (x1 + 1)), (0, .ref (q 0))]) C dX9_closeBook_36 1 rfl rfl (by decide) rfl ?_
      refine x_goto (tgt := 18) C dX9_closeBook_39 (by decide) ?_
      exact x_sub [1, 0] rfl (ih _ _ _ hF K)
set_option maxHeartbeats 4000000 in
set_option maxRecDepth 100000 in
theorem w_X9_closeBook_L44 {κ : xb_k} {Γ : xb_X} {q : Nat → Nat} {mth : Int32} {mn : Int32} {mib : Int32} {mpa : Int32} {mwi : Int32} {mch : Int32} {mst : Int32} {msz : Int32} {mns : Int32} {mld : Int32} {mps : Int32} {mbb : Int32} {mno : (Nat → Int32)} {mpk : (Nat → Int32)} {mtu : (Nat → Int32)} {mfo : (Nat → Int32)} {mbi : (Nat → Int32)} {mus : (Nat → Int32)} {mnu : (Nat → Int32)} {mli : (Nat → Int32)} {mot : (Nat → Int32)} {mbl : (Nat → Int32)} {mki : (Nat → Int32)} {mfr : (Nat → Int32)} {mde : (Nat → Int32)} {mbe : (Nat → Int32)} {mow : (Nat → Int32)} {mco : (Nat → Int32)} {mpt : (Nat → Int32)} {mle : (Nat → Int32)} {mpl : (Nat → Int32)} {mit : (Nat → Int32)} {mro : (Nat → Int32)} {maw : (Nat → Int32)}   (C : xb_C κ Γ 2 cX9_closeBook RX9 { frames := 0, cells := 0, slots := 0, locals := 0 }) : ∀ (n : Nat) (x1 : Int32) (mwr : (Nat → Int32)) (o : (Nat → Int32)), F_X9_closeBook_L44 msz mbi n x1 mwr = some o → xb_W κ Γ 2 0 0 73 [] [] (mw κ q mth mn mib mpa mwi mch mst msz mns mld mps mbb mno mpk mtu mfo mbi o mus mnu mli mot mbl mki mfr mde mbe mow mco mpt mle mpl mit mro maw) → xb_W κ Γ 2 0 0 44 [(0, .ref (q 0)), (1, .int x1)] [] (mw κ q mth mn mib mpa mwi mch mst msz mns mld mps mbb mno mpk mtu mfo mbi mwr mus mnu mli mot mbl mki mfr mde mbe mow mco mpt mle mpl mit mro maw) := by
  intro n
  induction n with
  | zero =>
    intro x1 mwr o hF K
    rw [F_X9_closeBook_L44] at hF
    cases hF
  | succ n ih =>
    intro x1 mwr o hF K
    rw [F_X9_closeBook_L44] at hF
    refine x_iload_n C dX9_closeBook_44 1 rfl ?_
    refine x_aload_n C dX9_closeBook_45 0 rfl ?_
    refine gf_X9_122 C 0 rfl rfl dX9_closeBook_46 ?_
    refine x_bipush (v := 8) C dX9_closeBook_49 (by decide) ?_
    refine x_iadd C dX9_closeBook_51 ?_
    refine x_icmp_ge (tgt := 73) C dX9_closeBook_52 (by decide) (fun hc => ?_) (fun hc => ?_)
    · replace hF := ifp hc hF
      cases hF
      exact x_sub [] rfl K
    · replace hF := ifn hc hF
      refine x_aload_n C dX9_closeBook_55 0 rfl ?_
      refine gf_X9_39 C 0 rfl rfl dX9_closeBook_56 ?_
      refine x_iload_n C dX9_closeBook_59 1 rfl ?_
      refine x_aload_n C dX9_closeBook_60 0 rfl ?_
      refine gf_X9_36 C 0 rfl rfl dX9_closeBook_61 ?_
      refine x_iload_n C dX9_closeBook_64 1 rfl ?_
      obtain ⟨b5, hF⟩ := ck_s hF
      refine x_iald C 5 rfl b5 dX9_closeBook_65 ?_
      obtain ⟨b6, hF⟩ := ck_s hF
      refine x_iast (ws2 := (mw κ q mth mn mib mpa mwi mch mst msz mns mld mps mbb mno mpk mtu mfo mbi (upd mwr x1.toNatClampNeg (mbi x1.toNatClampNeg)) mus mnu mli mot mbl mki mfr mde mbe mow mco mpt mle mpl mit mro maw)) C 6 rfl b6 dX9_closeBook_66 rfl ?_
      refine x_iinc (v := x1 + 1) (lv2 := [(1, .int (x1 + 1)), (0, .ref (q 0))]) C dX9_closeBook_67 1 rfl rfl (by decide) rfl ?_
      refine x_goto (tgt := 44) C dX9_closeBook_70 (by decide) ?_
      exact x_sub [1, 0] rfl (ih _ _ _ hF K)
set_option maxHeartbeats 4000000 in
set_option maxRecDepth 100000 in
theorem c_X9_closeBook {κ : xb_k} {q : Nat → Nat} {mth : Int32} {mn : Int32} {mib : Int32} {mpa : Int32} {mwi : Int32} {mch : Int32} {mst : Int32} {msz : Int32} {mns : Int32} {mld : Int32} {mps : Int32} {mbb : Int32} {mno : (Nat → Int32)} {mpk : (Nat → Int32)} {mtu : (Nat → Int32)} {mfo : (Nat → Int32)} {mbi : (Nat → Int32)} {mwr : (Nat → Int32)} {mus : (Nat → Int32)} {mnu : (Nat → Int32)} {mli : (Nat → Int32)} {mot : (Nat → Int32)} {mbl : (Nat → Int32)} {mki : (Nat → Int32)} {mfr : (Nat → Int32)} {mde : (Nat → Int32)} {mbe : (Nat → Int32)} {mow : (Nat → Int32)} {mco : (Nat → Int32)} {mpt : (Nat → Int32)} {mle : (Nat → Int32)} {mpl : (Nat → Int32)} {mit : (Nat → Int32)} {mro : (Nat → Int32)} {maw : (Nat → Int32)}  {fu : Nat} {o : (Nat → Int32) × (Nat → Int32) × (Nat → Int32)} (hF : F_X9_closeBook fu mn msz mbe mbi mwr = some o) : Met κ.1 yX9_closeBook [Cond.code yX9_closeBook cX9_closeBook 2 none] { frames := 0, cells := 0, slots := 0, locals := 0 } (xb_P κ [.ref (q 0)] (mw κ q mth mn mib mpa mwi mch mst msz mns mld mps mbb mno mpk mtu mfo mbi mwr mus mnu mli mot mbl mki mfr mde mbe mow mco mpt mle mpl mit mro maw)) (xb_Qv κ (mw κ q mth mn mib mpa mwi mch mst msz mns mld mps mbb mno mpk mtu mfo o.2.1 o.2.2 mus mnu mli mot mbl mki mfr mde o.1 mow mco mpt mle mpl mit mro maw)) 0 0 κ.2.2.1 := by
  refine x_enter (own := RX9) (lv0 := [(0, .ref (q 0))]) (by decide) rfl rfl rfl (fun Γ C E => ?_)
  unfold F_X9_closeBook at hF
  refine x_aload_n C dX9_closeBook_0 0 rfl ?_
  refine gf_X9_66 C 0 rfl rfl dX9_closeBook_1 ?_
  refine x_aload_n C dX9_closeBook_4 0 rfl ?_
  refine gf_X9_93 C 0 rfl rfl dX9_closeBook_5 ?_
  refine x_aload_n C dX9_closeBook_8 0 rfl ?_
  refine gf_X9_122 C 0 rfl rfl dX9_closeBook_9 ?_
  obtain ⟨b1, hF⟩ := ck_s hF
  refine x_iast (ws2 := (mw κ q mth mn mib mpa mwi mch mst msz mns mld mps mbb mno mpk mtu mfo mbi mwr mus mnu mli mot mbl mki mfr mde (upd mbe mn.toNatClampNeg msz) mow mco mpt mle mpl mit mro maw)) C 15 rfl b1 dX9_closeBook_12 rfl ?_
  refine x_aload_n C dX9_closeBook_13 0 rfl ?_
  refine gf_X9_122 C 0 rfl rfl dX9_closeBook_14 ?_
  refine x_istore_n (lv2 := [(1, .int msz), (0, .ref (q 0))]) C dX9_closeBook_17 rfl (by decide) rfl ?_
  obtain ⟨o3, h4, hF⟩ := bd_s hF
  refine x_sub [1, 0] rfl (w_X9_closeBook_L18 C fu _ _ _ h4 ?_)
  refine x_iconst (v := 0) C dX9_closeBook_42 (by decide) ?_
  refine x_istore_n (lv2 := [(1, .int (0 : Int32)), (0, .ref (q 0))]) C dX9_closeBook_43 rfl (by decide) rfl ?_
  obtain ⟨o7, h8, hF⟩ := bd_s hF
  refine x_sub [1, 0] rfl (w_X9_closeBook_L44 C fu _ _ _ h8 ?_)
  cases hF
  exact x_vret C E dX9_closeBook_73
set_option maxHeartbeats 4000000 in
set_option maxRecDepth 100000 in
theorem w_X9_pack_L7 {κ : xb_k} {Γ : xb_X} {q : Nat → Nat} {mth : Int32} {mn : Int32} {mib : Int32} {mpa : Int32} {mwi : Int32} {mch : Int32} {mst : Int32} {msz : Int32} {mns : Int32} {mld : Int32} {mps : Int32} {mbb : Int32} {mno : (Nat → Int32)} {mtu : (Nat → Int32)} {mfo : (Nat → Int32)} {mbi : (Nat → Int32)} {mwr : (Nat → Int32)} {mus : (Nat → Int32)} {mnu : (Nat → Int32)} {mli : (Nat → Int32)} {mot : (Nat → Int32)} {mbl : (Nat → Int32)} {mki : (Nat → Int32)} {mfr : (Nat → Int32)} {mde : (Nat → Int32)} {mbe : (Nat → Int32)} {mow : (Nat → Int32)} {mco : (Nat → Int32)} {mpt : (Nat → Int32)} {mle : (Nat → Int32)} {mpl : (Nat → Int32)} {mit : (Nat → Int32)} {mro : (Nat → Int32)} {maw : (Nat → Int32)}   (C : xb_C κ Γ 2 cX9_pack RX9 { frames := 8, cells := 0, slots := 0, locals := 195 }) : ∀ (n : Nat) (x1 : Int32) (mpk : (Nat → Int32)) (o : (Nat → Int32)), F_X9_pack_L7 mno n x1 mpk = some o → xb_W κ Γ 2 0 0 32 [(0, .ref (q 0))] [] (mw κ q mth mn mib mpa mwi mch mst msz mns mld mps mbb mno o mtu mfo mbi mwr mus mnu mli mot mbl mki mfr mde mbe mow mco mpt mle mpl mit mro maw) → xb_W κ Γ 2 0 0 7 [(0, .ref (q 0)), (1, .int x1)] [] (mw κ q mth mn mib mpa mwi mch mst msz mns mld mps mbb mno mpk mtu mfo mbi mwr mus mnu mli mot mbl mki mfr mde mbe mow mco mpt mle mpl mit mro maw) := by
  intro n
  induction n with
  | zero =>
    intro x1 mpk o hF K
    rw [F_X9_pack_L7] at hF
    cases hF
  | succ n ih =>
    intro x1 mpk o hF K
    rw [F_X9_pack_L7] at hF
    refine x_iload_n C dX9_pack_7 1 rfl ?_
    refine x_sipush (v := 2304) C dX9_pack_8 (by decide) ?_
    refine x_icmp_ge (tgt := 32) C dX9_pack_11 (by decide) (fun hc => ?_) (fun hc => ?_)
    · replace hF := ifp hc hF
      cases hF
      exact x_sub [0] rfl K
    · replace hF := ifn hc hF
      refine x_aload_n C dX9_pack_14 0 rfl ?_
      refine gf_X9_17 C 0 rfl rfl dX9_pack_15 ?_
      refine x_iload_n C dX9_pack_18 1 rfl ?_
      refine x_aload_n C dX9_pack_19 0 rfl ?_
      refine gf_X9_13 C 0 rfl rfl dX9_pack_20 ?_
      refine x_iload_n C dX9_pack_23 1 rfl ?_
      obtain ⟨b1, hF⟩ := ck_s hF
      refine x_zald C 1 rfl b1 dX9_pack_24 ?_
      obtain ⟨b2, hF⟩ := ck_s hF
      refine x_zast (ws2 := (mw κ q mth mn mib mpa mwi mch mst msz mns mld mps mbb mno (upd mpk x1.toNatClampNeg (vp_nar .boolean (mno x1.toNatClampNeg))) mtu mfo mbi mwr mus mnu mli mot mbl mki mfr mde mbe mow mco mpt mle mpl mit mro maw)) C 2 rfl b2 dX9_pack_25 rfl ?_
      refine x_iinc (v := x1 + 1) (lv2 := [(1, .int (x1 + 1)), (0, .ref (q 0))]) C dX9_pack_26 1 rfl rfl (by decide) rfl ?_
      refine x_goto (tgt := 7) C dX9_pack_29 (by decide) ?_
      exact x_sub [1, 0] rfl (ih _ _ _ hF K)
set_option maxHeartbeats 4000000 in
set_option maxRecDepth 100000 in
theorem w_X9_pack_L57 {κ : xb_k} {Γ : xb_X} {q : Nat → Nat} {mth : Int32} {mn : Int32} {mib : Int32} {mpa : Int32} {mwi : Int32} {mch : Int32} {mst : Int32} {mps : Int32} {mno : (Nat → Int32)} {mpk : (Nat → Int32)} {mtu : (Nat → Int32)} {mfo : (Nat → Int32)} {mwr : (Nat → Int32)} {mow : (Nat → Int32)} {mco : (Nat → Int32)} {mpt : (Nat → Int32)} {mle : (Nat → Int32)} {mpl : (Nat → Int32)} {mit : (Nat → Int32)} {mro : (Nat → Int32)} {maw : (Nat → Int32)}  {fu : Nat} (C : xb_C κ Γ 2 cX9_pack RX9 { frames := 8, cells := 0, slots := 0, locals := 195 }) : ∀ (n : Nat) (x1 : Int32) (mbb : Int32) (mns : Int32) (mus : (Nat → Int32)) (mnu : (Nat → Int32)) (mld : Int32) (mli : (Nat → Int32)) (mot : (Nat → Int32)) (mbl : (Nat → Int32)) (mki : (Nat → Int32)) (mfr : (Nat → Int32)) (mde : (Nat → Int32)) (mbe : (Nat → Int32)) (mbi : (Nat → Int32)) (msz : Int32) (o : Int32 × Int32 × (Nat → Int32) × (Nat → Int32) × Int32 × (Nat → Int32) × (Nat → Int32) × (Nat → Int32) × (Nat → Int32) × (Nat → Int32) × (Nat → Int32) × (Nat → Int32) × (Nat → Int32) × Int32), F_X9_pack_L57 fu mn mpk mfo mwi mch n x1 mbb mns mus mnu mld mli mot mbl mki mfr mde mbe mbi msz = some o → xb_W κ Γ 2 0 0 102 [(0, .ref (q 0))] [] (mw κ q mth mn mib mpa mwi mch mst o.2.2.2.2.2.2.2.2.2.2.2.2.2 o.2.1 o.2.2.2.2.1 mps o.1 mno mpk mtu mfo o.2.2.2.2.2.2.2.2.2.2.2.2.1 mwr o.2.2.1 o.2.2.2.1 o.2.2.2.2.2.1 o.2.2.2.2.2.2.1 o.2.2.2.2.2.2.2.1 o.2.2.2.2.2.2.2.2.1 o.2.2.2.2.2.2.2.2.2.1 o.2.2.2.2.2.2.2.2.2.2.1 o.2.2.2.2.2.2.2.2.2.2.2.1 mow mco mpt mle mpl mit mro maw) → xb_W κ Γ 2 0 0 57 [(0, .ref (q 0)), (1, .int x1)] [] (mw κ q mth mn mib mpa mwi mch mst msz mns mld mps mbb mno mpk mtu mfo mbi mwr mus mnu mli mot mbl mki mfr mde mbe mow mco mpt mle mpl mit mro maw) := by
  intro n
  induction n with
  | zero =>
    intro x1 mbb mns mus mnu mld mli mot mbl mki mfr mde mbe mbi msz o hF K
    rw [F_X9_pack_L57] at hF
    cases hF
  | succ n ih =>
    intro x1 mbb mns mus mnu mld mli mot mbl mki mfr mde mbe mbi msz o hF K
    rw [F_X9_pack_L57] at hF
    refine x_iload_n C dX9_pack_57 1 rfl ?_
    refine x_aload_n C dX9_pack_58 0 rfl ?_
    refine gf_X9_93 C 0 rfl rfl dX9_pack_59 ?_
    refine x_icmp_ge (tgt := 102) C dX9_pack_62 (by decide) (fun hc => ?_) (fun hc => ?_)
    · replace hF := ifp hc hF
      cases hF
      exact x_sub [0] rfl K
    · replace hF := ifn hc hF
      refine x_aload_n C dX9_pack_65 0 rfl ?_
      refine x_iload_n C dX9_pack_66 1 rfl ?_
      obtain ⟨o5, h6, hF⟩ := bd_s hF
      refine x_callVv (st := []) C (c_X9_choose h6) xm_X9_choose ml_X9_214 0 rfl rfl rfl rfl rfl rfl dX9_pack_67 ⟨rfl, rfl⟩ ?_
      refine x_aload_n C dX9_pack_70 0 rfl ?_
      refine x_aload_n C dX9_pack_71 0 rfl ?_
      refine gf_X9_17 C 0 rfl rfl dX9_pack_72 ?_
      refine x_iload_n C dX9_pack_75 1 rfl ?_
      refine x_aload_n C dX9_pack_76 0 rfl ?_
      refine gf_X9_57 C 0 rfl rfl dX9_pack_77 ?_
      refine x_iload_n C dX9_pack_80 1 rfl ?_
      obtain ⟨b7, hF⟩ := ck_s hF
      refine x_iald C 12 rfl b7 dX9_pack_81 ?_
      refine x_aload_n C dX9_pack_82 0 rfl ?_
      refine gf_X9_60 C 0 rfl rfl dX9_pack_83 ?_
      refine x_iload_n C dX9_pack_86 1 rfl ?_
      obtain ⟨b8, hF⟩ := ck_s hF
      refine x_iald C 13 rfl b8 dX9_pack_87 ?_
      obtain ⟨o9, h10, hF⟩ := bd_s hF
      refine x_callVv (st := []) C (c_X9_tell_0_2 h10) xm_X9_tell ml_X9_175 0 rfl rfl rfl rfl rfl rfl dX9_pack_88 ⟨rfl, rfl⟩ ?_
      refine x_aload_n C dX9_pack_91 0 rfl ?_
      refine x_iload_n C dX9_pack_92 1 rfl ?_
      obtain ⟨o11, h12, hF⟩ := bd_s hF
      refine x_callVv (st := []) C (c_X9_writeRow h12) xm_X9_writeRow ml_X9_217 0 rfl rfl rfl rfl rfl rfl dX9_pack_93 ⟨rfl, rfl⟩ ?_
      refine x_iinc (v := x1 + 1) (lv2 := [(1, .int (x1 + 1)), (0, .ref (q 0))]) C dX9_pack_96 1 rfl rfl (by decide) rfl ?_
      refine x_goto (tgt := 57) C dX9_pack_99 (by decide) ?_
      exact x_sub [1, 0] rfl (ih _ _ _ _ _ _ _ _ _ _ _ _ _ _ _ _ hF K)
set_option maxHeartbeats 4000000 in
set_option maxRecDepth 100000 in
theorem c_X9_pack {κ : xb_k} {q : Nat → Nat} {mth : Int32} {mn : Int32} {mib : Int32} {mpa : Int32} {mwi : Int32} {mch : Int32} {mst : Int32} {msz : Int32} {mns : Int32} {mld : Int32} {mps : Int32} {mbb : Int32} {mno : (Nat → Int32)} {mpk : (Nat → Int32)} {mtu : (Nat → Int32)} {mfo : (Nat → Int32)} {mbi : (Nat → Int32)} {mwr : (Nat → Int32)} {mus : (Nat → Int32)} {mnu : (Nat → Int32)} {mli : (Nat → Int32)} {mot : (Nat → Int32)} {mbl : (Nat → Int32)} {mki : (Nat → Int32)} {mfr : (Nat → Int32)} {mde : (Nat → Int32)} {mbe : (Nat → Int32)} {mow : (Nat → Int32)} {mco : (Nat → Int32)} {mpt : (Nat → Int32)} {mle : (Nat → Int32)} {mpl : (Nat → Int32)} {mit : (Nat → Int32)} {mro : (Nat → Int32)} {maw : (Nat → Int32)}  {fu : Nat} {o : Int32 × Int32 × (Nat → Int32) × Int32 × Int32 × Int32 × Int32 × Int32 × Int32 × (Nat → Int32) × (Nat → Int32) × Int32 × (Nat → Int32) × (Nat → Int32) × (Nat → Int32) × (Nat → Int32) × (Nat → Int32) × (Nat → Int32) × (Nat → Int32) × (Nat → Int32) × (Nat → Int32)} (hF : F_X9_pack fu mth mno mpk mib mpa mst mps msz mn mbb mns mus mnu mld mli mot mbl mfo mki mfr mde mwi mch mbe mbi mwr = some o) : Met κ.1 yX9_pack [Cond.code yX9_pack cX9_pack 2 (some .int)] { frames := 8, cells := 0, slots := 0, locals := 195 } (xb_P κ [.ref (q 0)] (mw κ q mth mn mib mpa mwi mch mst msz mns mld mps mbb mno mpk mtu mfo mbi mwr mus mnu mli mot mbl mki mfr mde mbe mow mco mpt mle mpl mit mro maw)) (xb_Qi κ o.1 (mw κ q o.2.1 mn o.2.2.2.1 o.2.2.2.2.1 mwi mch mst o.2.2.2.2.2.2.1 o.2.2.2.2.2.2.2.2.1 o.2.2.2.2.2.2.2.2.2.2.2.1 o.2.2.2.2.2.1 o.2.2.2.2.2.2.2.1 mno o.2.2.1 mtu mfo o.2.2.2.2.2.2.2.2.2.2.2.2.2.2.2.2.2.2.2.1 o.2.2.2.2.2.2.2.2.2.2.2.2.2.2.2.2.2.2.2.2 o.2.2.2.2.2.2.2.2.2.1 o.2.2.2.2.2.2.2.2.2.2.1 o.2.2.2.2.2.2.2.2.2.2.2.2.1 o.2.2.2.2.2.2.2.2.2.2.2.2.2.1 o.2.2.2.2.2.2.2.2.2.2.2.2.2.2.1 o.2.2.2.2.2.2.2.2.2.2.2.2.2.2.2.1 o.2.2.2.2.2.2.2.2.2.2.2.2.2.2.2.2.1 o.2.2.2.2.2.2.2.2.2.2.2.2.2.2.2.2.2.1 o.2.2.2.2.2.2.2.2.2.2.2.2.2.2.2.2.2.2.1 mow mco mpt mle mpl mit mro maw)) 0 0 κ.2.2.1 := by
  refine x_enter (own := RX9) (lv0 := [(0, .ref (q 0))]) (by decide) rfl rfl rfl (fun Γ C E => ?_)
  unfold F_X9_pack at hF
  refine x_aload_n C dX9_pack_0 0 rfl ?_
  refine x_iconst (v := 0) C dX9_pack_1 (by decide) ?_
  refine pf_X9_1 (ws2 := (mw κ q (0 : Int32) mn mib mpa mwi mch mst msz mns mld mps mbb mno mpk mtu mfo mbi mwr mus mnu mli mot mbl mki mfr mde mbe mow mco mpt mle mpl mit mro maw)) C 0 rfl dX9_pack_2 rfl rfl ?_
  refine x_iconst (v := 0) C dX9_pack_5 (by decide) ?_
  refine x_istore_n (lv2 := [(1, .int (0 : Int32)), (0, .ref (q 0))]) C dX9_pack_6 rfl (by decide) rfl ?_
  obtain ⟨o3, h4, hF⟩ := bd_s hF
  refine x_sub [1, 0] rfl (w_X9_pack_L7 C fu _ _ _ h4 ?_)
  refine x_aload_n C dX9_pack_32 0 rfl ?_
  refine x_iconst (v := 1) C dX9_pack_33 (by decide) ?_
  refine pf_X9_100 (ws2 := (mw κ q (0 : Int32) mn (1 : Int32) mpa mwi mch mst msz mns mld mps mbb mno o3 mtu mfo mbi mwr mus mnu mli mot mbl mki mfr mde mbe mow mco mpt mle mpl mit mro maw)) C 0 rfl rfl rfl dX9_pack_34 rfl rfl ?_
  refine x_aload_n C dX9_pack_37 0 rfl ?_
  refine x_iconst (v := 0) C dX9_pack_38 (by decide) ?_
  refine pf_X9_104 (ws2 := (mw κ q (0 : Int32) mn (1 : Int32) (0 : Int32) mwi mch mst msz mns mld mps mbb mno o3 mtu mfo mbi mwr mus mnu mli mot mbl mki mfr mde mbe mow mco mpt mle mpl mit mro maw)) C 0 rfl dX9_pack_39 rfl rfl ?_
  refine x_aload_n C dX9_pack_42 0 rfl ?_
  refine x_aload_n C dX9_pack_43 0 rfl ?_
  refine gf_X9_33 C 0 rfl rfl dX9_pack_44 ?_
  refine pf_X9_211 (ws2 := (mw κ q (0 : Int32) mn (1 : Int32) (0 : Int32) mwi mch mst msz mns mld mst mbb mno o3 mtu mfo mbi mwr mus mnu mli mot mbl mki mfr mde mbe mow mco mpt mle mpl mit mro maw)) C 0 rfl dX9_pack_47 rfl rfl ?_
  refine x_aload_n C dX9_pack_50 0 rfl ?_
  refine x_iconst (v := 0) C dX9_pack_51 (by decide) ?_
  refine pf_X9_122 (ws2 := (mw κ q (0 : Int32) mn (1 : Int32) (0 : Int32) mwi mch mst (0 : Int32) mns mld mst mbb mno o3 mtu mfo mbi mwr mus mnu mli mot mbl mki mfr mde mbe mow mco mpt mle mpl mit mro maw)) C 0 rfl dX9_pack_52 rfl rfl ?_
  refine x_iconst (v := 0) C dX9_pack_55 (by decide) ?_
  refine x_istore_n (lv2 := [(1, .int (0 : Int32)), (0, .ref (q 0))]) C dX9_pack_56 rfl (by decide) rfl ?_
  obtain ⟨o13, h14, hF⟩ := bd_s hF
  refine x_sub [1, 0] rfl (w_X9_pack_L57 C fu _ _ _ _ _ _ _ _ _ _ _ _ _ _ _ _ h14 ?_)
  refine x_aload_n C dX9_pack_102 0 rfl ?_
  obtain ⟨o15, h16, hF⟩ := bd_s hF
  refine x_callVv (st := []) C (c_X9_closeBook h16) xm_X9_closeBook ml_X9_220 0 rfl rfl rfl rfl rfl rfl dX9_pack_103 ⟨rfl, rfl⟩ ?_
  refine x_aload_n C dX9_pack_106 0 rfl ?_
  refine gf_X9_122 C 0 rfl rfl dX9_pack_107 ?_
  cases hF
  exact x_iret C E dX9_pack_110
set_option maxHeartbeats 4000000 in
set_option maxRecDepth 100000 in
theorem c_X9_told {κ : xb_k} {q : Nat → Nat} {mth : Int32} {mn : Int32} {mib : Int32} {mpa : Int32} {mwi : Int32} {mch : Int32} {mst : Int32} {msz : Int32} {mns : Int32} {mld : Int32} {mps : Int32} {mbb : Int32} {mno : (Nat → Int32)} {mpk : (Nat → Int32)} {mtu : (Nat → Int32)} {mfo : (Nat → Int32)} {mbi : (Nat → Int32)} {mwr : (Nat → Int32)} {mus : (Nat → Int32)} {mnu : (Nat → Int32)} {mli : (Nat → Int32)} {mot : (Nat → Int32)} {mbl : (Nat → Int32)} {mki : (Nat → Int32)} {mfr : (Nat → Int32)} {mde : (Nat → Int32)} {mbe : (Nat → Int32)} {mow : (Nat → Int32)} {mco : (Nat → Int32)} {mpt : (Nat → Int32)} {mle : (Nat → Int32)} {mpl : (Nat → Int32)} {mit : (Nat → Int32)} {mro : (Nat → Int32)} {maw : (Nat → Int32)} {x1 : Int32} {x2 : Int32}  {o : Int32 × Int32} (hF : F_X9_told x1 x2 mth mn mib mbe mde mfr mki = some o) : Met κ.1 yX9_told [Cond.code yX9_told cX9_told 3 (some .int)] { frames := 2, cells := 0, slots := 0, locals := 46 } (xb_P κ [.ref (q 0), .int x1, .int x2] (mw κ q mth mn mib mpa mwi mch mst msz mns mld mps mbb mno mpk mtu mfo mbi mwr mus mnu mli mot mbl mki mfr mde mbe mow mco mpt mle mpl mit mro maw)) (xb_Qi κ o.1 (mw κ q o.2 mn mib mpa mwi mch mst msz mns mld mps mbb mno mpk mtu mfo mbi mwr mus mnu mli mot mbl mki mfr mde mbe mow mco mpt mle mpl mit mro maw)) 0 0 κ.2.2.1 := by
  refine x_enter (own := RX9) (lv0 := [(0, .ref (q 0)), (1, .int x1), (2, .int x2)]) (by decide) rfl rfl rfl (fun Γ C E => ?_)
  unfold F_X9_told at hF
  refine x_aload_n C dX9_told_0 0 rfl ?_
  refine x_iconst (v := 0) C dX9_told_1 (by decide) ?_
  refine pf_X9_1 (ws2 := (mw κ q (0 : Int32) mn mib mpa mwi mch mst msz mns mld mps mbb mno mpk mtu mfo mbi mwr mus mnu mli mot mbl mki mfr mde mbe mow mco mpt mle mpl mit mro maw)) C 0 rfl dX9_told_2 rfl rfl ?_
  refine x_aload_n C dX9_told_5 0 rfl ?_
  refine x_iload_n C dX9_told_6 1 rfl ?_
  obtain ⟨o1, h2, hF⟩ := bd_s hF
  refine x_callVi (st := []) C (c_X9_isThing h2) xm_X9_isThing ml_X9_107 0 rfl rfl rfl rfl rfl rfl dX9_told_7 ⟨rfl, rfl⟩ ?_
  refine x_if_eq (tgt := 25) C dX9_told_10 (by decide) (fun hc => ?_) (fun hc => ?_)
  · replace hF := ifp hc hF
    refine x_bipush (v := (-2)) C dX9_told_25 (by decide) ?_
    cases hF
    exact x_iret C E dX9_told_27
  · replace hF := ifn hc hF
    refine x_iload_n C dX9_told_13 2 rfl ?_
    refine x_i2l C dX9_told_14 ?_
    refine x_lconst (v := 0) C dX9_told_15 (by decide) ?_
    refine x_ldc2 C dX9_told_16 kl_X9_191 ?_
    obtain ⟨o3, h4, hF⟩ := bd_s hF
    refine x_callSi (st := []) C (c_X9_in h4) xm_X9_in ml_X9_96 rfl rfl rfl rfl dX9_told_19 ⟨rfl, rfl⟩ ?_
    refine x_if_ne (tgt := 28) C dX9_told_22 (by decide) (fun hc => ?_) (fun hc => ?_)
    · replace hF := ifn hc hF
      refine x_aload_n C dX9_told_28 0 rfl ?_
      refine gf_X9_100 C 0 rfl rfl dX9_told_29 ?_
      refine x_if_ne (tgt := 38) C dX9_told_32 (by decide) (fun hc => ?_) (fun hc => ?_)
      · replace hF := ifn hc hF
        refine x_iload_n C dX9_told_38 2 rfl ?_
        refine x_if_ne (tgt := 51) C dX9_told_39 (by decide) (fun hc => ?_) (fun hc => ?_)
        · replace hF := ifn hc hF
          refine x_iload_n C dX9_told_51 2 rfl ?_
          refine x_iconst (v := 1) C dX9_told_52 (by decide) ?_
          refine x_icmp_ne (tgt := 65) C dX9_told_53 (by decide) (fun hc => ?_) (fun hc => ?_)
          · replace hF := ifn hc hF
            refine x_iload_n C dX9_told_65 2 rfl ?_
            refine x_iconst (v := 2) C dX9_told_66 (by decide) ?_
            refine x_icmp_ne (tgt := 79) C dX9_told_67 (by decide) (fun hc => ?_) (fun hc => ?_)
            · replace hF := ifn hc hF
              refine x_iload_n C dX9_told_79 2 rfl ?_
              refine x_iconst (v := 3) C dX9_told_80 (by decide) ?_
              refine x_icmp_ne (tgt := 93) C dX9_told_81 (by decide) (fun hc => ?_) (fun hc => ?_)
              · replace hF := ifn hc hF
                refine x_aload_n C dX9_told_93 0 rfl ?_
                refine gf_X9_66 C 0 rfl rfl dX9_told_94 ?_
                refine x_iload_n C dX9_told_97 1 rfl ?_
                refine x_iconst (v := 1) C dX9_told_98 (by decide) ?_
                refine x_iadd C dX9_told_99 ?_
                obtain ⟨b5, hF⟩ := ck_s hF
                refine x_iald C 15 rfl b5 dX9_told_100 ?_
                refine x_aload_n C dX9_told_101 0 rfl ?_
                refine gf_X9_66 C 0 rfl rfl dX9_told_102 ?_
                refine x_iload_n C dX9_told_105 1 rfl ?_
                obtain ⟨b6, hF⟩ := ck_s hF
                refine x_iald C 15 rfl b6 dX9_told_106 ?_
                refine x_isub C dX9_told_107 ?_
                cases hF
                exact x_iret C E dX9_told_108
              · replace hF := ifp hc hF
                refine x_aload_n C dX9_told_84 0 rfl ?_
                refine gf_X9_66 C 0 rfl rfl dX9_told_85 ?_
                refine x_iload_n C dX9_told_88 1 rfl ?_
                obtain ⟨b7, hF⟩ := ck_s hF
                refine x_iald C 15 rfl b7 dX9_told_89 ?_
                refine x_goto (tgt := 108) C dX9_told_90 (by decide) ?_
                cases hF
                exact x_iret C E dX9_told_108
            · replace hF := ifp hc hF
              refine x_aload_n C dX9_told_70 0 rfl ?_
              refine gf_X9_63 C 0 rfl rfl dX9_told_71 ?_
              refine x_iload_n C dX9_told_74 1 rfl ?_
              obtain ⟨b8, hF⟩ := ck_s hF
              refine x_iald C 14 rfl b8 dX9_told_75 ?_
              refine x_goto (tgt := 108) C dX9_told_76 (by decide) ?_
              cases hF
              exact x_iret C E dX9_told_108
          · replace hF := ifp hc hF
            refine x_aload_n C dX9_told_56 0 rfl ?_
            refine gf_X9_60 C 0 rfl rfl dX9_told_57 ?_
            refine x_iload_n C dX9_told_60 1 rfl ?_
            obtain ⟨b9, hF⟩ := ck_s hF
            refine x_iald C 13 rfl b9 dX9_told_61 ?_
            refine x_goto (tgt := 108) C dX9_told_62 (by decide) ?_
            cases hF
            exact x_iret C E dX9_told_108
        · replace hF := ifp hc hF
          refine x_aload_n C dX9_told_42 0 rfl ?_
          refine gf_X9_57 C 0 rfl rfl dX9_told_43 ?_
          refine x_iload_n C dX9_told_46 1 rfl ?_
          obtain ⟨b10, hF⟩ := ck_s hF
          refine x_iald C 12 rfl b10 dX9_told_47 ?_
          refine x_goto (tgt := 108) C dX9_told_48 (by decide) ?_
          cases hF
          exact x_iret C E dX9_told_108
      · replace hF := ifp hc hF
        refine x_bipush (v := (-3)) C dX9_told_35 (by decide) ?_
        cases hF
        exact x_iret C E dX9_told_37
    · replace hF := ifp hc hF
      refine x_bipush (v := (-2)) C dX9_told_25 (by decide) ?_
      cases hF
      exact x_iret C E dX9_told_27
set_option maxHeartbeats 4000000 in
set_option maxRecDepth 100000 in
theorem w_X9_looked_L33 {κ : xb_k} {Γ : xb_X} {q : Nat → Nat} {mth : Int32} {mn : Int32} {mib : Int32} {mpa : Int32} {mwi : Int32} {mch : Int32} {mst : Int32} {msz : Int32} {mns : Int32} {mld : Int32} {mps : Int32} {mbb : Int32} {mno : (Nat → Int32)} {mpk : (Nat → Int32)} {mtu : (Nat → Int32)} {mfo : (Nat → Int32)} {mbi : (Nat → Int32)} {mwr : (Nat → Int32)} {mus : (Nat → Int32)} {mnu : (Nat → Int32)} {mli : (Nat → Int32)} {mot : (Nat → Int32)} {mbl : (Nat → Int32)} {mki : (Nat → Int32)} {mfr : (Nat → Int32)} {mde : (Nat → Int32)} {mbe : (Nat → Int32)} {mow : (Nat → Int32)} {mco : (Nat → Int32)} {mpt : (Nat → Int32)} {mle : (Nat → Int32)} {mpl : (Nat → Int32)} {mit : (Nat → Int32)} {mro : (Nat → Int32)} {maw : (Nat → Int32)}   (C : xb_C κ Γ 5 cX9_looked RX9 { frames := 2, cells := 0, slots := 0, locals := 46 }) : ∀ (n : Nat) (x2 : Int32) (x3 : Int32) (x4 : Int32) (o : Int32), F_X9_looked_L33 mbe mps mfr n x2 x3 x4 = some o → xb_W κ Γ 5 0 0 91 [(2, .int o)] [] (mw κ q mth mn mib mpa mwi mch mst msz mns mld mps mbb mno mpk mtu mfo mbi mwr mus mnu mli mot mbl mki mfr mde mbe mow mco mpt mle mpl mit mro maw) → xb_W κ Γ 5 0 0 33 [(0, .ref (q 0)), (2, .int x2), (3, .int x3), (4, .int x4)] [] (mw κ q mth mn mib mpa mwi mch mst msz mns mld mps mbb mno mpk mtu mfo mbi mwr mus mnu mli mot mbl mki mfr mde mbe mow mco mpt mle mpl mit mro maw) := by
  intro n
  induction n with
  | zero =>
    intro x2 x3 x4 o hF K
    rw [F_X9_looked_L33] at hF
    cases hF
  | succ n ih =>
    intro x2 x3 x4 o hF K
    rw [F_X9_looked_L33] at hF
    refine x_iload C dX9_looked_33 3 rfl ?_
    refine x_if_eq (tgt := 91) C dX9_looked_35 (by decide) (fun hc => ?_) (fun hc => ?_)
    · replace hF := ifp hc hF
      cases hF
      exact x_sub [1] rfl K
    · replace hF := ifn hc hF
      refine x_iload_n C dX9_looked_38 1 rfl ?_
      refine x_aload_n C dX9_looked_39 0 rfl ?_
      refine gf_X9_66 C 0 rfl rfl dX9_looked_40 ?_
      refine x_iload_n C dX9_looked_43 2 rfl ?_
      refine x_iconst (v := 1) C dX9_looked_44 (by decide) ?_
      refine x_iadd C dX9_looked_45 ?_
      obtain ⟨b3, hF⟩ := ck_s hF
      refine x_iald C 15 rfl b3 dX9_looked_46 ?_
      refine x_aload_n C dX9_looked_47 0 rfl ?_
      refine gf_X9_66 C 0 rfl rfl dX9_looked_48 ?_
      refine x_iload_n C dX9_looked_51 2 rfl ?_
      refine x_iload_n C dX9_looked_52 2 rfl ?_
      refine x_aload_n C dX9_looked_53 0 rfl ?_
      refine gf_X9_211 C 0 rfl rfl dX9_looked_54 ?_
      obtain ⟨b4, hF⟩ := ck_s hF
      refine x_irem C dX9_looked_57 (nz_ne b4) ?_
      refine x_isub C dX9_looked_58 ?_
      obtain ⟨b5, hF⟩ := ck_s hF
      refine x_iald C 15 rfl b5 dX9_looked_59 ?_
      refine x_isub C dX9_looked_60 ?_
      refine x_iadd C dX9_looked_61 ?_
      obtain ⟨v6, e7, hF⟩ := nm_s hF
      refine x_topi e7 ?_
      refine x_istore_n (lv2 := [(2, .int v6), (0, .ref (q 0)), (3, .int x3), (4, .int x4)]) C dX9_looked_62 rfl (by decide) rfl ?_
      refine x_aload_n C dX9_looked_63 1 rfl ?_
      refine gf_X9_60 C 0 rfl rfl dX9_looked_64 ?_
      refine x_iload_n C dX9_looked_67 2 rfl ?_
      obtain ⟨b8, hF⟩ := ck_s hF
      refine x_iald C 13 rfl b8 dX9_looked_68 ?_
      refine x_if_le (tgt := 76) C dX9_looked_69 (by decide) (fun hc => ?_) (fun hc => ?_)
      · replace hF := ifp hc hF
        refine x_iconst (v := 0) C dX9_looked_76 (by decide) ?_
        refine x_istore (lv2 := [(4, .int (0 : Int32)), (2, .int v6), (0, .ref (q 0)), (3, .int x3)]) C dX9_looked_77 (by decide) rfl ?_
        refine x_iload_n C dX9_looked_79 3 rfl ?_
        refine x_aload_n C dX9_looked_80 2 rfl ?_
        refine gf_X9_60 C 0 rfl rfl dX9_looked_81 ?_
        refine x_iload_n C dX9_looked_84 3 rfl ?_
        obtain ⟨b9, hF⟩ := ck_s hF
        refine x_iald C 13 rfl b9 dX9_looked_85 ?_
        refine x_isub C dX9_looked_86 ?_
        refine x_istore_n (lv2 := [(3, .int (x3 - (mfr x3.toNatClampNeg))), (4, .int (0 : Int32)), (2, .int v6), (0, .ref (q 0))]) C dX9_looked_87 rfl (by decide) rfl ?_
        refine x_goto (tgt := 33) C dX9_looked_88 (by decide) ?_
        exact x_sub [3, 2, 0, 1] rfl (ih _ _ _ _ hF K)
      · replace hF := ifn hc hF
        refine x_iconst (v := 1) C dX9_looked_72 (by decide) ?_
        refine x_goto (tgt := 77) C dX9_looked_73 (by decide) ?_
        refine x_istore (lv2 := [(4, .int (1 : Int32)), (2, .int v6), (0, .ref (q 0)), (3, .int x3)]) C dX9_looked_77 (by decide) rfl ?_
        refine x_iload_n C dX9_looked_79 3 rfl ?_
        refine x_aload_n C dX9_looked_80 2 rfl ?_
        refine gf_X9_60 C 0 rfl rfl dX9_looked_81 ?_
        refine x_iload_n C dX9_looked_84 3 rfl ?_
        obtain ⟨b10, hF⟩ := ck_s hF
        refine x_iald C 13 rfl b10 dX9_looked_85 ?_
        refine x_isub C dX9_looked_86 ?_
        refine x_istore_n (lv2 := [(3, .int (x3 - (mfr x3.toNatClampNeg))), (4, .int (1 : Int32)), (2, .int v6), (0, .ref (q 0))]) C dX9_looked_87 rfl (by decide) rfl ?_
        refine x_goto (tgt := 33) C dX9_looked_88 (by decide) ?_
        exact x_sub [3, 2, 0, 1] rfl (ih _ _ _ _ hF K)
set_option maxHeartbeats 4000000 in
set_option maxRecDepth 100000 in
theorem c_X9_looked {κ : xb_k} {q : Nat → Nat} {mth : Int32} {mn : Int32} {mib : Int32} {mpa : Int32} {mwi : Int32} {mch : Int32} {mst : Int32} {msz : Int32} {mns : Int32} {mld : Int32} {mps : Int32} {mbb : Int32} {mno : (Nat → Int32)} {mpk : (Nat → Int32)} {mtu : (Nat → Int32)} {mfo : (Nat → Int32)} {mbi : (Nat → Int32)} {mwr : (Nat → Int32)} {mus : (Nat → Int32)} {mnu : (Nat → Int32)} {mli : (Nat → Int32)} {mot : (Nat → Int32)} {mbl : (Nat → Int32)} {mki : (Nat → Int32)} {mfr : (Nat → Int32)} {mde : (Nat → Int32)} {mbe : (Nat → Int32)} {mow : (Nat → Int32)} {mco : (Nat → Int32)} {mpt : (Nat → Int32)} {mle : (Nat → Int32)} {mpl : (Nat → Int32)} {mit : (Nat → Int32)} {mro : (Nat → Int32)} {maw : (Nat → Int32)} {x1 : Int32} {fu : Nat} {o : Int32 × Int32} (hF : F_X9_looked fu x1 mth mn mib mbe mps mfr = some o) : Met κ.1 yX9_looked [Cond.code yX9_looked cX9_looked 5 (some .int)] { frames := 2, cells := 0, slots := 0, locals := 46 } (xb_P κ [.ref (q 0), .int x1] (mw κ q mth mn mib mpa mwi mch mst msz mns mld mps mbb mno mpk mtu mfo mbi mwr mus mnu mli mot mbl mki mfr mde mbe mow mco mpt mle mpl mit mro maw)) (xb_Qi κ o.1 (mw κ q o.2 mn mib mpa mwi mch mst msz mns mld mps mbb mno mpk mtu mfo mbi mwr mus mnu mli mot mbl mki mfr mde mbe mow mco mpt mle mpl mit mro maw)) 0 0 κ.2.2.1 := by
  refine x_enter (own := RX9) (lv0 := [(0, .ref (q 0)), (1, .int x1)]) (by decide) rfl rfl rfl (fun Γ C E => ?_)
  unfold F_X9_looked at hF
  refine x_aload_n C dX9_looked_0 0 rfl ?_
  refine x_iconst (v := 0) C dX9_looked_1 (by decide) ?_
  refine pf_X9_1 (ws2 := (mw κ q (0 : Int32) mn mib mpa mwi mch mst msz mns mld mps mbb mno mpk mtu mfo mbi mwr mus mnu mli mot mbl mki mfr mde mbe mow mco mpt mle mpl mit mro maw)) C 0 rfl dX9_looked_2 rfl rfl ?_
  refine x_aload_n C dX9_looked_5 0 rfl ?_
  refine x_iload_n C dX9_looked_6 1 rfl ?_
  obtain ⟨o1, h2, hF⟩ := bd_s hF
  refine x_callVi (st := []) C (c_X9_isThing h2) xm_X9_isThing ml_X9_107 0 rfl rfl rfl rfl rfl rfl dX9_looked_7 ⟨rfl, rfl⟩ ?_
  refine x_if_ne (tgt := 16) C dX9_looked_10 (by decide) (fun hc => ?_) (fun hc => ?_)
  · replace hF := ifn hc hF
    refine x_aload_n C dX9_looked_16 0 rfl ?_
    refine gf_X9_100 C 0 rfl rfl dX9_looked_17 ?_
    refine x_if_ne (tgt := 26) C dX9_looked_20 (by decide) (fun hc => ?_) (fun hc => ?_)
    · replace hF := ifn hc hF
      refine x_iconst (v := 0) C dX9_looked_26 (by decide) ?_
      refine x_istore_n (lv2 := [(2, .int (0 : Int32)), (0, .ref (q 0)), (1, .int x1)]) C dX9_looked_27 rfl (by decide) rfl ?_
      refine x_iload_n C dX9_looked_28 2 rfl ?_
      refine x_istore_n (lv2 := [(3, .int x1), (2, .int (0 : Int32)), (0, .ref (q 0)), (1, .int x1)]) C dX9_looked_29 rfl (by decide) rfl ?_
      refine x_iconst (v := 1) C dX9_looked_30 (by decide) ?_
      refine x_istore (lv2 := [(4, .int (1 : Int32)), (3, .int x1), (2, .int (0 : Int32)), (0, .ref (q 0)), (1, .int x1)]) C dX9_looked_31 (by decide) rfl ?_
      obtain ⟨o11, h12, hF⟩ := bd_s hF
      refine x_sub [3, 2, 1, 0] rfl (w_X9_looked_L33 C fu _ _ _ _ h12 ?_)
      refine x_iload_n C dX9_looked_91 0 rfl ?_
      cases hF
      exact x_iret C E dX9_looked_92
    · replace hF := ifp hc hF
      refine x_bipush (v := (-3)) C dX9_looked_23 (by decide) ?_
      cases hF
      exact x_iret C E dX9_looked_25
  · replace hF := ifp hc hF
    refine x_bipush (v := (-2)) C dX9_looked_13 (by decide) ?_
    cases hF
    exact x_iret C E dX9_looked_15
set_option maxHeartbeats 4000000 in
set_option maxRecDepth 100000 in
theorem w_X9_bitsOfUse_L41 {κ : xb_k} {Γ : xb_X} {q : Nat → Nat} {mth : Int32} {mn : Int32} {mib : Int32} {mpa : Int32} {mwi : Int32} {mch : Int32} {mst : Int32} {msz : Int32} {mns : Int32} {mld : Int32} {mps : Int32} {mbb : Int32} {mno : (Nat → Int32)} {mpk : (Nat → Int32)} {mtu : (Nat → Int32)} {mfo : (Nat → Int32)} {mbi : (Nat → Int32)} {mwr : (Nat → Int32)} {mus : (Nat → Int32)} {mnu : (Nat → Int32)} {mli : (Nat → Int32)} {mot : (Nat → Int32)} {mbl : (Nat → Int32)} {mki : (Nat → Int32)} {mfr : (Nat → Int32)} {mde : (Nat → Int32)} {mbe : (Nat → Int32)} {mow : (Nat → Int32)} {mco : (Nat → Int32)} {mpt : (Nat → Int32)} {mle : (Nat → Int32)} {mpl : (Nat → Int32)} {mit : (Nat → Int32)} {mro : (Nat → Int32)} {maw : (Nat → Int32)} {x1 : Int32} {x2 : Int32} {x4 : Int32} {fu : Nat} (C : xb_C κ Γ 6 cX9_bitsOfUse RX9 { frames := 5, cells := 0, slots := 0, locals := 122 }) : ∀ (n : Nat) (x3 : Int32) (x5 : Int32) (o : Int32), F_X9_bitsOfUse_L41 fu x1 x2 x4 mns mus mnu n x3 x5 = some o → xb_W κ Γ 6 0 0 85 [(0, .ref (q 0)), (1, .int x1), (2, .int x2), (3, .int o), (4, .int x4)] [] (mw κ q mth mn mib mpa mwi mch mst msz mns mld mps mbb mno mpk mtu mfo mbi mwr mus mnu mli mot mbl mki mfr mde mbe mow mco mpt mle mpl mit mro maw) → xb_W κ Γ 6 0 0 41 [(0, .ref (q 0)), (1, .int x1), (2, .int x2), (3, .int x3), (4, .int x4), (5, .int x5)] [] (mw κ q mth mn mib mpa mwi mch mst msz mns mld mps mbb mno mpk mtu mfo mbi mwr mus mnu mli mot mbl mki mfr mde mbe mow mco mpt mle mpl mit mro maw) := by
  intro n
  induction n with
  | zero =>
    intro x3 x5 o hF K
    rw [F_X9_bitsOfUse_L41] at hF
    cases hF
  | succ n ih =>
    intro x3 x5 o hF K
    rw [F_X9_bitsOfUse_L41] at hF
    refine x_iload C dX9_bitsOfUse_41 5 rfl ?_
    refine x_aload_n C dX9_bitsOfUse_43 0 rfl ?_
    refine gf_X9_139 C 0 rfl rfl dX9_bitsOfUse_44 ?_
    refine x_icmp_ge (tgt := 85) C dX9_bitsOfUse_47 (by decide) (fun hc => ?_) (fun hc => ?_)
    · replace hF := ifp hc hF
      cases hF
      exact x_sub [0, 1, 2, 3, 4] rfl K
    · replace hF := ifn hc hF
      refine x_iload_n C dX9_bitsOfUse_50 3 rfl ?_
      refine x_aload_n C dX9_bitsOfUse_51 0 rfl ?_
      refine gf_X9_42 C 0 rfl rfl dX9_bitsOfUse_52 ?_
      refine x_iload C dX9_bitsOfUse_55 5 rfl ?_
      obtain ⟨b5, hF⟩ := ck_s hF
      refine x_iald C 7 rfl b5 dX9_bitsOfUse_57 ?_
      refine x_iload_n C dX9_bitsOfUse_58 1 rfl ?_
      refine x_icmp_ne (tgt := 76) C dX9_bitsOfUse_59 (by decide) (fun hc => ?_) (fun hc => ?_)
      · replace hF := ifn hc hF
        refine x_iconst (v := 0) C dX9_bitsOfUse_76 (by decide) ?_
        refine x_iadd C dX9_bitsOfUse_77 ?_
        refine x_istore_n (lv2 := [(3, .int (x3 + (0 : Int32))), (0, .ref (q 0)), (1, .int x1), (2, .int x2), (4, .int x4), (5, .int x5)]) C dX9_bitsOfUse_78 rfl (by decide) rfl ?_
        refine x_iinc (v := x5 + 1) (lv2 := [(5, .int (x5 + 1)), (3, .int (x3 + (0 : Int32))), (0, .ref (q 0)), (1, .int x1), (2, .int x2), (4, .int x4)]) C dX9_bitsOfUse_79 5 rfl rfl (by decide) rfl ?_
        refine x_goto (tgt := 41) C dX9_bitsOfUse_82 (by decide) ?_
        exact x_sub [2, 3, 4, 1, 5, 0] rfl (ih _ _ _ hF K)
      · replace hF := ifp hc hF
        refine x_iload_n C dX9_bitsOfUse_62 2 rfl ?_
        refine x_aload_n C dX9_bitsOfUse_63 0 rfl ?_
        refine gf_X9_45 C 0 rfl rfl dX9_bitsOfUse_64 ?_
        refine x_iload C dX9_bitsOfUse_67 5 rfl ?_
        obtain ⟨b6, hF⟩ := ck_s hF
        refine x_iald C 8 rfl b6 dX9_bitsOfUse_69 ?_
        obtain ⟨o7, h8, hF⟩ := bd_s hF
        refine x_callSi (st := [.int x3]) C (c_X9_lengthIn h8) xm_X9_lengthIn ml_X9_171 rfl rfl rfl rfl dX9_bitsOfUse_70 ⟨rfl, rfl⟩ ?_
        refine x_goto (tgt := 77) C dX9_bitsOfUse_73 (by decide) ?_
        refine x_iadd C dX9_bitsOfUse_77 ?_
        refine x_istore_n (lv2 := [(3, .int (x3 + o7)), (0, .ref (q 0)), (1, .int x1), (2, .int x2), (4, .int x4), (5, .int x5)]) C dX9_bitsOfUse_78 rfl (by decide) rfl ?_
        refine x_iinc (v := x5 + 1) (lv2 := [(5, .int (x5 + 1)), (3, .int (x3 + o7)), (0, .ref (q 0)), (1, .int x1), (2, .int x2), (4, .int x4)]) C dX9_bitsOfUse_79 5 rfl rfl (by decide) rfl ?_
        refine x_goto (tgt := 41) C dX9_bitsOfUse_82 (by decide) ?_
        exact x_sub [2, 3, 4, 1, 5, 0] rfl (ih _ _ _ hF K)
set_option maxHeartbeats 4000000 in
set_option maxRecDepth 100000 in
theorem w_X9_bitsOfUse_L5 {κ : xb_k} {Γ : xb_X} {q : Nat → Nat} {mth : Int32} {mn : Int32} {mib : Int32} {mpa : Int32} {mwi : Int32} {mch : Int32} {mst : Int32} {msz : Int32} {mps : Int32} {mbb : Int32} {mno : (Nat → Int32)} {mpk : (Nat → Int32)} {mtu : (Nat → Int32)} {mfo : (Nat → Int32)} {mbi : (Nat → Int32)} {mwr : (Nat → Int32)} {mki : (Nat → Int32)} {mfr : (Nat → Int32)} {mde : (Nat → Int32)} {mbe : (Nat → Int32)} {mow : (Nat → Int32)} {mco : (Nat → Int32)} {mpt : (Nat → Int32)} {mle : (Nat → Int32)} {mpl : (Nat → Int32)} {mit : (Nat → Int32)} {mro : (Nat → Int32)} {maw : (Nat → Int32)} {x1 : Int32} {x2 : Int32} {fu : Nat} (C : xb_C κ Γ 6 cX9_bitsOfUse RX9 { frames := 5, cells := 0, slots := 0, locals := 122 }) : ∀ (n : Nat) (x3 : Int32) (x4 : Int32) (mns : Int32) (mus : (Nat → Int32)) (mnu : (Nat → Int32)) (mld : Int32) (mli : (Nat → Int32)) (mot : (Nat → Int32)) (mbl : (Nat → Int32)) (o : Int32 × Int32 × (Nat → Int32) × (Nat → Int32) × Int32 × (Nat → Int32) × (Nat → Int32) × (Nat → Int32)), F_X9_bitsOfUse_L5 fu x1 x2 mn mki mfr mpk n x3 x4 mns mus mnu mld mli mot mbl = some o → xb_W κ Γ 6 0 0 91 [(3, .int o.1)] [] (mw κ q mth mn mib mpa mwi mch mst msz o.2.1 o.2.2.2.2.1 mps mbb mno mpk mtu mfo mbi mwr o.2.2.1 o.2.2.2.1 o.2.2.2.2.2.1 o.2.2.2.2.2.2.1 o.2.2.2.2.2.2.2 mki mfr mde mbe mow mco mpt mle mpl mit mro maw) → xb_W κ Γ 6 0 0 5 [(0, .ref (q 0)), (1, .int x1), (2, .int x2), (3, .int x3), (4, .int x4)] [] (mw κ q mth mn mib mpa mwi mch mst msz mns mld mps mbb mno mpk mtu mfo mbi mwr mus mnu mli mot mbl mki mfr mde mbe mow mco mpt mle mpl mit mro maw) := by
  intro n
  induction n with
  | zero =>
    intro x3 x4 mns mus mnu mld mli mot mbl o hF K
    rw [F_X9_bitsOfUse_L5] at hF
    cases hF
  | succ n ih =>
    intro x3 x4 mns mus mnu mld mli mot mbl o hF K
    rw [F_X9_bitsOfUse_L5] at hF
    refine x_iload C dX9_bitsOfUse_5 4 rfl ?_
    refine x_aload_n C dX9_bitsOfUse_7 0 rfl ?_
    refine gf_X9_93 C 0 rfl rfl dX9_bitsOfUse_8 ?_
    refine x_icmp_ge (tgt := 91) C dX9_bitsOfUse_11 (by decide) (fun hc => ?_) (fun hc => ?_)
    · replace hF := ifp hc hF
      cases hF
      exact x_sub [3] rfl K
    · replace hF := ifn hc hF
      refine x_aload_n C dX9_bitsOfUse_14 0 rfl ?_
      refine x_aload_n C dX9_bitsOfUse_15 0 rfl ?_
      refine gf_X9_17 C 0 rfl rfl dX9_bitsOfUse_16 ?_
      refine x_iload C dX9_bitsOfUse_19 4 rfl ?_
      refine x_aload_n C dX9_bitsOfUse_21 0 rfl ?_
      refine gf_X9_57 C 0 rfl rfl dX9_bitsOfUse_22 ?_
      refine x_iload C dX9_bitsOfUse_25 4 rfl ?_
      obtain ⟨b1, hF⟩ := ck_s hF
      refine x_iald C 12 rfl b1 dX9_bitsOfUse_27 ?_
      refine x_aload_n C dX9_bitsOfUse_28 0 rfl ?_
      refine gf_X9_60 C 0 rfl rfl dX9_bitsOfUse_29 ?_
      refine x_iload C dX9_bitsOfUse_32 4 rfl ?_
      obtain ⟨b2, hF⟩ := ck_s hF
      refine x_iald C 13 rfl b2 dX9_bitsOfUse_34 ?_
      obtain ⟨o3, h4, hF⟩ := bd_s hF
      refine x_callVv (st := []) C (c_X9_tell_0_2 h4) xm_X9_tell ml_X9_175 0 rfl rfl rfl rfl rfl rfl dX9_bitsOfUse_35 ⟨rfl, rfl⟩ ?_
      refine x_iconst (v := 0) C dX9_bitsOfUse_38 (by decide) ?_
      refine x_istore (lv2 := [(5, .int (0 : Int32)), (0, .ref (q 0)), (1, .int x1), (2, .int x2), (3, .int x3), (4, .int x4)]) C dX9_bitsOfUse_39 (by decide) rfl ?_
      obtain ⟨o5, h6, hF⟩ := bd_s hF
      refine x_sub [1, 2, 3, 4, 5, 0] rfl (w_X9_bitsOfUse_L41 C fu _ _ _ h6 ?_)
      refine x_iinc (v := x4 + 1) (lv2 := [(4, .int (x4 + 1)), (0, .ref (q 0)), (1, .int x1), (2, .int x2), (3, .int o5)]) C dX9_bitsOfUse_85 4 rfl rfl (by decide) rfl ?_
      refine x_goto (tgt := 5) C dX9_bitsOfUse_88 (by decide) ?_
      exact x_sub [1, 2, 3, 4, 0] rfl (ih _ _ _ _ _ _ _ _ _ _ hF K)
set_option maxHeartbeats 4000000 in
set_option maxRecDepth 100000 in
theorem c_X9_bitsOfUse {κ : xb_k} {q : Nat → Nat} {mth : Int32} {mn : Int32} {mib : Int32} {mpa : Int32} {mwi : Int32} {mch : Int32} {mst : Int32} {msz : Int32} {mns : Int32} {mld : Int32} {mps : Int32} {mbb : Int32} {mno : (Nat → Int32)} {mpk : (Nat → Int32)} {mtu : (Nat → Int32)} {mfo : (Nat → Int32)} {mbi : (Nat → Int32)} {mwr : (Nat → Int32)} {mus : (Nat → Int32)} {mnu : (Nat → Int32)} {mli : (Nat → Int32)} {mot : (Nat → Int32)} {mbl : (Nat → Int32)} {mki : (Nat → Int32)} {mfr : (Nat → Int32)} {mde : (Nat → Int32)} {mbe : (Nat → Int32)} {mow : (Nat → Int32)} {mco : (Nat → Int32)} {mpt : (Nat → Int32)} {mle : (Nat → Int32)} {mpl : (Nat → Int32)} {mit : (Nat → Int32)} {mro : (Nat → Int32)} {maw : (Nat → Int32)} {x1 : Int32} {x2 : Int32} {fu : Nat} {o : Int32 × Int32 × (Nat → Int32) × (Nat → Int32) × Int32 × (Nat → Int32) × (Nat → Int32) × (Nat → Int32)} (hF : F_X9_bitsOfUse fu x1 x2 mn mki mfr mns mus mnu mld mpk mli mot mbl = some o) : Met κ.1 yX9_bitsOfUse [Cond.code yX9_bitsOfUse cX9_bitsOfUse 6 (some .int)] { frames := 5, cells := 0, slots := 0, locals := 122 } (xb_P κ [.ref (q 0), .int x1, .int x2] (mw κ q mth mn mib mpa mwi mch mst msz mns mld mps mbb mno mpk mtu mfo mbi mwr mus mnu mli mot mbl mki mfr mde mbe mow mco mpt mle mpl mit mro maw)) (xb_Qi κ o.1 (mw κ q mth mn mib mpa mwi mch mst msz o.2.1 o.2.2.2.2.1 mps mbb mno mpk mtu mfo mbi mwr o.2.2.1 o.2.2.2.1 o.2.2.2.2.2.1 o.2.2.2.2.2.2.1 o.2.2.2.2.2.2.2 mki mfr mde mbe mow mco mpt mle mpl mit mro maw)) 0 0 κ.2.2.1 := by
  refine x_enter (own := RX9) (lv0 := [(0, .ref (q 0)), (1, .int x1), (2, .int x2)]) (by decide) rfl rfl rfl (fun Γ C E => ?_)
  unfold F_X9_bitsOfUse at hF
  refine x_iconst (v := 0) C dX9_bitsOfUse_0 (by decide) ?_
  refine x_istore_n (lv2 := [(3, .int (0 : Int32)), (0, .ref (q 0)), (1, .int x1), (2, .int x2)]) C dX9_bitsOfUse_1 rfl (by decide) rfl ?_
  refine x_iconst (v := 0) C dX9_bitsOfUse_2 (by decide) ?_
  refine x_istore (lv2 := [(4, .int (0 : Int32)), (3, .int (0 : Int32)), (0, .ref (q 0)), (1, .int x1), (2, .int x2)]) C dX9_bitsOfUse_3 (by decide) rfl ?_
  obtain ⟨o7, h8, hF⟩ := bd_s hF
  refine x_sub [2, 3, 4, 1, 0] rfl (w_X9_bitsOfUse_L5 C fu _ _ _ _ _ _ _ _ _ _ h8 ?_)
  refine x_iload_n C dX9_bitsOfUse_91 0 rfl ?_
  cases hF
  exact x_iret C E dX9_bitsOfUse_92
set_option maxHeartbeats 4000000 in
set_option maxRecDepth 100000 in
theorem c_X9_would {κ : xb_k} {q : Nat → Nat} {mth : Int32} {mn : Int32} {mib : Int32} {mpa : Int32} {mwi : Int32} {mch : Int32} {mst : Int32} {msz : Int32} {mns : Int32} {mld : Int32} {mps : Int32} {mbb : Int32} {mno : (Nat → Int32)} {mpk : (Nat → Int32)} {mtu : (Nat → Int32)} {mfo : (Nat → Int32)} {mbi : (Nat → Int32)} {mwr : (Nat → Int32)} {mus : (Nat → Int32)} {mnu : (Nat → Int32)} {mli : (Nat → Int32)} {mot : (Nat → Int32)} {mbl : (Nat → Int32)} {mki : (Nat → Int32)} {mfr : (Nat → Int32)} {mde : (Nat → Int32)} {mbe : (Nat → Int32)} {mow : (Nat → Int32)} {mco : (Nat → Int32)} {mpt : (Nat → Int32)} {mle : (Nat → Int32)} {mpl : (Nat → Int32)} {mit : (Nat → Int32)} {mro : (Nat → Int32)} {maw : (Nat → Int32)} {x1 : Int32} {x2 : Int32} {fu : Nat} {o : Int32 × Int32 × Int32 × (Nat → Int32) × (Nat → Int32) × Int32 × (Nat → Int32) × (Nat → Int32) × (Nat → Int32)} (hF : F_X9_would fu x1 x2 mth mib mn mki mfr mns mus mnu mld mpk mli mot mbl = some o) : Met κ.1 yX9_would [Cond.code yX9_would cX9_would 3 (some .int)] { frames := 6, cells := 0, slots := 0, locals := 147 } (xb_P κ [.ref (q 0), .int x1, .int x2] (mw κ q mth mn mib mpa mwi mch mst msz mns mld mps mbb mno mpk mtu mfo mbi mwr mus mnu mli mot mbl mki mfr mde mbe mow mco mpt mle mpl mit mro maw)) (xb_Qi κ o.1 (mw κ q o.2.1 mn mib mpa mwi mch mst msz o.2.2.1 o.2.2.2.2.2.1 mps mbb mno mpk mtu mfo mbi mwr o.2.2.2.1 o.2.2.2.2.1 o.2.2.2.2.2.2.1 o.2.2.2.2.2.2.2.1 o.2.2.2.2.2.2.2.2 mki mfr mde mbe mow mco mpt mle mpl mit mro maw)) 0 0 κ.2.2.1 := by
  refine x_enter (own := RX9) (lv0 := [(0, .ref (q 0)), (1, .int x1), (2, .int x2)]) (by decide) rfl rfl rfl (fun Γ C E => ?_)
  unfold F_X9_would at hF
  refine x_aload_n C dX9_would_0 0 rfl ?_
  refine x_iconst (v := 0) C dX9_would_1 (by decide) ?_
  refine pf_X9_1 (ws2 := (mw κ q (0 : Int32) mn mib mpa mwi mch mst msz mns mld mps mbb mno mpk mtu mfo mbi mwr mus mnu mli mot mbl mki mfr mde mbe mow mco mpt mle mpl mit mro maw)) C 0 rfl dX9_would_2 rfl rfl ?_
  refine x_iload_n C dX9_would_5 1 rfl ?_
  refine x_i2l C dX9_would_6 ?_
  refine x_lconst (v := 0) C dX9_would_7 (by decide) ?_
  refine x_ldc2 C dX9_would_8 kl_X9_183 ?_
  obtain ⟨o1, h2, hF⟩ := bd_s hF
  refine x_callSi (st := []) C (c_X9_in h2) xm_X9_in ml_X9_96 rfl rfl rfl rfl dX9_would_11 ⟨rfl, rfl⟩ ?_
  refine x_if_eq (tgt := 29) C dX9_would_14 (by decide) (fun hc => ?_) (fun hc => ?_)
  · replace hF := ifp hc hF
    refine x_bipush (v := (-2)) C dX9_would_29 (by decide) ?_
    cases hF
    exact x_iret C E dX9_would_31
  · replace hF := ifn hc hF
    refine x_iload_n C dX9_would_17 2 rfl ?_
    refine x_i2l C dX9_would_18 ?_
    refine x_lconst (v := 0) C dX9_would_19 (by decide) ?_
    refine x_ldc2 C dX9_would_20 kl_X9_185 ?_
    obtain ⟨o3, h4, hF⟩ := bd_s hF
    refine x_callSi (st := []) C (c_X9_in h4) xm_X9_in ml_X9_96 rfl rfl rfl rfl dX9_would_23 ⟨rfl, rfl⟩ ?_
    refine x_if_ne (tgt := 32) C dX9_would_26 (by decide) (fun hc => ?_) (fun hc => ?_)
    · replace hF := ifn hc hF
      refine x_aload_n C dX9_would_32 0 rfl ?_
      refine gf_X9_100 C 0 rfl rfl dX9_would_33 ?_
      refine x_if_eq (tgt := 48) C dX9_would_36 (by decide) (fun hc => ?_) (fun hc => ?_)
      · replace hF := ifp hc hF
        refine x_bipush (v := (-3)) C dX9_would_48 (by decide) ?_
        cases hF
        exact x_iret C E dX9_would_50
      · replace hF := ifn hc hF
        refine x_aload_n C dX9_would_39 0 rfl ?_
        refine x_iload_n C dX9_would_40 1 rfl ?_
        refine x_iload_n C dX9_would_41 2 rfl ?_
        obtain ⟨o5, h6, hF⟩ := bd_s hF
        refine x_callVi (st := []) C (c_X9_bitsOfUse h6) xm_X9_bitsOfUse ml_X9_223 0 rfl rfl rfl rfl rfl rfl dX9_would_42 ⟨rfl, rfl⟩ ?_
        refine x_goto (tgt := 50) C dX9_would_45 (by decide) ?_
        cases hF
        exact x_iret C E dX9_would_50
    · replace hF := ifp hc hF
      refine x_bipush (v := (-2)) C dX9_would_29 (by decide) ?_
      cases hF
      exact x_iret C E dX9_would_31
set_option maxHeartbeats 4000000 in
set_option maxRecDepth 100000 in
theorem w_X9_forms_L34 {κ : xb_k} {Γ : xb_X} {q : Nat → Nat} {mth : Int32} {mn : Int32} {mib : Int32} {mpa : Int32} {mwi : Int32} {mch : Int32} {mst : Int32} {msz : Int32} {mps : Int32} {mbb : Int32} {mno : (Nat → Int32)} {mpk : (Nat → Int32)} {mtu : (Nat → Int32)} {mfo : (Nat → Int32)} {mbi : (Nat → Int32)} {mwr : (Nat → Int32)} {mki : (Nat → Int32)} {mfr : (Nat → Int32)} {mde : (Nat → Int32)} {mbe : (Nat → Int32)} {mow : (Nat → Int32)} {mco : (Nat → Int32)} {mpt : (Nat → Int32)} {mle : (Nat → Int32)} {mpl : (Nat → Int32)} {mit : (Nat → Int32)} {mro : (Nat → Int32)} {maw : (Nat → Int32)} {x1 : Int32} {fu : Nat} (C : xb_C κ Γ 4 cX9_forms RX9 { frames := 6, cells := 0, slots := 0, locals := 147 }) : ∀ (n : Nat) (x2 : Int32) (x3 : Int32) (mns : Int32) (mus : (Nat → Int32)) (mnu : (Nat → Int32)) (mld : Int32) (mli : (Nat → Int32)) (mot : (Nat → Int32)) (mbl : (Nat → Int32)) (o : Int32 × Int32 × (Nat → Int32) × (Nat → Int32) × Int32 × (Nat → Int32) × (Nat → Int32) × (Nat → Int32)), F_X9_forms_L34 fu x1 mn mki mfr mpk n x2 x3 mns mus mnu mld mli mot mbl = some o → xb_W κ Γ 4 0 0 67 [(0, .ref (q 0)), (1, .int x1), (2, .int o.1)] [] (mw κ q mth mn mib mpa mwi mch mst msz o.2.1 o.2.2.2.2.1 mps mbb mno mpk mtu mfo mbi mwr o.2.2.1 o.2.2.2.1 o.2.2.2.2.2.1 o.2.2.2.2.2.2.1 o.2.2.2.2.2.2.2 mki mfr mde mbe mow mco mpt mle mpl mit mro maw) → xb_W κ Γ 4 0 0 34 [(0, .ref (q 0)), (1, .int x1), (2, .int x2), (3, .int x3)] [] (mw κ q mth mn mib mpa mwi mch mst msz mns mld mps mbb mno mpk mtu mfo mbi mwr mus mnu mli mot mbl mki mfr mde mbe mow mco mpt mle mpl mit mro maw) := by
  intro n
  induction n with
  | zero =>
    intro x2 x3 mns mus mnu mld mli mot mbl o hF K
    rw [F_X9_forms_L34] at hF
    cases hF
  | succ n ih =>
    intro x2 x3 mns mus mnu mld mli mot mbl o hF K
    rw [F_X9_forms_L34] at hF
    refine x_iload_n C dX9_forms_34 3 rfl ?_
    refine x_bipush (v := 10) C dX9_forms_35 (by decide) ?_
    refine x_icmp_ge (tgt := 67) C dX9_forms_37 (by decide) (fun hc => ?_) (fun hc => ?_)
    · replace hF := ifp hc hF
      cases hF
      exact x_sub [0, 1, 2] rfl K
    · replace hF := ifn hc hF
      refine x_aload_n C dX9_forms_40 0 rfl ?_
      refine x_iload_n C dX9_forms_41 1 rfl ?_
      refine x_iload_n C dX9_forms_42 3 rfl ?_
      obtain ⟨o1, h2, hF⟩ := bd_s hF
      refine x_callVi (st := []) C (c_X9_bitsOfUse h2) xm_X9_bitsOfUse ml_X9_223 0 rfl rfl rfl rfl rfl rfl dX9_forms_43 ⟨rfl, rfl⟩ ?_
      refine x_aload_n C dX9_forms_46 0 rfl ?_
      refine x_iload_n C dX9_forms_47 1 rfl ?_
      refine x_iload_n C dX9_forms_48 2 rfl ?_
      obtain ⟨o3, h4, hF⟩ := bd_s hF
      refine x_callVi (st := [.int o1.1]) C (c_X9_bitsOfUse h4) xm_X9_bitsOfUse ml_X9_223 0 rfl rfl rfl rfl rfl rfl dX9_forms_49 ⟨rfl, rfl⟩ ?_
      refine x_icmp_ge (tgt := 59) C dX9_forms_52 (by decide) (fun hc => ?_) (fun hc => ?_)
      · replace hF := ifp hc hF
        refine x_iload_n C dX9_forms_59 2 rfl ?_
        refine x_istore_n (lv2 := [(2, .int x2), (0, .ref (q 0)), (1, .int x1), (3, .int x3)]) C dX9_forms_60 rfl (by decide) rfl ?_
        refine x_iinc (v := x3 + 1) (lv2 := [(3, .int (x3 + 1)), (2, .int x2), (0, .ref (q 0)), (1, .int x1)]) C dX9_forms_61 3 rfl rfl (by decide) rfl ?_
        refine x_goto (tgt := 34) C dX9_forms_64 (by decide) ?_
        exact x_sub [2, 3, 1, 0] rfl (ih _ _ _ _ _ _ _ _ _ _ hF K)
      · replace hF := ifn hc hF
        refine x_iload_n C dX9_forms_55 3 rfl ?_
        refine x_goto (tgt := 60) C dX9_forms_56 (by decide) ?_
        refine x_istore_n (lv2 := [(2, .int x3), (0, .ref (q 0)), (1, .int x1), (3, .int x3)]) C dX9_forms_60 rfl (by decide) rfl ?_
        refine x_iinc (v := x3 + 1) (lv2 := [(3, .int (x3 + 1)), (2, .int x3), (0, .ref (q 0)), (1, .int x1)]) C dX9_forms_61 3 rfl rfl (by decide) rfl ?_
        refine x_goto (tgt := 34) C dX9_forms_64 (by decide) ?_
        exact x_sub [2, 3, 1, 0] rfl (ih _ _ _ _ _ _ _ _ _ _ hF K)
set_option maxHeartbeats 4000000 in
set_option maxRecDepth 100000 in
theorem w_X9_forms_L24 {κ : xb_k} {Γ : xb_X} {q : Nat → Nat} {mth : Int32} {mn : Int32} {mib : Int32} {mpa : Int32} {mwi : Int32} {mch : Int32} {mst : Int32} {msz : Int32} {mps : Int32} {mbb : Int32} {mno : (Nat → Int32)} {mpk : (Nat → Int32)} {mtu : (Nat → Int32)} {mbi : (Nat → Int32)} {mwr : (Nat → Int32)} {mki : (Nat → Int32)} {mfr : (Nat → Int32)} {mde : (Nat → Int32)} {mbe : (Nat → Int32)} {mow : (Nat → Int32)} {mco : (Nat → Int32)} {mpt : (Nat → Int32)} {mle : (Nat → Int32)} {mpl : (Nat → Int32)} {mit : (Nat → Int32)} {mro : (Nat → Int32)} {maw : (Nat → Int32)}  {fu : Nat} (C : xb_C κ Γ 4 cX9_forms RX9 { frames := 6, cells := 0, slots := 0, locals := 147 }) : ∀ (n : Nat) (x1 : Int32) (mns : Int32) (mus : (Nat → Int32)) (mnu : (Nat → Int32)) (mld : Int32) (mli : (Nat → Int32)) (mot : (Nat → Int32)) (mbl : (Nat → Int32)) (mfo : (Nat → Int32)) (o : Int32 × (Nat → Int32) × (Nat → Int32) × Int32 × (Nat → Int32) × (Nat → Int32) × (Nat → Int32) × (Nat → Int32)), F_X9_forms_L24 fu mn mki mfr mpk n x1 mns mus mnu mld mli mot mbl mfo = some o → xb_W κ Γ 4 0 0 80 [(0, .ref (q 0))] [] (mw κ q mth mn mib mpa mwi mch mst msz o.1 o.2.2.2.1 mps mbb mno mpk mtu o.2.2.2.2.2.2.2 mbi mwr o.2.1 o.2.2.1 o.2.2.2.2.1 o.2.2.2.2.2.1 o.2.2.2.2.2.2.1 mki mfr mde mbe mow mco mpt mle mpl mit mro maw) → xb_W κ Γ 4 0 0 24 [(0, .ref (q 0)), (1, .int x1)] [] (mw κ q mth mn mib mpa mwi mch mst msz mns mld mps mbb mno mpk mtu mfo mbi mwr mus mnu mli mot mbl mki mfr mde mbe mow mco mpt mle mpl mit mro maw) := by
  intro n
  induction n with
  | zero =>
    intro x1 mns mus mnu mld mli mot mbl mfo o hF K
    rw [F_X9_forms_L24] at hF
    cases hF
  | succ n ih =>
    intro x1 mns mus mnu mld mli mot mbl mfo o hF K
    rw [F_X9_forms_L24] at hF
    refine x_iload_n C dX9_forms_24 1 rfl ?_
    refine x_bipush (v := 8) C dX9_forms_25 (by decide) ?_
    refine x_icmp_ge (tgt := 80) C dX9_forms_27 (by decide) (fun hc => ?_) (fun hc => ?_)
    · replace hF := ifp hc hF
      cases hF
      exact x_sub [0] rfl K
    · replace hF := ifn hc hF
      refine x_iconst (v := 0) C dX9_forms_30 (by decide) ?_
      refine x_istore_n (lv2 := [(2, .int (0 : Int32)), (0, .ref (q 0)), (1, .int x1)]) C dX9_forms_31 rfl (by decide) rfl ?_
      refine x_iconst (v := 1) C dX9_forms_32 (by decide) ?_
      refine x_istore_n (lv2 := [(3, .int (1 : Int32)), (2, .int (0 : Int32)), (0, .ref (q 0)), (1, .int x1)]) C dX9_forms_33 rfl (by decide) rfl ?_
      obtain ⟨o1, h2, hF⟩ := bd_s hF
      refine x_sub [2, 3, 1, 0] rfl (w_X9_forms_L34 C fu _ _ _ _ _ _ _ _ _ _ h2 ?_)
      refine x_aload_n C dX9_forms_67 0 rfl ?_
      refine gf_X9_23 C 0 rfl rfl dX9_forms_68 ?_
      refine x_iload_n C dX9_forms_71 1 rfl ?_
      refine x_iload_n C dX9_forms_72 2 rfl ?_
      obtain ⟨b3, hF⟩ := ck_s hF
      refine x_iast (ws2 := (mw κ q mth mn mib mpa mwi mch mst msz o1.2.1 o1.2.2.2.2.1 mps mbb mno mpk mtu (upd mfo x1.toNatClampNeg o1.1) mbi mwr o1.2.2.1 o1.2.2.2.1 o1.2.2.2.2.2.1 o1.2.2.2.2.2.2.1 o1.2.2.2.2.2.2.2 mki mfr mde mbe mow mco mpt mle mpl mit mro maw)) C 4 rfl b3 dX9_forms_73 rfl ?_
      refine x_iinc (v := x1 + 1) (lv2 := [(1, .int (x1 + 1)), (0, .ref (q 0)), (2, .int o1.1)]) C dX9_forms_74 1 rfl rfl (by decide) rfl ?_
      refine x_goto (tgt := 24) C dX9_forms_77 (by decide) ?_
      exact x_sub [1, 0] rfl (ih _ _ _ _ _ _ _ _ _ _ hF K)
set_option maxHeartbeats 4000000 in
set_option maxRecDepth 100000 in
theorem w_X9_forms_L87 {κ : xb_k} {Γ : xb_X} {q : Nat → Nat} {mth : Int32} {mn : Int32} {mib : Int32} {mpa : Int32} {mwi : Int32} {mch : Int32} {mst : Int32} {mps : Int32} {mbb : Int32} {mno : (Nat → Int32)} {mpk : (Nat → Int32)} {mtu : (Nat → Int32)} {mfo : (Nat → Int32)} {mwr : (Nat → Int32)} {mki : (Nat → Int32)} {mfr : (Nat → Int32)} {mde : (Nat → Int32)} {mow : (Nat → Int32)} {mco : (Nat → Int32)} {mpt : (Nat → Int32)} {mle : (Nat → Int32)} {mpl : (Nat → Int32)} {mit : (Nat → Int32)} {mro : (Nat → Int32)} {maw : (Nat → Int32)}  {fu : Nat} (C : xb_C κ Γ 4 cX9_forms RX9 { frames := 6, cells := 0, slots := 0, locals := 147 }) : ∀ (n : Nat) (x1 : Int32) (mns : Int32) (mus : (Nat → Int32)) (mnu : (Nat → Int32)) (mld : Int32) (mli : (Nat → Int32)) (mot : (Nat → Int32)) (mbl : (Nat → Int32)) (mbe : (Nat → Int32)) (mbi : (Nat → Int32)) (msz : Int32) (o : Int32 × (Nat → Int32) × (Nat → Int32) × Int32 × (Nat → Int32) × (Nat → Int32) × (Nat → Int32) × (Nat → Int32) × (Nat → Int32) × Int32), F_X9_forms_L87 fu mn mki mfr mpk mfo n x1 mns mus mnu mld mli mot mbl mbe mbi msz = some o → xb_W κ Γ 4 0 0 127 [(0, .ref (q 0))] [] (mw κ q mth mn mib mpa mwi mch mst o.2.2.2.2.2.2.2.2.2 o.1 o.2.2.2.1 mps mbb mno mpk mtu mfo o.2.2.2.2.2.2.2.2.1 mwr o.2.1 o.2.2.1 o.2.2.2.2.1 o.2.2.2.2.2.1 o.2.2.2.2.2.2.1 mki mfr mde o.2.2.2.2.2.2.2.1 mow mco mpt mle mpl mit mro maw) → xb_W κ Γ 4 0 0 87 [(0, .ref (q 0)), (1, .int x1)] [] (mw κ q mth mn mib mpa mwi mch mst msz mns mld mps mbb mno mpk mtu mfo mbi mwr mus mnu mli mot mbl mki mfr mde mbe mow mco mpt mle mpl mit mro maw) := by
  intro n
  induction n with
  | zero =>
    intro x1 mns mus mnu mld mli mot mbl mbe mbi msz o hF K
    rw [F_X9_forms_L87] at hF
    cases hF
  | succ n ih =>
    intro x1 mns mus mnu mld mli mot mbl mbe mbi msz o hF K
    rw [F_X9_forms_L87] at hF
    refine x_iload_n C dX9_forms_87 1 rfl ?_
    refine x_aload_n C dX9_forms_88 0 rfl ?_
    refine gf_X9_93 C 0 rfl rfl dX9_forms_89 ?_
    refine x_icmp_ge (tgt := 127) C dX9_forms_92 (by decide) (fun hc => ?_) (fun hc => ?_)
    · replace hF := ifp hc hF
      cases hF
      exact x_sub [0] rfl K
    · replace hF := ifn hc hF
      refine x_aload_n C dX9_forms_95 0 rfl ?_
      refine x_aload_n C dX9_forms_96 0 rfl ?_
      refine gf_X9_17 C 0 rfl rfl dX9_forms_97 ?_
      refine x_iload_n C dX9_forms_100 1 rfl ?_
      refine x_aload_n C dX9_forms_101 0 rfl ?_
      refine gf_X9_57 C 0 rfl rfl dX9_forms_102 ?_
      refine x_iload_n C dX9_forms_105 1 rfl ?_
      obtain ⟨b6, hF⟩ := ck_s hF
      refine x_iald C 12 rfl b6 dX9_forms_106 ?_
      refine x_aload_n C dX9_forms_107 0 rfl ?_
      refine gf_X9_60 C 0 rfl rfl dX9_forms_108 ?_
      refine x_iload_n C dX9_forms_111 1 rfl ?_
      obtain ⟨b7, hF⟩ := ck_s hF
      refine x_iald C 13 rfl b7 dX9_forms_112 ?_
      obtain ⟨o8, h9, hF⟩ := bd_s hF
      refine x_callVv (st := []) C (c_X9_tell_0_2 h9) xm_X9_tell ml_X9_175 0 rfl rfl rfl rfl rfl rfl dX9_forms_113 ⟨rfl, rfl⟩ ?_
      refine x_aload_n C dX9_forms_116 0 rfl ?_
      refine x_iload_n C dX9_forms_117 1 rfl ?_
      obtain ⟨o10, h11, hF⟩ := bd_s hF
      refine x_callVv (st := []) C (c_X9_writeRow h11) xm_X9_writeRow ml_X9_217 0 rfl rfl rfl rfl rfl rfl dX9_forms_118 ⟨rfl, rfl⟩ ?_
      refine x_iinc (v := x1 + 1) (lv2 := [(1, .int (x1 + 1)), (0, .ref (q 0))]) C dX9_forms_121 1 rfl rfl (by decide) rfl ?_
      refine x_goto (tgt := 87) C dX9_forms_124 (by decide) ?_
      exact x_sub [1, 0] rfl (ih _ _ _ _ _ _ _ _ _ _ _ _ hF K)
set_option maxHeartbeats 4000000 in
set_option maxRecDepth 100000 in
theorem c_X9_forms {κ : xb_k} {q : Nat → Nat} {mth : Int32} {mn : Int32} {mib : Int32} {mpa : Int32} {mwi : Int32} {mch : Int32} {mst : Int32} {msz : Int32} {mns : Int32} {mld : Int32} {mps : Int32} {mbb : Int32} {mno : (Nat → Int32)} {mpk : (Nat → Int32)} {mtu : (Nat → Int32)} {mfo : (Nat → Int32)} {mbi : (Nat → Int32)} {mwr : (Nat → Int32)} {mus : (Nat → Int32)} {mnu : (Nat → Int32)} {mli : (Nat → Int32)} {mot : (Nat → Int32)} {mbl : (Nat → Int32)} {mki : (Nat → Int32)} {mfr : (Nat → Int32)} {mde : (Nat → Int32)} {mbe : (Nat → Int32)} {mow : (Nat → Int32)} {mco : (Nat → Int32)} {mpt : (Nat → Int32)} {mle : (Nat → Int32)} {mpl : (Nat → Int32)} {mit : (Nat → Int32)} {mro : (Nat → Int32)} {maw : (Nat → Int32)}  {fu : Nat} {o : Int32 × Int32 × Int32 × (Nat → Int32) × (Nat → Int32) × Int32 × (Nat → Int32) × (Nat → Int32) × (Nat → Int32) × (Nat → Int32) × Int32 × (Nat → Int32) × (Nat → Int32) × (Nat → Int32)} (hF : F_X9_forms fu mth mib mpa mn mki mfr mns mus mnu mld mpk mli mot mbl mfo msz mbe mbi mwr = some o) : Met κ.1 yX9_forms [Cond.code yX9_forms cX9_forms 4 (some .int)] { frames := 6, cells := 0, slots := 0, locals := 147 } (xb_P κ [.ref (q 0)] (mw κ q mth mn mib mpa mwi mch mst msz mns mld mps mbb mno mpk mtu mfo mbi mwr mus mnu mli mot mbl mki mfr mde mbe mow mco mpt mle mpl mit mro maw)) (xb_Qi κ o.1 (mw κ q o.2.1 mn mib mpa mwi mch mst o.2.2.2.2.2.2.2.2.2.2.1 o.2.2.1 o.2.2.2.2.2.1 mps mbb mno mpk mtu o.2.2.2.2.2.2.2.2.2.1 o.2.2.2.2.2.2.2.2.2.2.2.2.1 o.2.2.2.2.2.2.2.2.2.2.2.2.2 o.2.2.2.1 o.2.2.2.2.1 o.2.2.2.2.2.2.1 o.2.2.2.2.2.2.2.1 o.2.2.2.2.2.2.2.2.1 mki mfr mde o.2.2.2.2.2.2.2.2.2.2.2.1 mow mco mpt mle mpl mit mro maw)) 0 0 κ.2.2.1 := by
  refine x_enter (own := RX9) (lv0 := [(0, .ref (q 0))]) (by decide) rfl rfl rfl (fun Γ C E => ?_)
  unfold F_X9_forms at hF
  refine x_aload_n C dX9_forms_0 0 rfl ?_
  refine x_iconst (v := 0) C dX9_forms_1 (by decide) ?_
  refine pf_X9_1 (ws2 := (mw κ q (0 : Int32) mn mib mpa mwi mch mst msz mns mld mps mbb mno mpk mtu mfo mbi mwr mus mnu mli mot mbl mki mfr mde mbe mow mco mpt mle mpl mit mro maw)) C 0 rfl dX9_forms_2 rfl rfl ?_
  refine x_aload_n C dX9_forms_5 0 rfl ?_
  refine gf_X9_100 C 0 rfl rfl dX9_forms_6 ?_
  refine x_if_eq (tgt := 19) C dX9_forms_9 (by decide) (fun hc => ?_) (fun hc => ?_)
  · replace hF := ifp hc hF
    refine x_bipush (v := (-3)) C dX9_forms_19 (by decide) ?_
    cases hF
    exact x_iret C E dX9_forms_21
  · replace hF := ifn hc hF
    refine x_aload_n C dX9_forms_12 0 rfl ?_
    refine gf_X9_104 C 0 rfl rfl dX9_forms_13 ?_
    refine x_if_le (tgt := 22) C dX9_forms_16 (by decide) (fun hc => ?_) (fun hc => ?_)
    · replace hF := ifp hc hF
      refine x_iconst (v := 0) C dX9_forms_22 (by decide) ?_
      refine x_istore_n (lv2 := [(1, .int (0 : Int32)), (0, .ref (q 0))]) C dX9_forms_23 rfl (by decide) rfl ?_
      obtain ⟨o4, h5, hF⟩ := bd_s hF
      refine x_sub [1, 0] rfl (w_X9_forms_L24 C fu _ _ _ _ _ _ _ _ _ _ h5 ?_)
      refine x_aload_n C dX9_forms_80 0 rfl ?_
      refine x_iconst (v := 0) C dX9_forms_81 (by decide) ?_
      refine pf_X9_122 (ws2 := (mw κ q (0 : Int32) mn mib mpa mwi mch mst (0 : Int32) o4.1 o4.2.2.2.1 mps mbb mno mpk mtu o4.2.2.2.2.2.2.2 mbi mwr o4.2.1 o4.2.2.1 o4.2.2.2.2.1 o4.2.2.2.2.2.1 o4.2.2.2.2.2.2.1 mki mfr mde mbe mow mco mpt mle mpl mit mro maw)) C 0 rfl dX9_forms_82 rfl rfl ?_
      refine x_iconst (v := 0) C dX9_forms_85 (by decide) ?_
      refine x_istore_n (lv2 := [(1, .int (0 : Int32)), (0, .ref (q 0))]) C dX9_forms_86 rfl (by decide) rfl ?_
      obtain ⟨o12, h13, hF⟩ := bd_s hF
      refine x_sub [1, 0] rfl (w_X9_forms_L87 C fu _ _ _ _ _ _ _ _ _ _ _ _ h13 ?_)
      refine x_aload_n C dX9_forms_127 0 rfl ?_
      obtain ⟨o14, h15, hF⟩ := bd_s hF
      refine x_callVv (st := []) C (c_X9_closeBook h15) xm_X9_closeBook ml_X9_220 0 rfl rfl rfl rfl rfl rfl dX9_forms_128 ⟨rfl, rfl⟩ ?_
      refine x_aload_n C dX9_forms_131 0 rfl ?_
      refine gf_X9_122 C 0 rfl rfl dX9_forms_132 ?_
      cases hF
      exact x_iret C E dX9_forms_135
    · replace hF := ifn hc hF
      refine x_bipush (v := (-3)) C dX9_forms_19 (by decide) ?_
      cases hF
      exact x_iret C E dX9_forms_21
set_option maxHeartbeats 4000000 in
set_option maxRecDepth 100000 in
theorem w_X9_weigh_L107 {κ : xb_k} {Γ : xb_X} {q : Nat → Nat} {mth : Int32} {mn : Int32} {mib : Int32} {mpa : Int32} {mwi : Int32} {mch : Int32} {mst : Int32} {msz : Int32} {mps : Int32} {mbb : Int32} {mno : (Nat → Int32)} {mpk : (Nat → Int32)} {mtu : (Nat → Int32)} {mfo : (Nat → Int32)} {mbi : (Nat → Int32)} {mwr : (Nat → Int32)} {mki : (Nat → Int32)} {mfr : (Nat → Int32)} {mde : (Nat → Int32)} {mbe : (Nat → Int32)} {mow : (Nat → Int32)} {mle : (Nat → Int32)} {mpl : (Nat → Int32)} {mit : (Nat → Int32)} {mro : (Nat → Int32)} {maw : (Nat → Int32)} {x1 : Int32} {fu : Nat} (C : xb_C κ Γ 8 cX9_weigh RX9 { frames := 6, cells := 0, slots := 0, locals := 146 }) : ∀ (n : Nat) (x4 : Int32) (mns : Int32) (mus : (Nat → Int32)) (mnu : (Nat → Int32)) (mld : Int32) (mli : (Nat → Int32)) (mot : (Nat → Int32)) (mbl : (Nat → Int32)) (mco : (Nat → Int32)) (mpt : (Nat → Int32)) (o : Int32 × (Nat → Int32) × (Nat → Int32) × Int32 × (Nat → Int32) × (Nat → Int32) × (Nat → Int32) × (Nat → Int32) × (Nat → Int32)), F_X9_weigh_L107 fu x1 mwi mn mno mfo n x4 mns mus mnu mld mli mot mbl mco mpt = some o → xb_W κ Γ 8 0 0 222 [] [] (mw κ q mth mn mib mpa mwi mch mst msz o.1 o.2.2.2.1 mps mbb mno mpk mtu mfo mbi mwr o.2.1 o.2.2.1 o.2.2.2.2.1 o.2.2.2.2.2.1 o.2.2.2.2.2.2.1 mki mfr mde mbe mow o.2.2.2.2.2.2.2.1 o.2.2.2.2.2.2.2.2 mle mpl mit mro maw) → xb_W κ Γ 8 0 0 107 [(0, .ref (q 0)), (1, .int x1), (4, .int x4)] [] (mw κ q mth mn mib mpa mwi mch mst msz mns mld mps mbb mno mpk mtu mfo mbi mwr mus mnu mli mot mbl mki mfr mde mbe mow mco mpt mle mpl mit mro maw) := by
  intro n
  induction n with
  | zero =>
    intro x4 mns mus mnu mld mli mot mbl mco mpt o hF K
    rw [F_X9_weigh_L107] at hF
    cases hF
  | succ n ih =>
    intro x4 mns mus mnu mld mli mot mbl mco mpt o hF K
    rw [F_X9_weigh_L107] at hF
    refine x_iload C dX9_weigh_107 2 rfl ?_
    refine x_aload_n C dX9_weigh_109 0 rfl ?_
    refine gf_X9_27 C 0 rfl rfl dX9_weigh_110 ?_
    refine x_icmp_gt (tgt := 222) C dX9_weigh_113 (by decide) (fun hc => ?_) (fun hc => ?_)
    · replace hF := ifp hc hF
      cases hF
      exact x_sub [] rfl K
    · replace hF := ifn hc hF
      refine x_iload C dX9_weigh_116 2 rfl ?_
      refine x_iload_n C dX9_weigh_118 1 rfl ?_
      refine x_icmp_gt (tgt := 222) C dX9_weigh_119 (by decide) (fun hc => ?_) (fun hc => ?_)
      · replace hF := ifp hc hF
        cases hF
        exact x_sub [] rfl K
      · replace hF := ifn hc hF
        refine x_aload_n C dX9_weigh_122 0 rfl ?_
        refine x_aload_n C dX9_weigh_123 0 rfl ?_
        refine gf_X9_13 C 0 rfl rfl dX9_weigh_124 ?_
        refine x_iload_n C dX9_weigh_127 1 rfl ?_
        refine x_iconst (v := 2) C dX9_weigh_128 (by decide) ?_
        refine x_iload C dX9_weigh_129 2 rfl ?_
        obtain ⟨o10, h11, hF⟩ := bd_s hF
        refine x_callVi (st := []) C (c_X9_bitsBy h11) xm_X9_bitsBy ml_X9_197 0 rfl rfl rfl rfl rfl rfl dX9_weigh_131 ⟨rfl, rfl⟩ ?_
        refine x_istore (lv2 := [(5, .int o10.1), (0, .ref (q 0)), (1, .int x1), (4, .int x4)]) C dX9_weigh_134 (by decide) rfl ?_
        refine x_aload_n C dX9_weigh_136 1 rfl ?_
        refine x_aload_n C dX9_weigh_137 1 rfl ?_
        refine gf_X9_13 C 0 rfl rfl dX9_weigh_138 ?_
        refine x_iload_n C dX9_weigh_141 2 rfl ?_
        refine x_iload_n C dX9_weigh_142 2 rfl ?_
        refine x_iload C dX9_weigh_143 3 rfl ?_
        refine x_isub C dX9_weigh_145 ?_
        obtain ⟨o12, h13, hF⟩ := bd_s hF
        refine x_callVi (st := []) C (c_X9_isSame h13) xm_X9_isSame ml_X9_193 0 rfl rfl rfl rfl rfl rfl dX9_weigh_146 ⟨rfl, rfl⟩ ?_
        refine x_if_eq (tgt := 167) C dX9_weigh_149 (by decide) (fun hc => ?_) (fun hc => ?_)
        · replace hF := ifp hc hF
          refine x_ldc C dX9_weigh_167 kk_X9_226 ?_
          refine x_istore (lv2 := [(6, .int (1000000000 : Int32)), (5, .int o10.1), (0, .ref (q 0)), (1, .int x1), (4, .int x4)]) C dX9_weigh_169 (by decide) rfl ?_
          refine x_iload C dX9_weigh_171 1 rfl ?_
          refine x_iload C dX9_weigh_173 0 rfl ?_
          refine x_icmp_ge (tgt := 183) C dX9_weigh_175 (by decide) (fun hc => ?_) (fun hc => ?_)
          · replace hF := ifp hc hF
            refine x_iload C dX9_weigh_183 0 rfl ?_
            refine x_istore (lv2 := [(7, .int (1000000000 : Int32)), (6, .int (1000000000 : Int32)), (5, .int o10.1), (0, .ref (q 0)), (1, .int x1), (4, .int x4)]) C dX9_weigh_185 (by decide) rfl ?_
            refine x_iload C dX9_weigh_187 0 rfl ?_
            refine x_aload_n C dX9_weigh_189 3 rfl ?_
            refine gf_X9_72 C 0 rfl rfl dX9_weigh_190 ?_
            refine x_iload_n C dX9_weigh_193 4 rfl ?_
            obtain ⟨b14, hF⟩ := ck_s hF
            refine x_iald C 17 rfl b14 dX9_weigh_194 ?_
            refine x_icmp_ge (tgt := 216) C dX9_weigh_195 (by decide) (fun hc => ?_) (fun hc => ?_)
            · replace hF := ifp hc hF
              refine x_iinc (v := x4 + 1) (lv2 := [(4, .int (x4 + 1)), (7, .int (1000000000 : Int32)), (6, .int (1000000000 : Int32)), (5, .int o10.1), (0, .ref (q 0)), (1, .int x1)]) C dX9_weigh_216 5 rfl rfl (by decide) rfl ?_
              refine x_goto (tgt := 107) C dX9_weigh_219 (by decide) ?_
              exact x_sub [4, 5, 0] rfl (ih _ _ _ _ _ _ _ _ _ _ _ hF K)
            · replace hF := ifn hc hF
              refine x_aload_n C dX9_weigh_198 3 rfl ?_
              refine gf_X9_72 C 0 rfl rfl dX9_weigh_199 ?_
              refine x_iload_n C dX9_weigh_202 4 rfl ?_
              refine x_iload C dX9_weigh_203 0 rfl ?_
              obtain ⟨b15, hF⟩ := ck_s hF
              refine x_iast (ws2 := (mw κ q mth mn mib mpa mwi mch mst msz o10.2.1 o10.2.2.2.2.1 mps mbb mno mpk mtu mfo mbi mwr o10.2.2.1 o10.2.2.2.1 o10.2.2.2.2.2.1 o10.2.2.2.2.2.2.1 o10.2.2.2.2.2.2.2 mki mfr mde mbe mow (upd mco x1.toNatClampNeg (1000000000 : Int32)) mpt mle mpl mit mro maw)) C 17 rfl b15 dX9_weigh_205 rfl ?_
              refine x_aload_n C dX9_weigh_206 3 rfl ?_
              refine gf_X9_75 C 0 rfl rfl dX9_weigh_207 ?_
              refine x_iload_n C dX9_weigh_210 4 rfl ?_
              refine x_iload_n C dX9_weigh_211 4 rfl ?_
              refine x_iload C dX9_weigh_212 5 rfl ?_
              refine x_isub C dX9_weigh_214 ?_
              obtain ⟨b16, hF⟩ := ck_s hF
              refine x_iast (ws2 := (mw κ q mth mn mib mpa mwi mch mst msz o10.2.1 o10.2.2.2.2.1 mps mbb mno mpk mtu mfo mbi mwr o10.2.2.1 o10.2.2.2.1 o10.2.2.2.2.2.1 o10.2.2.2.2.2.2.1 o10.2.2.2.2.2.2.2 mki mfr mde mbe mow (upd mco x1.toNatClampNeg (1000000000 : Int32)) (upd mpt x1.toNatClampNeg (x1 - x4)) mle mpl mit mro maw)) C 18 rfl b16 dX9_weigh_215 rfl ?_
              refine x_iinc (v := x4 + 1) (lv2 := [(4, .int (x4 + 1)), (7, .int (1000000000 : Int32)), (6, .int (1000000000 : Int32)), (5, .int o10.1), (0, .ref (q 0)), (1, .int x1)]) C dX9_weigh_216 5 rfl rfl (by decide) rfl ?_
              refine x_goto (tgt := 107) C dX9_weigh_219 (by decide) ?_
              exact x_sub [4, 5, 0] rfl (ih _ _ _ _ _ _ _ _ _ _ _ hF K)
          · replace hF := ifn hc hF
            refine x_iload C dX9_weigh_178 1 rfl ?_
            refine x_goto (tgt := 185) C dX9_weigh_180 (by decide) ?_
            refine x_istore (lv2 := [(7, .int o10.1), (6, .int (1000000000 : Int32)), (5, .int o10.1), (0, .ref (q 0)), (1, .int x1), (4, .int x4)]) C dX9_weigh_185 (by decide) rfl ?_
            refine x_iload C dX9_weigh_187 0 rfl ?_
            refine x_aload_n C dX9_weigh_189 3 rfl ?_
            refine gf_X9_72 C 0 rfl rfl dX9_weigh_190 ?_
            refine x_iload_n C dX9_weigh_193 4 rfl ?_
            obtain ⟨b17, hF⟩ := ck_s hF
            refine x_iald C 17 rfl b17 dX9_weigh_194 ?_
            refine x_icmp_ge (tgt := 216) C dX9_weigh_195 (by decide) (fun hc => ?_) (fun hc => ?_)
            · replace hF := ifp hc hF
              refine x_iinc (v := x4 + 1) (lv2 := [(4, .int (x4 + 1)), (7, .int o10.1), (6, .int (1000000000 : Int32)), (5, .int o10.1), (0, .ref (q 0)), (1, .int x1)]) C dX9_weigh_216 5 rfl rfl (by decide) rfl ?_
              refine x_goto (tgt := 107) C dX9_weigh_219 (by decide) ?_
              exact x_sub [4, 5, 0] rfl (ih _ _ _ _ _ _ _ _ _ _ _ hF K)
            · replace hF := ifn hc hF
              refine x_aload_n C dX9_weigh_198 3 rfl ?_
              refine gf_X9_72 C 0 rfl rfl dX9_weigh_199 ?_
              refine x_iload_n C dX9_weigh_202 4 rfl ?_
              refine x_iload C dX9_weigh_203 0 rfl ?_
              obtain ⟨b18, hF⟩ := ck_s hF
              refine x_iast (ws2 := (mw κ q mth mn mib mpa mwi mch mst msz o10.2.1 o10.2.2.2.2.1 mps mbb mno mpk mtu mfo mbi mwr o10.2.2.1 o10.2.2.2.1 o10.2.2.2.2.2.1 o10.2.2.2.2.2.2.1 o10.2.2.2.2.2.2.2 mki mfr mde mbe mow (upd mco x1.toNatClampNeg o10.1) mpt mle mpl mit mro maw)) C 17 rfl b18 dX9_weigh_205 rfl ?_
              refine x_aload_n C dX9_weigh_206 3 rfl ?_
              refine gf_X9_75 C 0 rfl rfl dX9_weigh_207 ?_
              refine x_iload_n C dX9_weigh_210 4 rfl ?_
              refine x_iload_n C dX9_weigh_211 4 rfl ?_
              refine x_iload C dX9_weigh_212 5 rfl ?_
              refine x_isub C dX9_weigh_214 ?_
              obtain ⟨b19, hF⟩ := ck_s hF
              refine x_iast (ws2 := (mw κ q mth mn mib mpa mwi mch mst msz o10.2.1 o10.2.2.2.2.1 mps mbb mno mpk mtu mfo mbi mwr o10.2.2.1 o10.2.2.2.1 o10.2.2.2.2.2.1 o10.2.2.2.2.2.2.1 o10.2.2.2.2.2.2.2 mki mfr mde mbe mow (upd mco x1.toNatClampNeg o10.1) (upd mpt x1.toNatClampNeg (x1 - x4)) mle mpl mit mro maw)) C 18 rfl b19 dX9_weigh_215 rfl ?_
              refine x_iinc (v := x4 + 1) (lv2 := [(4, .int (x4 + 1)), (7, .int o10.1), (6, .int (1000000000 : Int32)), (5, .int o10.1), (0, .ref (q 0)), (1, .int x1)]) C dX9_weigh_216 5 rfl rfl (by decide) rfl ?_
              refine x_goto (tgt := 107) C dX9_weigh_219 (by decide) ?_
              exact x_sub [4, 5, 0] rfl (ih _ _ _ _ _ _ _ _ _ _ _ hF K)
        · replace hF := ifn hc hF
          refine x_aload_n C dX9_weigh_152 1 rfl ?_
          refine x_aload_n C dX9_weigh_153 1 rfl ?_
          refine gf_X9_13 C 0 rfl rfl dX9_weigh_154 ?_
          refine x_iload_n C dX9_weigh_157 2 rfl ?_
          refine x_iconst (v := 3) C dX9_weigh_158 (by decide) ?_
          refine x_iload C dX9_weigh_159 3 rfl ?_
          obtain ⟨o20, h21, hF⟩ := bd_s hF
          refine x_callVi (st := []) C (c_X9_bitsBy h21) xm_X9_bitsBy ml_X9_197 0 rfl rfl rfl rfl rfl rfl dX9_weigh_161 ⟨rfl, rfl⟩ ?_
          refine x_goto (tgt := 169) C dX9_weigh_164 (by decide) ?_
          refine x_istore (lv2 := [(6, .int o20.1), (5, .int o10.1), (0, .ref (q 0)), (1, .int x1), (4, .int x4)]) C dX9_weigh_169 (by decide) rfl ?_
          refine x_iload C dX9_weigh_171 1 rfl ?_
          refine x_iload C dX9_weigh_173 0 rfl ?_
          refine x_icmp_ge (tgt := 183) C dX9_weigh_175 (by decide) (fun hc => ?_) (fun hc => ?_)
          · replace hF := ifp hc hF
            refine x_iload C dX9_weigh_183 0 rfl ?_
            refine x_istore (lv2 := [(7, .int o20.1), (6, .int o20.1), (5, .int o10.1), (0, .ref (q 0)), (1, .int x1), (4, .int x4)]) C dX9_weigh_185 (by decide) rfl ?_
            refine x_iload C dX9_weigh_187 0 rfl ?_
            refine x_aload_n C dX9_weigh_189 3 rfl ?_
            refine gf_X9_72 C 0 rfl rfl dX9_weigh_190 ?_
            refine x_iload_n C dX9_weigh_193 4 rfl ?_
            obtain ⟨b22, hF⟩ := ck_s hF
            refine x_iald C 17 rfl b22 dX9_weigh_194 ?_
            refine x_icmp_ge (tgt := 216) C dX9_weigh_195 (by decide) (fun hc => ?_) (fun hc => ?_)
            · replace hF := ifp hc hF
              refine x_iinc (v := x4 + 1) (lv2 := [(4, .int (x4 + 1)), (7, .int o20.1), (6, .int o20.1), (5, .int o10.1), (0, .ref (q 0)), (1, .int x1)]) C dX9_weigh_216 5 rfl rfl (by decide) rfl ?_
              refine x_goto (tgt := 107) C dX9_weigh_219 (by decide) ?_
              exact x_sub [4, 5, 0] rfl (ih _ _ _ _ _ _ _ _ _ _ _ hF K)
            · replace hF := ifn hc hF
              refine x_aload_n C dX9_weigh_198 3 rfl ?_
              refine gf_X9_72 C 0 rfl rfl dX9_weigh_199 ?_
              refine x_iload_n C dX9_weigh_202 4 rfl ?_
              refine x_iload C dX9_weigh_203 0 rfl ?_
              obtain ⟨b23, hF⟩ := ck_s hF
              refine x_iast (ws2 := (mw κ q mth mn mib mpa mwi mch mst msz o20.2.1 o20.2.2.2.2.1 mps mbb mno mpk mtu mfo mbi mwr o20.2.2.1 o20.2.2.2.1 o20.2.2.2.2.2.1 o20.2.2.2.2.2.2.1 o20.2.2.2.2.2.2.2 mki mfr mde mbe mow (upd mco x1.toNatClampNeg o20.1) mpt mle mpl mit mro maw)) C 17 rfl b23 dX9_weigh_205 rfl ?_
              refine x_aload_n C dX9_weigh_206 3 rfl ?_
              refine gf_X9_75 C 0 rfl rfl dX9_weigh_207 ?_
              refine x_iload_n C dX9_weigh_210 4 rfl ?_
              refine x_iload_n C dX9_weigh_211 4 rfl ?_
              refine x_iload C dX9_weigh_212 5 rfl ?_
              refine x_isub C dX9_weigh_214 ?_
              obtain ⟨b24, hF⟩ := ck_s hF
              refine x_iast (ws2 := (mw κ q mth mn mib mpa mwi mch mst msz o20.2.1 o20.2.2.2.2.1 mps mbb mno mpk mtu mfo mbi mwr o20.2.2.1 o20.2.2.2.1 o20.2.2.2.2.2.1 o20.2.2.2.2.2.2.1 o20.2.2.2.2.2.2.2 mki mfr mde mbe mow (upd mco x1.toNatClampNeg o20.1) (upd mpt x1.toNatClampNeg (x1 - x4)) mle mpl mit mro maw)) C 18 rfl b24 dX9_weigh_215 rfl ?_
              refine x_iinc (v := x4 + 1) (lv2 := [(4, .int (x4 + 1)), (7, .int o20.1), (6, .int o20.1), (5, .int o10.1), (0, .ref (q 0)), (1, .int x1)]) C dX9_weigh_216 5 rfl rfl (by decide) rfl ?_
              refine x_goto (tgt := 107) C dX9_weigh_219 (by decide) ?_
              exact x_sub [4, 5, 0] rfl (ih _ _ _ _ _ _ _ _ _ _ _ hF K)
          · replace hF := ifn hc hF
            refine x_iload C dX9_weigh_178 1 rfl ?_
            refine x_goto (tgt := 185) C dX9_weigh_180 (by decide) ?_
            refine x_istore (lv2 := [(7, .int o10.1), (6, .int o20.1), (5, .int o10.1), (0, .ref (q 0)), (1, .int x1), (4, .int x4)]) C dX9_weigh_185 (by decide) rfl ?_
            refine x_iload C dX9_weigh_187 0 rfl ?_
            refine x_aload_n C dX9_weigh_189 3 rfl ?_
            refine gf_X9_72 C 0 rfl rfl dX9_weigh_190 ?_
            refine x_iload_n C dX9_weigh_193 4 rfl ?_
            obtain ⟨b25, hF⟩ := ck_s hF
            refine x_iald C 17 rfl b25 dX9_weigh_194 ?_
            refine x_icmp_ge (tgt := 216) C dX9_weigh_195 (by decide) (fun hc => ?_) (fun hc => ?_)
            · replace hF := ifp hc hF
              refine x_iinc (v := x4 + 1) (lv2 := [(4, .int (x4 + 1)), (7, .int o10.1), (6, .int o20.1), (5, .int o10.1), (0, .ref (q 0)), (1, .int x1)]) C dX9_weigh_216 5 rfl rfl (by decide) rfl ?_
              refine x_goto (tgt := 107) C dX9_weigh_219 (by decide) ?_
              exact x_sub [4, 5, 0] rfl (ih _ _ _ _ _ _ _ _ _ _ _ hF K)
            · replace hF := ifn hc hF
              refine x_aload_n C dX9_weigh_198 3 rfl ?_
              refine gf_X9_72 C 0 rfl rfl dX9_weigh_199 ?_
              refine x_iload_n C dX9_weigh_202 4 rfl ?_
              refine x_iload C dX9_weigh_203 0 rfl ?_
              obtain ⟨b26, hF⟩ := ck_s hF
              refine x_iast (ws2 := (mw κ q mth mn mib mpa mwi mch mst msz o20.2.1 o20.2.2.2.2.1 mps mbb mno mpk mtu mfo mbi mwr o20.2.2.1 o20.2.2.2.1 o20.2.2.2.2.2.1 o20.2.2.2.2.2.2.1 o20.2.2.2.2.2.2.2 mki mfr mde mbe mow (upd mco x1.toNatClampNeg o10.1) mpt mle mpl mit mro maw)) C 17 rfl b26 dX9_weigh_205 rfl ?_
              refine x_aload_n C dX9_weigh_206 3 rfl ?_
              refine gf_X9_75 C 0 rfl rfl dX9_weigh_207 ?_
              refine x_iload_n C dX9_weigh_210 4 rfl ?_
              refine x_iload_n C dX9_weigh_211 4 rfl ?_
              refine x_iload C dX9_weigh_212 5 rfl ?_
              refine x_isub C dX9_weigh_214 ?_
              obtain ⟨b27, hF⟩ := ck_s hF
              refine x_iast (ws2 := (mw κ q mth mn mib mpa mwi mch mst msz o20.2.1 o20.2.2.2.2.1 mps mbb mno mpk mtu mfo mbi mwr o20.2.2.1 o20.2.2.2.1 o20.2.2.2.2.2.1 o20.2.2.2.2.2.2.1 o20.2.2.2.2.2.2.2 mki mfr mde mbe mow (upd mco x1.toNatClampNeg o10.1) (upd mpt x1.toNatClampNeg (x1 - x4)) mle mpl mit mro maw)) C 18 rfl b27 dX9_weigh_215 rfl ?_
              refine x_iinc (v := x4 + 1) (lv2 := [(4, .int (x4 + 1)), (7, .int o10.1), (6, .int o20.1), (5, .int o10.1), (0, .ref (q 0)), (1, .int x1)]) C dX9_weigh_216 5 rfl rfl (by decide) rfl ?_
              refine x_goto (tgt := 107) C dX9_weigh_219 (by decide) ?_
              exact x_sub [4, 5, 0] rfl (ih _ _ _ _ _ _ _ _ _ _ _ hF K)
set_option maxHeartbeats 4000000 in
set_option maxRecDepth 100000 in
theorem c_X9_weigh {κ : xb_k} {q : Nat → Nat} {mth : Int32} {mn : Int32} {mib : Int32} {mpa : Int32} {mwi : Int32} {mch : Int32} {mst : Int32} {msz : Int32} {mns : Int32} {mld : Int32} {mps : Int32} {mbb : Int32} {mno : (Nat → Int32)} {mpk : (Nat → Int32)} {mtu : (Nat → Int32)} {mfo : (Nat → Int32)} {mbi : (Nat → Int32)} {mwr : (Nat → Int32)} {mus : (Nat → Int32)} {mnu : (Nat → Int32)} {mli : (Nat → Int32)} {mot : (Nat → Int32)} {mbl : (Nat → Int32)} {mki : (Nat → Int32)} {mfr : (Nat → Int32)} {mde : (Nat → Int32)} {mbe : (Nat → Int32)} {mow : (Nat → Int32)} {mco : (Nat → Int32)} {mpt : (Nat → Int32)} {mle : (Nat → Int32)} {mpl : (Nat → Int32)} {mit : (Nat → Int32)} {mro : (Nat → Int32)} {maw : (Nat → Int32)} {x1 : Int32} {fu : Nat} {o : Int32 × (Nat → Int32) × (Nat → Int32) × Int32 × (Nat → Int32) × (Nat → Int32) × (Nat → Int32) × (Nat → Int32) × (Nat → Int32) × (Nat → Int32)} (hF : F_X9_weigh fu x1 mns mus mnu mld mn mno mli mot mbl mfo mow mpt mco mwi = some o) : Met κ.1 yX9_weigh [Cond.code yX9_weigh cX9_weigh 8 none] { frames := 6, cells := 0, slots := 0, locals := 146 } (xb_P κ [.ref (q 0), .int x1] (mw κ q mth mn mib mpa mwi mch mst msz mns mld mps mbb mno mpk mtu mfo mbi mwr mus mnu mli mot mbl mki mfr mde mbe mow mco mpt mle mpl mit mro maw)) (xb_Qv κ (mw κ q mth mn mib mpa mwi mch mst msz o.1 o.2.2.2.1 mps mbb mno mpk mtu mfo mbi mwr o.2.1 o.2.2.1 o.2.2.2.2.1 o.2.2.2.2.2.1 o.2.2.2.2.2.2.1 mki mfr mde mbe o.2.2.2.2.2.2.2.1 o.2.2.2.2.2.2.2.2.2 o.2.2.2.2.2.2.2.2.1 mle mpl mit mro maw)) 0 0 κ.2.2.1 := by
  refine x_enter (own := RX9) (lv0 := [(0, .ref (q 0)), (1, .int x1)]) (by decide) rfl rfl rfl (fun Γ C E => ?_)
  unfold F_X9_weigh at hF
  refine x_aload_n C dX9_weigh_0 0 rfl ?_
  refine x_aload_n C dX9_weigh_1 0 rfl ?_
  refine gf_X9_13 C 0 rfl rfl dX9_weigh_2 ?_
  refine x_iload_n C dX9_weigh_5 1 rfl ?_
  refine x_iconst (v := 0) C dX9_weigh_6 (by decide) ?_
  refine x_iconst (v := 0) C dX9_weigh_7 (by decide) ?_
  obtain ⟨o1, h2, hF⟩ := bd_s hF
  refine x_callVi (st := []) C (c_X9_bitsBy h2) xm_X9_bitsBy ml_X9_197 0 rfl rfl rfl rfl rfl rfl dX9_weigh_8 ⟨rfl, rfl⟩ ?_
  refine x_istore_n (lv2 := [(2, .int o1.1), (0, .ref (q 0)), (1, .int x1)]) C dX9_weigh_11 rfl (by decide) rfl ?_
  refine x_aload_n C dX9_weigh_12 1 rfl ?_
  refine x_aload_n C dX9_weigh_13 1 rfl ?_
  refine gf_X9_13 C 0 rfl rfl dX9_weigh_14 ?_
  refine x_iload_n C dX9_weigh_17 2 rfl ?_
  refine x_iconst (v := 1) C dX9_weigh_18 (by decide) ?_
  refine x_iconst (v := 0) C dX9_weigh_19 (by decide) ?_
  obtain ⟨o3, h4, hF⟩ := bd_s hF
  refine x_callVi (st := []) C (c_X9_bitsBy h4) xm_X9_bitsBy ml_X9_197 0 rfl rfl rfl rfl rfl rfl dX9_weigh_20 ⟨rfl, rfl⟩ ?_
  refine x_istore_n (lv2 := [(3, .int o3.1), (2, .int o1.1), (0, .ref (q 0)), (1, .int x1)]) C dX9_weigh_23 rfl (by decide) rfl ?_
  refine x_aload_n C dX9_weigh_24 2 rfl ?_
  refine gf_X9_69 C 0 rfl rfl dX9_weigh_25 ?_
  refine x_iload_n C dX9_weigh_28 3 rfl ?_
  refine x_iload_n C dX9_weigh_29 1 rfl ?_
  refine x_iload_n C dX9_weigh_30 0 rfl ?_
  refine x_icmp_ge (tgt := 38) C dX9_weigh_31 (by decide) (fun hc => ?_) (fun hc => ?_)
  · replace hF := ifp hc hF
    refine x_iload_n C dX9_weigh_38 0 rfl ?_
    obtain ⟨b5, hF⟩ := ck_s hF
    refine x_iast (ws2 := (mw κ q mth mn mib mpa mwi mch mst msz o3.2.1 o3.2.2.2.2.1 mps mbb mno mpk mtu mfo mbi mwr o3.2.2.1 o3.2.2.2.1 o3.2.2.2.2.2.1 o3.2.2.2.2.2.2.1 o3.2.2.2.2.2.2.2 mki mfr mde mbe (upd mow x1.toNatClampNeg o3.1) mco mpt mle mpl mit mro maw)) C 16 rfl b5 dX9_weigh_39 rfl ?_
    refine x_aload_n C dX9_weigh_40 2 rfl ?_
    refine x_iload_n C dX9_weigh_41 3 rfl ?_
    obtain ⟨o6, h7, hF⟩ := bd_s hF
    refine x_callVi (st := []) C (c_X9_rowSize h7) xm_X9_rowSize ml_X9_115 0 rfl rfl rfl rfl rfl rfl dX9_weigh_42 ⟨rfl, rfl⟩ ?_
    refine x_if_le (tgt := 89) C dX9_weigh_45 (by decide) (fun hc => ?_) (fun hc => ?_)
    · replace hF := ifp hc hF
      refine x_aload_n C dX9_weigh_89 2 rfl ?_
      refine gf_X9_75 C 0 rfl rfl dX9_weigh_90 ?_
      refine x_iload_n C dX9_weigh_93 3 rfl ?_
      refine x_iconst (v := (-1)) C dX9_weigh_94 (by decide) ?_
      obtain ⟨b8, hF⟩ := ck_s hF
      refine x_iast (ws2 := (mw κ q mth mn mib mpa mwi mch mst msz o3.2.1 o3.2.2.2.2.1 mps mbb mno mpk mtu mfo mbi mwr o3.2.2.1 o3.2.2.2.1 o3.2.2.2.2.2.1 o3.2.2.2.2.2.2.1 o3.2.2.2.2.2.2.2 mki mfr mde mbe (upd mow x1.toNatClampNeg o3.1) mco (upd mpt x1.toNatClampNeg (-1 : Int32)) mle mpl mit mro maw)) C 18 rfl b8 dX9_weigh_95 rfl ?_
      refine x_aload_n C dX9_weigh_96 2 rfl ?_
      refine gf_X9_72 C 0 rfl rfl dX9_weigh_97 ?_
      refine x_iload_n C dX9_weigh_100 3 rfl ?_
      refine x_ldc C dX9_weigh_101 kk_X9_226 ?_
      obtain ⟨b9, hF⟩ := ck_s hF
      refine x_iast (ws2 := (mw κ q mth mn mib mpa mwi mch mst msz o3.2.1 o3.2.2.2.2.1 mps mbb mno mpk mtu mfo mbi mwr o3.2.2.1 o3.2.2.2.1 o3.2.2.2.2.2.1 o3.2.2.2.2.2.2.1 o3.2.2.2.2.2.2.2 mki mfr mde mbe (upd mow x1.toNatClampNeg o3.1) (upd mco x1.toNatClampNeg (1000000000 : Int32)) (upd mpt x1.toNatClampNeg (-1 : Int32)) mle mpl mit mro maw)) C 17 rfl b9 dX9_weigh_103 rfl ?_
      refine x_iconst (v := 1) C dX9_weigh_104 (by decide) ?_
      refine x_istore (lv2 := [(4, .int (1 : Int32)), (3, .int o3.1), (2, .int o1.1), (0, .ref (q 0)), (1, .int x1)]) C dX9_weigh_105 (by decide) rfl ?_
      obtain ⟨o28, h29, hF⟩ := bd_s hF
      refine x_sub [3, 4, 0] rfl (w_X9_weigh_L107 C fu _ _ _ _ _ _ _ _ _ _ _ h29 ?_)
      cases hF
      exact x_vret C E dX9_weigh_222
    · replace hF := ifn hc hF
      refine x_aload_n C dX9_weigh_48 2 rfl ?_
      refine x_aload_n C dX9_weigh_49 2 rfl ?_
      refine gf_X9_13 C 0 rfl rfl dX9_weigh_50 ?_
      refine x_iload_n C dX9_weigh_53 3 rfl ?_
      refine x_iconst (v := 4) C dX9_weigh_54 (by decide) ?_
      refine x_iconst (v := 0) C dX9_weigh_55 (by decide) ?_
      obtain ⟨o30, h31, hF⟩ := bd_s hF
      refine x_callVi (st := []) C (c_X9_bitsBy h31) xm_X9_bitsBy ml_X9_197 0 rfl rfl rfl rfl rfl rfl dX9_weigh_56 ⟨rfl, rfl⟩ ?_
      refine x_istore (lv2 := [(4, .int o30.1), (3, .int o3.1), (2, .int o1.1), (0, .ref (q 0)), (1, .int x1)]) C dX9_weigh_59 (by decide) rfl ?_
      refine x_aload_n C dX9_weigh_61 3 rfl ?_
      refine gf_X9_69 C 0 rfl rfl dX9_weigh_62 ?_
      refine x_iload_n C dX9_weigh_65 4 rfl ?_
      refine x_iload C dX9_weigh_66 0 rfl ?_
      refine x_aload_n C dX9_weigh_68 3 rfl ?_
      refine gf_X9_69 C 0 rfl rfl dX9_weigh_69 ?_
      refine x_iload_n C dX9_weigh_72 4 rfl ?_
      obtain ⟨b32, hF⟩ := ck_s hF
      refine x_iald C 16 rfl b32 dX9_weigh_73 ?_
      refine x_icmp_ge (tgt := 82) C dX9_weigh_74 (by decide) (fun hc => ?_) (fun hc => ?_)
      · replace hF := ifp hc hF
        refine x_aload_n C dX9_weigh_82 3 rfl ?_
        refine gf_X9_69 C 0 rfl rfl dX9_weigh_83 ?_
        refine x_iload_n C dX9_weigh_86 4 rfl ?_
        obtain ⟨b33, hF⟩ := ck_s hF
        refine x_iald C 16 rfl b33 dX9_weigh_87 ?_
        obtain ⟨b34, hF⟩ := ck_s hF
        refine x_iast (ws2 := (mw κ q mth mn mib mpa mwi mch mst msz o30.2.1 o30.2.2.2.2.1 mps mbb mno mpk mtu mfo mbi mwr o30.2.2.1 o30.2.2.2.1 o30.2.2.2.2.2.1 o30.2.2.2.2.2.2.1 o30.2.2.2.2.2.2.2 mki mfr mde mbe (upd (upd mow x1.toNatClampNeg o3.1) x1.toNatClampNeg ((upd mow x1.toNatClampNeg o3.1) x1.toNatClampNeg)) mco mpt mle mpl mit mro maw)) C 16 rfl b34 dX9_weigh_88 rfl ?_
        refine x_aload_n C dX9_weigh_89 3 rfl ?_
        refine gf_X9_75 C 0 rfl rfl dX9_weigh_90 ?_
        refine x_iload_n C dX9_weigh_93 4 rfl ?_
        refine x_iconst (v := (-1)) C dX9_weigh_94 (by decide) ?_
        obtain ⟨b35, hF⟩ := ck_s hF
        refine x_iast (ws2 := (mw κ q mth mn mib mpa mwi mch mst msz o30.2.1 o30.2.2.2.2.1 mps mbb mno mpk mtu mfo mbi mwr o30.2.2.1 o30.2.2.2.1 o30.2.2.2.2.2.1 o30.2.2.2.2.2.2.1 o30.2.2.2.2.2.2.2 mki mfr mde mbe (upd (upd mow x1.toNatClampNeg o3.1) x1.toNatClampNeg ((upd mow x1.toNatClampNeg o3.1) x1.toNatClampNeg)) mco (upd mpt x1.toNatClampNeg (-1 : Int32)) mle mpl mit mro maw)) C 18 rfl b35 dX9_weigh_95 rfl ?_
        refine x_aload_n C dX9_weigh_96 3 rfl ?_
        refine gf_X9_72 C 0 rfl rfl dX9_weigh_97 ?_
        refine x_iload_n C dX9_weigh_100 4 rfl ?_
        refine x_ldc C dX9_weigh_101 kk_X9_226 ?_
        obtain ⟨b36, hF⟩ := ck_s hF
        refine x_iast (ws2 := (mw κ q mth mn mib mpa mwi mch mst msz o30.2.1 o30.2.2.2.2.1 mps mbb mno mpk mtu mfo mbi mwr o30.2.2.1 o30.2.2.2.1 o30.2.2.2.2.2.1 o30.2.2.2.2.2.2.1 o30.2.2.2.2.2.2.2 mki mfr mde mbe (upd (upd mow x1.toNatClampNeg o3.1) x1.toNatClampNeg ((upd mow x1.toNatClampNeg o3.1) x1.toNatClampNeg)) (upd mco x1.toNatClampNeg (1000000000 : Int32)) (upd mpt x1.toNatClampNeg (-1 : Int32)) mle mpl mit mro maw)) C 17 rfl b36 dX9_weigh_103 rfl ?_
        refine x_iconst (v := 1) C dX9_weigh_104 (by decide) ?_
        refine x_istore (lv2 := [(4, .int (1 : Int32)), (3, .int o3.1), (2, .int o1.1), (0, .ref (q 0)), (1, .int x1)]) C dX9_weigh_105 (by decide) rfl ?_
        obtain ⟨o37, h38, hF⟩ := bd_s hF
        refine x_sub [3, 4, 0] rfl (w_X9_weigh_L107 C fu _ _ _ _ _ _ _ _ _ _ _ h38 ?_)
        cases hF
        exact x_vret C E dX9_weigh_222
      · replace hF := ifn hc hF
        refine x_iload C dX9_weigh_77 0 rfl ?_
        refine x_goto (tgt := 88) C dX9_weigh_79 (by decide) ?_
        obtain ⟨b39, hF⟩ := ck_s hF
        refine x_iast (ws2 := (mw κ q mth mn mib mpa mwi mch mst msz o30.2.1 o30.2.2.2.2.1 mps mbb mno mpk mtu mfo mbi mwr o30.2.2.1 o30.2.2.2.1 o30.2.2.2.2.2.1 o30.2.2.2.2.2.2.1 o30.2.2.2.2.2.2.2 mki mfr mde mbe (upd (upd mow x1.toNatClampNeg o3.1) x1.toNatClampNeg o30.1) mco mpt mle mpl mit mro maw)) C 16 rfl b39 dX9_weigh_88 rfl ?_
        refine x_aload_n C dX9_weigh_89 3 rfl ?_
        refine gf_X9_75 C 0 rfl rfl dX9_weigh_90 ?_
        refine x_iload_n C dX9_weigh_93 4 rfl ?_
        refine x_iconst (v := (-1)) C dX9_weigh_94 (by decide) ?_
        obtain ⟨b40, hF⟩ := ck_s hF
        refine x_iast (ws2 := (mw κ q mth mn mib mpa mwi mch mst msz o30.2.1 o30.2.2.2.2.1 mps mbb mno mpk mtu mfo mbi mwr o30.2.2.1 o30.2.2.2.1 o30.2.2.2.2.2.1 o30.2.2.2.2.2.2.1 o30.2.2.2.2.2.2.2 mki mfr mde mbe (upd (upd mow x1.toNatClampNeg o3.1) x1.toNatClampNeg o30.1) mco (upd mpt x1.toNatClampNeg (-1 : Int32)) mle mpl mit mro maw)) C 18 rfl b40 dX9_weigh_95 rfl ?_
        refine x_aload_n C dX9_weigh_96 3 rfl ?_
        refine gf_X9_72 C 0 rfl rfl dX9_weigh_97 ?_
        refine x_iload_n C dX9_weigh_100 4 rfl ?_
        refine x_ldc C dX9_weigh_101 kk_X9_226 ?_
        obtain ⟨b41, hF⟩ := ck_s hF
        refine x_iast (ws2 := (mw κ q mth mn mib mpa mwi mch mst msz o30.2.1 o30.2.2.2.2.1 mps mbb mno mpk mtu mfo mbi mwr o30.2.2.1 o30.2.2.2.1 o30.2.2.2.2.2.1 o30.2.2.2.2.2.2.1 o30.2.2.2.2.2.2.2 mki mfr mde mbe (upd (upd mow x1.toNatClampNeg o3.1) x1.toNatClampNeg o30.1) (upd mco x1.toNatClampNeg (1000000000 : Int32)) (upd mpt x1.toNatClampNeg (-1 : Int32)) mle mpl mit mro maw)) C 17 rfl b41 dX9_weigh_103 rfl ?_
        refine x_iconst (v := 1) C dX9_weigh_104 (by decide) ?_
        refine x_istore (lv2 := [(4, .int (1 : Int32)), (3, .int o3.1), (2, .int o1.1), (0, .ref (q 0)), (1, .int x1)]) C dX9_weigh_105 (by decide) rfl ?_
        obtain ⟨o42, h43, hF⟩ := bd_s hF
        refine x_sub [3, 4, 0] rfl (w_X9_weigh_L107 C fu _ _ _ _ _ _ _ _ _ _ _ h43 ?_)
        cases hF
        exact x_vret C E dX9_weigh_222
  · replace hF := ifn hc hF
    refine x_iload_n C dX9_weigh_34 1 rfl ?_
    refine x_goto (tgt := 39) C dX9_weigh_35 (by decide) ?_
    obtain ⟨b44, hF⟩ := ck_s hF
    refine x_iast (ws2 := (mw κ q mth mn mib mpa mwi mch mst msz o3.2.1 o3.2.2.2.2.1 mps mbb mno mpk mtu mfo mbi mwr o3.2.2.1 o3.2.2.2.1 o3.2.2.2.2.2.1 o3.2.2.2.2.2.2.1 o3.2.2.2.2.2.2.2 mki mfr mde mbe (upd mow x1.toNatClampNeg o1.1) mco mpt mle mpl mit mro maw)) C 16 rfl b44 dX9_weigh_39 rfl ?_
    refine x_aload_n C dX9_weigh_40 2 rfl ?_
    refine x_iload_n C dX9_weigh_41 3 rfl ?_
    obtain ⟨o45, h46, hF⟩ := bd_s hF
    refine x_callVi (st := []) C (c_X9_rowSize h46) xm_X9_rowSize ml_X9_115 0 rfl rfl rfl rfl rfl rfl dX9_weigh_42 ⟨rfl, rfl⟩ ?_
    refine x_if_le (tgt := 89) C dX9_weigh_45 (by decide) (fun hc => ?_) (fun hc => ?_)
    · replace hF := ifp hc hF
      refine x_aload_n C dX9_weigh_89 2 rfl ?_
      refine gf_X9_75 C 0 rfl rfl dX9_weigh_90 ?_
      refine x_iload_n C dX9_weigh_93 3 rfl ?_
      refine x_iconst (v := (-1)) C dX9_weigh_94 (by decide) ?_
      obtain ⟨b47, hF⟩ := ck_s hF
      refine x_iast (ws2 := (mw κ q mth mn mib mpa mwi mch mst msz o3.2.1 o3.2.2.2.2.1 mps mbb mno mpk mtu mfo mbi mwr o3.2.2.1 o3.2.2.2.1 o3.2.2.2.2.2.1 o3.2.2.2.2.2.2.1 o3.2.2.2.2.2.2.2 mki mfr mde mbe (upd mow x1.toNatClampNeg o1.1) mco (upd mpt x1.toNatClampNeg (-1 : Int32)) mle mpl mit mro maw)) C 18 rfl b47 dX9_weigh_95 rfl ?_
      refine x_aload_n C dX9_weigh_96 2 rfl ?_
      refine gf_X9_72 C 0 rfl rfl dX9_weigh_97 ?_
      refine x_iload_n C dX9_weigh_100 3 rfl ?_
      refine x_ldc C dX9_weigh_101 kk_X9_226 ?_
      obtain ⟨b48, hF⟩ := ck_s hF
      refine x_iast (ws2 := (mw κ q mth mn mib mpa mwi mch mst msz o3.2.1 o3.2.2.2.2.1 mps mbb mno mpk mtu mfo mbi mwr o3.2.2.1 o3.2.2.2.1 o3.2.2.2.2.2.1 o3.2.2.2.2.2.2.1 o3.2.2.2.2.2.2.2 mki mfr mde mbe (upd mow x1.toNatClampNeg o1.1) (upd mco x1.toNatClampNeg (1000000000 : Int32)) (upd mpt x1.toNatClampNeg (-1 : Int32)) mle mpl mit mro maw)) C 17 rfl b48 dX9_weigh_103 rfl ?_
      refine x_iconst (v := 1) C dX9_weigh_104 (by decide) ?_
      refine x_istore (lv2 := [(4, .int (1 : Int32)), (3, .int o3.1), (2, .int o1.1), (0, .ref (q 0)), (1, .int x1)]) C dX9_weigh_105 (by decide) rfl ?_
      obtain ⟨o49, h50, hF⟩ := bd_s hF
      refine x_sub [3, 4, 0] rfl (w_X9_weigh_L107 C fu _ _ _ _ _ _ _ _ _ _ _ h50 ?_)
      cases hF
      exact x_vret C E dX9_weigh_222
    · replace hF := ifn hc hF
      refine x_aload_n C dX9_weigh_48 2 rfl ?_
      refine x_aload_n C dX9_weigh_49 2 rfl ?_
      refine gf_X9_13 C 0 rfl rfl dX9_weigh_50 ?_
      refine x_iload_n C dX9_weigh_53 3 rfl ?_
      refine x_iconst (v := 4) C dX9_weigh_54 (by decide) ?_
      refine x_iconst (v := 0) C dX9_weigh_55 (by decide) ?_
      obtain ⟨o51, h52, hF⟩ := bd_s hF
      refine x_callVi (st := []) C (c_X9_bitsBy h52) xm_X9_bitsBy ml_X9_197 0 rfl rfl rfl rfl rfl rfl dX9_weigh_56 ⟨rfl, rfl⟩ ?_
      refine x_istore (lv2 := [(4, .int o51.1), (3, .int o3.1), (2, .int o1.1), (0, .ref (q 0)), (1, .int x1)]) C dX9_weigh_59 (by decide) rfl ?_
      refine x_aload_n C dX9_weigh_61 3 rfl ?_
      refine gf_X9_69 C 0 rfl rfl dX9_weigh_62 ?_
      refine x_iload_n C dX9_weigh_65 4 rfl ?_
      refine x_iload C dX9_weigh_66 0 rfl ?_
      refine x_aload_n C dX9_weigh_68 3 rfl ?_
      refine gf_X9_69 C 0 rfl rfl dX9_weigh_69 ?_
      refine x_iload_n C dX9_weigh_72 4 rfl ?_
      obtain ⟨b53, hF⟩ := ck_s hF
      refine x_iald C 16 rfl b53 dX9_weigh_73 ?_
      refine x_icmp_ge (tgt := 82) C dX9_weigh_74 (by decide) (fun hc => ?_) (fun hc => ?_)
      · replace hF := ifp hc hF
        refine x_aload_n C dX9_weigh_82 3 rfl ?_
        refine gf_X9_69 C 0 rfl rfl dX9_weigh_83 ?_
        refine x_iload_n C dX9_weigh_86 4 rfl ?_
        obtain ⟨b54, hF⟩ := ck_s hF
        refine x_iald C 16 rfl b54 dX9_weigh_87 ?_
        obtain ⟨b55, hF⟩ := ck_s hF
        refine x_iast (ws2 := (mw κ q mth mn mib mpa mwi mch mst msz o51.2.1 o51.2.2.2.2.1 mps mbb mno mpk mtu mfo mbi mwr o51.2.2.1 o51.2.2.2.1 o51.2.2.2.2.2.1 o51.2.2.2.2.2.2.1 o51.2.2.2.2.2.2.2 mki mfr mde mbe (upd (upd mow x1.toNatClampNeg o1.1) x1.toNatClampNeg ((upd mow x1.toNatClampNeg o1.1) x1.toNatClampNeg)) mco mpt mle mpl mit mro maw)) C 16 rfl b55 dX9_weigh_88 rfl ?_
        refine x_aload_n C dX9_weigh_89 3 rfl ?_
        refine gf_X9_75 C 0 rfl rfl dX9_weigh_90 ?_
        refine x_iload_n C dX9_weigh_93 4 rfl ?_
        refine x_iconst (v := (-1)) C dX9_weigh_94 (by decide) ?_
        obtain ⟨b56, hF⟩ := ck_s hF
        refine x_iast (ws2 := (mw κ q mth mn mib mpa mwi mch mst msz o51.2.1 o51.2.2.2.2.1 mps mbb mno mpk mtu mfo mbi mwr o51.2.2.1 o51.2.2.2.1 o51.2.2.2.2.2.1 o51.2.2.2.2.2.2.1 o51.2.2.2.2.2.2.2 mki mfr mde mbe (upd (upd mow x1.toNatClampNeg o1.1) x1.toNatClampNeg ((upd mow x1.toNatClampNeg o1.1) x1.toNatClampNeg)) mco (upd mpt x1.toNatClampNeg (-1 : Int32)) mle mpl mit mro maw)) C 18 rfl b56 dX9_weigh_95 rfl ?_
        refine x_aload_n C dX9_weigh_96 3 rfl ?_
        refine gf_X9_72 C 0 rfl rfl dX9_weigh_97 ?_
        refine x_iload_n C dX9_weigh_100 4 rfl ?_
        refine x_ldc C dX9_weigh_101 kk_X9_226 ?_
        obtain ⟨b57, hF⟩ := ck_s hF
        refine x_iast (ws2 := (mw κ q mth mn mib mpa mwi mch mst msz o51.2.1 o51.2.2.2.2.1 mps mbb mno mpk mtu mfo mbi mwr o51.2.2.1 o51.2.2.2.1 o51.2.2.2.2.2.1 o51.2.2.2.2.2.2.1 o51.2.2.2.2.2.2.2 mki mfr mde mbe (upd (upd mow x1.toNatClampNeg o1.1) x1.toNatClampNeg ((upd mow x1.toNatClampNeg o1.1) x1.toNatClampNeg)) (upd mco x1.toNatClampNeg (1000000000 : Int32)) (upd mpt x1.toNatClampNeg (-1 : Int32)) mle mpl mit mro maw)) C 17 rfl b57 dX9_weigh_103 rfl ?_
        refine x_iconst (v := 1) C dX9_weigh_104 (by decide) ?_
        refine x_istore (lv2 := [(4, .int (1 : Int32)), (3, .int o3.1), (2, .int o1.1), (0, .ref (q 0)), (1, .int x1)]) C dX9_weigh_105 (by decide) rfl ?_
        obtain ⟨o58, h59, hF⟩ := bd_s hF
        refine x_sub [3, 4, 0] rfl (w_X9_weigh_L107 C fu _ _ _ _ _ _ _ _ _ _ _ h59 ?_)
        cases hF
        exact x_vret C E dX9_weigh_222
      · replace hF := ifn hc hF
        refine x_iload C dX9_weigh_77 0 rfl ?_
        refine x_goto (tgt := 88) C dX9_weigh_79 (by decide) ?_
        obtain ⟨b60, hF⟩ := ck_s hF
        refine x_iast (ws2 := (mw κ q mth mn mib mpa mwi mch mst msz o51.2.1 o51.2.2.2.2.1 mps mbb mno mpk mtu mfo mbi mwr o51.2.2.1 o51.2.2.2.1 o51.2.2.2.2.2.1 o51.2.2.2.2.2.2.1 o51.2.2.2.2.2.2.2 mki mfr mde mbe (upd (upd mow x1.toNatClampNeg o1.1) x1.toNatClampNeg o51.1) mco mpt mle mpl mit mro maw)) C 16 rfl b60 dX9_weigh_88 rfl ?_
        refine x_aload_n C dX9_weigh_89 3 rfl ?_
        refine gf_X9_75 C 0 rfl rfl dX9_weigh_90 ?_
        refine x_iload_n C dX9_weigh_93 4 rfl ?_
        refine x_iconst (v := (-1)) C dX9_weigh_94 (by decide) ?_
        obtain ⟨b61, hF⟩ := ck_s hF
        refine x_iast (ws2 := (mw κ q mth mn mib mpa mwi mch mst msz o51.2.1 o51.2.2.2.2.1 mps mbb mno mpk mtu mfo mbi mwr o51.2.2.1 o51.2.2.2.1 o51.2.2.2.2.2.1 o51.2.2.2.2.2.2.1 o51.2.2.2.2.2.2.2 mki mfr mde mbe (upd (upd mow x1.toNatClampNeg o1.1) x1.toNatClampNeg o51.1) mco (upd mpt x1.toNatClampNeg (-1 : Int32)) mle mpl mit mro maw)) C 18 rfl b61 dX9_weigh_95 rfl ?_
        refine x_aload_n C dX9_weigh_96 3 rfl ?_
        refine gf_X9_72 C 0 rfl rfl dX9_weigh_97 ?_
        refine x_iload_n C dX9_weigh_100 4 rfl ?_
        refine x_ldc C dX9_weigh_101 kk_X9_226 ?_
        obtain ⟨b62, hF⟩ := ck_s hF
        refine x_iast (ws2 := (mw κ q mth mn mib mpa mwi mch mst msz o51.2.1 o51.2.2.2.2.1 mps mbb mno mpk mtu mfo mbi mwr o51.2.2.1 o51.2.2.2.1 o51.2.2.2.2.2.1 o51.2.2.2.2.2.2.1 o51.2.2.2.2.2.2.2 mki mfr mde mbe (upd (upd mow x1.toNatClampNeg o1.1) x1.toNatClampNeg o51.1) (upd mco x1.toNatClampNeg (1000000000 : Int32)) (upd mpt x1.toNatClampNeg (-1 : Int32)) mle mpl mit mro maw)) C 17 rfl b62 dX9_weigh_103 rfl ?_
        refine x_iconst (v := 1) C dX9_weigh_104 (by decide) ?_
        refine x_istore (lv2 := [(4, .int (1 : Int32)), (3, .int o3.1), (2, .int o1.1), (0, .ref (q 0)), (1, .int x1)]) C dX9_weigh_105 (by decide) rfl ?_
        obtain ⟨o63, h64, hF⟩ := bd_s hF
        refine x_sub [3, 4, 0] rfl (w_X9_weigh_L107 C fu _ _ _ _ _ _ _ _ _ _ _ h64 ?_)
        cases hF
        exact x_vret C E dX9_weigh_222
set_option maxHeartbeats 4000000 in
set_option maxRecDepth 100000 in
theorem w_X9_best_L7 {κ : xb_k} {Γ : xb_X} {q : Nat → Nat} {mth : Int32} {mn : Int32} {mib : Int32} {mpa : Int32} {mwi : Int32} {mch : Int32} {mst : Int32} {msz : Int32} {mps : Int32} {mbb : Int32} {mno : (Nat → Int32)} {mpk : (Nat → Int32)} {mtu : (Nat → Int32)} {mfo : (Nat → Int32)} {mbi : (Nat → Int32)} {mwr : (Nat → Int32)} {mki : (Nat → Int32)} {mfr : (Nat → Int32)} {mde : (Nat → Int32)} {mbe : (Nat → Int32)} {mle : (Nat → Int32)} {mpl : (Nat → Int32)} {mit : (Nat → Int32)} {mro : (Nat → Int32)} {maw : (Nat → Int32)}  {fu : Nat} (C : xb_C κ Γ 7 cX9_best RX9 { frames := 7, cells := 0, slots := 0, locals := 173 }) : ∀ (n : Nat) (x1 : Int32) (mns : Int32) (mus : (Nat → Int32)) (mnu : (Nat → Int32)) (mld : Int32) (mli : (Nat → Int32)) (mot : (Nat → Int32)) (mbl : (Nat → Int32)) (mow : (Nat → Int32)) (mpt : (Nat → Int32)) (mco : (Nat → Int32)) (o : Int32 × (Nat → Int32) × (Nat → Int32) × Int32 × (Nat → Int32) × (Nat → Int32) × (Nat → Int32) × (Nat → Int32) × (Nat → Int32) × (Nat → Int32)), F_X9_best_L7 fu mn mno mfo mwi n x1 mns mus mnu mld mli mot mbl mow mpt mco = some o → xb_W κ Γ 7 0 0 26 [(0, .ref (q 0))] [] (mw κ q mth mn mib mpa mwi mch mst msz o.1 o.2.2.2.1 mps mbb mno mpk mtu mfo mbi mwr o.2.1 o.2.2.1 o.2.2.2.2.1 o.2.2.2.2.2.1 o.2.2.2.2.2.2.1 mki mfr mde mbe o.2.2.2.2.2.2.2.1 o.2.2.2.2.2.2.2.2.2 o.2.2.2.2.2.2.2.2.1 mle mpl mit mro maw) → xb_W κ Γ 7 0 0 7 [(0, .ref (q 0)), (1, .int x1)] [] (mw κ q mth mn mib mpa mwi mch mst msz mns mld mps mbb mno mpk mtu mfo mbi mwr mus mnu mli mot mbl mki mfr mde mbe mow mco mpt mle mpl mit mro maw) := by
  intro n
  induction n with
  | zero =>
    intro x1 mns mus mnu mld mli mot mbl mow mpt mco o hF K
    rw [F_X9_best_L7] at hF
    cases hF
  | succ n ih =>
    intro x1 mns mus mnu mld mli mot mbl mow mpt mco o hF K
    rw [F_X9_best_L7] at hF
    refine x_iload_n C dX9_best_7 1 rfl ?_
    refine x_aload_n C dX9_best_8 0 rfl ?_
    refine gf_X9_93 C 0 rfl rfl dX9_best_9 ?_
    refine x_icmp_ge (tgt := 26) C dX9_best_12 (by decide) (fun hc => ?_) (fun hc => ?_)
    · replace hF := ifp hc hF
      cases hF
      exact x_sub [0] rfl K
    · replace hF := ifn hc hF
      refine x_aload_n C dX9_best_15 0 rfl ?_
      refine x_iload_n C dX9_best_16 1 rfl ?_
      obtain ⟨o1, h2, hF⟩ := bd_s hF
      refine x_callVv (st := []) C (c_X9_weigh h2) xm_X9_weigh ml_X9_227 0 rfl rfl rfl rfl rfl rfl dX9_best_17 ⟨rfl, rfl⟩ ?_
      refine x_iinc (v := x1 + 1) (lv2 := [(1, .int (x1 + 1)), (0, .ref (q 0))]) C dX9_best_20 1 rfl rfl (by decide) rfl ?_
      refine x_goto (tgt := 7) C dX9_best_23 (by decide) ?_
      exact x_sub [1, 0] rfl (ih _ _ _ _ _ _ _ _ _ _ _ _ hF K)
set_option maxHeartbeats 4000000 in
set_option maxRecDepth 100000 in
theorem w_X9_best_L75 {κ : xb_k} {Γ : xb_X} {q : Nat → Nat} {mth : Int32} {mn : Int32} {mib : Int32} {mpa : Int32} {mwi : Int32} {mch : Int32} {mst : Int32} {msz : Int32} {mns : Int32} {mld : Int32} {mps : Int32} {mbb : Int32} {mno : (Nat → Int32)} {mpk : (Nat → Int32)} {mtu : (Nat → Int32)} {mfo : (Nat → Int32)} {mbi : (Nat → Int32)} {mwr : (Nat → Int32)} {mus : (Nat → Int32)} {mnu : (Nat → Int32)} {mli : (Nat → Int32)} {mot : (Nat → Int32)} {mbl : (Nat → Int32)} {mki : (Nat → Int32)} {mfr : (Nat → Int32)} {mde : (Nat → Int32)} {mbe : (Nat → Int32)} {mow : (Nat → Int32)} {mco : (Nat → Int32)} {mpt : (Nat → Int32)} {mle : (Nat → Int32)} {mpl : (Nat → Int32)} {mit : (Nat → Int32)} {mro : (Nat → Int32)} {maw : (Nat → Int32)} {x1 : Int32} {x2 : Int32} {x3 : Int32}  (C : xb_C κ Γ 7 cX9_best RX9 { frames := 7, cells := 0, slots := 0, locals := 173 }) : ∀ (n : Nat) (x4 : Int32) (x5 : Int32) (o : Int32), F_X9_best_L75 x1 x2 x3 mn mpt mch mle n x4 x5 = some o → xb_W κ Γ 7 0 0 172 [(0, .ref (q 0)), (1, .int x1), (2, .int x2), (3, .int x3), (4, .int o)] [] (mw κ q mth mn mib mpa mwi mch mst msz mns mld mps mbb mno mpk mtu mfo mbi mwr mus mnu mli mot mbl mki mfr mde mbe mow mco mpt mle mpl mit mro maw) → xb_W κ Γ 7 0 0 75 [(0, .ref (q 0)), (1, .int x1), (2, .int x2), (3, .int x3), (4, .int x4), (5, .int x5)] [] (mw κ q mth mn mib mpa mwi mch mst msz mns mld mps mbb mno mpk mtu mfo mbi mwr mus mnu mli mot mbl mki mfr mde mbe mow mco mpt mle mpl mit mro maw) := by
  intro n
  induction n with
  | zero =>
    intro x4 x5 o hF K
    rw [F_X9_best_L75] at hF
    cases hF
  | succ n ih =>
    intro x4 x5 o hF K
    rw [F_X9_best_L75] at hF
    refine x_iload C dX9_best_75 5 rfl ?_
    refine x_aload_n C dX9_best_77 0 rfl ?_
    refine gf_X9_93 C 0 rfl rfl dX9_best_78 ?_
    refine x_icmp_ge (tgt := 172) C dX9_best_81 (by decide) (fun hc => ?_) (fun hc => ?_)
    · replace hF := ifp hc hF
      cases hF
      exact x_sub [0, 1, 2, 3, 4] rfl K
    · replace hF := ifn hc hF
      refine x_iload C dX9_best_84 4 rfl ?_
      refine x_ldc C dX9_best_86 kk_X9_226 ?_
      refine x_icmp_ge (tgt := 172) C dX9_best_88 (by decide) (fun hc => ?_) (fun hc => ?_)
      · replace hF := ifp hc hF
        cases hF
        exact x_sub [0, 1, 2, 3, 4] rfl K
      · replace hF := ifn hc hF
        refine x_aload_n C dX9_best_91 0 rfl ?_
        refine gf_X9_75 C 0 rfl rfl dX9_best_92 ?_
        refine x_iload C dX9_best_95 5 rfl ?_
        obtain ⟨b6, hF⟩ := ck_s hF
        refine x_iald C 18 rfl b6 dX9_best_97 ?_
        refine x_iload_n C dX9_best_98 2 rfl ?_
        refine x_icmp_ne (tgt := 166) C dX9_best_99 (by decide) (fun hc => ?_) (fun hc => ?_)
        · replace hF := ifn hc hF
          refine x_iinc (v := x5 + 1) (lv2 := [(5, .int (x5 + 1)), (0, .ref (q 0)), (1, .int x1), (2, .int x2), (3, .int x3), (4, .int x4)]) C dX9_best_166 5 rfl rfl (by decide) rfl ?_
          refine x_goto (tgt := 75) C dX9_best_169 (by decide) ?_
          exact x_sub [1, 2, 3, 4, 5, 0] rfl (ih _ _ _ hF K)
        · replace hF := ifp hc hF
          refine x_iload_n C dX9_best_102 3 rfl ?_
          refine x_aload_n C dX9_best_103 0 rfl ?_
          refine gf_X9_30 C 0 rfl rfl dX9_best_104 ?_
          refine x_icmp_ge (tgt := 127) C dX9_best_107 (by decide) (fun hc => ?_) (fun hc => ?_)
          · replace hF := ifp hc hF
            refine x_ldc C dX9_best_127 kk_X9_226 ?_
            refine x_istore (lv2 := [(6, .int (1000000000 : Int32)), (0, .ref (q 0)), (1, .int x1), (2, .int x2), (3, .int x3), (4, .int x4), (5, .int x5)]) C dX9_best_129 (by decide) rfl ?_
            refine x_iload C dX9_best_131 5 rfl ?_
            refine x_aload_n C dX9_best_133 1 rfl ?_
            refine gf_X9_78 C 0 rfl rfl dX9_best_134 ?_
            refine x_bipush (v := 7) C dX9_best_137 (by decide) ?_
            refine x_iload C dX9_best_139 6 rfl ?_
            refine x_imul C dX9_best_141 ?_
            obtain ⟨b7, hF⟩ := ck_s hF
            refine x_iald C 19 rfl b7 dX9_best_142 ?_
            refine x_iload C dX9_best_143 0 rfl ?_
            refine x_icmp_ge (tgt := 161) C dX9_best_145 (by decide) (fun hc => ?_) (fun hc => ?_)
            · replace hF := ifp hc hF
              refine x_iload C dX9_best_161 0 rfl ?_
              refine x_iadd C dX9_best_163 ?_
              refine x_istore (lv2 := [(4, .int (x4 + (1000000000 : Int32))), (6, .int (1000000000 : Int32)), (0, .ref (q 0)), (1, .int x1), (2, .int x2), (3, .int x3), (5, .int x5)]) C dX9_best_164 (by decide) rfl ?_
              refine x_iinc (v := x5 + 1) (lv2 := [(5, .int (x5 + 1)), (4, .int (x4 + (1000000000 : Int32))), (6, .int (1000000000 : Int32)), (0, .ref (q 0)), (1, .int x1), (2, .int x2), (3, .int x3)]) C dX9_best_166 6 rfl rfl (by decide) rfl ?_
              refine x_goto (tgt := 75) C dX9_best_169 (by decide) ?_
              exact x_sub [3, 4, 5, 6, 1, 0] rfl (ih _ _ _ hF K)
            · replace hF := ifn hc hF
              refine x_aload_n C dX9_best_148 1 rfl ?_
              refine gf_X9_78 C 0 rfl rfl dX9_best_149 ?_
              refine x_bipush (v := 7) C dX9_best_152 (by decide) ?_
              refine x_iload C dX9_best_154 6 rfl ?_
              refine x_imul C dX9_best_156 ?_
              obtain ⟨b8, hF⟩ := ck_s hF
              refine x_iald C 19 rfl b8 dX9_best_157 ?_
              refine x_goto (tgt := 163) C dX9_best_158 (by decide) ?_
              refine x_iadd C dX9_best_163 ?_
              refine x_istore (lv2 := [(4, .int (x4 + (mle ((7 : Int32) * x5).toNatClampNeg))), (6, .int (1000000000 : Int32)), (0, .ref (q 0)), (1, .int x1), (2, .int x2), (3, .int x3), (5, .int x5)]) C dX9_best_164 (by decide) rfl ?_
              refine x_iinc (v := x5 + 1) (lv2 := [(5, .int (x5 + 1)), (4, .int (x4 + (mle ((7 : Int32) * x5).toNatClampNeg))), (6, .int (1000000000 : Int32)), (0, .ref (q 0)), (1, .int x1), (2, .int x2), (3, .int x3)]) C dX9_best_166 6 rfl rfl (by decide) rfl ?_
              refine x_goto (tgt := 75) C dX9_best_169 (by decide) ?_
              exact x_sub [3, 4, 5, 6, 1, 0] rfl (ih _ _ _ hF K)
          · replace hF := ifn hc hF
            refine x_aload_n C dX9_best_110 0 rfl ?_
            refine gf_X9_78 C 0 rfl rfl dX9_best_111 ?_
            refine x_bipush (v := 7) C dX9_best_114 (by decide) ?_
            refine x_iload C dX9_best_116 5 rfl ?_
            refine x_imul C dX9_best_118 ?_
            refine x_iload_n C dX9_best_119 3 rfl ?_
            refine x_iadd C dX9_best_120 ?_
            refine x_iconst (v := 1) C dX9_best_121 (by decide) ?_
            refine x_iadd C dX9_best_122 ?_
            obtain ⟨b9, hF⟩ := ck_s hF
            refine x_iald C 19 rfl b9 dX9_best_123 ?_
            refine x_goto (tgt := 129) C dX9_best_124 (by decide) ?_
            refine x_istore (lv2 := [(6, .int (mle ((((7 : Int32) * x5) + x3) + (1 : Int32)).toNatClampNeg)), (0, .ref (q 0)), (1, .int x1), (2, .int x2), (3, .int x3), (4, .int x4), (5, .int x5)]) C dX9_best_129 (by decide) rfl ?_
            refine x_iload C dX9_best_131 5 rfl ?_
            refine x_aload_n C dX9_best_133 1 rfl ?_
            refine gf_X9_78 C 0 rfl rfl dX9_best_134 ?_
            refine x_bipush (v := 7) C dX9_best_137 (by decide) ?_
            refine x_iload C dX9_best_139 6 rfl ?_
            refine x_imul C dX9_best_141 ?_
            obtain ⟨b10, hF⟩ := ck_s hF
            refine x_iald C 19 rfl b10 dX9_best_142 ?_
            refine x_iload C dX9_best_143 0 rfl ?_
            refine x_icmp_ge (tgt := 161) C dX9_best_145 (by decide) (fun hc => ?_) (fun hc => ?_)
            · replace hF := ifp hc hF
              refine x_iload C dX9_best_161 0 rfl ?_
              refine x_iadd C dX9_best_163 ?_
              obtain ⟨v11, e12, hF⟩ := nm_s hF
              refine x_topi e12 ?_
              refine x_istore (lv2 := [(4, .int v11), (6, .int (mle ((((7 : Int32) * x5) + x3) + (1 : Int32)).toNatClampNeg)), (0, .ref (q 0)), (1, .int x1), (2, .int x2), (3, .int x3), (5, .int x5)]) C dX9_best_164 (by decide) rfl ?_
              refine x_iinc (v := x5 + 1) (lv2 := [(5, .int (x5 + 1)), (4, .int v11), (6, .int (mle ((((7 : Int32) * x5) + x3) + (1 : Int32)).toNatClampNeg)), (0, .ref (q 0)), (1, .int x1), (2, .int x2), (3, .int x3)]) C dX9_best_166 6 rfl rfl (by decide) rfl ?_
              refine x_goto (tgt := 75) C dX9_best_169 (by decide) ?_
              exact x_sub [3, 4, 5, 6, 1, 0] rfl (ih _ _ _ hF K)
            · replace hF := ifn hc hF
              refine x_aload_n C dX9_best_148 1 rfl ?_
              refine gf_X9_78 C 0 rfl rfl dX9_best_149 ?_
              refine x_bipush (v := 7) C dX9_best_152 (by decide) ?_
              refine x_iload C dX9_best_154 6 rfl ?_
              refine x_imul C dX9_best_156 ?_
              obtain ⟨b13, hF⟩ := ck_s hF
              refine x_iald C 19 rfl b13 dX9_best_157 ?_
              refine x_goto (tgt := 163) C dX9_best_158 (by decide) ?_
              refine x_iadd C dX9_best_163 ?_
              refine x_istore (lv2 := [(4, .int (x4 + (mle ((7 : Int32) * x5).toNatClampNeg))), (6, .int (mle ((((7 : Int32) * x5) + x3) + (1 : Int32)).toNatClampNeg)), (0, .ref (q 0)), (1, .int x1), (2, .int x2), (3, .int x3), (5, .int x5)]) C dX9_best_164 (by decide) rfl ?_
              refine x_iinc (v := x5 + 1) (lv2 := [(5, .int (x5 + 1)), (4, .int (x4 + (mle ((7 : Int32) * x5).toNatClampNeg))), (6, .int (mle ((((7 : Int32) * x5) + x3) + (1 : Int32)).toNatClampNeg)), (0, .ref (q 0)), (1, .int x1), (2, .int x2), (3, .int x3)]) C dX9_best_166 6 rfl rfl (by decide) rfl ?_
              refine x_goto (tgt := 75) C dX9_best_169 (by decide) ?_
              exact x_sub [3, 4, 5, 6, 1, 0] rfl (ih _ _ _ hF K)
set_option maxHeartbeats 4000000 in
set_option maxRecDepth 100000 in
theorem w_X9_best_L41 {κ : xb_k} {Γ : xb_X} {q : Nat → Nat} {mth : Int32} {mn : Int32} {mib : Int32} {mpa : Int32} {mwi : Int32} {mch : Int32} {mst : Int32} {msz : Int32} {mns : Int32} {mld : Int32} {mps : Int32} {mbb : Int32} {mno : (Nat → Int32)} {mpk : (Nat → Int32)} {mtu : (Nat → Int32)} {mfo : (Nat → Int32)} {mbi : (Nat → Int32)} {mwr : (Nat → Int32)} {mus : (Nat → Int32)} {mnu : (Nat → Int32)} {mli : (Nat → Int32)} {mot : (Nat → Int32)} {mbl : (Nat → Int32)} {mki : (Nat → Int32)} {mfr : (Nat → Int32)} {mde : (Nat → Int32)} {mbe : (Nat → Int32)} {mow : (Nat → Int32)} {mco : (Nat → Int32)} {mpt : (Nat → Int32)} {mpl : (Nat → Int32)} {mit : (Nat → Int32)} {mro : (Nat → Int32)} {maw : (Nat → Int32)} {x1 : Int32} {x2 : Int32} {fu : Nat} (C : xb_C κ Γ 7 cX9_best RX9 { frames := 7, cells := 0, slots := 0, locals := 173 }) : ∀ (n : Nat) (x3 : Int32) (mle : (Nat → Int32)) (o : (Nat → Int32)), F_X9_best_L41 fu x1 x2 mch mco mn mpt mow n x3 mle = some o → xb_W κ Γ 7 0 0 191 [(0, .ref (q 0)), (1, .int x1), (2, .int x2)] [] (mw κ q mth mn mib mpa mwi mch mst msz mns mld mps mbb mno mpk mtu mfo mbi mwr mus mnu mli mot mbl mki mfr mde mbe mow mco mpt o mpl mit mro maw) → xb_W κ Γ 7 0 0 41 [(0, .ref (q 0)), (1, .int x1), (2, .int x2), (3, .int x3)] [] (mw κ q mth mn mib mpa mwi mch mst msz mns mld mps mbb mno mpk mtu mfo mbi mwr mus mnu mli mot mbl mki mfr mde mbe mow mco mpt mle mpl mit mro maw) := by
  intro n
  induction n with
  | zero =>
    intro x3 mle o hF K
    rw [F_X9_best_L41] at hF
    cases hF
  | succ n ih =>
    intro x3 mle o hF K
    rw [F_X9_best_L41] at hF
    refine x_iload_n C dX9_best_41 3 rfl ?_
    refine x_aload_n C dX9_best_42 0 rfl ?_
    refine gf_X9_30 C 0 rfl rfl dX9_best_43 ?_
    refine x_icmp_gt (tgt := 191) C dX9_best_46 (by decide) (fun hc => ?_) (fun hc => ?_)
    · replace hF := ifp hc hF
      cases hF
      exact x_sub [0, 1, 2] rfl K
    · replace hF := ifn hc hF
      refine x_iload_n C dX9_best_49 3 rfl ?_
      refine x_if_ne (tgt := 62) C dX9_best_50 (by decide) (fun hc => ?_) (fun hc => ?_)
      · replace hF := ifn hc hF
        refine x_aload_n C dX9_best_62 0 rfl ?_
        refine gf_X9_72 C 0 rfl rfl dX9_best_63 ?_
        refine x_iload_n C dX9_best_66 2 rfl ?_
        obtain ⟨b5, hF⟩ := ck_s hF
        refine x_iald C 17 rfl b5 dX9_best_67 ?_
        refine x_istore (lv2 := [(4, .int (mco x2.toNatClampNeg)), (0, .ref (q 0)), (1, .int x1), (2, .int x2), (3, .int x3)]) C dX9_best_68 (by decide) rfl ?_
        refine x_iload_n C dX9_best_70 3 rfl ?_
        refine x_iconst (v := 1) C dX9_best_71 (by decide) ?_
        refine x_iadd C dX9_best_72 ?_
        refine x_istore (lv2 := [(5, .int (x2 + (1 : Int32))), (4, .int (mco x2.toNatClampNeg)), (0, .ref (q 0)), (1, .int x1), (2, .int x2), (3, .int x3)]) C dX9_best_73 (by decide) rfl ?_
        obtain ⟨o6, h7, hF⟩ := bd_s hF
        refine x_sub [2, 3, 4, 5, 1, 0] rfl (w_X9_best_L75 C fu _ _ _ h7 ?_)
        refine x_aload_n C dX9_best_172 0 rfl ?_
        refine gf_X9_78 C 0 rfl rfl dX9_best_173 ?_
        refine x_bipush (v := 7) C dX9_best_176 (by decide) ?_
        refine x_iload_n C dX9_best_178 2 rfl ?_
        refine x_imul C dX9_best_179 ?_
        refine x_iload_n C dX9_best_180 3 rfl ?_
        refine x_iadd C dX9_best_181 ?_
        refine x_iload C dX9_best_182 4 rfl ?_
        obtain ⟨b8, hF⟩ := ck_s hF
        refine x_iast (ws2 := (mw κ q mth mn mib mpa mwi mch mst msz mns mld mps mbb mno mpk mtu mfo mbi mwr mus mnu mli mot mbl mki mfr mde mbe mow mco mpt (upd mle (((7 : Int32) * x2) + x3).toNatClampNeg o6) mpl mit mro maw)) C 19 rfl b8 dX9_best_184 rfl ?_
        refine x_iinc (v := x3 + 1) (lv2 := [(3, .int (x3 + 1)), (0, .ref (q 0)), (1, .int x1), (2, .int x2), (4, .int o6)]) C dX9_best_185 3 rfl rfl (by decide) rfl ?_
        refine x_goto (tgt := 41) C dX9_best_188 (by decide) ?_
        exact x_sub [1, 2, 3, 0] rfl (ih _ _ _ hF K)
      · replace hF := ifp hc hF
        refine x_aload_n C dX9_best_53 0 rfl ?_
        refine gf_X9_69 C 0 rfl rfl dX9_best_54 ?_
        refine x_iload_n C dX9_best_57 2 rfl ?_
        obtain ⟨b9, hF⟩ := ck_s hF
        refine x_iald C 16 rfl b9 dX9_best_58 ?_
        refine x_goto (tgt := 68) C dX9_best_59 (by decide) ?_
        refine x_istore (lv2 := [(4, .int (mow x2.toNatClampNeg)), (0, .ref (q 0)), (1, .int x1), (2, .int x2), (3, .int x3)]) C dX9_best_68 (by decide) rfl ?_
        refine x_iload_n C dX9_best_70 3 rfl ?_
        refine x_iconst (v := 1) C dX9_best_71 (by decide) ?_
        refine x_iadd C dX9_best_72 ?_
        refine x_istore (lv2 := [(5, .int (x2 + (1 : Int32))), (4, .int (mow x2.toNatClampNeg)), (0, .ref (q 0)), (1, .int x1), (2, .int x2), (3, .int x3)]) C dX9_best_73 (by decide) rfl ?_
        obtain ⟨o10, h11, hF⟩ := bd_s hF
        refine x_sub [2, 3, 4, 5, 1, 0] rfl (w_X9_best_L75 C fu _ _ _ h11 ?_)
        refine x_aload_n C dX9_best_172 0 rfl ?_
        refine gf_X9_78 C 0 rfl rfl dX9_best_173 ?_
        refine x_bipush (v := 7) C dX9_best_176 (by decide) ?_
        refine x_iload_n C dX9_best_178 2 rfl ?_
        refine x_imul C dX9_best_179 ?_
        refine x_iload_n C dX9_best_180 3 rfl ?_
        refine x_iadd C dX9_best_181 ?_
        refine x_iload C dX9_best_182 4 rfl ?_
        obtain ⟨b12, hF⟩ := ck_s hF
        refine x_iast (ws2 := (mw κ q mth mn mib mpa mwi mch mst msz mns mld mps mbb mno mpk mtu mfo mbi mwr mus mnu mli mot mbl mki mfr mde mbe mow mco mpt (upd mle (((7 : Int32) * x2) + x3).toNatClampNeg o10) mpl mit mro maw)) C 19 rfl b12 dX9_best_184 rfl ?_
        refine x_iinc (v := x3 + 1) (lv2 := [(3, .int (x3 + 1)), (0, .ref (q 0)), (1, .int x1), (2, .int x2), (4, .int o10)]) C dX9_best_185 3 rfl rfl (by decide) rfl ?_
        refine x_goto (tgt := 41) C dX9_best_188 (by decide) ?_
        exact x_sub [1, 2, 3, 0] rfl (ih _ _ _ hF K)
set_option maxHeartbeats 4000000 in
set_option maxRecDepth 100000 in
theorem w_X9_best_L35 {κ : xb_k} {Γ : xb_X} {q : Nat → Nat} {mth : Int32} {mn : Int32} {mib : Int32} {mpa : Int32} {mwi : Int32} {mch : Int32} {mst : Int32} {msz : Int32} {mns : Int32} {mld : Int32} {mps : Int32} {mbb : Int32} {mno : (Nat → Int32)} {mpk : (Nat → Int32)} {mtu : (Nat → Int32)} {mfo : (Nat → Int32)} {mbi : (Nat → Int32)} {mwr : (Nat → Int32)} {mus : (Nat → Int32)} {mnu : (Nat → Int32)} {mli : (Nat → Int32)} {mot : (Nat → Int32)} {mbl : (Nat → Int32)} {mki : (Nat → Int32)} {mfr : (Nat → Int32)} {mde : (Nat → Int32)} {mbe : (Nat → Int32)} {mow : (Nat → Int32)} {mco : (Nat → Int32)} {mpt : (Nat → Int32)} {mpl : (Nat → Int32)} {mit : (Nat → Int32)} {mro : (Nat → Int32)} {maw : (Nat → Int32)}  {fu : Nat} (C : xb_C κ Γ 7 cX9_best RX9 { frames := 7, cells := 0, slots := 0, locals := 173 }) : ∀ (n : Nat) (x1 : Int32) (x2 : Int32) (mle : (Nat → Int32)) (o : Int32 × (Nat → Int32)), F_X9_best_L35 fu mch mco mn mpt mow n x1 x2 mle = some o → xb_W κ Γ 7 0 0 223 [(1, .int o.1)] [] (mw κ q mth mn mib mpa mwi mch mst msz mns mld mps mbb mno mpk mtu mfo mbi mwr mus mnu mli mot mbl mki mfr mde mbe mow mco mpt o.2 mpl mit mro maw) → xb_W κ Γ 7 0 0 35 [(0, .ref (q 0)), (1, .int x1), (2, .int x2)] [] (mw κ q mth mn mib mpa mwi mch mst msz mns mld mps mbb mno mpk mtu mfo mbi mwr mus mnu mli mot mbl mki mfr mde mbe mow mco mpt mle mpl mit mro maw) := by
  intro n
  induction n with
  | zero =>
    intro x1 x2 mle o hF K
    rw [F_X9_best_L35] at hF
    cases hF
  | succ n ih =>
    intro x1 x2 mle o hF K
    rw [F_X9_best_L35] at hF
    refine x_iload_n C dX9_best_35 2 rfl ?_
    refine x_if_lt (tgt := 223) C dX9_best_36 (by decide) (fun hc => ?_) (fun hc => ?_)
    · replace hF := ifp hc hF
      cases hF
      exact x_sub [1] rfl K
    · replace hF := ifn hc hF
      refine x_iconst (v := 0) C dX9_best_39 (by decide) ?_
      refine x_istore_n (lv2 := [(3, .int (0 : Int32)), (0, .ref (q 0)), (1, .int x1), (2, .int x2)]) C dX9_best_40 rfl (by decide) rfl ?_
      obtain ⟨o5, h6, hF⟩ := bd_s hF
      refine x_sub [1, 2, 3, 0] rfl (w_X9_best_L41 C fu _ _ _ h6 ?_)
      refine x_iload_n C dX9_best_191 1 rfl ?_
      refine x_aload_n C dX9_best_192 0 rfl ?_
      refine gf_X9_75 C 0 rfl rfl dX9_best_193 ?_
      refine x_iload_n C dX9_best_196 2 rfl ?_
      obtain ⟨b7, hF⟩ := ck_s hF
      refine x_iald C 18 rfl b7 dX9_best_197 ?_
      refine x_iconst (v := (-1)) C dX9_best_198 (by decide) ?_
      refine x_icmp_ne (tgt := 214) C dX9_best_199 (by decide) (fun hc => ?_) (fun hc => ?_)
      · replace hF := ifn hc hF
        refine x_iconst (v := 0) C dX9_best_214 (by decide) ?_
        refine x_iadd C dX9_best_215 ?_
        refine x_istore_n (lv2 := [(1, .int (x1 + (0 : Int32))), (0, .ref (q 0)), (2, .int x2)]) C dX9_best_216 rfl (by decide) rfl ?_
        refine x_iinc (v := x2 + (-1)) (lv2 := [(2, .int (x2 + (-1))), (1, .int (x1 + (0 : Int32))), (0, .ref (q 0))]) C dX9_best_217 2 rfl rfl (by decide) rfl ?_
        refine x_goto (tgt := 35) C dX9_best_220 (by decide) ?_
        exact x_sub [2, 1, 0] rfl (ih _ _ _ _ hF K)
      · replace hF := ifp hc hF
        refine x_aload_n C dX9_best_202 0 rfl ?_
        refine gf_X9_78 C 0 rfl rfl dX9_best_203 ?_
        refine x_bipush (v := 7) C dX9_best_206 (by decide) ?_
        refine x_iload_n C dX9_best_208 2 rfl ?_
        refine x_imul C dX9_best_209 ?_
        obtain ⟨b8, hF⟩ := ck_s hF
        refine x_iald C 19 rfl b8 dX9_best_210 ?_
        refine x_goto (tgt := 215) C dX9_best_211 (by decide) ?_
        refine x_iadd C dX9_best_215 ?_
        refine x_istore_n (lv2 := [(1, .int (x1 + (o5 ((7 : Int32) * x2).toNatClampNeg))), (0, .ref (q 0)), (2, .int x2)]) C dX9_best_216 rfl (by decide) rfl ?_
        refine x_iinc (v := x2 + (-1)) (lv2 := [(2, .int (x2 + (-1))), (1, .int (x1 + (o5 ((7 : Int32) * x2).toNatClampNeg))), (0, .ref (q 0))]) C dX9_best_217 2 rfl rfl (by decide) rfl ?_
        refine x_goto (tgt := 35) C dX9_best_220 (by decide) ?_
        exact x_sub [2, 1, 0] rfl (ih _ _ _ _ hF K)
set_option maxHeartbeats 4000000 in
set_option maxRecDepth 100000 in
theorem c_X9_best {κ : xb_k} {q : Nat → Nat} {mth : Int32} {mn : Int32} {mib : Int32} {mpa : Int32} {mwi : Int32} {mch : Int32} {mst : Int32} {msz : Int32} {mns : Int32} {mld : Int32} {mps : Int32} {mbb : Int32} {mno : (Nat → Int32)} {mpk : (Nat → Int32)} {mtu : (Nat → Int32)} {mfo : (Nat → Int32)} {mbi : (Nat → Int32)} {mwr : (Nat → Int32)} {mus : (Nat → Int32)} {mnu : (Nat → Int32)} {mli : (Nat → Int32)} {mot : (Nat → Int32)} {mbl : (Nat → Int32)} {mki : (Nat → Int32)} {mfr : (Nat → Int32)} {mde : (Nat → Int32)} {mbe : (Nat → Int32)} {mow : (Nat → Int32)} {mco : (Nat → Int32)} {mpt : (Nat → Int32)} {mle : (Nat → Int32)} {mpl : (Nat → Int32)} {mit : (Nat → Int32)} {mro : (Nat → Int32)} {maw : (Nat → Int32)}  {fu : Nat} {o : Int32 × Int32 × Int32 × (Nat → Int32) × (Nat → Int32) × Int32 × (Nat → Int32) × (Nat → Int32) × (Nat → Int32) × (Nat → Int32) × (Nat → Int32) × (Nat → Int32) × (Nat → Int32)} (hF : F_X9_best fu mth mn mns mus mnu mld mno mli mot mbl mfo mow mpt mco mwi mch mle = some o) : Met κ.1 yX9_best [Cond.code yX9_best cX9_best 7 (some .int)] { frames := 7, cells := 0, slots := 0, locals := 173 } (xb_P κ [.ref (q 0)] (mw κ q mth mn mib mpa mwi mch mst msz mns mld mps mbb mno mpk mtu mfo mbi mwr mus mnu mli mot mbl mki mfr mde mbe mow mco mpt mle mpl mit mro maw)) (xb_Qi κ o.1 (mw κ q o.2.1 mn mib mpa mwi mch mst msz o.2.2.1 o.2.2.2.2.2.1 mps mbb mno mpk mtu mfo mbi mwr o.2.2.2.1 o.2.2.2.2.1 o.2.2.2.2.2.2.1 o.2.2.2.2.2.2.2.1 o.2.2.2.2.2.2.2.2.1 mki mfr mde mbe o.2.2.2.2.2.2.2.2.2.1 o.2.2.2.2.2.2.2.2.2.2.2.1 o.2.2.2.2.2.2.2.2.2.2.1 o.2.2.2.2.2.2.2.2.2.2.2.2 mpl mit mro maw)) 0 0 κ.2.2.1 := by
  refine x_enter (own := RX9) (lv0 := [(0, .ref (q 0))]) (by decide) rfl rfl rfl (fun Γ C E => ?_)
  unfold F_X9_best at hF
  refine x_aload_n C dX9_best_0 0 rfl ?_
  refine x_iconst (v := 0) C dX9_best_1 (by decide) ?_
  refine pf_X9_1 (ws2 := (mw κ q (0 : Int32) mn mib mpa mwi mch mst msz mns mld mps mbb mno mpk mtu mfo mbi mwr mus mnu mli mot mbl mki mfr mde mbe mow mco mpt mle mpl mit mro maw)) C 0 rfl dX9_best_2 rfl rfl ?_
  refine x_iconst (v := 0) C dX9_best_5 (by decide) ?_
  refine x_istore_n (lv2 := [(1, .int (0 : Int32)), (0, .ref (q 0))]) C dX9_best_6 rfl (by decide) rfl ?_
  obtain ⟨o3, h4, hF⟩ := bd_s hF
  refine x_sub [1, 0] rfl (w_X9_best_L7 C fu _ _ _ _ _ _ _ _ _ _ _ _ h4 ?_)
  refine x_iconst (v := 0) C dX9_best_26 (by decide) ?_
  refine x_istore_n (lv2 := [(1, .int (0 : Int32)), (0, .ref (q 0))]) C dX9_best_27 rfl (by decide) rfl ?_
  refine x_aload_n C dX9_best_28 1 rfl ?_
  refine gf_X9_93 C 0 rfl rfl dX9_best_29 ?_
  refine x_iconst (v := 1) C dX9_best_32 (by decide) ?_
  refine x_isub C dX9_best_33 ?_
  refine x_istore_n (lv2 := [(2, .int (mn - (1 : Int32))), (1, .int (0 : Int32)), (0, .ref (q 0))]) C dX9_best_34 rfl (by decide) rfl ?_
  obtain ⟨o9, h10, hF⟩ := bd_s hF
  refine x_sub [2, 1, 0] rfl (w_X9_best_L35 C fu _ _ _ _ h10 ?_)
  refine x_iload_n C dX9_best_223 0 rfl ?_
  cases hF
  exact x_iret C E dX9_best_224

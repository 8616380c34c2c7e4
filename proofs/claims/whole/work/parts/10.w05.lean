set_option maxHeartbeats 4000000 in
set_option maxRecDepth 100000 in
theorem w_X9_walk_L2 {κ : xb_k} {Γ : xb_X} {q : Nat → Nat} {mth : Int32} {mn : Int32} {mib : Int32} {mpa : Int32} {mwi : Int32} {mch : Int32} {mst : Int32} {msz : Int32} {mns : Int32} {mld : Int32} {mps : Int32} {mbb : Int32} {mno : (Nat → Int32)} {mpk : (Nat → Int32)} {mtu : (Nat → Int32)} {mfo : (Nat → Int32)} {mbi : (Nat → Int32)} {mwr : (Nat → Int32)} {mus : (Nat → Int32)} {mnu : (Nat → Int32)} {mli : (Nat → Int32)} {mot : (Nat → Int32)} {mbl : (Nat → Int32)} {mki : (Nat → Int32)} {mfr : (Nat → Int32)} {mde : (Nat → Int32)} {mbe : (Nat → Int32)} {mow : (Nat → Int32)} {mco : (Nat → Int32)} {mpt : (Nat → Int32)} {mle : (Nat → Int32)} {mpl : (Nat → Int32)} {mit : (Nat → Int32)} {mro : (Nat → Int32)} {x1 : Int32} {x2 : Int32}  (C : xb_C κ Γ 6 cX9_walk RX9 { frames := 0, cells := 0, slots := 0, locals := 0 }) : ∀ (n : Nat) (x3 : Int32) (maw : (Nat → Int32)) (o : (Nat → Int32)), F_X9_walk_L2 x1 x2 mn n x3 maw = some o → xb_W κ Γ 6 0 0 23 [(0, .ref (q 0)), (1, .int x1), (2, .int x2)] [] (mw κ q mth mn mib mpa mwi mch mst msz mns mld mps mbb mno mpk mtu mfo mbi mwr mus mnu mli mot mbl mki mfr mde mbe mow mco mpt mle mpl mit mro o) → xb_W κ Γ 6 0 0 2 [(0, .ref (q 0)), (1, .int x1), (2, .int x2), (3, .int x3)] [] (mw κ q mth mn mib mpa mwi mch mst msz mns mld mps mbb mno mpk mtu mfo mbi mwr mus mnu mli mot mbl mki mfr mde mbe mow mco mpt mle mpl mit mro maw) := by
  intro n
  induction n with
  | zero =>
    intro x3 maw o hF K
    rw [F_X9_walk_L2] at hF
    cases hF
  | succ n ih =>
    intro x3 maw o hF K
    rw [F_X9_walk_L2] at hF
    refine x_iload_n C dX9_walk_2 3 rfl ?_
    refine x_aload_n C dX9_walk_3 0 rfl ?_
    refine gf_X9_93 C 0 rfl rfl dX9_walk_4 ?_
    refine x_icmp_ge (tgt := 23) C dX9_walk_7 (by decide) (fun hc => ?_) (fun hc => ?_)
    · replace hF := ifp hc hF
      cases hF
      exact x_sub [0, 1, 2] rfl K
    · replace hF := ifn hc hF
      refine x_aload_n C dX9_walk_10 0 rfl ?_
      refine gf_X9_90 C 0 rfl rfl dX9_walk_11 ?_
      refine x_iload_n C dX9_walk_14 3 rfl ?_
      refine x_iconst (v := (-1)) C dX9_walk_15 (by decide) ?_
      obtain ⟨b1, hF⟩ := ck_s hF
      refine x_iast (ws2 := (mw κ q mth mn mib mpa mwi mch mst msz mns mld mps mbb mno mpk mtu mfo mbi mwr mus mnu mli mot mbl mki mfr mde mbe mow mco mpt mle mpl mit mro (upd maw x3.toNatClampNeg (-1 : Int32)))) C 23 rfl b1 dX9_walk_16 rfl ?_
      refine x_iinc (v := x3 + 1) (lv2 := [(3, .int (x3 + 1)), (0, .ref (q 0)), (1, .int x1), (2, .int x2)]) C dX9_walk_17 3 rfl rfl (by decide) rfl ?_
      refine x_goto (tgt := 2) C dX9_walk_20 (by decide) ?_
      exact x_sub [1, 2, 3, 0] rfl (ih _ _ _ hF K)
set_option maxHeartbeats 4000000 in
set_option maxRecDepth 100000 in
theorem w_X9_walk_L51 {κ : xb_k} {Γ : xb_X} {q : Nat → Nat} {mth : Int32} {mn : Int32} {mib : Int32} {mpa : Int32} {mwi : Int32} {mch : Int32} {mst : Int32} {msz : Int32} {mns : Int32} {mld : Int32} {mps : Int32} {mbb : Int32} {mno : (Nat → Int32)} {mpk : (Nat → Int32)} {mtu : (Nat → Int32)} {mfo : (Nat → Int32)} {mbi : (Nat → Int32)} {mwr : (Nat → Int32)} {mus : (Nat → Int32)} {mnu : (Nat → Int32)} {mli : (Nat → Int32)} {mot : (Nat → Int32)} {mbl : (Nat → Int32)} {mki : (Nat → Int32)} {mfr : (Nat → Int32)} {mde : (Nat → Int32)} {mbe : (Nat → Int32)} {mow : (Nat → Int32)} {mco : (Nat → Int32)} {mpt : (Nat → Int32)} {mle : (Nat → Int32)} {mpl : (Nat → Int32)} {mit : (Nat → Int32)} {x2 : Int32} {x4 : Int32}  (C : xb_C κ Γ 6 cX9_walk RX9 { frames := 0, cells := 0, slots := 0, locals := 0 }) : ∀ (n : Nat) (x3 : Int32) (x5 : Int32) (maw : (Nat → Int32)) (mro : (Nat → Int32)) (o : Int32 × (Nat → Int32) × (Nat → Int32)), F_X9_walk_L51 x2 x4 mn mno n x3 x5 maw mro = some o → xb_W κ Γ 6 0 0 155 [(0, .ref (q 0)), (2, .int x2), (3, .int o.1), (4, .int x4)] [] (mw κ q mth mn mib mpa mwi mch mst msz mns mld mps mbb mno mpk mtu mfo mbi mwr mus mnu mli mot mbl mki mfr mde mbe mow mco mpt mle mpl mit o.2.2 o.2.1) → xb_W κ Γ 6 0 0 51 [(0, .ref (q 0)), (2, .int x2), (3, .int x3), (4, .int x4), (5, .int x5)] [] (mw κ q mth mn mib mpa mwi mch mst msz mns mld mps mbb mno mpk mtu mfo mbi mwr mus mnu mli mot mbl mki mfr mde mbe mow mco mpt mle mpl mit mro maw) := by
  intro n
  induction n with
  | zero =>
    intro x3 x5 maw mro o hF K
    rw [F_X9_walk_L51] at hF
    cases hF
  | succ n ih =>
    intro x3 x5 maw mro o hF K
    rw [F_X9_walk_L51] at hF
    refine x_iload C dX9_walk_51 4 rfl ?_
    refine x_aload_n C dX9_walk_53 0 rfl ?_
    refine gf_X9_93 C 0 rfl rfl dX9_walk_54 ?_
    refine x_icmp_ge (tgt := 155) C dX9_walk_57 (by decide) (fun hc => ?_) (fun hc => ?_)
    · replace hF := ifp hc hF
      cases hF
      exact x_sub [0, 1, 2, 3] rfl K
    · replace hF := ifn hc hF
      refine x_aload_n C dX9_walk_60 0 rfl ?_
      refine gf_X9_90 C 0 rfl rfl dX9_walk_61 ?_
      refine x_iload C dX9_walk_64 4 rfl ?_
      obtain ⟨b6, hF⟩ := ck_s hF
      refine x_iald C 23 rfl b6 dX9_walk_66 ?_
      refine x_iconst (v := (-1)) C dX9_walk_67 (by decide) ?_
      refine x_icmp_ne (tgt := 149) C dX9_walk_68 (by decide) (fun hc => ?_) (fun hc => ?_)
      · replace hF := ifn hc hF
        refine x_iinc (v := x5 + 1) (lv2 := [(5, .int (x5 + 1)), (0, .ref (q 0)), (2, .int x2), (3, .int x3), (4, .int x4)]) C dX9_walk_149 4 rfl rfl (by decide) rfl ?_
        refine x_goto (tgt := 51) C dX9_walk_152 (by decide) ?_
        exact x_sub [1, 2, 3, 4, 0] rfl (ih _ _ _ _ _ hF K)
      · replace hF := ifp hc hF
        refine x_aload_n C dX9_walk_71 0 rfl ?_
        refine gf_X9_13 C 0 rfl rfl dX9_walk_72 ?_
        refine x_bipush (v := 48) C dX9_walk_75 (by decide) ?_
        refine x_aload_n C dX9_walk_77 0 rfl ?_
        refine gf_X9_87 C 0 rfl rfl dX9_walk_78 ?_
        refine x_iload C dX9_walk_81 3 rfl ?_
        obtain ⟨b7, hF⟩ := ck_s hF
        refine x_iald C 22 rfl b7 dX9_walk_83 ?_
        refine x_imul C dX9_walk_84 ?_
        refine x_iload C dX9_walk_85 4 rfl ?_
        refine x_iadd C dX9_walk_87 ?_
        obtain ⟨b8, hF⟩ := ck_s hF
        refine x_zald C 1 rfl b8 dX9_walk_88 ?_
        refine x_if_ne (tgt := 117) C dX9_walk_89 (by decide) (fun hc => ?_) (fun hc => ?_)
        · replace hF := ifn hc hF
          refine x_aload_n C dX9_walk_117 0 rfl ?_
          refine gf_X9_90 C 0 rfl rfl dX9_walk_118 ?_
          refine x_iload C dX9_walk_121 4 rfl ?_
          refine x_aload_n C dX9_walk_123 0 rfl ?_
          refine gf_X9_90 C 0 rfl rfl dX9_walk_124 ?_
          refine x_aload_n C dX9_walk_127 0 rfl ?_
          refine gf_X9_87 C 0 rfl rfl dX9_walk_128 ?_
          refine x_iload C dX9_walk_131 3 rfl ?_
          obtain ⟨b9, hF⟩ := ck_s hF
          refine x_iald C 22 rfl b9 dX9_walk_133 ?_
          obtain ⟨b10, hF⟩ := ck_s hF
          refine x_iald C 23 rfl b10 dX9_walk_134 ?_
          refine x_iconst (v := 1) C dX9_walk_135 (by decide) ?_
          refine x_iadd C dX9_walk_136 ?_
          obtain ⟨b11, hF⟩ := ck_s hF
          refine x_iast (ws2 := (mw κ q mth mn mib mpa mwi mch mst msz mns mld mps mbb mno mpk mtu mfo mbi mwr mus mnu mli mot mbl mki mfr mde mbe mow mco mpt mle mpl mit mro (upd maw x5.toNatClampNeg ((maw (mro x4.toNatClampNeg).toNatClampNeg) + (1 : Int32))))) C 23 rfl b11 dX9_walk_137 rfl ?_
          refine x_aload_n C dX9_walk_138 0 rfl ?_
          refine gf_X9_87 C 0 rfl rfl dX9_walk_139 ?_
          refine x_iload_n C dX9_walk_142 2 rfl ?_
          refine x_iload C dX9_walk_143 4 rfl ?_
          obtain ⟨b12, hF⟩ := ck_s hF
          refine x_iast (ws2 := (mw κ q mth mn mib mpa mwi mch mst msz mns mld mps mbb mno mpk mtu mfo mbi mwr mus mnu mli mot mbl mki mfr mde mbe mow mco mpt mle mpl mit (upd mro x3.toNatClampNeg x5) (upd maw x5.toNatClampNeg ((maw (mro x4.toNatClampNeg).toNatClampNeg) + (1 : Int32))))) C 22 rfl b12 dX9_walk_145 rfl ?_
          refine x_iinc (v := x3 + 1) (lv2 := [(3, .int (x3 + 1)), (0, .ref (q 0)), (2, .int x2), (4, .int x4), (5, .int x5)]) C dX9_walk_146 2 rfl rfl (by decide) rfl ?_
          refine x_iinc (v := x5 + 1) (lv2 := [(5, .int (x5 + 1)), (3, .int (x3 + 1)), (0, .ref (q 0)), (2, .int x2), (4, .int x4)]) C dX9_walk_149 4 rfl rfl (by decide) rfl ?_
          refine x_goto (tgt := 51) C dX9_walk_152 (by decide) ?_
          exact x_sub [2, 3, 1, 4, 0] rfl (ih _ _ _ _ _ hF K)
        · replace hF := ifp hc hF
          refine x_iload_n C dX9_walk_92 1 rfl ?_
          refine x_if_eq (tgt := 149) C dX9_walk_93 (by decide) (fun hc => ?_) (fun hc => ?_)
          · replace hF := ifp hc hF
            refine x_iinc (v := x5 + 1) (lv2 := [(5, .int (x5 + 1)), (0, .ref (q 0)), (2, .int x2), (3, .int x3), (4, .int x4)]) C dX9_walk_149 4 rfl rfl (by decide) rfl ?_
            refine x_goto (tgt := 51) C dX9_walk_152 (by decide) ?_
            exact x_sub [1, 2, 3, 4, 0] rfl (ih _ _ _ _ _ hF K)
          · replace hF := ifn hc hF
            refine x_aload_n C dX9_walk_96 0 rfl ?_
            refine gf_X9_13 C 0 rfl rfl dX9_walk_97 ?_
            refine x_bipush (v := 48) C dX9_walk_100 (by decide) ?_
            refine x_iload C dX9_walk_102 4 rfl ?_
            refine x_imul C dX9_walk_104 ?_
            refine x_aload_n C dX9_walk_105 0 rfl ?_
            refine gf_X9_87 C 0 rfl rfl dX9_walk_106 ?_
            refine x_iload C dX9_walk_109 3 rfl ?_
            obtain ⟨b13, hF⟩ := ck_s hF
            refine x_iald C 22 rfl b13 dX9_walk_111 ?_
            refine x_iadd C dX9_walk_112 ?_
            obtain ⟨b14, hF⟩ := ck_s hF
            refine x_zald C 1 rfl b14 dX9_walk_113 ?_
            refine x_if_eq (tgt := 149) C dX9_walk_114 (by decide) (fun hc => ?_) (fun hc => ?_)
            · replace hF := ifp hc hF
              refine x_iinc (v := x5 + 1) (lv2 := [(5, .int (x5 + 1)), (0, .ref (q 0)), (2, .int x2), (3, .int x3), (4, .int x4)]) C dX9_walk_149 4 rfl rfl (by decide) rfl ?_
              refine x_goto (tgt := 51) C dX9_walk_152 (by decide) ?_
              exact x_sub [1, 2, 3, 4, 0] rfl (ih _ _ _ _ _ hF K)
            · replace hF := ifn hc hF
              refine x_aload_n C dX9_walk_117 0 rfl ?_
              refine gf_X9_90 C 0 rfl rfl dX9_walk_118 ?_
              refine x_iload C dX9_walk_121 4 rfl ?_
              refine x_aload_n C dX9_walk_123 0 rfl ?_
              refine gf_X9_90 C 0 rfl rfl dX9_walk_124 ?_
              refine x_aload_n C dX9_walk_127 0 rfl ?_
              refine gf_X9_87 C 0 rfl rfl dX9_walk_128 ?_
              refine x_iload C dX9_walk_131 3 rfl ?_
              obtain ⟨b15, hF⟩ := ck_s hF
              refine x_iald C 22 rfl b15 dX9_walk_133 ?_
              obtain ⟨b16, hF⟩ := ck_s hF
              refine x_iald C 23 rfl b16 dX9_walk_134 ?_
              refine x_iconst (v := 1) C dX9_walk_135 (by decide) ?_
              refine x_iadd C dX9_walk_136 ?_
              obtain ⟨b17, hF⟩ := ck_s hF
              refine x_iast (ws2 := (mw κ q mth mn mib mpa mwi mch mst msz mns mld mps mbb mno mpk mtu mfo mbi mwr mus mnu mli mot mbl mki mfr mde mbe mow mco mpt mle mpl mit mro (upd maw x5.toNatClampNeg ((maw (mro x4.toNatClampNeg).toNatClampNeg) + (1 : Int32))))) C 23 rfl b17 dX9_walk_137 rfl ?_
              refine x_aload_n C dX9_walk_138 0 rfl ?_
              refine gf_X9_87 C 0 rfl rfl dX9_walk_139 ?_
              refine x_iload_n C dX9_walk_142 2 rfl ?_
              refine x_iload C dX9_walk_143 4 rfl ?_
              obtain ⟨b18, hF⟩ := ck_s hF
              refine x_iast (ws2 := (mw κ q mth mn mib mpa mwi mch mst msz mns mld mps mbb mno mpk mtu mfo mbi mwr mus mnu mli mot mbl mki mfr mde mbe mow mco mpt mle mpl mit (upd mro x3.toNatClampNeg x5) (upd maw x5.toNatClampNeg ((maw (mro x4.toNatClampNeg).toNatClampNeg) + (1 : Int32))))) C 22 rfl b18 dX9_walk_145 rfl ?_
              refine x_iinc (v := x3 + 1) (lv2 := [(3, .int (x3 + 1)), (0, .ref (q 0)), (2, .int x2), (4, .int x4), (5, .int x5)]) C dX9_walk_146 2 rfl rfl (by decide) rfl ?_
              refine x_iinc (v := x5 + 1) (lv2 := [(5, .int (x5 + 1)), (3, .int (x3 + 1)), (0, .ref (q 0)), (2, .int x2), (4, .int x4)]) C dX9_walk_149 4 rfl rfl (by decide) rfl ?_
              refine x_goto (tgt := 51) C dX9_walk_152 (by decide) ?_
              exact x_sub [2, 3, 1, 4, 0] rfl (ih _ _ _ _ _ hF K)
set_option maxHeartbeats 4000000 in
set_option maxRecDepth 100000 in
theorem w_X9_walk_L42 {κ : xb_k} {Γ : xb_X} {q : Nat → Nat} {mth : Int32} {mn : Int32} {mib : Int32} {mpa : Int32} {mwi : Int32} {mch : Int32} {mst : Int32} {msz : Int32} {mns : Int32} {mld : Int32} {mps : Int32} {mbb : Int32} {mno : (Nat → Int32)} {mpk : (Nat → Int32)} {mtu : (Nat → Int32)} {mfo : (Nat → Int32)} {mbi : (Nat → Int32)} {mwr : (Nat → Int32)} {mus : (Nat → Int32)} {mnu : (Nat → Int32)} {mli : (Nat → Int32)} {mot : (Nat → Int32)} {mbl : (Nat → Int32)} {mki : (Nat → Int32)} {mfr : (Nat → Int32)} {mde : (Nat → Int32)} {mbe : (Nat → Int32)} {mow : (Nat → Int32)} {mco : (Nat → Int32)} {mpt : (Nat → Int32)} {mle : (Nat → Int32)} {mpl : (Nat → Int32)} {mit : (Nat → Int32)} {x2 : Int32} {fu : Nat} (C : xb_C κ Γ 6 cX9_walk RX9 { frames := 0, cells := 0, slots := 0, locals := 0 }) : ∀ (n : Nat) (x3 : Int32) (x4 : Int32) (maw : (Nat → Int32)) (mro : (Nat → Int32)) (o : Int32 × (Nat → Int32) × (Nat → Int32)), F_X9_walk_L42 fu x2 mn mno n x3 x4 maw mro = some o → xb_W κ Γ 6 0 0 161 [(3, .int o.1)] [] (mw κ q mth mn mib mpa mwi mch mst msz mns mld mps mbb mno mpk mtu mfo mbi mwr mus mnu mli mot mbl mki mfr mde mbe mow mco mpt mle mpl mit o.2.2 o.2.1) → xb_W κ Γ 6 0 0 42 [(0, .ref (q 0)), (2, .int x2), (3, .int x3), (4, .int x4)] [] (mw κ q mth mn mib mpa mwi mch mst msz mns mld mps mbb mno mpk mtu mfo mbi mwr mus mnu mli mot mbl mki mfr mde mbe mow mco mpt mle mpl mit mro maw) := by
  intro n
  induction n with
  | zero =>
    intro x3 x4 maw mro o hF K
    rw [F_X9_walk_L42] at hF
    cases hF
  | succ n ih =>
    intro x3 x4 maw mro o hF K
    rw [F_X9_walk_L42] at hF
    refine x_iload C dX9_walk_42 3 rfl ?_
    refine x_iload_n C dX9_walk_44 2 rfl ?_
    refine x_icmp_ge (tgt := 161) C dX9_walk_45 (by decide) (fun hc => ?_) (fun hc => ?_)
    · replace hF := ifp hc hF
      cases hF
      exact x_sub [2] rfl K
    · replace hF := ifn hc hF
      refine x_iconst (v := 0) C dX9_walk_48 (by decide) ?_
      refine x_istore (lv2 := [(5, .int (0 : Int32)), (0, .ref (q 0)), (2, .int x2), (3, .int x3), (4, .int x4)]) C dX9_walk_49 (by decide) rfl ?_
      obtain ⟨o6, h7, hF⟩ := bd_s hF
      refine x_sub [1, 2, 3, 4, 0] rfl (w_X9_walk_L51 C fu _ _ _ _ _ h7 ?_)
      refine x_iinc (v := x4 + 1) (lv2 := [(4, .int (x4 + 1)), (0, .ref (q 0)), (2, .int x2), (3, .int o6.1)]) C dX9_walk_155 3 rfl rfl (by decide) rfl ?_
      refine x_goto (tgt := 42) C dX9_walk_158 (by decide) ?_
      exact x_sub [1, 2, 3, 0] rfl (ih _ _ _ _ _ hF K)
set_option maxHeartbeats 4000000 in
set_option maxRecDepth 100000 in
theorem c_X9_walk {κ : xb_k} {q : Nat → Nat} {mth : Int32} {mn : Int32} {mib : Int32} {mpa : Int32} {mwi : Int32} {mch : Int32} {mst : Int32} {msz : Int32} {mns : Int32} {mld : Int32} {mps : Int32} {mbb : Int32} {mno : (Nat → Int32)} {mpk : (Nat → Int32)} {mtu : (Nat → Int32)} {mfo : (Nat → Int32)} {mbi : (Nat → Int32)} {mwr : (Nat → Int32)} {mus : (Nat → Int32)} {mnu : (Nat → Int32)} {mli : (Nat → Int32)} {mot : (Nat → Int32)} {mbl : (Nat → Int32)} {mki : (Nat → Int32)} {mfr : (Nat → Int32)} {mde : (Nat → Int32)} {mbe : (Nat → Int32)} {mow : (Nat → Int32)} {mco : (Nat → Int32)} {mpt : (Nat → Int32)} {mle : (Nat → Int32)} {mpl : (Nat → Int32)} {mit : (Nat → Int32)} {mro : (Nat → Int32)} {maw : (Nat → Int32)} {x1 : Int32} {x2 : Int32} {fu : Nat} {o : Int32 × (Nat → Int32) × (Nat → Int32)} (hF : F_X9_walk fu x1 x2 mn maw mro mno = some o) : Met κ.1 yX9_walk [Cond.code yX9_walk cX9_walk 6 (some .int)] { frames := 0, cells := 0, slots := 0, locals := 0 } (xb_P κ [.ref (q 0), .int x1, .int x2] (mw κ q mth mn mib mpa mwi mch mst msz mns mld mps mbb mno mpk mtu mfo mbi mwr mus mnu mli mot mbl mki mfr mde mbe mow mco mpt mle mpl mit mro maw)) (xb_Qi κ o.1 (mw κ q mth mn mib mpa mwi mch mst msz mns mld mps mbb mno mpk mtu mfo mbi mwr mus mnu mli mot mbl mki mfr mde mbe mow mco mpt mle mpl mit o.2.2 o.2.1)) 0 0 κ.2.2.1 := by
  refine x_enter (own := RX9) (lv0 := [(0, .ref (q 0)), (1, .int x1), (2, .int x2)]) (by decide) rfl rfl rfl (fun Γ C E => ?_)
  unfold F_X9_walk at hF
  refine x_iconst (v := 0) C dX9_walk_0 (by decide) ?_
  refine x_istore_n (lv2 := [(3, .int (0 : Int32)), (0, .ref (q 0)), (1, .int x1), (2, .int x2)]) C dX9_walk_1 rfl (by decide) rfl ?_
  obtain ⟨o2, h3, hF⟩ := bd_s hF
  refine x_sub [1, 2, 3, 0] rfl (w_X9_walk_L2 C fu _ _ _ h3 ?_)
  refine x_iconst (v := 1) C dX9_walk_23 (by decide) ?_
  refine x_istore_n (lv2 := [(3, .int (1 : Int32)), (0, .ref (q 0)), (1, .int x1), (2, .int x2)]) C dX9_walk_24 rfl (by decide) rfl ?_
  refine x_aload_n C dX9_walk_25 1 rfl ?_
  refine gf_X9_87 C 0 rfl rfl dX9_walk_26 ?_
  refine x_iconst (v := 0) C dX9_walk_29 (by decide) ?_
  refine x_iload_n C dX9_walk_30 2 rfl ?_
  obtain ⟨b4, hF⟩ := ck_s hF
  refine x_iast (ws2 := (mw κ q mth mn mib mpa mwi mch mst msz mns mld mps mbb mno mpk mtu mfo mbi mwr mus mnu mli mot mbl mki mfr mde mbe mow mco mpt mle mpl mit (upd mro (0 : Int32).toNatClampNeg x1) o2)) C 22 rfl b4 dX9_walk_31 rfl ?_
  refine x_aload_n C dX9_walk_32 1 rfl ?_
  refine gf_X9_90 C 0 rfl rfl dX9_walk_33 ?_
  refine x_iload_n C dX9_walk_36 2 rfl ?_
  refine x_iconst (v := 0) C dX9_walk_37 (by decide) ?_
  obtain ⟨b5, hF⟩ := ck_s hF
  refine x_iast (ws2 := (mw κ q mth mn mib mpa mwi mch mst msz mns mld mps mbb mno mpk mtu mfo mbi mwr mus mnu mli mot mbl mki mfr mde mbe mow mco mpt mle mpl mit (upd mro (0 : Int32).toNatClampNeg x1) (upd o2 x1.toNatClampNeg (0 : Int32)))) C 23 rfl b5 dX9_walk_38 rfl ?_
  refine x_iconst (v := 0) C dX9_walk_39 (by decide) ?_
  refine x_istore (lv2 := [(4, .int (0 : Int32)), (3, .int (1 : Int32)), (0, .ref (q 0)), (1, .int x1), (2, .int x2)]) C dX9_walk_40 (by decide) rfl ?_
  obtain ⟨o8, h9, hF⟩ := bd_s hF
  refine x_sub [2, 4, 1, 0] rfl (w_X9_walk_L42 C fu _ _ _ _ _ h9 ?_)
  refine x_iload_n C dX9_walk_161 0 rfl ?_
  cases hF
  exact x_iret C E dX9_walk_162
set_option maxHeartbeats 4000000 in
set_option maxRecDepth 100000 in
theorem w_X9_parts_L35 {κ : xb_k} {Γ : xb_X} {q : Nat → Nat} {mth : Int32} {mn : Int32} {mib : Int32} {mpa : Int32} {mwi : Int32} {mch : Int32} {mst : Int32} {msz : Int32} {mns : Int32} {mld : Int32} {mps : Int32} {mbb : Int32} {mno : (Nat → Int32)} {mpk : (Nat → Int32)} {mtu : (Nat → Int32)} {mfo : (Nat → Int32)} {mbi : (Nat → Int32)} {mwr : (Nat → Int32)} {mus : (Nat → Int32)} {mnu : (Nat → Int32)} {mli : (Nat → Int32)} {mot : (Nat → Int32)} {mbl : (Nat → Int32)} {mki : (Nat → Int32)} {mfr : (Nat → Int32)} {mde : (Nat → Int32)} {mbe : (Nat → Int32)} {mow : (Nat → Int32)} {mco : (Nat → Int32)} {mpt : (Nat → Int32)} {mle : (Nat → Int32)} {mpl : (Nat → Int32)} {mro : (Nat → Int32)} {maw : (Nat → Int32)}   (C : xb_C κ Γ 6 cX9_parts RX9 { frames := 2, cells := 0, slots := 0, locals := 46 }) : ∀ (n : Nat) (x2 : Int32) (mit : (Nat → Int32)) (o : (Nat → Int32)), F_X9_parts_L35 mn n x2 mit = some o → xb_W κ Γ 6 0 0 56 [(0, .ref (q 0))] [] (mw κ q mth mn mib mpa mwi mch mst msz mns mld mps mbb mno mpk mtu mfo mbi mwr mus mnu mli mot mbl mki mfr mde mbe mow mco mpt mle mpl o mro maw) → xb_W κ Γ 6 0 0 35 [(0, .ref (q 0)), (2, .int x2)] [] (mw κ q mth mn mib mpa mwi mch mst msz mns mld mps mbb mno mpk mtu mfo mbi mwr mus mnu mli mot mbl mki mfr mde mbe mow mco mpt mle mpl mit mro maw) := by
  intro n
  induction n with
  | zero =>
    intro x2 mit o hF K
    rw [F_X9_parts_L35] at hF
    cases hF
  | succ n ih =>
    intro x2 mit o hF K
    rw [F_X9_parts_L35] at hF
    refine x_iload_n C dX9_parts_35 1 rfl ?_
    refine x_aload_n C dX9_parts_36 0 rfl ?_
    refine gf_X9_93 C 0 rfl rfl dX9_parts_37 ?_
    refine x_icmp_ge (tgt := 56) C dX9_parts_40 (by decide) (fun hc => ?_) (fun hc => ?_)
    · replace hF := ifp hc hF
      cases hF
      exact x_sub [0] rfl K
    · replace hF := ifn hc hF
      refine x_aload_n C dX9_parts_43 0 rfl ?_
      refine gf_X9_84 C 0 rfl rfl dX9_parts_44 ?_
      refine x_iload_n C dX9_parts_47 1 rfl ?_
      refine x_iconst (v := 0) C dX9_parts_48 (by decide) ?_
      obtain ⟨b1, hF⟩ := ck_s hF
      refine x_zast (ws2 := (mw κ q mth mn mib mpa mwi mch mst msz mns mld mps mbb mno mpk mtu mfo mbi mwr mus mnu mli mot mbl mki mfr mde mbe mow mco mpt mle mpl (upd mit x2.toNatClampNeg (vp_nar .boolean (0 : Int32))) mro maw)) C 21 rfl b1 dX9_parts_49 rfl ?_
      refine x_iinc (v := x2 + 1) (lv2 := [(2, .int (x2 + 1)), (0, .ref (q 0))]) C dX9_parts_50 1 rfl rfl (by decide) rfl ?_
      refine x_goto (tgt := 35) C dX9_parts_53 (by decide) ?_
      exact x_sub [1, 0] rfl (ih _ _ _ hF K)
set_option maxHeartbeats 4000000 in
set_option maxRecDepth 100000 in
theorem w_X9_parts_L91 {κ : xb_k} {Γ : xb_X} {q : Nat → Nat} {mth : Int32} {mn : Int32} {mib : Int32} {mpa : Int32} {mwi : Int32} {mch : Int32} {mst : Int32} {msz : Int32} {mns : Int32} {mld : Int32} {mps : Int32} {mbb : Int32} {mno : (Nat → Int32)} {mpk : (Nat → Int32)} {mtu : (Nat → Int32)} {mfo : (Nat → Int32)} {mbi : (Nat → Int32)} {mwr : (Nat → Int32)} {mus : (Nat → Int32)} {mnu : (Nat → Int32)} {mli : (Nat → Int32)} {mot : (Nat → Int32)} {mbl : (Nat → Int32)} {mki : (Nat → Int32)} {mfr : (Nat → Int32)} {mde : (Nat → Int32)} {mbe : (Nat → Int32)} {mow : (Nat → Int32)} {mco : (Nat → Int32)} {mpt : (Nat → Int32)} {mle : (Nat → Int32)} {mpl : (Nat → Int32)} {mro : (Nat → Int32)} {maw : (Nat → Int32)} {x2 : Int32} {x3 : Int32} {x4 : Int32}  (C : xb_C κ Γ 6 cX9_parts RX9 { frames := 2, cells := 0, slots := 0, locals := 46 }) : ∀ (n : Nat) (x5 : Int32) (mit : (Nat → Int32)) (o : (Nat → Int32)), F_X9_parts_L91 x2 x3 x4 mro n x5 mit = some o → xb_W κ Γ 6 0 0 117 [(0, .ref (q 0)), (2, .int x2), (3, .int x3)] [] (mw κ q mth mn mib mpa mwi mch mst msz mns mld mps mbb mno mpk mtu mfo mbi mwr mus mnu mli mot mbl mki mfr mde mbe mow mco mpt mle mpl o mro maw) → xb_W κ Γ 6 0 0 91 [(0, .ref (q 0)), (2, .int x2), (3, .int x3), (4, .int x4), (5, .int x5)] [] (mw κ q mth mn mib mpa mwi mch mst msz mns mld mps mbb mno mpk mtu mfo mbi mwr mus mnu mli mot mbl mki mfr mde mbe mow mco mpt mle mpl mit mro maw) := by
  intro n
  induction n with
  | zero =>
    intro x5 mit o hF K
    rw [F_X9_parts_L91] at hF
    cases hF
  | succ n ih =>
    intro x5 mit o hF K
    rw [F_X9_parts_L91] at hF
    refine x_iload C dX9_parts_91 4 rfl ?_
    refine x_iload C dX9_parts_93 3 rfl ?_
    refine x_icmp_ge (tgt := 117) C dX9_parts_95 (by decide) (fun hc => ?_) (fun hc => ?_)
    · replace hF := ifp hc hF
      cases hF
      exact x_sub [0, 1, 2] rfl K
    · replace hF := ifn hc hF
      refine x_aload_n C dX9_parts_98 0 rfl ?_
      refine gf_X9_84 C 0 rfl rfl dX9_parts_99 ?_
      refine x_aload_n C dX9_parts_102 0 rfl ?_
      refine gf_X9_87 C 0 rfl rfl dX9_parts_103 ?_
      refine x_iload C dX9_parts_106 4 rfl ?_
      obtain ⟨b7, hF⟩ := ck_s hF
      refine x_iald C 22 rfl b7 dX9_parts_108 ?_
      refine x_iconst (v := 1) C dX9_parts_109 (by decide) ?_
      obtain ⟨b8, hF⟩ := ck_s hF
      refine x_zast (ws2 := (mw κ q mth mn mib mpa mwi mch mst msz mns mld mps mbb mno mpk mtu mfo mbi mwr mus mnu mli mot mbl mki mfr mde mbe mow mco mpt mle mpl (upd mit (mro x5.toNatClampNeg).toNatClampNeg (vp_nar .boolean (1 : Int32))) mro maw)) C 21 rfl b8 dX9_parts_110 rfl ?_
      refine x_iinc (v := x5 + 1) (lv2 := [(5, .int (x5 + 1)), (0, .ref (q 0)), (2, .int x2), (3, .int x3), (4, .int x4)]) C dX9_parts_111 4 rfl rfl (by decide) rfl ?_
      refine x_goto (tgt := 91) C dX9_parts_114 (by decide) ?_
      exact x_sub [1, 2, 3, 4, 0] rfl (ih _ _ _ hF K)
set_option maxHeartbeats 4000000 in
set_option maxRecDepth 100000 in
theorem w_X9_parts_L60 {κ : xb_k} {Γ : xb_X} {q : Nat → Nat} {mth : Int32} {mn : Int32} {mib : Int32} {mpa : Int32} {mwi : Int32} {mch : Int32} {mst : Int32} {msz : Int32} {mns : Int32} {mld : Int32} {mps : Int32} {mbb : Int32} {mno : (Nat → Int32)} {mpk : (Nat → Int32)} {mtu : (Nat → Int32)} {mfo : (Nat → Int32)} {mbi : (Nat → Int32)} {mwr : (Nat → Int32)} {mus : (Nat → Int32)} {mnu : (Nat → Int32)} {mli : (Nat → Int32)} {mot : (Nat → Int32)} {mbl : (Nat → Int32)} {mki : (Nat → Int32)} {mfr : (Nat → Int32)} {mde : (Nat → Int32)} {mbe : (Nat → Int32)} {mow : (Nat → Int32)} {mco : (Nat → Int32)} {mpt : (Nat → Int32)} {mle : (Nat → Int32)} {mpl : (Nat → Int32)}  {fu : Nat} (C : xb_C κ Γ 6 cX9_parts RX9 { frames := 2, cells := 0, slots := 0, locals := 46 }) : ∀ (n : Nat) (x2 : Int32) (x3 : Int32) (maw : (Nat → Int32)) (mro : (Nat → Int32)) (mit : (Nat → Int32)) (o : Int32 × (Nat → Int32) × (Nat → Int32) × (Nat → Int32)), F_X9_parts_L60 fu mn mno n x2 x3 maw mro mit = some o → xb_W κ Γ 6 0 0 123 [(2, .int o.1)] [] (mw κ q mth mn mib mpa mwi mch mst msz mns mld mps mbb mno mpk mtu mfo mbi mwr mus mnu mli mot mbl mki mfr mde mbe mow mco mpt mle mpl o.2.2.2 o.2.2.1 o.2.1) → xb_W κ Γ 6 0 0 60 [(0, .ref (q 0)), (2, .int x2), (3, .int x3)] [] (mw κ q mth mn mib mpa mwi mch mst msz mns mld mps mbb mno mpk mtu mfo mbi mwr mus mnu mli mot mbl mki mfr mde mbe mow mco mpt mle mpl mit mro maw) := by
  intro n
  induction n with
  | zero =>
    intro x2 x3 maw mro mit o hF K
    rw [F_X9_parts_L60] at hF
    cases hF
  | succ n ih =>
    intro x2 x3 maw mro mit o hF K
    rw [F_X9_parts_L60] at hF
    refine x_iload_n C dX9_parts_60 2 rfl ?_
    refine x_aload_n C dX9_parts_61 0 rfl ?_
    refine gf_X9_93 C 0 rfl rfl dX9_parts_62 ?_
    refine x_icmp_ge (tgt := 123) C dX9_parts_65 (by decide) (fun hc => ?_) (fun hc => ?_)
    · replace hF := ifp hc hF
      cases hF
      exact x_sub [1] rfl K
    · replace hF := ifn hc hF
      refine x_aload_n C dX9_parts_68 0 rfl ?_
      refine gf_X9_84 C 0 rfl rfl dX9_parts_69 ?_
      refine x_iload_n C dX9_parts_72 2 rfl ?_
      obtain ⟨b4, hF⟩ := ck_s hF
      refine x_zald C 21 rfl b4 dX9_parts_73 ?_
      refine x_if_ne (tgt := 117) C dX9_parts_74 (by decide) (fun hc => ?_) (fun hc => ?_)
      · replace hF := ifn hc hF
        refine x_iinc (v := x3 + 1) (lv2 := [(3, .int (x3 + 1)), (0, .ref (q 0)), (2, .int x2)]) C dX9_parts_117 2 rfl rfl (by decide) rfl ?_
        refine x_goto (tgt := 60) C dX9_parts_120 (by decide) ?_
        exact x_sub [1, 2, 0] rfl (ih _ _ _ _ _ _ hF K)
      · replace hF := ifp hc hF
        refine x_iinc (v := x2 + 1) (lv2 := [(2, .int (x2 + 1)), (0, .ref (q 0)), (3, .int x3)]) C dX9_parts_77 1 rfl rfl (by decide) rfl ?_
        refine x_aload_n C dX9_parts_80 1 rfl ?_
        refine x_iload_n C dX9_parts_81 2 rfl ?_
        refine x_iconst (v := 1) C dX9_parts_82 (by decide) ?_
        obtain ⟨o5, h6, hF⟩ := bd_s hF
        refine x_callVi (st := []) C (c_X9_walk h6) xm_X9_walk ml_X9_262 0 rfl rfl rfl rfl rfl rfl dX9_parts_83 ⟨rfl, rfl⟩ ?_
        refine x_istore (lv2 := [(4, .int o5.1), (2, .int (x2 + 1)), (0, .ref (q 0)), (3, .int x3)]) C dX9_parts_86 (by decide) rfl ?_
        refine x_iconst (v := 0) C dX9_parts_88 (by decide) ?_
        refine x_istore (lv2 := [(5, .int (0 : Int32)), (4, .int o5.1), (2, .int (x2 + 1)), (0, .ref (q 0)), (3, .int x3)]) C dX9_parts_89 (by decide) rfl ?_
        obtain ⟨o7, h8, hF⟩ := bd_s hF
        refine x_sub [3, 2, 4, 1, 0] rfl (w_X9_parts_L91 C fu _ _ _ h8 ?_)
        refine x_iinc (v := x3 + 1) (lv2 := [(3, .int (x3 + 1)), (0, .ref (q 0)), (2, .int (x2 + 1))]) C dX9_parts_117 2 rfl rfl (by decide) rfl ?_
        refine x_goto (tgt := 60) C dX9_parts_120 (by decide) ?_
        exact x_sub [1, 2, 0] rfl (ih _ _ _ _ _ _ hF K)
set_option maxHeartbeats 4000000 in
set_option maxRecDepth 100000 in
theorem c_X9_parts {κ : xb_k} {q : Nat → Nat} {mth : Int32} {mn : Int32} {mib : Int32} {mpa : Int32} {mwi : Int32} {mch : Int32} {mst : Int32} {msz : Int32} {mns : Int32} {mld : Int32} {mps : Int32} {mbb : Int32} {mno : (Nat → Int32)} {mpk : (Nat → Int32)} {mtu : (Nat → Int32)} {mfo : (Nat → Int32)} {mbi : (Nat → Int32)} {mwr : (Nat → Int32)} {mus : (Nat → Int32)} {mnu : (Nat → Int32)} {mli : (Nat → Int32)} {mot : (Nat → Int32)} {mbl : (Nat → Int32)} {mki : (Nat → Int32)} {mfr : (Nat → Int32)} {mde : (Nat → Int32)} {mbe : (Nat → Int32)} {mow : (Nat → Int32)} {mco : (Nat → Int32)} {mpt : (Nat → Int32)} {mle : (Nat → Int32)} {mpl : (Nat → Int32)} {mit : (Nat → Int32)} {mro : (Nat → Int32)} {maw : (Nat → Int32)} {x1 : Int32} {fu : Nat} {o : Int32 × Int32 × (Nat → Int32) × (Nat → Int32) × (Nat → Int32)} (hF : F_X9_parts fu x1 mth mn mit maw mro mno = some o) : Met κ.1 yX9_parts [Cond.code yX9_parts cX9_parts 6 (some .int)] { frames := 2, cells := 0, slots := 0, locals := 46 } (xb_P κ [.ref (q 0), .int x1] (mw κ q mth mn mib mpa mwi mch mst msz mns mld mps mbb mno mpk mtu mfo mbi mwr mus mnu mli mot mbl mki mfr mde mbe mow mco mpt mle mpl mit mro maw)) (xb_Qi κ o.1 (mw κ q o.2.1 mn mib mpa mwi mch mst msz mns mld mps mbb mno mpk mtu mfo mbi mwr mus mnu mli mot mbl mki mfr mde mbe mow mco mpt mle mpl o.2.2.1 o.2.2.2.2 o.2.2.2.1)) 0 0 κ.2.2.1 := by
  refine x_enter (own := RX9) (lv0 := [(0, .ref (q 0)), (1, .int x1)]) (by decide) rfl rfl rfl (fun Γ C E => ?_)
  unfold F_X9_parts at hF
  refine x_aload_n C dX9_parts_0 0 rfl ?_
  refine x_iconst (v := 0) C dX9_parts_1 (by decide) ?_
  refine pf_X9_1 (ws2 := (mw κ q (0 : Int32) mn mib mpa mwi mch mst msz mns mld mps mbb mno mpk mtu mfo mbi mwr mus mnu mli mot mbl mki mfr mde mbe mow mco mpt mle mpl mit mro maw)) C 0 rfl dX9_parts_2 rfl rfl ?_
  refine x_iload_n C dX9_parts_5 1 rfl ?_
  refine x_iconst (v := (-1)) C dX9_parts_6 (by decide) ?_
  refine x_icmp_eq (tgt := 21) C dX9_parts_7 (by decide) (fun hc => ?_) (fun hc => ?_)
  · replace hF := ifp hc hF
    refine x_iload_n C dX9_parts_21 1 rfl ?_
    refine x_iconst (v := (-1)) C dX9_parts_22 (by decide) ?_
    refine x_icmp_eq (tgt := 33) C dX9_parts_23 (by decide) (fun hc => ?_) (fun hc => ?_)
    · replace hF := ifp hc hF
      refine x_iconst (v := 0) C dX9_parts_33 (by decide) ?_
      refine x_istore_n (lv2 := [(2, .int (0 : Int32)), (0, .ref (q 0)), (1, .int x1)]) C dX9_parts_34 rfl (by decide) rfl ?_
      obtain ⟨o2, h3, hF⟩ := bd_s hF
      refine x_sub [1, 0] rfl (w_X9_parts_L35 C fu _ _ _ h3 ?_)
      refine x_iconst (v := 0) C dX9_parts_56 (by decide) ?_
      refine x_istore_n (lv2 := [(2, .int (0 : Int32)), (0, .ref (q 0))]) C dX9_parts_57 rfl (by decide) rfl ?_
      refine x_iconst (v := 0) C dX9_parts_58 (by decide) ?_
      refine x_istore_n (lv2 := [(3, .int (0 : Int32)), (2, .int (0 : Int32)), (0, .ref (q 0))]) C dX9_parts_59 rfl (by decide) rfl ?_
      obtain ⟨o9, h10, hF⟩ := bd_s hF
      refine x_sub [2, 1, 0] rfl (w_X9_parts_L60 C fu _ _ _ _ _ _ h10 ?_)
      refine x_iload_n C dX9_parts_123 0 rfl ?_
      cases hF
      exact x_iret C E dX9_parts_124
    · replace hF := ifn hc hF
      refine x_aload_n C dX9_parts_26 0 rfl ?_
      refine x_iload_n C dX9_parts_27 1 rfl ?_
      refine x_iconst (v := 1) C dX9_parts_28 (by decide) ?_
      obtain ⟨o11, h12, hF⟩ := bd_s hF
      refine x_callVi (st := []) C (c_X9_walk h12) xm_X9_walk ml_X9_262 0 rfl rfl rfl rfl rfl rfl dX9_parts_29 ⟨rfl, rfl⟩ ?_
      cases hF
      exact x_iret C E dX9_parts_32
  · replace hF := ifn hc hF
    refine x_aload_n C dX9_parts_10 0 rfl ?_
    refine x_iload_n C dX9_parts_11 1 rfl ?_
    obtain ⟨o13, h14, hF⟩ := bd_s hF
    refine x_callVi (st := []) C (c_X9_isThing h14) xm_X9_isThing ml_X9_107 0 rfl rfl rfl rfl rfl rfl dX9_parts_12 ⟨rfl, rfl⟩ ?_
    refine x_if_ne (tgt := 21) C dX9_parts_15 (by decide) (fun hc => ?_) (fun hc => ?_)
    · replace hF := ifn hc hF
      refine x_iload_n C dX9_parts_21 1 rfl ?_
      refine x_iconst (v := (-1)) C dX9_parts_22 (by decide) ?_
      refine x_icmp_eq (tgt := 33) C dX9_parts_23 (by decide) (fun hc => ?_) (fun hc => ?_)
      · replace hF := ifp hc hF
        refine x_iconst (v := 0) C dX9_parts_33 (by decide) ?_
        refine x_istore_n (lv2 := [(2, .int (0 : Int32)), (0, .ref (q 0)), (1, .int x1)]) C dX9_parts_34 rfl (by decide) rfl ?_
        obtain ⟨o15, h16, hF⟩ := bd_s hF
        refine x_sub [1, 0] rfl (w_X9_parts_L35 C fu _ _ _ h16 ?_)
        refine x_iconst (v := 0) C dX9_parts_56 (by decide) ?_
        refine x_istore_n (lv2 := [(2, .int (0 : Int32)), (0, .ref (q 0))]) C dX9_parts_57 rfl (by decide) rfl ?_
        refine x_iconst (v := 0) C dX9_parts_58 (by decide) ?_
        refine x_istore_n (lv2 := [(3, .int (0 : Int32)), (2, .int (0 : Int32)), (0, .ref (q 0))]) C dX9_parts_59 rfl (by decide) rfl ?_
        obtain ⟨o17, h18, hF⟩ := bd_s hF
        refine x_sub [2, 1, 0] rfl (w_X9_parts_L60 C fu _ _ _ _ _ _ h18 ?_)
        refine x_iload_n C dX9_parts_123 0 rfl ?_
        cases hF
        exact x_iret C E dX9_parts_124
      · replace hF := ifn hc hF
        refine x_aload_n C dX9_parts_26 0 rfl ?_
        refine x_iload_n C dX9_parts_27 1 rfl ?_
        refine x_iconst (v := 1) C dX9_parts_28 (by decide) ?_
        obtain ⟨o19, h20, hF⟩ := bd_s hF
        refine x_callVi (st := []) C (c_X9_walk h20) xm_X9_walk ml_X9_262 0 rfl rfl rfl rfl rfl rfl dX9_parts_29 ⟨rfl, rfl⟩ ?_
        cases hF
        exact x_iret C E dX9_parts_32
    · replace hF := ifp hc hF
      refine x_bipush (v := (-2)) C dX9_parts_18 (by decide) ?_
      cases hF
      exact x_iret C E dX9_parts_20
set_option maxHeartbeats 4000000 in
set_option maxRecDepth 100000 in
theorem c_X9_far {κ : xb_k} {q : Nat → Nat} {mth : Int32} {mn : Int32} {mib : Int32} {mpa : Int32} {mwi : Int32} {mch : Int32} {mst : Int32} {msz : Int32} {mns : Int32} {mld : Int32} {mps : Int32} {mbb : Int32} {mno : (Nat → Int32)} {mpk : (Nat → Int32)} {mtu : (Nat → Int32)} {mfo : (Nat → Int32)} {mbi : (Nat → Int32)} {mwr : (Nat → Int32)} {mus : (Nat → Int32)} {mnu : (Nat → Int32)} {mli : (Nat → Int32)} {mot : (Nat → Int32)} {mbl : (Nat → Int32)} {mki : (Nat → Int32)} {mfr : (Nat → Int32)} {mde : (Nat → Int32)} {mbe : (Nat → Int32)} {mow : (Nat → Int32)} {mco : (Nat → Int32)} {mpt : (Nat → Int32)} {mle : (Nat → Int32)} {mpl : (Nat → Int32)} {mit : (Nat → Int32)} {mro : (Nat → Int32)} {maw : (Nat → Int32)} {x1 : Int32} {x2 : Int32} {fu : Nat} {o : Int32 × Int32 × (Nat → Int32) × (Nat → Int32)} (hF : F_X9_far fu x1 x2 mth mn maw mro mno = some o) : Met κ.1 yX9_far [Cond.code yX9_far cX9_far 4 (some .int)] { frames := 2, cells := 0, slots := 0, locals := 46 } (xb_P κ [.ref (q 0), .int x1, .int x2] (mw κ q mth mn mib mpa mwi mch mst msz mns mld mps mbb mno mpk mtu mfo mbi mwr mus mnu mli mot mbl mki mfr mde mbe mow mco mpt mle mpl mit mro maw)) (xb_Qi κ o.1 (mw κ q o.2.1 mn mib mpa mwi mch mst msz mns mld mps mbb mno mpk mtu mfo mbi mwr mus mnu mli mot mbl mki mfr mde mbe mow mco mpt mle mpl mit o.2.2.2 o.2.2.1)) 0 0 κ.2.2.1 := by
  refine x_enter (own := RX9) (lv0 := [(0, .ref (q 0)), (1, .int x1), (2, .int x2)]) (by decide) rfl rfl rfl (fun Γ C E => ?_)
  unfold F_X9_far at hF
  refine x_aload_n C dX9_far_0 0 rfl ?_
  refine x_iconst (v := 0) C dX9_far_1 (by decide) ?_
  refine pf_X9_1 (ws2 := (mw κ q (0 : Int32) mn mib mpa mwi mch mst msz mns mld mps mbb mno mpk mtu mfo mbi mwr mus mnu mli mot mbl mki mfr mde mbe mow mco mpt mle mpl mit mro maw)) C 0 rfl dX9_far_2 rfl rfl ?_
  refine x_aload_n C dX9_far_5 0 rfl ?_
  refine x_iload_n C dX9_far_6 1 rfl ?_
  obtain ⟨o1, h2, hF⟩ := bd_s hF
  refine x_callVi (st := []) C (c_X9_isThing h2) xm_X9_isThing ml_X9_107 0 rfl rfl rfl rfl rfl rfl dX9_far_7 ⟨rfl, rfl⟩ ?_
  refine x_if_eq (tgt := 21) C dX9_far_10 (by decide) (fun hc => ?_) (fun hc => ?_)
  · replace hF := ifp hc hF
    refine x_bipush (v := (-2)) C dX9_far_21 (by decide) ?_
    cases hF
    exact x_iret C E dX9_far_23
  · replace hF := ifn hc hF
    refine x_aload_n C dX9_far_13 0 rfl ?_
    refine x_iload_n C dX9_far_14 2 rfl ?_
    obtain ⟨o3, h4, hF⟩ := bd_s hF
    refine x_callVi (st := []) C (c_X9_isThing h4) xm_X9_isThing ml_X9_107 0 rfl rfl rfl rfl rfl rfl dX9_far_15 ⟨rfl, rfl⟩ ?_
    refine x_if_ne (tgt := 24) C dX9_far_18 (by decide) (fun hc => ?_) (fun hc => ?_)
    · replace hF := ifn hc hF
      refine x_aload_n C dX9_far_24 0 rfl ?_
      refine x_iload_n C dX9_far_25 1 rfl ?_
      refine x_iconst (v := 0) C dX9_far_26 (by decide) ?_
      obtain ⟨o5, h6, hF⟩ := bd_s hF
      refine x_callVi (st := []) C (c_X9_walk h6) xm_X9_walk ml_X9_262 0 rfl rfl rfl rfl rfl rfl dX9_far_27 ⟨rfl, rfl⟩ ?_
      refine x_istore_n (lv2 := [(3, .int o5.1), (0, .ref (q 0)), (1, .int x1), (2, .int x2)]) C dX9_far_30 rfl (by decide) rfl ?_
      refine x_aload_n C dX9_far_31 1 rfl ?_
      refine gf_X9_90 C 0 rfl rfl dX9_far_32 ?_
      refine x_iload_n C dX9_far_35 3 rfl ?_
      obtain ⟨b7, hF⟩ := ck_s hF
      refine x_iald C 23 rfl b7 dX9_far_36 ?_
      cases hF
      exact x_iret C E dX9_far_37
    · replace hF := ifp hc hF
      refine x_bipush (v := (-2)) C dX9_far_21 (by decide) ?_
      cases hF
      exact x_iret C E dX9_far_23
set_option maxHeartbeats 4000000 in
set_option maxRecDepth 100000 in
theorem w_X9_count_L59 {κ : xb_k} {Γ : xb_X} {q : Nat → Nat} {mth : Int32} {mn : Int32} {mib : Int32} {mpa : Int32} {mwi : Int32} {mch : Int32} {mst : Int32} {msz : Int32} {mns : Int32} {mld : Int32} {mps : Int32} {mbb : Int32} {mno : (Nat → Int32)} {mpk : (Nat → Int32)} {mtu : (Nat → Int32)} {mfo : (Nat → Int32)} {mbi : (Nat → Int32)} {mwr : (Nat → Int32)} {mus : (Nat → Int32)} {mnu : (Nat → Int32)} {mli : (Nat → Int32)} {mot : (Nat → Int32)} {mbl : (Nat → Int32)} {mki : (Nat → Int32)} {mfr : (Nat → Int32)} {mde : (Nat → Int32)} {mbe : (Nat → Int32)} {mow : (Nat → Int32)} {mco : (Nat → Int32)} {mpt : (Nat → Int32)} {mle : (Nat → Int32)} {mpl : (Nat → Int32)} {mit : (Nat → Int32)} {mro : (Nat → Int32)} {maw : (Nat → Int32)}  {fu : Nat} (C : xb_C κ Γ 4 cX9_count RX9 { frames := 1, cells := 0, slots := 0, locals := 23 }) : ∀ (n : Nat) (x2 : Int32) (x3 : Int32) (o : Int32), F_X9_count_L59 fu mn mno n x2 x3 = some o → xb_W κ Γ 4 0 0 81 [(2, .int o)] [] (mw κ q mth mn mib mpa mwi mch mst msz mns mld mps mbb mno mpk mtu mfo mbi mwr mus mnu mli mot mbl mki mfr mde mbe mow mco mpt mle mpl mit mro maw) → xb_W κ Γ 4 0 0 59 [(0, .ref (q 0)), (2, .int x2), (3, .int x3)] [] (mw κ q mth mn mib mpa mwi mch mst msz mns mld mps mbb mno mpk mtu mfo mbi mwr mus mnu mli mot mbl mki mfr mde mbe mow mco mpt mle mpl mit mro maw) := by
  intro n
  induction n with
  | zero =>
    intro x2 x3 o hF K
    rw [F_X9_count_L59] at hF
    cases hF
  | succ n ih =>
    intro x2 x3 o hF K
    rw [F_X9_count_L59] at hF
    refine x_iload_n C dX9_count_59 2 rfl ?_
    refine x_aload_n C dX9_count_60 0 rfl ?_
    refine gf_X9_93 C 0 rfl rfl dX9_count_61 ?_
    refine x_icmp_ge (tgt := 81) C dX9_count_64 (by decide) (fun hc => ?_) (fun hc => ?_)
    · replace hF := ifp hc hF
      cases hF
      exact x_sub [1] rfl K
    · replace hF := ifn hc hF
      refine x_iload_n C dX9_count_67 1 rfl ?_
      refine x_aload_n C dX9_count_68 0 rfl ?_
      refine x_iload_n C dX9_count_69 2 rfl ?_
      obtain ⟨o1, h2, hF⟩ := bd_s hF
      refine x_callVi (st := [.int x2]) C (c_X9_rowSize h2) xm_X9_rowSize ml_X9_115 0 rfl rfl rfl rfl rfl rfl dX9_count_70 ⟨rfl, rfl⟩ ?_
      refine x_iadd C dX9_count_73 ?_
      refine x_istore_n (lv2 := [(2, .int (x2 + o1)), (0, .ref (q 0)), (3, .int x3)]) C dX9_count_74 rfl (by decide) rfl ?_
      refine x_iinc (v := x3 + 1) (lv2 := [(3, .int (x3 + 1)), (2, .int (x2 + o1)), (0, .ref (q 0))]) C dX9_count_75 2 rfl rfl (by decide) rfl ?_
      refine x_goto (tgt := 59) C dX9_count_78 (by decide) ?_
      exact x_sub [2, 1, 0] rfl (ih _ _ _ hF K)
set_option maxHeartbeats 4000000 in
set_option maxRecDepth 100000 in
theorem w_X9_count_L131 {κ : xb_k} {Γ : xb_X} {q : Nat → Nat} {mth : Int32} {mn : Int32} {mib : Int32} {mpa : Int32} {mwi : Int32} {mch : Int32} {mst : Int32} {msz : Int32} {mns : Int32} {mld : Int32} {mps : Int32} {mbb : Int32} {mno : (Nat → Int32)} {mpk : (Nat → Int32)} {mtu : (Nat → Int32)} {mfo : (Nat → Int32)} {mbi : (Nat → Int32)} {mwr : (Nat → Int32)} {mus : (Nat → Int32)} {mnu : (Nat → Int32)} {mli : (Nat → Int32)} {mot : (Nat → Int32)} {mbl : (Nat → Int32)} {mki : (Nat → Int32)} {mfr : (Nat → Int32)} {mde : (Nat → Int32)} {mbe : (Nat → Int32)} {mow : (Nat → Int32)} {mco : (Nat → Int32)} {mpt : (Nat → Int32)} {mle : (Nat → Int32)} {mpl : (Nat → Int32)} {mit : (Nat → Int32)} {mro : (Nat → Int32)} {maw : (Nat → Int32)}   (C : xb_C κ Γ 4 cX9_count RX9 { frames := 1, cells := 0, slots := 0, locals := 23 }) : ∀ (n : Nat) (x2 : Int32) (x3 : Int32) (o : Int32), F_X9_count_L131 mn mib mfr n x2 x3 = some o → xb_W κ Γ 4 0 0 169 [(2, .int o)] [] (mw κ q mth mn mib mpa mwi mch mst msz mns mld mps mbb mno mpk mtu mfo mbi mwr mus mnu mli mot mbl mki mfr mde mbe mow mco mpt mle mpl mit mro maw) → xb_W κ Γ 4 0 0 131 [(0, .ref (q 0)), (2, .int x2), (3, .int x3)] [] (mw κ q mth mn mib mpa mwi mch mst msz mns mld mps mbb mno mpk mtu mfo mbi mwr mus mnu mli mot mbl mki mfr mde mbe mow mco mpt mle mpl mit mro maw) := by
  intro n
  induction n with
  | zero =>
    intro x2 x3 o hF K
    rw [F_X9_count_L131] at hF
    cases hF
  | succ n ih =>
    intro x2 x3 o hF K
    rw [F_X9_count_L131] at hF
    refine x_iload_n C dX9_count_131 2 rfl ?_
    refine x_aload_n C dX9_count_132 0 rfl ?_
    refine gf_X9_93 C 0 rfl rfl dX9_count_133 ?_
    refine x_icmp_ge (tgt := 169) C dX9_count_136 (by decide) (fun hc => ?_) (fun hc => ?_)
    · replace hF := ifp hc hF
      cases hF
      exact x_sub [1] rfl K
    · replace hF := ifn hc hF
      refine x_aload_n C dX9_count_139 0 rfl ?_
      refine gf_X9_100 C 0 rfl rfl dX9_count_140 ?_
      refine x_if_eq (tgt := 169) C dX9_count_143 (by decide) (fun hc => ?_) (fun hc => ?_)
      · replace hF := ifp hc hF
        cases hF
        exact x_sub [1] rfl K
      · replace hF := ifn hc hF
        refine x_iload_n C dX9_count_146 1 rfl ?_
        refine x_aload_n C dX9_count_147 0 rfl ?_
        refine gf_X9_60 C 0 rfl rfl dX9_count_148 ?_
        refine x_iload_n C dX9_count_151 2 rfl ?_
        obtain ⟨b6, hF⟩ := ck_s hF
        refine x_iald C 13 rfl b6 dX9_count_152 ?_
        refine x_if_le (tgt := 160) C dX9_count_153 (by decide) (fun hc => ?_) (fun hc => ?_)
        · replace hF := ifp hc hF
          refine x_iconst (v := 0) C dX9_count_160 (by decide) ?_
          refine x_iadd C dX9_count_161 ?_
          refine x_istore_n (lv2 := [(2, .int (x2 + (0 : Int32))), (0, .ref (q 0)), (3, .int x3)]) C dX9_count_162 rfl (by decide) rfl ?_
          refine x_iinc (v := x3 + 1) (lv2 := [(3, .int (x3 + 1)), (2, .int (x2 + (0 : Int32))), (0, .ref (q 0))]) C dX9_count_163 2 rfl rfl (by decide) rfl ?_
          refine x_goto (tgt := 131) C dX9_count_166 (by decide) ?_
          exact x_sub [2, 1, 0] rfl (ih _ _ _ hF K)
        · replace hF := ifn hc hF
          refine x_iconst (v := 1) C dX9_count_156 (by decide) ?_
          refine x_goto (tgt := 161) C dX9_count_157 (by decide) ?_
          refine x_iadd C dX9_count_161 ?_
          refine x_istore_n (lv2 := [(2, .int (x2 + (1 : Int32))), (0, .ref (q 0)), (3, .int x3)]) C dX9_count_162 rfl (by decide) rfl ?_
          refine x_iinc (v := x3 + 1) (lv2 := [(3, .int (x3 + 1)), (2, .int (x2 + (1 : Int32))), (0, .ref (q 0))]) C dX9_count_163 2 rfl rfl (by decide) rfl ?_
          refine x_goto (tgt := 131) C dX9_count_166 (by decide) ?_
          exact x_sub [2, 1, 0] rfl (ih _ _ _ hF K)
set_option maxHeartbeats 4000000 in
set_option maxRecDepth 100000 in
theorem w_X9_count_L173 {κ : xb_k} {Γ : xb_X} {q : Nat → Nat} {mth : Int32} {mn : Int32} {mib : Int32} {mpa : Int32} {mwi : Int32} {mch : Int32} {mst : Int32} {msz : Int32} {mns : Int32} {mld : Int32} {mps : Int32} {mbb : Int32} {mno : (Nat → Int32)} {mpk : (Nat → Int32)} {mtu : (Nat → Int32)} {mfo : (Nat → Int32)} {mbi : (Nat → Int32)} {mwr : (Nat → Int32)} {mus : (Nat → Int32)} {mnu : (Nat → Int32)} {mli : (Nat → Int32)} {mot : (Nat → Int32)} {mbl : (Nat → Int32)} {mki : (Nat → Int32)} {mfr : (Nat → Int32)} {mde : (Nat → Int32)} {mbe : (Nat → Int32)} {mow : (Nat → Int32)} {mco : (Nat → Int32)} {mpt : (Nat → Int32)} {mle : (Nat → Int32)} {mpl : (Nat → Int32)} {mit : (Nat → Int32)} {mro : (Nat → Int32)} {maw : (Nat → Int32)}   (C : xb_C κ Γ 4 cX9_count RX9 { frames := 1, cells := 0, slots := 0, locals := 23 }) : ∀ (n : Nat) (x2 : Int32) (x3 : Int32) (o : Int32), F_X9_count_L173 mn mib mde n x2 x3 = some o → xb_W κ Γ 4 0 0 215 [(2, .int o)] [] (mw κ q mth mn mib mpa mwi mch mst msz mns mld mps mbb mno mpk mtu mfo mbi mwr mus mnu mli mot mbl mki mfr mde mbe mow mco mpt mle mpl mit mro maw) → xb_W κ Γ 4 0 0 173 [(0, .ref (q 0)), (2, .int x2), (3, .int x3)] [] (mw κ q mth mn mib mpa mwi mch mst msz mns mld mps mbb mno mpk mtu mfo mbi mwr mus mnu mli mot mbl mki mfr mde mbe mow mco mpt mle mpl mit mro maw) := by
  intro n
  induction n with
  | zero =>
    intro x2 x3 o hF K
    rw [F_X9_count_L173] at hF
    cases hF
  | succ n ih =>
    intro x2 x3 o hF K
    rw [F_X9_count_L173] at hF
    refine x_iload_n C dX9_count_173 2 rfl ?_
    refine x_aload_n C dX9_count_174 0 rfl ?_
    refine gf_X9_93 C 0 rfl rfl dX9_count_175 ?_
    refine x_icmp_ge (tgt := 215) C dX9_count_178 (by decide) (fun hc => ?_) (fun hc => ?_)
    · replace hF := ifp hc hF
      cases hF
      exact x_sub [1] rfl K
    · replace hF := ifn hc hF
      refine x_aload_n C dX9_count_181 0 rfl ?_
      refine gf_X9_100 C 0 rfl rfl dX9_count_182 ?_
      refine x_if_eq (tgt := 215) C dX9_count_185 (by decide) (fun hc => ?_) (fun hc => ?_)
      · replace hF := ifp hc hF
        cases hF
        exact x_sub [1] rfl K
      · replace hF := ifn hc hF
        refine x_aload_n C dX9_count_188 0 rfl ?_
        refine gf_X9_63 C 0 rfl rfl dX9_count_189 ?_
        refine x_iload_n C dX9_count_192 2 rfl ?_
        obtain ⟨b9, hF⟩ := ck_s hF
        refine x_iald C 14 rfl b9 dX9_count_193 ?_
        refine x_iload_n C dX9_count_194 1 rfl ?_
        refine x_icmp_le (tgt := 207) C dX9_count_195 (by decide) (fun hc => ?_) (fun hc => ?_)
        · replace hF := ifp hc hF
          refine x_iload_n C dX9_count_207 1 rfl ?_
          refine x_istore_n (lv2 := [(2, .int x2), (0, .ref (q 0)), (3, .int x3)]) C dX9_count_208 rfl (by decide) rfl ?_
          refine x_iinc (v := x3 + 1) (lv2 := [(3, .int (x3 + 1)), (2, .int x2), (0, .ref (q 0))]) C dX9_count_209 2 rfl rfl (by decide) rfl ?_
          refine x_goto (tgt := 173) C dX9_count_212 (by decide) ?_
          exact x_sub [2, 1, 0] rfl (ih _ _ _ hF K)
        · replace hF := ifn hc hF
          refine x_aload_n C dX9_count_198 0 rfl ?_
          refine gf_X9_63 C 0 rfl rfl dX9_count_199 ?_
          refine x_iload_n C dX9_count_202 2 rfl ?_
          obtain ⟨b10, hF⟩ := ck_s hF
          refine x_iald C 14 rfl b10 dX9_count_203 ?_
          refine x_goto (tgt := 208) C dX9_count_204 (by decide) ?_
          refine x_istore_n (lv2 := [(2, .int (mde x3.toNatClampNeg)), (0, .ref (q 0)), (3, .int x3)]) C dX9_count_208 rfl (by decide) rfl ?_
          refine x_iinc (v := x3 + 1) (lv2 := [(3, .int (x3 + 1)), (2, .int (mde x3.toNatClampNeg)), (0, .ref (q 0))]) C dX9_count_209 2 rfl rfl (by decide) rfl ?_
          refine x_goto (tgt := 173) C dX9_count_212 (by decide) ?_
          exact x_sub [2, 1, 0] rfl (ih _ _ _ hF K)
set_option maxHeartbeats 4000000 in
set_option maxRecDepth 100000 in
theorem c_X9_count {κ : xb_k} {q : Nat → Nat} {mth : Int32} {mn : Int32} {mib : Int32} {mpa : Int32} {mwi : Int32} {mch : Int32} {mst : Int32} {msz : Int32} {mns : Int32} {mld : Int32} {mps : Int32} {mbb : Int32} {mno : (Nat → Int32)} {mpk : (Nat → Int32)} {mtu : (Nat → Int32)} {mfo : (Nat → Int32)} {mbi : (Nat → Int32)} {mwr : (Nat → Int32)} {mus : (Nat → Int32)} {mnu : (Nat → Int32)} {mli : (Nat → Int32)} {mot : (Nat → Int32)} {mbl : (Nat → Int32)} {mki : (Nat → Int32)} {mfr : (Nat → Int32)} {mde : (Nat → Int32)} {mbe : (Nat → Int32)} {mow : (Nat → Int32)} {mco : (Nat → Int32)} {mpt : (Nat → Int32)} {mle : (Nat → Int32)} {mpl : (Nat → Int32)} {mit : (Nat → Int32)} {mro : (Nat → Int32)} {maw : (Nat → Int32)} {x1 : Int32} {fu : Nat} {o : Int32 × Int32} (hF : F_X9_count fu x1 mth mn mno mpa mib msz mps mfr mde = some o) : Met κ.1 yX9_count [Cond.code yX9_count cX9_count 4 (some .int)] { frames := 1, cells := 0, slots := 0, locals := 23 } (xb_P κ [.ref (q 0), .int x1] (mw κ q mth mn mib mpa mwi mch mst msz mns mld mps mbb mno mpk mtu mfo mbi mwr mus mnu mli mot mbl mki mfr mde mbe mow mco mpt mle mpl mit mro maw)) (xb_Qi κ o.1 (mw κ q o.2 mn mib mpa mwi mch mst msz mns mld mps mbb mno mpk mtu mfo mbi mwr mus mnu mli mot mbl mki mfr mde mbe mow mco mpt mle mpl mit mro maw)) 0 0 κ.2.2.1 := by
  refine x_enter (own := RX9) (lv0 := [(0, .ref (q 0)), (1, .int x1)]) (by decide) rfl rfl rfl (fun Γ C E => ?_)
  unfold F_X9_count at hF
  refine x_aload_n C dX9_count_0 0 rfl ?_
  refine x_iconst (v := 0) C dX9_count_1 (by decide) ?_
  refine pf_X9_1 (ws2 := (mw κ q (0 : Int32) mn mib mpa mwi mch mst msz mns mld mps mbb mno mpk mtu mfo mbi mwr mus mnu mli mot mbl mki mfr mde mbe mow mco mpt mle mpl mit mro maw)) C 0 rfl dX9_count_2 rfl rfl ?_
  refine x_iconst (v := 0) C dX9_count_5 (by decide) ?_
  refine x_istore_n (lv2 := [(2, .int (0 : Int32)), (0, .ref (q 0)), (1, .int x1)]) C dX9_count_6 rfl (by decide) rfl ?_
  refine x_iload_n C dX9_count_7 2 rfl ?_
  by_cases hs8_0 : x1 = 0
  · replace hF := ifp hs8_0 hF
    refine x_tswIn (off := 44) (tgt := 52) 0 C dX9_count_8 hs8_0 (by decide) (by decide) rfl (by decide) ?_
    refine x_aload_n C dX9_count_52 1 rfl ?_
    refine gf_X9_93 C 0 rfl rfl dX9_count_53 ?_
    cases hF
    exact x_iret C E dX9_count_56
  · replace hF := ifn hs8_0 hF
    by_cases hs8_1 : x1 = 1
    · replace hF := ifp hs8_1 hF
      refine x_tswIn (off := 49) (tgt := 57) 1 C dX9_count_8 hs8_1 (by decide) (by decide) rfl (by decide) ?_
      refine x_iconst (v := 0) C dX9_count_57 (by decide) ?_
      refine x_istore_n (lv2 := [(3, .int (0 : Int32)), (2, .int (0 : Int32)), (0, .ref (q 0)), (1, .int x1)]) C dX9_count_58 rfl (by decide) rfl ?_
      obtain ⟨o3, h4, hF⟩ := bd_s hF
      refine x_sub [2, 1, 0] rfl (w_X9_count_L59 C fu _ _ _ h4 ?_)
      refine x_iload_n C dX9_count_81 0 rfl ?_
      cases hF
      exact x_iret C E dX9_count_82
    · replace hF := ifn hs8_1 hF
      by_cases hs8_2 : x1 = 2
      · replace hF := ifp hs8_2 hF
        refine x_tswIn (off := 75) (tgt := 83) 2 C dX9_count_8 hs8_2 (by decide) (by decide) rfl (by decide) ?_
        refine x_aload_n C dX9_count_83 1 rfl ?_
        refine gf_X9_104 C 0 rfl rfl dX9_count_84 ?_
        cases hF
        exact x_iret C E dX9_count_87
      · replace hF := ifn hs8_2 hF
        by_cases hs8_3 : x1 = 3
        · replace hF := ifp hs8_3 hF
          refine x_tswIn (off := 80) (tgt := 88) 3 C dX9_count_8 hs8_3 (by decide) (by decide) rfl (by decide) ?_
          refine x_aload_n C dX9_count_88 1 rfl ?_
          refine gf_X9_100 C 0 rfl rfl dX9_count_89 ?_
          refine x_if_eq (tgt := 102) C dX9_count_92 (by decide) (fun hc => ?_) (fun hc => ?_)
          · replace hF := ifp hc hF
            refine x_iconst (v := 0) C dX9_count_102 (by decide) ?_
            cases hF
            exact x_iret C E dX9_count_103
          · replace hF := ifn hc hF
            refine x_aload_n C dX9_count_95 1 rfl ?_
            refine gf_X9_122 C 0 rfl rfl dX9_count_96 ?_
            refine x_goto (tgt := 103) C dX9_count_99 (by decide) ?_
            cases hF
            exact x_iret C E dX9_count_103
        · replace hF := ifn hs8_3 hF
          by_cases hs8_4 : x1 = 4
          · replace hF := ifp hs8_4 hF
            refine x_tswIn (off := 96) (tgt := 104) 4 C dX9_count_8 hs8_4 (by decide) (by decide) rfl (by decide) ?_
            refine x_aload_n C dX9_count_104 1 rfl ?_
            refine gf_X9_100 C 0 rfl rfl dX9_count_105 ?_
            refine x_if_eq (tgt := 127) C dX9_count_108 (by decide) (fun hc => ?_) (fun hc => ?_)
            · replace hF := ifp hc hF
              refine x_iconst (v := 0) C dX9_count_127 (by decide) ?_
              cases hF
              exact x_iret C E dX9_count_128
            · replace hF := ifn hc hF
              refine x_aload_n C dX9_count_111 1 rfl ?_
              refine gf_X9_93 C 0 rfl rfl dX9_count_112 ?_
              refine x_iconst (v := 1) C dX9_count_115 (by decide) ?_
              refine x_isub C dX9_count_116 ?_
              refine x_aload_n C dX9_count_117 1 rfl ?_
              refine gf_X9_211 C 0 rfl rfl dX9_count_118 ?_
              obtain ⟨b5, hF⟩ := ck_s hF
              refine x_idiv C dX9_count_121 (nz_ne b5) ?_
              refine x_iconst (v := 1) C dX9_count_122 (by decide) ?_
              refine x_iadd C dX9_count_123 ?_
              refine x_goto (tgt := 128) C dX9_count_124 (by decide) ?_
              cases hF
              exact x_iret C E dX9_count_128
          · replace hF := ifn hs8_4 hF
            by_cases hs8_5 : x1 = 5
            · replace hF := ifp hs8_5 hF
              refine x_tswIn (off := 121) (tgt := 129) 5 C dX9_count_8 hs8_5 (by decide) (by decide) rfl (by decide) ?_
              refine x_iconst (v := 0) C dX9_count_129 (by decide) ?_
              refine x_istore_n (lv2 := [(3, .int (0 : Int32)), (2, .int (0 : Int32)), (0, .ref (q 0)), (1, .int x1)]) C dX9_count_130 rfl (by decide) rfl ?_
              obtain ⟨o7, h8, hF⟩ := bd_s hF
              refine x_sub [2, 1, 0] rfl (w_X9_count_L131 C fu _ _ _ h8 ?_)
              refine x_iload_n C dX9_count_169 0 rfl ?_
              cases hF
              exact x_iret C E dX9_count_170
            · replace hF := ifn hs8_5 hF
              by_cases hs8_6 : x1 = 6
              · replace hF := ifp hs8_6 hF
                refine x_tswIn (off := 163) (tgt := 171) 6 C dX9_count_8 hs8_6 (by decide) (by decide) rfl (by decide) ?_
                refine x_iconst (v := 0) C dX9_count_171 (by decide) ?_
                refine x_istore_n (lv2 := [(3, .int (0 : Int32)), (2, .int (0 : Int32)), (0, .ref (q 0)), (1, .int x1)]) C dX9_count_172 rfl (by decide) rfl ?_
                obtain ⟨o11, h12, hF⟩ := bd_s hF
                refine x_sub [2, 1, 0] rfl (w_X9_count_L173 C fu _ _ _ h12 ?_)
                refine x_iload_n C dX9_count_215 0 rfl ?_
                cases hF
                exact x_iret C E dX9_count_216
              · replace hF := ifn hs8_6 hF
                refine x_tswOut (tgt := 217) C dX9_count_8 (ts_out 6 (by decide) (fun k hk => by match k, hk with | 0, _ => exact hs8_0 | 1, _ => exact hs8_1 | 2, _ => exact hs8_2 | 3, _ => exact hs8_3 | 4, _ => exact hs8_4 | 5, _ => exact hs8_5 | 6, _ => exact hs8_6 | (k + 7), hk => exact absurd hk (by omega))) (by decide) ?_
                refine x_bipush (v := (-2)) C dX9_count_217 (by decide) ?_
                cases hF
                exact x_iret C E dX9_count_219
set_option maxHeartbeats 4000000 in
set_option maxRecDepth 100000 in
theorem c_X4_isThing {κ : xb_k} {q : Nat → Nat} {nn : Nat} {xro : (Nat → Int64)} {xrn : (Nat → Int64)} {xfo : (Nat → Int32)} {xva : (Nat → Int32)} {xts : Int32} {xus : (Nat → Int32)} {xnu : (Nat → Int32)} {xth : Int32} {xsp : Int32} {xpr : (Nat → Int64)} {xpn : (Nat → Int64)} {xbs : Int32} {xwr : (Nat → Int32)} {xno : (Nat → Int32)} {xki : (Nat → Int32)} {xdi : (Nat → Int32)} {xde : (Nat → Int32)} {xst : (Nat → Int32)} {xta : (Nat → Int32)} {xcb : Int32} {xcd : Int32} {xbe : (Nat → Int32)} {xli : (Nat → Int32)} {xke : (Nat → Int32)} {xne : (Nat → Int64)} {x1 : Int32}  {o : Int32} (hF : F_X4_isThing nn x1 = some o) : Met κ.1 yX4_isThing [Cond.code yX4_isThing cX4_isThing 2 (some .boolean)] { frames := 0, cells := 0, slots := 0, locals := 0 } (xb_P κ [.ref (q 1), .int x1] (xw κ q nn xro xrn xfo xva xts xus xnu xth xsp xpr xpn xbs xwr xno xki xdi xde xst xta xcb xcd xbe xli xke xne)) (xb_Qi κ o (xw κ q nn xro xrn xfo xva xts xus xnu xth xsp xpr xpn xbs xwr xno xki xdi xde xst xta xcb xcd xbe xli xke xne)) 0 0 κ.2.2.1 := by
  refine x_enter (own := RX4) (lv0 := [(0, .ref (q 1)), (1, .int x1)]) (by decide) rfl rfl rfl (fun Γ C E => ?_)
  unfold F_X4_isThing at hF
  refine x_iload_n C dX4_isThing_0 1 rfl ?_
  refine x_if_lt (tgt := 17) C dX4_isThing_1 (by decide) (fun hc => ?_) (fun hc => ?_)
  · replace hF := ifp hc hF
    refine x_iconst (v := 0) C dX4_isThing_17 (by decide) ?_
    cases hF
    exact x_zret C E rfl dX4_isThing_18
  · replace hF := ifn hc hF
    refine x_iload_n C dX4_isThing_4 1 rfl ?_
    refine x_aload_n C dX4_isThing_5 0 rfl ?_
    refine gf_X4_7 C 1 rfl rfl dX4_isThing_6 ?_
    refine x_alen (v := nI nn) C 2 1 rfl rfl rfl dX4_isThing_9 ?_
    refine x_icmp_ge (tgt := 17) C dX4_isThing_10 (by decide) (fun hc => ?_) (fun hc => ?_)
    · replace hF := ifp hc hF
      refine x_iconst (v := 0) C dX4_isThing_17 (by decide) ?_
      cases hF
      exact x_zret C E rfl dX4_isThing_18
    · replace hF := ifn hc hF
      refine x_iconst (v := 1) C dX4_isThing_13 (by decide) ?_
      refine x_goto (tgt := 18) C dX4_isThing_14 (by decide) ?_
      cases hF
      exact x_zret C E rfl dX4_isThing_18
set_option maxHeartbeats 4000000 in
set_option maxRecDepth 100000 in
theorem c_X4_rowOf {κ : xb_k} {q : Nat → Nat} {nn : Nat} {xro : (Nat → Int64)} {xrn : (Nat → Int64)} {xfo : (Nat → Int32)} {xva : (Nat → Int32)} {xts : Int32} {xus : (Nat → Int32)} {xnu : (Nat → Int32)} {xth : Int32} {xsp : Int32} {xpr : (Nat → Int64)} {xpn : (Nat → Int64)} {xbs : Int32} {xwr : (Nat → Int32)} {xno : (Nat → Int32)} {xki : (Nat → Int32)} {xdi : (Nat → Int32)} {xde : (Nat → Int32)} {xst : (Nat → Int32)} {xta : (Nat → Int32)} {xcb : Int32} {xcd : Int32} {xbe : (Nat → Int32)} {xli : (Nat → Int32)} {xke : (Nat → Int32)} {xne : (Nat → Int64)} {x1 : Int32}  {o : Int64} (hF : F_X4_rowOf nn x1 xro = some o) : Met κ.1 yX4_rowOf [Cond.code yX4_rowOf cX4_rowOf 2 (some .long)] { frames := 0, cells := 0, slots := 0, locals := 0 } (xb_P κ [.ref (q 1), .int x1] (xw κ q nn xro xrn xfo xva xts xus xnu xth xsp xpr xpn xbs xwr xno xki xdi xde xst xta xcb xcd xbe xli xke xne)) (xb_Ql κ o (xw κ q nn xro xrn xfo xva xts xus xnu xth xsp xpr xpn xbs xwr xno xki xdi xde xst xta xcb xcd xbe xli xke xne)) 0 0 κ.2.2.1 := by
  refine x_enter (own := RX4) (lv0 := [(0, .ref (q 1)), (1, .int x1)]) (by decide) rfl rfl rfl (fun Γ C E => ?_)
  unfold F_X4_rowOf at hF
  refine x_iload_n C dX4_rowOf_0 1 rfl ?_
  refine x_if_lt (tgt := 22) C dX4_rowOf_1 (by decide) (fun hc => ?_) (fun hc => ?_)
  · replace hF := ifp hc hF
    refine x_lconst (v := 0) C dX4_rowOf_22 (by decide) ?_
    cases hF
    exact x_lret C E dX4_rowOf_23
  · replace hF := ifn hc hF
    refine x_iload_n C dX4_rowOf_4 1 rfl ?_
    refine x_aload_n C dX4_rowOf_5 0 rfl ?_
    refine gf_X4_7 C 1 rfl rfl dX4_rowOf_6 ?_
    refine x_alen (v := nI nn) C 2 1 rfl rfl rfl dX4_rowOf_9 ?_
    refine x_icmp_ge (tgt := 22) C dX4_rowOf_10 (by decide) (fun hc => ?_) (fun hc => ?_)
    · replace hF := ifp hc hF
      refine x_lconst (v := 0) C dX4_rowOf_22 (by decide) ?_
      cases hF
      exact x_lret C E dX4_rowOf_23
    · replace hF := ifn hc hF
      refine x_aload_n C dX4_rowOf_13 0 rfl ?_
      refine gf_X4_7 C 1 rfl rfl dX4_rowOf_14 ?_
      refine x_iload_n C dX4_rowOf_17 1 rfl ?_
      obtain ⟨b1, hF⟩ := ck_s hF
      refine x_lald C 2 rfl b1 dX4_rowOf_18 ?_
      refine x_goto (tgt := 23) C dX4_rowOf_19 (by decide) ?_
      cases hF
      exact x_lret C E dX4_rowOf_23
set_option maxHeartbeats 4000000 in
set_option maxRecDepth 100000 in
theorem c_X8_isIn {κ : xb_k} {ws : va_W}  {x0 : Int64} {x2 : Int32}  {o : Int32} (hF : F_X8_isIn x0 x2 = some o) : Met κ.1 yX8_isIn [Cond.code yX8_isIn cX8_isIn 3 (some .boolean)] { frames := 0, cells := 0, slots := 0, locals := 0 } (xb_P κ [.long x0, .int x2] ws) (xb_Qi κ o ws) 0 0 κ.2.2.1 := by
  refine x_enter (own := RX8) (lv0 := [(0, .long x0), (2, .int x2)]) (by decide) rfl rfl rfl (fun Γ C E => ?_)
  unfold F_X8_isIn at hF
  refine x_iload_n C dX8_isIn_0 1 rfl ?_
  refine x_if_lt (tgt := 24) C dX8_isIn_1 (by decide) (fun hc => ?_) (fun hc => ?_)
  · replace hF := ifp hc hF
    refine x_iconst (v := 0) C dX8_isIn_24 (by decide) ?_
    cases hF
    exact x_zret C E rfl dX8_isIn_25
  · replace hF := ifn hc hF
    refine x_iload_n C dX8_isIn_4 1 rfl ?_
    refine x_bipush (v := 48) C dX8_isIn_5 (by decide) ?_
    refine x_icmp_ge (tgt := 24) C dX8_isIn_7 (by decide) (fun hc => ?_) (fun hc => ?_)
    · replace hF := ifp hc hF
      refine x_iconst (v := 0) C dX8_isIn_24 (by decide) ?_
      cases hF
      exact x_zret C E rfl dX8_isIn_25
    · replace hF := ifn hc hF
      refine x_lload_n C dX8_isIn_10 0 rfl ?_
      refine x_iload_n C dX8_isIn_11 1 rfl ?_
      refine x_lushr C dX8_isIn_12 ?_
      refine x_lconst (v := 1) C dX8_isIn_13 (by decide) ?_
      refine x_land C dX8_isIn_14 ?_
      refine x_lconst (v := 0) C dX8_isIn_15 (by decide) ?_
      refine x_lcmp C dX8_isIn_16 ?_
      refine x_if_eq (tgt := 24) C dX8_isIn_17 (by decide) (fun hc => ?_) (fun hc => ?_)
      · replace hF := ifp hc hF
        refine x_iconst (v := 0) C dX8_isIn_24 (by decide) ?_
        cases hF
        exact x_zret C E rfl dX8_isIn_25
      · replace hF := ifn hc hF
        refine x_iconst (v := 1) C dX8_isIn_20 (by decide) ?_
        refine x_goto (tgt := 25) C dX8_isIn_21 (by decide) ?_
        cases hF
        exact x_zret C E rfl dX8_isIn_25
set_option maxHeartbeats 4000000 in
set_option maxRecDepth 100000 in
theorem c_X4_joined {κ : xb_k} {q : Nat → Nat} {nn : Nat} {xro : (Nat → Int64)} {xrn : (Nat → Int64)} {xfo : (Nat → Int32)} {xva : (Nat → Int32)} {xts : Int32} {xus : (Nat → Int32)} {xnu : (Nat → Int32)} {xth : Int32} {xsp : Int32} {xpr : (Nat → Int64)} {xpn : (Nat → Int64)} {xbs : Int32} {xwr : (Nat → Int32)} {xno : (Nat → Int32)} {xki : (Nat → Int32)} {xdi : (Nat → Int32)} {xde : (Nat → Int32)} {xst : (Nat → Int32)} {xta : (Nat → Int32)} {xcb : Int32} {xcd : Int32} {xbe : (Nat → Int32)} {xli : (Nat → Int32)} {xke : (Nat → Int32)} {xne : (Nat → Int64)} {x1 : Int32} {x2 : Int32}  {o : Int32} (hF : F_X4_joined nn x1 x2 xro = some o) : Met κ.1 yX4_joined [Cond.code yX4_joined cX4_joined 3 (some .boolean)] { frames := 1, cells := 0, slots := 0, locals := 22 } (xb_P κ [.ref (q 1), .int x1, .int x2] (xw κ q nn xro xrn xfo xva xts xus xnu xth xsp xpr xpn xbs xwr xno xki xdi xde xst xta xcb xcd xbe xli xke xne)) (xb_Qi κ o (xw κ q nn xro xrn xfo xva xts xus xnu xth xsp xpr xpn xbs xwr xno xki xdi xde xst xta xcb xcd xbe xli xke xne)) 0 0 κ.2.2.1 := by
  refine x_enter (own := RX4) (lv0 := [(0, .ref (q 1)), (1, .int x1), (2, .int x2)]) (by decide) rfl rfl rfl (fun Γ C E => ?_)
  unfold F_X4_joined at hF
  refine x_aload_n C dX4_joined_0 0 rfl ?_
  refine x_iload_n C dX4_joined_1 1 rfl ?_
  obtain ⟨o1, h2, hF⟩ := bd_s hF
  refine x_callVl (st := []) C (c_X4_rowOf h2) xm_X4_rowOf ml_X4_22 1 rfl rfl rfl rfl rfl rfl dX4_joined_2 ⟨rfl, rfl⟩ ?_
  refine x_iload_n C dX4_joined_5 2 rfl ?_
  obtain ⟨o3, h4, hF⟩ := bd_s hF
  refine x_callNi (st := []) C (c_X8_isIn h4) xm_X8_isIn mn_X4_16 rfl rfl rfl rfl dX4_joined_6 ⟨rfl, rfl⟩ ?_
  obtain ⟨b5, hF⟩ := ck_s hF
  cases hF
  exact x_zret C E (zb_nar b5) dX4_joined_9
set_option maxHeartbeats 4000000 in
set_option maxRecDepth 100000 in
theorem c_X1_isThere {κ : xb_k} {q : Nat → Nat} {nn : Nat} {xro : (Nat → Int64)} {xrn : (Nat → Int64)} {xfo : (Nat → Int32)} {xva : (Nat → Int32)} {xts : Int32} {xus : (Nat → Int32)} {xnu : (Nat → Int32)} {xth : Int32} {xsp : Int32} {xpr : (Nat → Int64)} {xpn : (Nat → Int64)} {xbs : Int32} {xwr : (Nat → Int32)} {xno : (Nat → Int32)} {xki : (Nat → Int32)} {xdi : (Nat → Int32)} {xde : (Nat → Int32)} {xst : (Nat → Int32)} {xta : (Nat → Int32)} {xcb : Int32} {xcd : Int32} {xbe : (Nat → Int32)} {xli : (Nat → Int32)} {xke : (Nat → Int32)} {xne : (Nat → Int64)}   {o : Int32} (hF : F_X1_isThere xth = some o) : Met κ.1 yX1_isThere [Cond.code yX1_isThere cX1_isThere 1 (some .boolean)] { frames := 0, cells := 0, slots := 0, locals := 0 } (xb_P κ [.ref (q 10)] (xw κ q nn xro xrn xfo xva xts xus xnu xth xsp xpr xpn xbs xwr xno xki xdi xde xst xta xcb xcd xbe xli xke xne)) (xb_Qi κ o (xw κ q nn xro xrn xfo xva xts xus xnu xth xsp xpr xpn xbs xwr xno xki xdi xde xst xta xcb xcd xbe xli xke xne)) 0 0 κ.2.2.1 := by
  refine x_enter (own := RX1) (lv0 := [(0, .ref (q 10))]) (by decide) rfl rfl rfl (fun Γ C E => ?_)
  unfold F_X1_isThere at hF
  refine x_aload_n C dX1_isThere_0 0 rfl ?_
  refine gf_X1_15 C 10 rfl rfl dX1_isThere_1 ?_
  obtain ⟨b1, hF⟩ := ck_s hF
  cases hF
  exact x_zret C E (zb_nar b1) dX1_isThere_4
set_option maxHeartbeats 4000000 in
set_option maxRecDepth 100000 in
theorem c_X4_flip {κ : xb_k} {q : Nat → Nat} {nn : Nat} {xro : (Nat → Int64)} {xrn : (Nat → Int64)} {xfo : (Nat → Int32)} {xva : (Nat → Int32)} {xts : Int32} {xus : (Nat → Int32)} {xnu : (Nat → Int32)} {xth : Int32} {xsp : Int32} {xpr : (Nat → Int64)} {xpn : (Nat → Int64)} {xbs : Int32} {xwr : (Nat → Int32)} {xno : (Nat → Int32)} {xki : (Nat → Int32)} {xdi : (Nat → Int32)} {xde : (Nat → Int32)} {xst : (Nat → Int32)} {xta : (Nat → Int32)} {xcb : Int32} {xcd : Int32} {xbe : (Nat → Int32)} {xli : (Nat → Int32)} {xke : (Nat → Int32)} {xne : (Nat → Int64)} {x1 : Int32} {x2 : Int32}  {o : (Nat → Int64)} (hF : F_X4_flip nn x1 x2 xro = some o) : Met κ.1 yX4_flip [Cond.code yX4_flip cX4_flip 3 none] { frames := 1, cells := 0, slots := 0, locals := 21 } (xb_P κ [.ref (q 1), .int x1, .int x2] (xw κ q nn xro xrn xfo xva xts xus xnu xth xsp xpr xpn xbs xwr xno xki xdi xde xst xta xcb xcd xbe xli xke xne)) (xb_Qv κ (xw κ q nn o xrn xfo xva xts xus xnu xth xsp xpr xpn xbs xwr xno xki xdi xde xst xta xcb xcd xbe xli xke xne)) 0 0 κ.2.2.1 := by
  refine x_enter (own := RX4) (lv0 := [(0, .ref (q 1)), (1, .int x1), (2, .int x2)]) (by decide) rfl rfl rfl (fun Γ C E => ?_)
  unfold F_X4_flip at hF
  refine x_aload_n C dX4_flip_0 0 rfl ?_
  refine x_iload_n C dX4_flip_1 1 rfl ?_
  obtain ⟨o1, h2, hF⟩ := bd_s hF
  refine x_callVi (st := []) C (c_X4_isThing h2) xm_X4_isThing ml_X4_26 1 rfl rfl rfl rfl rfl rfl dX4_flip_2 ⟨rfl, rfl⟩ ?_
  refine x_if_eq (tgt := 28) C dX4_flip_5 (by decide) (fun hc => ?_) (fun hc => ?_)
  · replace hF := ifp hc hF
    cases hF
    exact x_vret C E dX4_flip_28
  · replace hF := ifn hc hF
    refine x_aload_n C dX4_flip_8 0 rfl ?_
    refine x_iload_n C dX4_flip_9 2 rfl ?_
    obtain ⟨o3, h4, hF⟩ := bd_s hF
    refine x_callVi (st := []) C (c_X4_isThing h4) xm_X4_isThing ml_X4_26 1 rfl rfl rfl rfl rfl rfl dX4_flip_10 ⟨rfl, rfl⟩ ?_
    refine x_if_eq (tgt := 28) C dX4_flip_13 (by decide) (fun hc => ?_) (fun hc => ?_)
    · replace hF := ifp hc hF
      cases hF
      exact x_vret C E dX4_flip_28
    · replace hF := ifn hc hF
      refine x_aload_n C dX4_flip_16 0 rfl ?_
      refine gf_X4_7 C 1 rfl rfl dX4_flip_17 ?_
      refine x_iload_n C dX4_flip_20 1 rfl ?_
      refine x_dup2 C dX4_flip_21 rfl rfl ?_
      obtain ⟨b5, hF⟩ := ck_s hF
      refine x_lald C 2 rfl b5 dX4_flip_22 ?_
      refine x_lconst (v := 1) C dX4_flip_23 (by decide) ?_
      refine x_iload_n C dX4_flip_24 2 rfl ?_
      refine x_lshl C dX4_flip_25 ?_
      refine x_lxor C dX4_flip_26 ?_
      obtain ⟨b6, hF⟩ := ck_s hF
      refine x_last (ws2 := (xw κ q nn (vp_updL xro x1.toNatClampNeg ((xro x1.toNatClampNeg) ^^^ ((1 : Int64) <<< (x2.toInt64 &&& 63)))) xrn xfo xva xts xus xnu xth xsp xpr xpn xbs xwr xno xki xdi xde xst xta xcb xcd xbe xli xke xne)) C 2 rfl b6 dX4_flip_27 rfl ?_
      cases hF
      exact x_vret C E dX4_flip_28
set_option maxHeartbeats 4000000 in
set_option maxRecDepth 100000 in
theorem c_J13_bitCount_95d88 {κ : xb_k} {ws : va_W}  {x0 : Int64}  {o : Int32} (hF : F_J13_bitCount_95d88 x0 = some o) : Met κ.1 yJ13_bitCount_95d88 [Cond.code yJ13_bitCount_95d88 cJ13_bitCount_95d88 2 (some .int)] { frames := 0, cells := 0, slots := 0, locals := 0 } (xb_P κ [.long x0] ws) (xb_Qi κ o ws) 0 0 κ.2.2.1 := by
  refine x_enter (own := RJ13) (lv0 := [(0, .long x0)]) (by decide) rfl rfl rfl (fun Γ C E => ?_)
  unfold F_J13_bitCount_95d88 at hF
  refine x_lload_n C dJ13_bitCount_95d88_0 0 rfl ?_
  refine x_lload_n C dJ13_bitCount_95d88_1 0 rfl ?_
  refine x_iconst (v := 1) C dJ13_bitCount_95d88_2 (by decide) ?_
  refine x_lushr C dJ13_bitCount_95d88_3 ?_
  refine x_ldc2 C dJ13_bitCount_95d88_4 kl_J13_314 ?_
  refine x_land C dJ13_bitCount_95d88_7 ?_
  refine x_lsub C dJ13_bitCount_95d88_8 ?_
  obtain ⟨v1, e2, hF⟩ := nm_s hF
  refine x_topl e2 ?_
  refine x_lstore_n (lv2 := [(0, .long v1)]) C dJ13_bitCount_95d88_9 rfl (by decide) rfl ?_
  refine x_lload_n C dJ13_bitCount_95d88_10 0 rfl ?_
  refine x_ldc2 C dJ13_bitCount_95d88_11 kl_J13_316 ?_
  refine x_land C dJ13_bitCount_95d88_14 ?_
  refine x_lload_n C dJ13_bitCount_95d88_15 0 rfl ?_
  refine x_iconst (v := 2) C dJ13_bitCount_95d88_16 (by decide) ?_
  refine x_lushr C dJ13_bitCount_95d88_17 ?_
  refine x_ldc2 C dJ13_bitCount_95d88_18 kl_J13_316 ?_
  refine x_land C dJ13_bitCount_95d88_21 ?_
  refine x_ladd C dJ13_bitCount_95d88_22 ?_
  obtain ⟨v3, e4, hF⟩ := nm_s hF
  refine x_topl e4 ?_
  refine x_lstore_n (lv2 := [(0, .long v3)]) C dJ13_bitCount_95d88_23 rfl (by decide) rfl ?_
  refine x_lload_n C dJ13_bitCount_95d88_24 0 rfl ?_
  refine x_lload_n C dJ13_bitCount_95d88_25 0 rfl ?_
  refine x_iconst (v := 4) C dJ13_bitCount_95d88_26 (by decide) ?_
  refine x_lushr C dJ13_bitCount_95d88_27 ?_
  refine x_ladd C dJ13_bitCount_95d88_28 ?_
  refine x_ldc2 C dJ13_bitCount_95d88_29 kl_J13_318 ?_
  refine x_land C dJ13_bitCount_95d88_32 ?_
  obtain ⟨v5, e6, hF⟩ := nm_s hF
  refine x_topl e6 ?_
  refine x_lstore_n (lv2 := [(0, .long v5)]) C dJ13_bitCount_95d88_33 rfl (by decide) rfl ?_
  refine x_lload_n C dJ13_bitCount_95d88_34 0 rfl ?_
  refine x_lload_n C dJ13_bitCount_95d88_35 0 rfl ?_
  refine x_bipush (v := 8) C dJ13_bitCount_95d88_36 (by decide) ?_
  refine x_lushr C dJ13_bitCount_95d88_38 ?_
  refine x_ladd C dJ13_bitCount_95d88_39 ?_
  refine x_lstore_n (lv2 := [(0, .long (v5 + (xb_ushr v5 (8 : Int32))))]) C dJ13_bitCount_95d88_40 rfl (by decide) rfl ?_
  refine x_lload_n C dJ13_bitCount_95d88_41 0 rfl ?_
  refine x_lload_n C dJ13_bitCount_95d88_42 0 rfl ?_
  refine x_bipush (v := 16) C dJ13_bitCount_95d88_43 (by decide) ?_
  refine x_lushr C dJ13_bitCount_95d88_45 ?_
  refine x_ladd C dJ13_bitCount_95d88_46 ?_
  obtain ⟨v7, e8, hF⟩ := nm_s hF
  refine x_topl e8 ?_
  refine x_lstore_n (lv2 := [(0, .long v7)]) C dJ13_bitCount_95d88_47 rfl (by decide) rfl ?_
  refine x_lload_n C dJ13_bitCount_95d88_48 0 rfl ?_
  refine x_lload_n C dJ13_bitCount_95d88_49 0 rfl ?_
  refine x_bipush (v := 32) C dJ13_bitCount_95d88_50 (by decide) ?_
  refine x_lushr C dJ13_bitCount_95d88_52 ?_
  refine x_ladd C dJ13_bitCount_95d88_53 ?_
  refine x_lstore_n (lv2 := [(0, .long (v7 + (xb_ushr v7 (32 : Int32))))]) C dJ13_bitCount_95d88_54 rfl (by decide) rfl ?_
  refine x_lload_n C dJ13_bitCount_95d88_55 0 rfl ?_
  refine x_l2i C dJ13_bitCount_95d88_56 ?_
  refine x_bipush (v := 127) C dJ13_bitCount_95d88_57 (by decide) ?_
  refine x_iand C dJ13_bitCount_95d88_59 ?_
  cases hF
  exact x_iret C E dJ13_bitCount_95d88_60
set_option maxHeartbeats 4000000 in
set_option maxRecDepth 100000 in
theorem w_X4_countOther_L4 {κ : xb_k} {Γ : xb_X} {q : Nat → Nat} {nn : Nat} {xro : (Nat → Int64)} {xrn : (Nat → Int64)} {xfo : (Nat → Int32)} {xva : (Nat → Int32)} {xts : Int32} {xus : (Nat → Int32)} {xnu : (Nat → Int32)} {xth : Int32} {xsp : Int32} {xpr : (Nat → Int64)} {xpn : (Nat → Int64)} {xbs : Int32} {xwr : (Nat → Int32)} {xno : (Nat → Int32)} {xki : (Nat → Int32)} {xdi : (Nat → Int32)} {xde : (Nat → Int32)} {xst : (Nat → Int32)} {xta : (Nat → Int32)} {xcb : Int32} {xcd : Int32} {xbe : (Nat → Int32)} {xli : (Nat → Int32)} {xke : (Nat → Int32)} {xne : (Nat → Int64)}   (C : xb_C κ Γ 4 cX4_countOther RX4 { frames := 1, cells := 0, slots := 0, locals := 21 }) : ∀ (n : Nat) (x2 : Int32) (x3 : Int32) (o : Int32), F_X4_countOther_L4 nn xpr xro n x2 x3 = some o → xb_W κ Γ 4 0 0 37 [(2, .int o)] [] (xw κ q nn xro xrn xfo xva xts xus xnu xth xsp xpr xpn xbs xwr xno xki xdi xde xst xta xcb xcd xbe xli xke xne) → xb_W κ Γ 4 0 0 4 [(0, .ref (q 11)), (1, .ref (q 1)), (2, .int x2), (3, .int x3)] [] (xw κ q nn xro xrn xfo xva xts xus xnu xth xsp xpr xpn xbs xwr xno xki xdi xde xst xta xcb xcd xbe xli xke xne) := by
  intro n
  induction n with
  | zero =>
    intro x2 x3 o hF K
    rw [F_X4_countOther_L4] at hF
    cases hF
  | succ n ih =>
    intro x2 x3 o hF K
    rw [F_X4_countOther_L4] at hF
    refine x_iload_n C dX4_countOther_4 3 rfl ?_
    refine x_aload_n C dX4_countOther_5 0 rfl ?_
    refine gf_X4_7 C 11 rfl rfl dX4_countOther_6 ?_
    refine x_alen (v := nI nn) C 12 1 rfl rfl rfl dX4_countOther_9 ?_
    refine x_icmp_ge (tgt := 37) C dX4_countOther_10 (by decide) (fun hc => ?_) (fun hc => ?_)
    · replace hF := ifp hc hF
      cases hF
      exact x_sub [2] rfl K
    · replace hF := ifn hc hF
      refine x_iload_n C dX4_countOther_13 2 rfl ?_
      refine x_aload_n C dX4_countOther_14 0 rfl ?_
      refine gf_X4_7 C 11 rfl rfl dX4_countOther_15 ?_
      refine x_iload_n C dX4_countOther_18 3 rfl ?_
      obtain ⟨b1, hF⟩ := ck_s hF
      refine x_lald C 12 rfl b1 dX4_countOther_19 ?_
      refine x_aload_n C dX4_countOther_20 1 rfl ?_
      refine x_iload_n C dX4_countOther_21 3 rfl ?_
      obtain ⟨o2, h3, hF⟩ := bd_s hF
      refine x_callVl (st := [.long (xpr x3.toNatClampNeg), .int x2]) C (c_X4_rowOf h3) xm_X4_rowOf ml_X4_22 1 rfl rfl rfl rfl rfl rfl dX4_countOther_22 ⟨rfl, rfl⟩ ?_
      refine x_lxor C dX4_countOther_25 ?_
      obtain ⟨o4, h5, hF⟩ := bd_s hF
      refine x_callSi (st := [.int x2]) C (c_J13_bitCount_95d88 h5) xm_J13_bitCount_95d88 ml_X4_30 rfl rfl rfl rfl dX4_countOther_26 ⟨rfl, rfl⟩ ?_
      refine x_iadd C dX4_countOther_29 ?_
      refine x_istore_n (lv2 := [(2, .int (x2 + o4)), (0, .ref (q 11)), (1, .ref (q 1)), (3, .int x3)]) C dX4_countOther_30 rfl (by decide) rfl ?_
      refine x_iinc (v := x3 + 1) (lv2 := [(3, .int (x3 + 1)), (2, .int (x2 + o4)), (0, .ref (q 11)), (1, .ref (q 1))]) C dX4_countOther_31 3 rfl rfl (by decide) rfl ?_
      refine x_goto (tgt := 4) C dX4_countOther_34 (by decide) ?_
      exact x_sub [2, 3, 1, 0] rfl (ih _ _ _ hF K)
set_option maxHeartbeats 4000000 in
set_option maxRecDepth 100000 in
theorem c_X4_countOther {κ : xb_k} {q : Nat → Nat} {nn : Nat} {xro : (Nat → Int64)} {xrn : (Nat → Int64)} {xfo : (Nat → Int32)} {xva : (Nat → Int32)} {xts : Int32} {xus : (Nat → Int32)} {xnu : (Nat → Int32)} {xth : Int32} {xsp : Int32} {xpr : (Nat → Int64)} {xpn : (Nat → Int64)} {xbs : Int32} {xwr : (Nat → Int32)} {xno : (Nat → Int32)} {xki : (Nat → Int32)} {xdi : (Nat → Int32)} {xde : (Nat → Int32)} {xst : (Nat → Int32)} {xta : (Nat → Int32)} {xcb : Int32} {xcd : Int32} {xbe : (Nat → Int32)} {xli : (Nat → Int32)} {xke : (Nat → Int32)} {xne : (Nat → Int64)}  {fu : Nat} {o : Int32} (hF : F_X4_countOther fu nn xpr xro = some o) : Met κ.1 yX4_countOther [Cond.code yX4_countOther cX4_countOther 4 (some .int)] { frames := 1, cells := 0, slots := 0, locals := 21 } (xb_P κ [.ref (q 11), .ref (q 1)] (xw κ q nn xro xrn xfo xva xts xus xnu xth xsp xpr xpn xbs xwr xno xki xdi xde xst xta xcb xcd xbe xli xke xne)) (xb_Qi κ o (xw κ q nn xro xrn xfo xva xts xus xnu xth xsp xpr xpn xbs xwr xno xki xdi xde xst xta xcb xcd xbe xli xke xne)) 0 0 κ.2.2.1 := by
  refine x_enter (own := RX4) (lv0 := [(0, .ref (q 11)), (1, .ref (q 1))]) (by decide) rfl rfl rfl (fun Γ C E => ?_)
  unfold F_X4_countOther at hF
  refine x_iconst (v := 0) C dX4_countOther_0 (by decide) ?_
  refine x_istore_n (lv2 := [(2, .int (0 : Int32)), (0, .ref (q 11)), (1, .ref (q 1))]) C dX4_countOther_1 rfl (by decide) rfl ?_
  refine x_iconst (v := 0) C dX4_countOther_2 (by decide) ?_
  refine x_istore_n (lv2 := [(3, .int (0 : Int32)), (2, .int (0 : Int32)), (0, .ref (q 11)), (1, .ref (q 1))]) C dX4_countOther_3 rfl (by decide) rfl ?_
  obtain ⟨o6, h7, hF⟩ := bd_s hF
  refine x_sub [2, 3, 1, 0] rfl (w_X4_countOther_L4 C fu _ _ _ h7 ?_)
  refine x_iload_n C dX4_countOther_37 0 rfl ?_
  cases hF
  exact x_iret C E dX4_countOther_38
set_option maxHeartbeats 4000000 in
set_option maxRecDepth 100000 in
theorem c_X1_patchesTo {κ : xb_k} {q : Nat → Nat} {nn : Nat} {xro : (Nat → Int64)} {xrn : (Nat → Int64)} {xfo : (Nat → Int32)} {xva : (Nat → Int32)} {xts : Int32} {xus : (Nat → Int32)} {xnu : (Nat → Int32)} {xth : Int32} {xsp : Int32} {xpr : (Nat → Int64)} {xpn : (Nat → Int64)} {xbs : Int32} {xwr : (Nat → Int32)} {xno : (Nat → Int32)} {xki : (Nat → Int32)} {xdi : (Nat → Int32)} {xde : (Nat → Int32)} {xst : (Nat → Int32)} {xta : (Nat → Int32)} {xcb : Int32} {xcd : Int32} {xbe : (Nat → Int32)} {xli : (Nat → Int32)} {xke : (Nat → Int32)} {xne : (Nat → Int64)}  {fu : Nat} {o : Int32} (hF : F_X1_patchesTo fu nn xth xpr xro = some o) : Met κ.1 yX1_patchesTo [Cond.code yX1_patchesTo cX1_patchesTo 2 (some .int)] { frames := 2, cells := 0, slots := 0, locals := 44 } (xb_P κ [.ref (q 10), .ref (q 1)] (xw κ q nn xro xrn xfo xva xts xus xnu xth xsp xpr xpn xbs xwr xno xki xdi xde xst xta xcb xcd xbe xli xke xne)) (xb_Qi κ o (xw κ q nn xro xrn xfo xva xts xus xnu xth xsp xpr xpn xbs xwr xno xki xdi xde xst xta xcb xcd xbe xli xke xne)) 0 0 κ.2.2.1 := by
  refine x_enter (own := RX1) (lv0 := [(0, .ref (q 10)), (1, .ref (q 1))]) (by decide) rfl rfl rfl (fun Γ C E => ?_)
  unfold F_X1_patchesTo at hF
  refine x_aload_n C dX1_patchesTo_0 0 rfl ?_
  refine gf_X1_15 C 10 rfl rfl dX1_patchesTo_1 ?_
  refine x_if_eq (tgt := 18) C dX1_patchesTo_4 (by decide) (fun hc => ?_) (fun hc => ?_)
  · replace hF := ifp hc hF
    refine x_iconst (v := 0) C dX1_patchesTo_18 (by decide) ?_
    cases hF
    exact x_iret C E dX1_patchesTo_19
  · replace hF := ifn hc hF
    refine x_aload_n C dX1_patchesTo_7 0 rfl ?_
    refine gf_X1_28 C 10 rfl rfl dX1_patchesTo_8 ?_
    refine x_aload_n C dX1_patchesTo_11 1 rfl ?_
    obtain ⟨o1, h2, hF⟩ := bd_s hF
    refine x_callVi (st := []) C (c_X4_countOther h2) xm_X4_countOther ml_X1_59 11 rfl rfl rfl rfl rfl rfl dX1_patchesTo_12 ⟨rfl, rfl⟩ ?_
    refine x_goto (tgt := 19) C dX1_patchesTo_15 (by decide) ?_
    cases hF
    exact x_iret C E dX1_patchesTo_19
set_option maxHeartbeats 4000000 in
set_option maxRecDepth 100000 in
theorem c_X4_rowOf_11 {κ : xb_k} {q : Nat → Nat} {nn : Nat} {xro : (Nat → Int64)} {xrn : (Nat → Int64)} {xfo : (Nat → Int32)} {xva : (Nat → Int32)} {xts : Int32} {xus : (Nat → Int32)} {xnu : (Nat → Int32)} {xth : Int32} {xsp : Int32} {xpr : (Nat → Int64)} {xpn : (Nat → Int64)} {xbs : Int32} {xwr : (Nat → Int32)} {xno : (Nat → Int32)} {xki : (Nat → Int32)} {xdi : (Nat → Int32)} {xde : (Nat → Int32)} {xst : (Nat → Int32)} {xta : (Nat → Int32)} {xcb : Int32} {xcd : Int32} {xbe : (Nat → Int32)} {xli : (Nat → Int32)} {xke : (Nat → Int32)} {xne : (Nat → Int64)} {x1 : Int32}  {o : Int64} (hF : F_X4_rowOf nn x1 xpr = some o) : Met κ.1 yX4_rowOf [Cond.code yX4_rowOf cX4_rowOf 2 (some .long)] { frames := 0, cells := 0, slots := 0, locals := 0 } (xb_P κ [.ref (q 11), .int x1] (xw κ q nn xro xrn xfo xva xts xus xnu xth xsp xpr xpn xbs xwr xno xki xdi xde xst xta xcb xcd xbe xli xke xne)) (xb_Ql κ o (xw κ q nn xro xrn xfo xva xts xus xnu xth xsp xpr xpn xbs xwr xno xki xdi xde xst xta xcb xcd xbe xli xke xne)) 0 0 κ.2.2.1 := by
  refine x_enter (own := RX4) (lv0 := [(0, .ref (q 11)), (1, .int x1)]) (by decide) rfl rfl rfl (fun Γ C E => ?_)
  unfold F_X4_rowOf at hF
  refine x_iload_n C dX4_rowOf_0 1 rfl ?_
  refine x_if_lt (tgt := 22) C dX4_rowOf_1 (by decide) (fun hc => ?_) (fun hc => ?_)
  · replace hF := ifp hc hF
    refine x_lconst (v := 0) C dX4_rowOf_22 (by decide) ?_
    cases hF
    exact x_lret C E dX4_rowOf_23
  · replace hF := ifn hc hF
    refine x_iload_n C dX4_rowOf_4 1 rfl ?_
    refine x_aload_n C dX4_rowOf_5 0 rfl ?_
    refine gf_X4_7 C 11 rfl rfl dX4_rowOf_6 ?_
    refine x_alen (v := nI nn) C 12 1 rfl rfl rfl dX4_rowOf_9 ?_
    refine x_icmp_ge (tgt := 22) C dX4_rowOf_10 (by decide) (fun hc => ?_) (fun hc => ?_)
    · replace hF := ifp hc hF
      refine x_lconst (v := 0) C dX4_rowOf_22 (by decide) ?_
      cases hF
      exact x_lret C E dX4_rowOf_23
    · replace hF := ifn hc hF
      refine x_aload_n C dX4_rowOf_13 0 rfl ?_
      refine gf_X4_7 C 11 rfl rfl dX4_rowOf_14 ?_
      refine x_iload_n C dX4_rowOf_17 1 rfl ?_
      obtain ⟨b1, hF⟩ := ck_s hF
      refine x_lald C 12 rfl b1 dX4_rowOf_18 ?_
      refine x_goto (tgt := 23) C dX4_rowOf_19 (by decide) ?_
      cases hF
      exact x_lret C E dX4_rowOf_23
set_option maxHeartbeats 4000000 in
set_option maxRecDepth 100000 in
theorem c_X4_joined_11 {κ : xb_k} {q : Nat → Nat} {nn : Nat} {xro : (Nat → Int64)} {xrn : (Nat → Int64)} {xfo : (Nat → Int32)} {xva : (Nat → Int32)} {xts : Int32} {xus : (Nat → Int32)} {xnu : (Nat → Int32)} {xth : Int32} {xsp : Int32} {xpr : (Nat → Int64)} {xpn : (Nat → Int64)} {xbs : Int32} {xwr : (Nat → Int32)} {xno : (Nat → Int32)} {xki : (Nat → Int32)} {xdi : (Nat → Int32)} {xde : (Nat → Int32)} {xst : (Nat → Int32)} {xta : (Nat → Int32)} {xcb : Int32} {xcd : Int32} {xbe : (Nat → Int32)} {xli : (Nat → Int32)} {xke : (Nat → Int32)} {xne : (Nat → Int64)} {x1 : Int32} {x2 : Int32}  {o : Int32} (hF : F_X4_joined nn x1 x2 xpr = some o) : Met κ.1 yX4_joined [Cond.code yX4_joined cX4_joined 3 (some .boolean)] { frames := 1, cells := 0, slots := 0, locals := 22 } (xb_P κ [.ref (q 11), .int x1, .int x2] (xw κ q nn xro xrn xfo xva xts xus xnu xth xsp xpr xpn xbs xwr xno xki xdi xde xst xta xcb xcd xbe xli xke xne)) (xb_Qi κ o (xw κ q nn xro xrn xfo xva xts xus xnu xth xsp xpr xpn xbs xwr xno xki xdi xde xst xta xcb xcd xbe xli xke xne)) 0 0 κ.2.2.1 := by
  refine x_enter (own := RX4) (lv0 := [(0, .ref (q 11)), (1, .int x1), (2, .int x2)]) (by decide) rfl rfl rfl (fun Γ C E => ?_)
  unfold F_X4_joined at hF
  refine x_aload_n C dX4_joined_0 0 rfl ?_
  refine x_iload_n C dX4_joined_1 1 rfl ?_
  obtain ⟨o1, h2, hF⟩ := bd_s hF
  refine x_callVl (st := []) C (c_X4_rowOf_11 h2) xm_X4_rowOf ml_X4_22 11 rfl rfl rfl rfl rfl rfl dX4_joined_2 ⟨rfl, rfl⟩ ?_
  refine x_iload_n C dX4_joined_5 2 rfl ?_
  obtain ⟨o3, h4, hF⟩ := bd_s hF
  refine x_callNi (st := []) C (c_X8_isIn h4) xm_X8_isIn mn_X4_16 rfl rfl rfl rfl dX4_joined_6 ⟨rfl, rfl⟩ ?_
  obtain ⟨b5, hF⟩ := ck_s hF
  cases hF
  exact x_zret C E (zb_nar b5) dX4_joined_9
set_option maxHeartbeats 4000000 in
set_option maxRecDepth 100000 in
theorem c_X1_isPatch {κ : xb_k} {q : Nat → Nat} {nn : Nat} {xro : (Nat → Int64)} {xrn : (Nat → Int64)} {xfo : (Nat → Int32)} {xva : (Nat → Int32)} {xts : Int32} {xus : (Nat → Int32)} {xnu : (Nat → Int32)} {xth : Int32} {xsp : Int32} {xpr : (Nat → Int64)} {xpn : (Nat → Int64)} {xbs : Int32} {xwr : (Nat → Int32)} {xno : (Nat → Int32)} {xki : (Nat → Int32)} {xdi : (Nat → Int32)} {xde : (Nat → Int32)} {xst : (Nat → Int32)} {xta : (Nat → Int32)} {xcb : Int32} {xcd : Int32} {xbe : (Nat → Int32)} {xli : (Nat → Int32)} {xke : (Nat → Int32)} {xne : (Nat → Int64)} {x2 : Int32} {x3 : Int32}  {o : Int32} (hF : F_X1_isPatch nn x2 x3 xth xro xpr = some o) : Met κ.1 yX1_isPatch [Cond.code yX1_isPatch cX1_isPatch 4 (some .boolean)] { frames := 2, cells := 0, slots := 0, locals := 44 } (xb_P κ [.ref (q 10), .ref (q 1), .int x2, .int x3] (xw κ q nn xro xrn xfo xva xts xus xnu xth xsp xpr xpn xbs xwr xno xki xdi xde xst xta xcb xcd xbe xli xke xne)) (xb_Qi κ o (xw κ q nn xro xrn xfo xva xts xus xnu xth xsp xpr xpn xbs xwr xno xki xdi xde xst xta xcb xcd xbe xli xke xne)) 0 0 κ.2.2.1 := by
  refine x_enter (own := RX1) (lv0 := [(0, .ref (q 10)), (1, .ref (q 1)), (2, .int x2), (3, .int x3)]) (by decide) rfl rfl rfl (fun Γ C E => ?_)
  unfold F_X1_isPatch at hF
  refine x_aload_n C dX1_isPatch_0 0 rfl ?_
  refine gf_X1_15 C 10 rfl rfl dX1_isPatch_1 ?_
  refine x_if_eq (tgt := 29) C dX1_isPatch_4 (by decide) (fun hc => ?_) (fun hc => ?_)
  · replace hF := ifp hc hF
    refine x_iconst (v := 0) C dX1_isPatch_29 (by decide) ?_
    cases hF
    exact x_zret C E rfl dX1_isPatch_30
  · replace hF := ifn hc hF
    refine x_aload_n C dX1_isPatch_7 1 rfl ?_
    refine x_iload_n C dX1_isPatch_8 2 rfl ?_
    refine x_iload_n C dX1_isPatch_9 3 rfl ?_
    obtain ⟨o1, h2, hF⟩ := bd_s hF
    refine x_callVi (st := []) C (c_X4_joined h2) xm_X4_joined ml_X1_55 1 rfl rfl rfl rfl rfl rfl dX1_isPatch_10 ⟨rfl, rfl⟩ ?_
    refine x_aload_n C dX1_isPatch_13 0 rfl ?_
    refine gf_X1_28 C 10 rfl rfl dX1_isPatch_14 ?_
    refine x_iload_n C dX1_isPatch_17 2 rfl ?_
    refine x_iload_n C dX1_isPatch_18 3 rfl ?_
    obtain ⟨o3, h4, hF⟩ := bd_s hF
    refine x_callVi (st := [.int o1]) C (c_X4_joined_11 h4) xm_X4_joined ml_X1_55 11 rfl rfl rfl rfl rfl rfl dX1_isPatch_19 ⟨rfl, rfl⟩ ?_
    refine x_icmp_eq (tgt := 29) C dX1_isPatch_22 (by decide) (fun hc => ?_) (fun hc => ?_)
    · replace hF := ifp hc hF
      refine x_iconst (v := 0) C dX1_isPatch_29 (by decide) ?_
      cases hF
      exact x_zret C E rfl dX1_isPatch_30
    · replace hF := ifn hc hF
      refine x_iconst (v := 1) C dX1_isPatch_25 (by decide) ?_
      refine x_goto (tgt := 30) C dX1_isPatch_26 (by decide) ?_
      cases hF
      exact x_zret C E rfl dX1_isPatch_30
set_option maxHeartbeats 4000000 in
set_option maxRecDepth 100000 in
theorem c_X8_change {κ : xb_k} {q : Nat → Nat} {nn : Nat} {xro : (Nat → Int64)} {xrn : (Nat → Int64)} {xfo : (Nat → Int32)} {xva : (Nat → Int32)} {xts : Int32} {xus : (Nat → Int32)} {xnu : (Nat → Int32)} {xth : Int32} {xsp : Int32} {xpr : (Nat → Int64)} {xpn : (Nat → Int64)} {xbs : Int32} {xwr : (Nat → Int32)} {xno : (Nat → Int32)} {xki : (Nat → Int32)} {xdi : (Nat → Int32)} {xde : (Nat → Int32)} {xst : (Nat → Int32)} {xta : (Nat → Int32)} {xcb : Int32} {xcd : Int32} {xbe : (Nat → Int32)} {xli : (Nat → Int32)} {xke : (Nat → Int32)} {xne : (Nat → Int64)} {x1 : Int32} {x2 : Int32} {x3 : Int32} {fu : Nat} {o : Int32 × (Nat → Int64)} (hF : F_X8_change fu nn x1 x2 x3 xro xth xpr = some o) : Met κ.1 yX8_change [Cond.code yX8_change cX8_change 5 (some .int)] { frames := 3, cells := 0, slots := 0, locals := 67 } (xb_P κ [.ref (q 0), .int x1, .int x2, .int x3] (xw κ q nn xro xrn xfo xva xts xus xnu xth xsp xpr xpn xbs xwr xno xki xdi xde xst xta xcb xcd xbe xli xke xne)) (xb_Qi κ o.1 (xw κ q nn o.2 xrn xfo xva xts xus xnu xth xsp xpr xpn xbs xwr xno xki xdi xde xst xta xcb xcd xbe xli xke xne)) 0 0 κ.2.2.1 := by
  refine x_enter (own := RX8) (lv0 := [(0, .ref (q 0)), (1, .int x1), (2, .int x2), (3, .int x3)]) (by decide) rfl rfl rfl (fun Γ C E => ?_)
  unfold F_X8_change at hF
  refine x_aload_n C dX8_change_0 0 rfl ?_
  refine gf_X8_23 C 0 rfl rfl dX8_change_1 ?_
  refine x_iload_n C dX8_change_4 1 rfl ?_
  obtain ⟨o1, h2, hF⟩ := bd_s hF
  refine x_callVi (st := []) C (c_X4_isThing h2) xm_X4_isThing ml_X8_73 1 rfl rfl rfl rfl rfl rfl dX8_change_5 ⟨rfl, rfl⟩ ?_
  refine x_if_eq (tgt := 22) C dX8_change_8 (by decide) (fun hc => ?_) (fun hc => ?_)
  · replace hF := ifp hc hF
    refine x_bipush (v := (-2)) C dX8_change_22 (by decide) ?_
    cases hF
    exact x_iret C E dX8_change_24
  · replace hF := ifn hc hF
    refine x_aload_n C dX8_change_11 0 rfl ?_
    refine gf_X8_23 C 0 rfl rfl dX8_change_12 ?_
    refine x_iload_n C dX8_change_15 2 rfl ?_
    obtain ⟨o3, h4, hF⟩ := bd_s hF
    refine x_callVi (st := []) C (c_X4_isThing h4) xm_X4_isThing ml_X8_73 1 rfl rfl rfl rfl rfl rfl dX8_change_16 ⟨rfl, rfl⟩ ?_
    refine x_if_ne (tgt := 25) C dX8_change_19 (by decide) (fun hc => ?_) (fun hc => ?_)
    · replace hF := ifn hc hF
      refine x_aload_n C dX8_change_25 0 rfl ?_
      refine gf_X8_23 C 0 rfl rfl dX8_change_26 ?_
      refine x_iload_n C dX8_change_29 1 rfl ?_
      refine x_iload_n C dX8_change_30 2 rfl ?_
      obtain ⟨o5, h6, hF⟩ := bd_s hF
      refine x_callVi (st := []) C (c_X4_joined h6) xm_X4_joined ml_X8_77 1 rfl rfl rfl rfl rfl rfl dX8_change_31 ⟨rfl, rfl⟩ ?_
      refine x_iload_n C dX8_change_34 3 rfl ?_
      refine x_icmp_ne (tgt := 40) C dX8_change_35 (by decide) (fun hc => ?_) (fun hc => ?_)
      · replace hF := ifn hc hF
        refine x_aload_n C dX8_change_40 0 rfl ?_
        refine gf_X8_44 C 0 rfl rfl dX8_change_41 ?_
        obtain ⟨o7, h8, hF⟩ := bd_s hF
        refine x_callVi (st := []) C (c_X1_isThere h8) xm_X1_isThere ml_X8_141 10 rfl rfl rfl rfl rfl rfl dX8_change_44 ⟨rfl, rfl⟩ ?_
        refine x_if_eq (tgt := 70) C dX8_change_47 (by decide) (fun hc => ?_) (fun hc => ?_)
        · replace hF := ifp hc hF
          refine x_iconst (v := 0) C dX8_change_70 (by decide) ?_
          refine x_istore (lv2 := [(4, .int (0 : Int32)), (0, .ref (q 0)), (1, .int x1), (2, .int x2), (3, .int x3)]) C dX8_change_71 (by decide) rfl ?_
          refine x_iload C dX8_change_73 0 rfl ?_
          refine x_if_eq (tgt := 97) C dX8_change_75 (by decide) (fun hc => ?_) (fun hc => ?_)
          · replace hF := ifp hc hF
            refine x_aload_n C dX8_change_97 1 rfl ?_
            refine gf_X8_23 C 0 rfl rfl dX8_change_98 ?_
            refine x_iload_n C dX8_change_101 2 rfl ?_
            refine x_iload_n C dX8_change_102 3 rfl ?_
            obtain ⟨o9, h10, hF⟩ := bd_s hF
            refine x_callVv (st := []) C (c_X4_flip h10) xm_X4_flip ml_X8_255 1 rfl rfl rfl rfl rfl rfl dX8_change_103 ⟨rfl, rfl⟩ ?_
            refine x_iconst (v := 1) C dX8_change_106 (by decide) ?_
            cases hF
            exact x_iret C E dX8_change_107
          · replace hF := ifn hc hF
            refine x_aload_n C dX8_change_78 1 rfl ?_
            refine gf_X8_44 C 0 rfl rfl dX8_change_79 ?_
            refine x_aload_n C dX8_change_82 1 rfl ?_
            refine gf_X8_23 C 0 rfl rfl dX8_change_83 ?_
            obtain ⟨o11, h12, hF⟩ := bd_s hF
            refine x_callVi (st := []) C (c_X1_patchesTo h12) xm_X1_patchesTo ml_X8_163 10 rfl rfl rfl rfl rfl rfl dX8_change_86 ⟨rfl, rfl⟩ ?_
            refine x_bipush (v := 40) C dX8_change_89 (by decide) ?_
            refine x_icmp_lt (tgt := 97) C dX8_change_91 (by decide) (fun hc => ?_) (fun hc => ?_)
            · replace hF := ifp hc hF
              refine x_aload_n C dX8_change_97 1 rfl ?_
              refine gf_X8_23 C 0 rfl rfl dX8_change_98 ?_
              refine x_iload_n C dX8_change_101 2 rfl ?_
              refine x_iload_n C dX8_change_102 3 rfl ?_
              obtain ⟨o13, h14, hF⟩ := bd_s hF
              refine x_callVv (st := []) C (c_X4_flip h14) xm_X4_flip ml_X8_255 1 rfl rfl rfl rfl rfl rfl dX8_change_103 ⟨rfl, rfl⟩ ?_
              refine x_iconst (v := 1) C dX8_change_106 (by decide) ?_
              cases hF
              exact x_iret C E dX8_change_107
            · replace hF := ifn hc hF
              refine x_bipush (v := (-4)) C dX8_change_94 (by decide) ?_
              cases hF
              exact x_iret C E dX8_change_96
        · replace hF := ifn hc hF
          refine x_aload_n C dX8_change_50 0 rfl ?_
          refine gf_X8_44 C 0 rfl rfl dX8_change_51 ?_
          refine x_aload_n C dX8_change_54 0 rfl ?_
          refine gf_X8_23 C 0 rfl rfl dX8_change_55 ?_
          refine x_iload_n C dX8_change_58 1 rfl ?_
          refine x_iload_n C dX8_change_59 2 rfl ?_
          obtain ⟨o15, h16, hF⟩ := bd_s hF
          refine x_callVi (st := []) C (c_X1_isPatch h16) xm_X1_isPatch ml_X8_251 10 rfl rfl rfl rfl rfl rfl dX8_change_60 ⟨rfl, rfl⟩ ?_
          refine x_if_ne (tgt := 70) C dX8_change_63 (by decide) (fun hc => ?_) (fun hc => ?_)
          · replace hF := ifn hc hF
            refine x_iconst (v := 0) C dX8_change_70 (by decide) ?_
            refine x_istore (lv2 := [(4, .int (0 : Int32)), (0, .ref (q 0)), (1, .int x1), (2, .int x2), (3, .int x3)]) C dX8_change_71 (by decide) rfl ?_
            refine x_iload C dX8_change_73 0 rfl ?_
            refine x_if_eq (tgt := 97) C dX8_change_75 (by decide) (fun hc => ?_) (fun hc => ?_)
            · replace hF := ifp hc hF
              refine x_aload_n C dX8_change_97 1 rfl ?_
              refine gf_X8_23 C 0 rfl rfl dX8_change_98 ?_
              refine x_iload_n C dX8_change_101 2 rfl ?_
              refine x_iload_n C dX8_change_102 3 rfl ?_
              obtain ⟨o17, h18, hF⟩ := bd_s hF
              refine x_callVv (st := []) C (c_X4_flip h18) xm_X4_flip ml_X8_255 1 rfl rfl rfl rfl rfl rfl dX8_change_103 ⟨rfl, rfl⟩ ?_
              refine x_iconst (v := 1) C dX8_change_106 (by decide) ?_
              cases hF
              exact x_iret C E dX8_change_107
            · replace hF := ifn hc hF
              refine x_aload_n C dX8_change_78 1 rfl ?_
              refine gf_X8_44 C 0 rfl rfl dX8_change_79 ?_
              refine x_aload_n C dX8_change_82 1 rfl ?_
              refine gf_X8_23 C 0 rfl rfl dX8_change_83 ?_
              obtain ⟨o19, h20, hF⟩ := bd_s hF
              refine x_callVi (st := []) C (c_X1_patchesTo h20) xm_X1_patchesTo ml_X8_163 10 rfl rfl rfl rfl rfl rfl dX8_change_86 ⟨rfl, rfl⟩ ?_
              refine x_bipush (v := 40) C dX8_change_89 (by decide) ?_
              refine x_icmp_lt (tgt := 97) C dX8_change_91 (by decide) (fun hc => ?_) (fun hc => ?_)
              · replace hF := ifp hc hF
                refine x_aload_n C dX8_change_97 1 rfl ?_
                refine gf_X8_23 C 0 rfl rfl dX8_change_98 ?_
                refine x_iload_n C dX8_change_101 2 rfl ?_
                refine x_iload_n C dX8_change_102 3 rfl ?_
                obtain ⟨o21, h22, hF⟩ := bd_s hF
                refine x_callVv (st := []) C (c_X4_flip h22) xm_X4_flip ml_X8_255 1 rfl rfl rfl rfl rfl rfl dX8_change_103 ⟨rfl, rfl⟩ ?_
                refine x_iconst (v := 1) C dX8_change_106 (by decide) ?_
                cases hF
                exact x_iret C E dX8_change_107
              · replace hF := ifn hc hF
                refine x_bipush (v := (-4)) C dX8_change_94 (by decide) ?_
                cases hF
                exact x_iret C E dX8_change_96
          · replace hF := ifp hc hF
            refine x_iconst (v := 1) C dX8_change_66 (by decide) ?_
            refine x_goto (tgt := 71) C dX8_change_67 (by decide) ?_
            refine x_istore (lv2 := [(4, .int (1 : Int32)), (0, .ref (q 0)), (1, .int x1), (2, .int x2), (3, .int x3)]) C dX8_change_71 (by decide) rfl ?_
            refine x_iload C dX8_change_73 0 rfl ?_
            refine x_if_eq (tgt := 97) C dX8_change_75 (by decide) (fun hc => ?_) (fun hc => ?_)
            · replace hF := ifp hc hF
              refine x_aload_n C dX8_change_97 1 rfl ?_
              refine gf_X8_23 C 0 rfl rfl dX8_change_98 ?_
              refine x_iload_n C dX8_change_101 2 rfl ?_
              refine x_iload_n C dX8_change_102 3 rfl ?_
              obtain ⟨o23, h24, hF⟩ := bd_s hF
              refine x_callVv (st := []) C (c_X4_flip h24) xm_X4_flip ml_X8_255 1 rfl rfl rfl rfl rfl rfl dX8_change_103 ⟨rfl, rfl⟩ ?_
              refine x_iconst (v := 1) C dX8_change_106 (by decide) ?_
              cases hF
              exact x_iret C E dX8_change_107
            · replace hF := ifn hc hF
              refine x_aload_n C dX8_change_78 1 rfl ?_
              refine gf_X8_44 C 0 rfl rfl dX8_change_79 ?_
              refine x_aload_n C dX8_change_82 1 rfl ?_
              refine gf_X8_23 C 0 rfl rfl dX8_change_83 ?_
              obtain ⟨o25, h26, hF⟩ := bd_s hF
              refine x_callVi (st := []) C (c_X1_patchesTo h26) xm_X1_patchesTo ml_X8_163 10 rfl rfl rfl rfl rfl rfl dX8_change_86 ⟨rfl, rfl⟩ ?_
              refine x_bipush (v := 40) C dX8_change_89 (by decide) ?_
              refine x_icmp_lt (tgt := 97) C dX8_change_91 (by decide) (fun hc => ?_) (fun hc => ?_)
              · replace hF := ifp hc hF
                refine x_aload_n C dX8_change_97 1 rfl ?_
                refine gf_X8_23 C 0 rfl rfl dX8_change_98 ?_
                refine x_iload_n C dX8_change_101 2 rfl ?_
                refine x_iload_n C dX8_change_102 3 rfl ?_
                obtain ⟨o27, h28, hF⟩ := bd_s hF
                refine x_callVv (st := []) C (c_X4_flip h28) xm_X4_flip ml_X8_255 1 rfl rfl rfl rfl rfl rfl dX8_change_103 ⟨rfl, rfl⟩ ?_
                refine x_iconst (v := 1) C dX8_change_106 (by decide) ?_
                cases hF
                exact x_iret C E dX8_change_107
              · replace hF := ifn hc hF
                refine x_bipush (v := (-4)) C dX8_change_94 (by decide) ?_
                cases hF
                exact x_iret C E dX8_change_96
      · replace hF := ifp hc hF
        refine x_iconst (v := 0) C dX8_change_38 (by decide) ?_
        cases hF
        exact x_iret C E dX8_change_39
    · replace hF := ifp hc hF
      refine x_bipush (v := (-2)) C dX8_change_22 (by decide) ?_
      cases hF
      exact x_iret C E dX8_change_24
set_option maxHeartbeats 4000000 in
set_option maxRecDepth 100000 in
theorem c_X8_pair {κ : xb_k} {q : Nat → Nat} {nn : Nat} {xro : (Nat → Int64)} {xrn : (Nat → Int64)} {xfo : (Nat → Int32)} {xva : (Nat → Int32)} {xts : Int32} {xus : (Nat → Int32)} {xnu : (Nat → Int32)} {xth : Int32} {xsp : Int32} {xpr : (Nat → Int64)} {xpn : (Nat → Int64)} {xbs : Int32} {xwr : (Nat → Int32)} {xno : (Nat → Int32)} {xki : (Nat → Int32)} {xdi : (Nat → Int32)} {xde : (Nat → Int32)} {xst : (Nat → Int32)} {xta : (Nat → Int32)} {xcb : Int32} {xcd : Int32} {xbe : (Nat → Int32)} {xli : (Nat → Int32)} {xke : (Nat → Int32)} {xne : (Nat → Int64)} {x1 : Int32} {x2 : Int32} {fu : Nat} {o : Int32 × (Nat → Int64)} (hF : F_X8_pair fu nn x1 x2 xro xth xpr = some o) : Met κ.1 yX8_pair [Cond.code yX8_pair cX8_pair 3 (some .int)] { frames := 4, cells := 0, slots := 0, locals := 91 } (xb_P κ [.ref (q 0), .int x1, .int x2] (xw κ q nn xro xrn xfo xva xts xus xnu xth xsp xpr xpn xbs xwr xno xki xdi xde xst xta xcb xcd xbe xli xke xne)) (xb_Qi κ o.1 (xw κ q nn o.2 xrn xfo xva xts xus xnu xth xsp xpr xpn xbs xwr xno xki xdi xde xst xta xcb xcd xbe xli xke xne)) 0 0 κ.2.2.1 := by
  refine x_enter (own := RX8) (lv0 := [(0, .ref (q 0)), (1, .int x1), (2, .int x2)]) (by decide) rfl rfl rfl (fun Γ C E => ?_)
  unfold F_X8_pair at hF
  refine x_aload_n C dX8_pair_0 0 rfl ?_
  refine x_iload_n C dX8_pair_1 1 rfl ?_
  refine x_iload_n C dX8_pair_2 2 rfl ?_
  refine x_iconst (v := 1) C dX8_pair_3 (by decide) ?_
  obtain ⟨o1, h2, hF⟩ := bd_s hF
  refine x_callVi (st := []) C (c_X8_change h2) xm_X8_change ml_X8_69 0 rfl rfl rfl rfl rfl rfl dX8_pair_4 ⟨rfl, rfl⟩ ?_
  cases hF
  exact x_iret C E dX8_pair_7
set_option maxHeartbeats 4000000 in
set_option maxRecDepth 100000 in
theorem c_X8_drop {κ : xb_k} {q : Nat → Nat} {nn : Nat} {xro : (Nat → Int64)} {xrn : (Nat → Int64)} {xfo : (Nat → Int32)} {xva : (Nat → Int32)} {xts : Int32} {xus : (Nat → Int32)} {xnu : (Nat → Int32)} {xth : Int32} {xsp : Int32} {xpr : (Nat → Int64)} {xpn : (Nat → Int64)} {xbs : Int32} {xwr : (Nat → Int32)} {xno : (Nat → Int32)} {xki : (Nat → Int32)} {xdi : (Nat → Int32)} {xde : (Nat → Int32)} {xst : (Nat → Int32)} {xta : (Nat → Int32)} {xcb : Int32} {xcd : Int32} {xbe : (Nat → Int32)} {xli : (Nat → Int32)} {xke : (Nat → Int32)} {xne : (Nat → Int64)} {x1 : Int32} {x2 : Int32} {fu : Nat} {o : Int32 × (Nat → Int64)} (hF : F_X8_drop fu nn x1 x2 xro xth xpr = some o) : Met κ.1 yX8_drop [Cond.code yX8_drop cX8_drop 3 (some .int)] { frames := 4, cells := 0, slots := 0, locals := 91 } (xb_P κ [.ref (q 0), .int x1, .int x2] (xw κ q nn xro xrn xfo xva xts xus xnu xth xsp xpr xpn xbs xwr xno xki xdi xde xst xta xcb xcd xbe xli xke xne)) (xb_Qi κ o.1 (xw κ q nn o.2 xrn xfo xva xts xus xnu xth xsp xpr xpn xbs xwr xno xki xdi xde xst xta xcb xcd xbe xli xke xne)) 0 0 κ.2.2.1 := by
  refine x_enter (own := RX8) (lv0 := [(0, .ref (q 0)), (1, .int x1), (2, .int x2)]) (by decide) rfl rfl rfl (fun Γ C E => ?_)
  unfold F_X8_drop at hF
  refine x_aload_n C dX8_drop_0 0 rfl ?_
  refine x_iload_n C dX8_drop_1 1 rfl ?_
  refine x_iload_n C dX8_drop_2 2 rfl ?_
  refine x_iconst (v := 0) C dX8_drop_3 (by decide) ?_
  obtain ⟨o1, h2, hF⟩ := bd_s hF
  refine x_callVi (st := []) C (c_X8_change h2) xm_X8_change ml_X8_69 0 rfl rfl rfl rfl rfl rfl dX8_drop_4 ⟨rfl, rfl⟩ ?_
  cases hF
  exact x_iret C E dX8_drop_7
set_option maxHeartbeats 4000000 in
set_option maxRecDepth 100000 in
theorem c_X8_has {κ : xb_k} {q : Nat → Nat} {nn : Nat} {xro : (Nat → Int64)} {xrn : (Nat → Int64)} {xfo : (Nat → Int32)} {xva : (Nat → Int32)} {xts : Int32} {xus : (Nat → Int32)} {xnu : (Nat → Int32)} {xth : Int32} {xsp : Int32} {xpr : (Nat → Int64)} {xpn : (Nat → Int64)} {xbs : Int32} {xwr : (Nat → Int32)} {xno : (Nat → Int32)} {xki : (Nat → Int32)} {xdi : (Nat → Int32)} {xde : (Nat → Int32)} {xst : (Nat → Int32)} {xta : (Nat → Int32)} {xcb : Int32} {xcd : Int32} {xbe : (Nat → Int32)} {xli : (Nat → Int32)} {xke : (Nat → Int32)} {xne : (Nat → Int64)} {x1 : Int32} {x2 : Int32}  {o : Int32} (hF : F_X8_has nn x1 x2 xro = some o) : Met κ.1 yX8_has [Cond.code yX8_has cX8_has 3 (some .int)] { frames := 2, cells := 0, slots := 0, locals := 44 } (xb_P κ [.ref (q 0), .int x1, .int x2] (xw κ q nn xro xrn xfo xva xts xus xnu xth xsp xpr xpn xbs xwr xno xki xdi xde xst xta xcb xcd xbe xli xke xne)) (xb_Qi κ o (xw κ q nn xro xrn xfo xva xts xus xnu xth xsp xpr xpn xbs xwr xno xki xdi xde xst xta xcb xcd xbe xli xke xne)) 0 0 κ.2.2.1 := by
  refine x_enter (own := RX8) (lv0 := [(0, .ref (q 0)), (1, .int x1), (2, .int x2)]) (by decide) rfl rfl rfl (fun Γ C E => ?_)
  unfold F_X8_has at hF
  refine x_aload_n C dX8_has_0 0 rfl ?_
  refine gf_X8_23 C 0 rfl rfl dX8_has_1 ?_
  refine x_iload_n C dX8_has_4 1 rfl ?_
  obtain ⟨o1, h2, hF⟩ := bd_s hF
  refine x_callVi (st := []) C (c_X4_isThing h2) xm_X4_isThing ml_X8_73 1 rfl rfl rfl rfl rfl rfl dX8_has_5 ⟨rfl, rfl⟩ ?_
  refine x_if_eq (tgt := 22) C dX8_has_8 (by decide) (fun hc => ?_) (fun hc => ?_)
  · replace hF := ifp hc hF
    refine x_bipush (v := (-2)) C dX8_has_22 (by decide) ?_
    cases hF
    exact x_iret C E dX8_has_24
  · replace hF := ifn hc hF
    refine x_aload_n C dX8_has_11 0 rfl ?_
    refine gf_X8_23 C 0 rfl rfl dX8_has_12 ?_
    refine x_iload_n C dX8_has_15 2 rfl ?_
    obtain ⟨o3, h4, hF⟩ := bd_s hF
    refine x_callVi (st := []) C (c_X4_isThing h4) xm_X4_isThing ml_X8_73 1 rfl rfl rfl rfl rfl rfl dX8_has_16 ⟨rfl, rfl⟩ ?_
    refine x_if_ne (tgt := 25) C dX8_has_19 (by decide) (fun hc => ?_) (fun hc => ?_)
    · replace hF := ifn hc hF
      refine x_aload_n C dX8_has_25 0 rfl ?_
      refine gf_X8_23 C 0 rfl rfl dX8_has_26 ?_
      refine x_iload_n C dX8_has_29 1 rfl ?_
      refine x_iload_n C dX8_has_30 2 rfl ?_
      obtain ⟨o5, h6, hF⟩ := bd_s hF
      refine x_callVi (st := []) C (c_X4_joined h6) xm_X4_joined ml_X8_77 1 rfl rfl rfl rfl rfl rfl dX8_has_31 ⟨rfl, rfl⟩ ?_
      refine x_if_eq (tgt := 41) C dX8_has_34 (by decide) (fun hc => ?_) (fun hc => ?_)
      · replace hF := ifp hc hF
        refine x_iconst (v := 0) C dX8_has_41 (by decide) ?_
        cases hF
        exact x_iret C E dX8_has_42
      · replace hF := ifn hc hF
        refine x_iconst (v := 1) C dX8_has_37 (by decide) ?_
        refine x_goto (tgt := 42) C dX8_has_38 (by decide) ?_
        cases hF
        exact x_iret C E dX8_has_42
    · replace hF := ifp hc hF
      refine x_bipush (v := (-2)) C dX8_has_22 (by decide) ?_
      cases hF
      exact x_iret C E dX8_has_24
set_option maxHeartbeats 4000000 in
set_option maxRecDepth 100000 in
theorem c_J9_max_7cf53 {κ : xb_k} {ws : va_W}  {x0 : Int32} {x1 : Int32}  {o : Int32} (hF : F_J9_max_7cf53 x0 x1 = some o) : Met κ.1 yJ9_max_7cf53 [Cond.code yJ9_max_7cf53 cJ9_max_7cf53 2 (some .int)] { frames := 0, cells := 0, slots := 0, locals := 0 } (xb_P κ [.int x0, .int x1] ws) (xb_Qi κ o ws) 0 0 κ.2.2.1 := by
  refine x_enterF (own := RJ9) (lv0 := [(0, .int x0), (1, .int x1)]) (by decide +kernel) rfl rfl rfl (fun Γ C E => ?_)
  unfold F_J9_max_7cf53 at hF
  refine x_iload_n C dJ9_max_7cf53_0 0 rfl ?_
  refine x_iload_n C dJ9_max_7cf53_1 1 rfl ?_
  refine x_icmp_lt (tgt := 9) C dJ9_max_7cf53_2 (by decide) (fun hc => ?_) (fun hc => ?_)
  · replace hF := ifp hc hF
    refine x_iload_n C dJ9_max_7cf53_9 1 rfl ?_
    cases hF
    exact x_iret C E dJ9_max_7cf53_10
  · replace hF := ifn hc hF
    refine x_iload_n C dJ9_max_7cf53_5 0 rfl ?_
    refine x_goto (tgt := 10) C dJ9_max_7cf53_6 (by decide) ?_
    cases hF
    exact x_iret C E dJ9_max_7cf53_10
set_option maxHeartbeats 4000000 in
set_option maxRecDepth 100000 in
theorem w_X8_firstFrom_L6 {κ : xb_k} {Γ : xb_X} {ws : va_W}  {x0 : Int64}  (C : xb_C κ Γ 4 cX8_firstFrom RX8 { frames := 1, cells := 0, slots := 0, locals := 21 }) : ∀ (n : Nat) (x3 : Int32) (o : Int32), F_X8_firstFrom_L6 x0 n x3 = some o → xb_E κ Γ (xb_Qi κ o ws) 0 0 (some .int) → xb_W κ Γ 4 0 0 6 [(0, .long x0), (3, .int x3)] [] ws := by
  intro n
  induction n with
  | zero =>
    intro x3 o hF E
    rw [F_X8_firstFrom_L6] at hF
    cases hF
  | succ n ih =>
    intro x3 o hF E
    rw [F_X8_firstFrom_L6] at hF
    refine x_iload_n C dX8_firstFrom_6 1 rfl ?_
    refine x_bipush (v := 48) C dX8_firstFrom_7 (by decide) ?_
    refine x_icmp_ge (tgt := 30) C dX8_firstFrom_9 (by decide) (fun hc => ?_) (fun hc => ?_)
    · replace hF := ifp hc hF
      refine x_iconst (v := (-1)) C dX8_firstFrom_30 (by decide) ?_
      cases hF
      exact x_iret C E dX8_firstFrom_31
    · replace hF := ifn hc hF
      refine x_lload_n C dX8_firstFrom_12 0 rfl ?_
      refine x_iload_n C dX8_firstFrom_13 1 rfl ?_
      refine x_lushr C dX8_firstFrom_14 ?_
      refine x_lconst (v := 1) C dX8_firstFrom_15 (by decide) ?_
      refine x_land C dX8_firstFrom_16 ?_
      refine x_lconst (v := 0) C dX8_firstFrom_17 (by decide) ?_
      refine x_lcmp C dX8_firstFrom_18 ?_
      refine x_if_eq (tgt := 24) C dX8_firstFrom_19 (by decide) (fun hc => ?_) (fun hc => ?_)
      · replace hF := ifp hc hF
        refine x_iinc (v := x3 + 1) (lv2 := [(3, .int (x3 + 1)), (0, .long x0)]) C dX8_firstFrom_24 1 rfl rfl (by decide) rfl ?_
        refine x_goto (tgt := 6) C dX8_firstFrom_27 (by decide) ?_
        exact x_sub [1, 0] rfl (ih _ _ hF E)
      · replace hF := ifn hc hF
        refine x_iload_n C dX8_firstFrom_22 1 rfl ?_
        cases hF
        exact x_iret C E dX8_firstFrom_23
set_option maxHeartbeats 4000000 in
set_option maxRecDepth 100000 in
theorem c_X8_firstFrom {κ : xb_k} {ws : va_W}  {x0 : Int64} {x2 : Int32} {fu : Nat} {o : Int32} (hF : F_X8_firstFrom fu x0 x2 = some o) : Met κ.1 yX8_firstFrom [Cond.code yX8_firstFrom cX8_firstFrom 4 (some .int)] { frames := 1, cells := 0, slots := 0, locals := 21 } (xb_P κ [.long x0, .int x2] ws) (xb_Qi κ o ws) 0 0 κ.2.2.1 := by
  refine x_enter (own := RX8) (lv0 := [(0, .long x0), (2, .int x2)]) (by decide) rfl rfl rfl (fun Γ C E => ?_)
  unfold F_X8_firstFrom at hF
  refine x_iconst (v := 0) C dX8_firstFrom_0 (by decide) ?_
  refine x_iload_n C dX8_firstFrom_1 1 rfl ?_
  obtain ⟨o1, h2, hF⟩ := bd_s hF
  refine x_callSi (st := []) C (c_J9_max_7cf53 h2) xm_J9_max_7cf53 ml_X8_15 rfl rfl rfl rfl dX8_firstFrom_2 ⟨rfl, rfl⟩ ?_
  refine x_istore_n (lv2 := [(3, .int o1), (0, .long x0), (2, .int x2)]) C dX8_firstFrom_5 rfl (by decide) rfl ?_
  exact x_sub [1, 0] rfl (w_X8_firstFrom_L6 C fu _ _ hF E)
set_option maxHeartbeats 4000000 in
set_option maxRecDepth 100000 in
theorem c_X8_next {κ : xb_k} {q : Nat → Nat} {nn : Nat} {xro : (Nat → Int64)} {xrn : (Nat → Int64)} {xfo : (Nat → Int32)} {xva : (Nat → Int32)} {xts : Int32} {xus : (Nat → Int32)} {xnu : (Nat → Int32)} {xth : Int32} {xsp : Int32} {xpr : (Nat → Int64)} {xpn : (Nat → Int64)} {xbs : Int32} {xwr : (Nat → Int32)} {xno : (Nat → Int32)} {xki : (Nat → Int32)} {xdi : (Nat → Int32)} {xde : (Nat → Int32)} {xst : (Nat → Int32)} {xta : (Nat → Int32)} {xcb : Int32} {xcd : Int32} {xbe : (Nat → Int32)} {xli : (Nat → Int32)} {xke : (Nat → Int32)} {xne : (Nat → Int64)} {x1 : Int32} {x2 : Int32} {fu : Nat} {o : Int32} (hF : F_X8_next fu nn x1 x2 xro = some o) : Met κ.1 yX8_next [Cond.code yX8_next cX8_next 3 (some .int)] { frames := 2, cells := 0, slots := 0, locals := 44 } (xb_P κ [.ref (q 0), .int x1, .int x2] (xw κ q nn xro xrn xfo xva xts xus xnu xth xsp xpr xpn xbs xwr xno xki xdi xde xst xta xcb xcd xbe xli xke xne)) (xb_Qi κ o (xw κ q nn xro xrn xfo xva xts xus xnu xth xsp xpr xpn xbs xwr xno xki xdi xde xst xta xcb xcd xbe xli xke xne)) 0 0 κ.2.2.1 := by
  refine x_enter (own := RX8) (lv0 := [(0, .ref (q 0)), (1, .int x1), (2, .int x2)]) (by decide) rfl rfl rfl (fun Γ C E => ?_)
  unfold F_X8_next at hF
  refine x_aload_n C dX8_next_0 0 rfl ?_
  refine gf_X8_23 C 0 rfl rfl dX8_next_1 ?_
  refine x_iload_n C dX8_next_4 1 rfl ?_
  obtain ⟨o1, h2, hF⟩ := bd_s hF
  refine x_callVi (st := []) C (c_X4_isThing h2) xm_X4_isThing ml_X8_73 1 rfl rfl rfl rfl rfl rfl dX8_next_5 ⟨rfl, rfl⟩ ?_
  refine x_if_eq (tgt := 15) C dX8_next_8 (by decide) (fun hc => ?_) (fun hc => ?_)
  · replace hF := ifp hc hF
    refine x_bipush (v := (-2)) C dX8_next_15 (by decide) ?_
    cases hF
    exact x_iret C E dX8_next_17
  · replace hF := ifn hc hF
    refine x_iload_n C dX8_next_11 2 rfl ?_
    refine x_if_ge (tgt := 18) C dX8_next_12 (by decide) (fun hc => ?_) (fun hc => ?_)
    · replace hF := ifp hc hF
      refine x_aload_n C dX8_next_18 0 rfl ?_
      refine gf_X8_23 C 0 rfl rfl dX8_next_19 ?_
      refine x_iload_n C dX8_next_22 1 rfl ?_
      obtain ⟨o3, h4, hF⟩ := bd_s hF
      refine x_callVl (st := []) C (c_X4_rowOf h4) xm_X4_rowOf ml_X8_81 1 rfl rfl rfl rfl rfl rfl dX8_next_23 ⟨rfl, rfl⟩ ?_
      refine x_iload_n C dX8_next_26 2 rfl ?_
      obtain ⟨o5, h6, hF⟩ := bd_s hF
      refine x_callSi (st := []) C (c_X8_firstFrom h6) xm_X8_firstFrom ml_X8_85 rfl rfl rfl rfl dX8_next_27 ⟨rfl, rfl⟩ ?_
      cases hF
      exact x_iret C E dX8_next_30
    · replace hF := ifn hc hF
      refine x_bipush (v := (-2)) C dX8_next_15 (by decide) ?_
      cases hF
      exact x_iret C E dX8_next_17

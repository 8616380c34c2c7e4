set_option maxHeartbeats 4000000 in
set_option maxRecDepth 100000 in
theorem c_X9_folded {κ : xb_k} {ws : va_W}  {x0 : Int32}  {o : Int32} (hF : F_X9_folded x0 = some o) : Met κ.1 yX9_folded [Cond.code yX9_folded cX9_folded 1 (some .int)] { frames := 0, cells := 0, slots := 0, locals := 0 } (xb_P κ [.int x0] ws) (xb_Qi κ o ws) 0 0 κ.2.2.1 := by
  refine x_enter (own := RX9) (lv0 := [(0, .int x0)]) (by decide) rfl rfl rfl (fun Γ C E => ?_)
  unfold F_X9_folded at hF
  refine x_iload_n C dX9_folded_0 0 rfl ?_
  refine x_if_ge (tgt := 13) C dX9_folded_1 (by decide) (fun hc => ?_) (fun hc => ?_)
  · replace hF := ifp hc hF
    refine x_iconst (v := 2) C dX9_folded_13 (by decide) ?_
    refine x_iload_n C dX9_folded_14 0 rfl ?_
    refine x_imul C dX9_folded_15 ?_
    cases hF
    exact x_iret C E dX9_folded_16
  · replace hF := ifn hc hF
    refine x_bipush (v := (-2)) C dX9_folded_4 (by decide) ?_
    refine x_iload_n C dX9_folded_6 0 rfl ?_
    refine x_imul C dX9_folded_7 ?_
    refine x_iconst (v := 1) C dX9_folded_8 (by decide) ?_
    refine x_isub C dX9_folded_9 ?_
    refine x_goto (tgt := 16) C dX9_folded_10 (by decide) ?_
    cases hF
    exact x_iret C E dX9_folded_16
set_option maxHeartbeats 4000000 in
set_option maxRecDepth 100000 in
theorem w_X9_tellPlain_L11 {κ : xb_k} {Γ : xb_X} {q : Nat → Nat} {mth : Int32} {mn : Int32} {mib : Int32} {mpa : Int32} {mwi : Int32} {mch : Int32} {mst : Int32} {msz : Int32} {mld : Int32} {mps : Int32} {mbb : Int32} {mno : (Nat → Int32)} {mpk : (Nat → Int32)} {mtu : (Nat → Int32)} {mfo : (Nat → Int32)} {mbi : (Nat → Int32)} {mwr : (Nat → Int32)} {mli : (Nat → Int32)} {mot : (Nat → Int32)} {mbl : (Nat → Int32)} {mki : (Nat → Int32)} {mfr : (Nat → Int32)} {mde : (Nat → Int32)} {mbe : (Nat → Int32)} {mow : (Nat → Int32)} {mco : (Nat → Int32)} {mpt : (Nat → Int32)} {mle : (Nat → Int32)} {mpl : (Nat → Int32)} {mit : (Nat → Int32)} {mro : (Nat → Int32)} {maw : (Nat → Int32)} {x1 : Int32}  (C : xb_C κ Γ 3 cX9_tellPlain RX9 { frames := 1, cells := 0, slots := 0, locals := 22 }) : ∀ (n : Nat) (x2 : Int32) (mus : (Nat → Int32)) (mnu : (Nat → Int32)) (mns : Int32) (o : (Nat → Int32) × (Nat → Int32) × Int32), F_X9_tellPlain_L11 x1 mld mli n x2 mus mnu mns = some o → xb_W κ Γ 3 0 0 70 [] [] (mw κ q mth mn mib mpa mwi mch mst msz o.2.2 mld mps mbb mno mpk mtu mfo mbi mwr o.1 o.2.1 mli mot mbl mki mfr mde mbe mow mco mpt mle mpl mit mro maw) → xb_W κ Γ 3 0 0 11 [(0, .ref (q 0)), (1, .int x1), (2, .int x2)] [] (mw κ q mth mn mib mpa mwi mch mst msz mns mld mps mbb mno mpk mtu mfo mbi mwr mus mnu mli mot mbl mki mfr mde mbe mow mco mpt mle mpl mit mro maw) := by
  intro n
  induction n with
  | zero =>
    intro x2 mus mnu mns o hF K
    rw [F_X9_tellPlain_L11] at hF
    cases hF
  | succ n ih =>
    intro x2 mus mnu mns o hF K
    rw [F_X9_tellPlain_L11] at hF
    refine x_iload_n C dX9_tellPlain_11 2 rfl ?_
    refine x_aload_n C dX9_tellPlain_12 0 rfl ?_
    refine gf_X9_142 C 0 rfl rfl dX9_tellPlain_13 ?_
    refine x_icmp_ge (tgt := 70) C dX9_tellPlain_16 (by decide) (fun hc => ?_) (fun hc => ?_)
    · replace hF := ifp hc hF
      cases hF
      exact x_sub [] rfl K
    · replace hF := ifn hc hF
      refine x_iload_n C dX9_tellPlain_19 2 rfl ?_
      refine x_if_ne (tgt := 42) C dX9_tellPlain_20 (by decide) (fun hc => ?_) (fun hc => ?_)
      · replace hF := ifn hc hF
        refine x_aload_n C dX9_tellPlain_42 0 rfl ?_
        refine x_iconst (v := 3) C dX9_tellPlain_43 (by decide) ?_
        refine x_aload_n C dX9_tellPlain_44 0 rfl ?_
        refine gf_X9_48 C 0 rfl rfl dX9_tellPlain_45 ?_
        refine x_iload_n C dX9_tellPlain_48 2 rfl ?_
        obtain ⟨b3, hF⟩ := ck_s hF
        refine x_iald C 9 rfl b3 dX9_tellPlain_49 ?_
        refine x_aload_n C dX9_tellPlain_50 0 rfl ?_
        refine gf_X9_48 C 0 rfl rfl dX9_tellPlain_51 ?_
        refine x_iload_n C dX9_tellPlain_54 2 rfl ?_
        refine x_iconst (v := 1) C dX9_tellPlain_55 (by decide) ?_
        refine x_isub C dX9_tellPlain_56 ?_
        obtain ⟨b4, hF⟩ := ck_s hF
        refine x_iald C 9 rfl b4 dX9_tellPlain_57 ?_
        refine x_isub C dX9_tellPlain_58 ?_
        refine x_iconst (v := 1) C dX9_tellPlain_59 (by decide) ?_
        refine x_isub C dX9_tellPlain_60 ?_
        obtain ⟨o5, h6, hF⟩ := bd_s hF
        refine x_callVv (st := []) C (c_X9_say h6) xm_X9_say ml_X9_145 0 rfl rfl rfl rfl rfl rfl dX9_tellPlain_61 ⟨rfl, rfl⟩ ?_
        refine x_iinc (v := x2 + 1) (lv2 := [(2, .int (x2 + 1)), (0, .ref (q 0)), (1, .int x1)]) C dX9_tellPlain_64 2 rfl rfl (by decide) rfl ?_
        refine x_goto (tgt := 11) C dX9_tellPlain_67 (by decide) ?_
        exact x_sub [1, 2, 0] rfl (ih _ _ _ _ _ hF K)
      · replace hF := ifp hc hF
        refine x_aload_n C dX9_tellPlain_23 0 rfl ?_
        refine x_iconst (v := 2) C dX9_tellPlain_24 (by decide) ?_
        refine x_aload_n C dX9_tellPlain_25 0 rfl ?_
        refine gf_X9_48 C 0 rfl rfl dX9_tellPlain_26 ?_
        refine x_iconst (v := 0) C dX9_tellPlain_29 (by decide) ?_
        obtain ⟨b7, hF⟩ := ck_s hF
        refine x_iald C 9 rfl b7 dX9_tellPlain_30 ?_
        refine x_iload_n C dX9_tellPlain_31 1 rfl ?_
        refine x_isub C dX9_tellPlain_32 ?_
        obtain ⟨o8, h9, hF⟩ := bd_s hF
        refine x_callSi (st := [.int (2 : Int32), .ref (q 0)]) C (c_X9_folded h9) xm_X9_folded ml_X9_148 rfl rfl rfl rfl dX9_tellPlain_33 ⟨rfl, rfl⟩ ?_
        obtain ⟨o10, h11, hF⟩ := bd_s hF
        refine x_callVv (st := []) C (c_X9_say h11) xm_X9_say ml_X9_145 0 rfl rfl rfl rfl rfl rfl dX9_tellPlain_36 ⟨rfl, rfl⟩ ?_
        refine x_goto (tgt := 64) C dX9_tellPlain_39 (by decide) ?_
        refine x_iinc (v := x2 + 1) (lv2 := [(2, .int (x2 + 1)), (0, .ref (q 0)), (1, .int x1)]) C dX9_tellPlain_64 2 rfl rfl (by decide) rfl ?_
        refine x_goto (tgt := 11) C dX9_tellPlain_67 (by decide) ?_
        exact x_sub [1, 2, 0] rfl (ih _ _ _ _ _ hF K)
set_option maxHeartbeats 4000000 in
set_option maxRecDepth 100000 in
theorem c_X9_tellPlain {κ : xb_k} {q : Nat → Nat} {mth : Int32} {mn : Int32} {mib : Int32} {mpa : Int32} {mwi : Int32} {mch : Int32} {mst : Int32} {msz : Int32} {mns : Int32} {mld : Int32} {mps : Int32} {mbb : Int32} {mno : (Nat → Int32)} {mpk : (Nat → Int32)} {mtu : (Nat → Int32)} {mfo : (Nat → Int32)} {mbi : (Nat → Int32)} {mwr : (Nat → Int32)} {mus : (Nat → Int32)} {mnu : (Nat → Int32)} {mli : (Nat → Int32)} {mot : (Nat → Int32)} {mbl : (Nat → Int32)} {mki : (Nat → Int32)} {mfr : (Nat → Int32)} {mde : (Nat → Int32)} {mbe : (Nat → Int32)} {mow : (Nat → Int32)} {mco : (Nat → Int32)} {mpt : (Nat → Int32)} {mle : (Nat → Int32)} {mpl : (Nat → Int32)} {mit : (Nat → Int32)} {mro : (Nat → Int32)} {maw : (Nat → Int32)} {x1 : Int32} {fu : Nat} {o : (Nat → Int32) × (Nat → Int32) × Int32} (hF : F_X9_tellPlain fu x1 mld mns mus mnu mli = some o) : Met κ.1 yX9_tellPlain [Cond.code yX9_tellPlain cX9_tellPlain 3 none] { frames := 1, cells := 0, slots := 0, locals := 22 } (xb_P κ [.ref (q 0), .int x1] (mw κ q mth mn mib mpa mwi mch mst msz mns mld mps mbb mno mpk mtu mfo mbi mwr mus mnu mli mot mbl mki mfr mde mbe mow mco mpt mle mpl mit mro maw)) (xb_Qv κ (mw κ q mth mn mib mpa mwi mch mst msz o.2.2 mld mps mbb mno mpk mtu mfo mbi mwr o.1 o.2.1 mli mot mbl mki mfr mde mbe mow mco mpt mle mpl mit mro maw)) 0 0 κ.2.2.1 := by
  refine x_enter (own := RX9) (lv0 := [(0, .ref (q 0)), (1, .int x1)]) (by decide) rfl rfl rfl (fun Γ C E => ?_)
  unfold F_X9_tellPlain at hF
  refine x_aload_n C dX9_tellPlain_0 0 rfl ?_
  refine x_iconst (v := 1) C dX9_tellPlain_1 (by decide) ?_
  refine x_aload_n C dX9_tellPlain_2 0 rfl ?_
  refine gf_X9_142 C 0 rfl rfl dX9_tellPlain_3 ?_
  obtain ⟨o1, h2, hF⟩ := bd_s hF
  refine x_callVv (st := []) C (c_X9_say h2) xm_X9_say ml_X9_145 0 rfl rfl rfl rfl rfl rfl dX9_tellPlain_6 ⟨rfl, rfl⟩ ?_
  refine x_iconst (v := 0) C dX9_tellPlain_9 (by decide) ?_
  refine x_istore_n (lv2 := [(2, .int (0 : Int32)), (0, .ref (q 0)), (1, .int x1)]) C dX9_tellPlain_10 rfl (by decide) rfl ?_
  obtain ⟨o12, h13, hF⟩ := bd_s hF
  refine x_sub [1, 2, 0] rfl (w_X9_tellPlain_L11 C fu _ _ _ _ _ h13 ?_)
  cases hF
  exact x_vret C E dX9_tellPlain_70
set_option maxHeartbeats 4000000 in
set_option maxRecDepth 100000 in
theorem w_X9_runEnd_L4 {κ : xb_k} {Γ : xb_X} {q : Nat → Nat} {mth : Int32} {mn : Int32} {mib : Int32} {mpa : Int32} {mwi : Int32} {mch : Int32} {mst : Int32} {msz : Int32} {mns : Int32} {mld : Int32} {mps : Int32} {mbb : Int32} {mno : (Nat → Int32)} {mpk : (Nat → Int32)} {mtu : (Nat → Int32)} {mfo : (Nat → Int32)} {mbi : (Nat → Int32)} {mwr : (Nat → Int32)} {mus : (Nat → Int32)} {mnu : (Nat → Int32)} {mli : (Nat → Int32)} {mot : (Nat → Int32)} {mbl : (Nat → Int32)} {mki : (Nat → Int32)} {mfr : (Nat → Int32)} {mde : (Nat → Int32)} {mbe : (Nat → Int32)} {mow : (Nat → Int32)} {mco : (Nat → Int32)} {mpt : (Nat → Int32)} {mle : (Nat → Int32)} {mpl : (Nat → Int32)} {mit : (Nat → Int32)} {mro : (Nat → Int32)} {maw : (Nat → Int32)}   (C : xb_C κ Γ 3 cX9_runEnd RX9 { frames := 0, cells := 0, slots := 0, locals := 0 }) : ∀ (n : Nat) (x2 : Int32) (o : Int32), F_X9_runEnd_L4 mld mli n x2 = some o → xb_W κ Γ 3 0 0 37 [(2, .int o)] [] (mw κ q mth mn mib mpa mwi mch mst msz mns mld mps mbb mno mpk mtu mfo mbi mwr mus mnu mli mot mbl mki mfr mde mbe mow mco mpt mle mpl mit mro maw) → xb_W κ Γ 3 0 0 4 [(0, .ref (q 0)), (2, .int x2)] [] (mw κ q mth mn mib mpa mwi mch mst msz mns mld mps mbb mno mpk mtu mfo mbi mwr mus mnu mli mot mbl mki mfr mde mbe mow mco mpt mle mpl mit mro maw) := by
  intro n
  induction n with
  | zero =>
    intro x2 o hF K
    rw [F_X9_runEnd_L4] at hF
    cases hF
  | succ n ih =>
    intro x2 o hF K
    rw [F_X9_runEnd_L4] at hF
    refine x_iload_n C dX9_runEnd_4 1 rfl ?_
    refine x_aload_n C dX9_runEnd_5 0 rfl ?_
    refine gf_X9_142 C 0 rfl rfl dX9_runEnd_6 ?_
    refine x_icmp_ge (tgt := 37) C dX9_runEnd_9 (by decide) (fun hc => ?_) (fun hc => ?_)
    · replace hF := ifp hc hF
      cases hF
      exact x_sub [1] rfl K
    · replace hF := ifn hc hF
      refine x_aload_n C dX9_runEnd_12 0 rfl ?_
      refine gf_X9_48 C 0 rfl rfl dX9_runEnd_13 ?_
      refine x_iload_n C dX9_runEnd_16 1 rfl ?_
      obtain ⟨b1, hF⟩ := ck_s hF
      refine x_iald C 9 rfl b1 dX9_runEnd_17 ?_
      refine x_aload_n C dX9_runEnd_18 0 rfl ?_
      refine gf_X9_48 C 0 rfl rfl dX9_runEnd_19 ?_
      refine x_iload_n C dX9_runEnd_22 1 rfl ?_
      refine x_iconst (v := 1) C dX9_runEnd_23 (by decide) ?_
      refine x_isub C dX9_runEnd_24 ?_
      obtain ⟨b2, hF⟩ := ck_s hF
      refine x_iald C 9 rfl b2 dX9_runEnd_25 ?_
      refine x_iconst (v := 1) C dX9_runEnd_26 (by decide) ?_
      refine x_iadd C dX9_runEnd_27 ?_
      refine x_icmp_ne (tgt := 37) C dX9_runEnd_28 (by decide) (fun hc => ?_) (fun hc => ?_)
      · replace hF := ifn hc hF
        cases hF
        exact x_sub [1] rfl K
      · replace hF := ifp hc hF
        refine x_iinc (v := x2 + 1) (lv2 := [(2, .int (x2 + 1)), (0, .ref (q 0))]) C dX9_runEnd_31 1 rfl rfl (by decide) rfl ?_
        refine x_goto (tgt := 4) C dX9_runEnd_34 (by decide) ?_
        exact x_sub [1, 0] rfl (ih _ _ hF K)
set_option maxHeartbeats 4000000 in
set_option maxRecDepth 100000 in
theorem c_X9_runEnd {κ : xb_k} {q : Nat → Nat} {mth : Int32} {mn : Int32} {mib : Int32} {mpa : Int32} {mwi : Int32} {mch : Int32} {mst : Int32} {msz : Int32} {mns : Int32} {mld : Int32} {mps : Int32} {mbb : Int32} {mno : (Nat → Int32)} {mpk : (Nat → Int32)} {mtu : (Nat → Int32)} {mfo : (Nat → Int32)} {mbi : (Nat → Int32)} {mwr : (Nat → Int32)} {mus : (Nat → Int32)} {mnu : (Nat → Int32)} {mli : (Nat → Int32)} {mot : (Nat → Int32)} {mbl : (Nat → Int32)} {mki : (Nat → Int32)} {mfr : (Nat → Int32)} {mde : (Nat → Int32)} {mbe : (Nat → Int32)} {mow : (Nat → Int32)} {mco : (Nat → Int32)} {mpt : (Nat → Int32)} {mle : (Nat → Int32)} {mpl : (Nat → Int32)} {mit : (Nat → Int32)} {mro : (Nat → Int32)} {maw : (Nat → Int32)} {x1 : Int32} {fu : Nat} {o : Int32} (hF : F_X9_runEnd fu x1 mld mli = some o) : Met κ.1 yX9_runEnd [Cond.code yX9_runEnd cX9_runEnd 3 (some .int)] { frames := 0, cells := 0, slots := 0, locals := 0 } (xb_P κ [.ref (q 0), .int x1] (mw κ q mth mn mib mpa mwi mch mst msz mns mld mps mbb mno mpk mtu mfo mbi mwr mus mnu mli mot mbl mki mfr mde mbe mow mco mpt mle mpl mit mro maw)) (xb_Qi κ o (mw κ q mth mn mib mpa mwi mch mst msz mns mld mps mbb mno mpk mtu mfo mbi mwr mus mnu mli mot mbl mki mfr mde mbe mow mco mpt mle mpl mit mro maw)) 0 0 κ.2.2.1 := by
  refine x_enter (own := RX9) (lv0 := [(0, .ref (q 0)), (1, .int x1)]) (by decide) rfl rfl rfl (fun Γ C E => ?_)
  unfold F_X9_runEnd at hF
  refine x_iload_n C dX9_runEnd_0 1 rfl ?_
  refine x_iconst (v := 1) C dX9_runEnd_1 (by decide) ?_
  refine x_iadd C dX9_runEnd_2 ?_
  refine x_istore_n (lv2 := [(2, .int (x1 + (1 : Int32))), (0, .ref (q 0)), (1, .int x1)]) C dX9_runEnd_3 rfl (by decide) rfl ?_
  obtain ⟨o3, h4, hF⟩ := bd_s hF
  refine x_sub [1, 0] rfl (w_X9_runEnd_L4 C fu _ _ h4 ?_)
  refine x_iload_n C dX9_runEnd_37 0 rfl ?_
  cases hF
  exact x_iret C E dX9_runEnd_38
set_option maxHeartbeats 4000000 in
set_option maxRecDepth 100000 in
theorem w_X9_tellSpans_L4 {κ : xb_k} {Γ : xb_X} {q : Nat → Nat} {mth : Int32} {mn : Int32} {mib : Int32} {mpa : Int32} {mwi : Int32} {mch : Int32} {mst : Int32} {msz : Int32} {mns : Int32} {mld : Int32} {mps : Int32} {mbb : Int32} {mno : (Nat → Int32)} {mpk : (Nat → Int32)} {mtu : (Nat → Int32)} {mfo : (Nat → Int32)} {mbi : (Nat → Int32)} {mwr : (Nat → Int32)} {mus : (Nat → Int32)} {mnu : (Nat → Int32)} {mli : (Nat → Int32)} {mot : (Nat → Int32)} {mbl : (Nat → Int32)} {mki : (Nat → Int32)} {mfr : (Nat → Int32)} {mde : (Nat → Int32)} {mbe : (Nat → Int32)} {mow : (Nat → Int32)} {mco : (Nat → Int32)} {mpt : (Nat → Int32)} {mle : (Nat → Int32)} {mpl : (Nat → Int32)} {mit : (Nat → Int32)} {mro : (Nat → Int32)} {maw : (Nat → Int32)} {x1 : Int32} {fu : Nat} (C : xb_C κ Γ 9 cX9_tellSpans RX9 { frames := 2, cells := 0, slots := 0, locals := 44 }) : ∀ (n : Nat) (x2 : Int32) (x3 : Int32) (o : Int32), F_X9_tellSpans_L4 fu x1 mld mli n x2 x3 = some o → xb_W κ Γ 9 0 0 40 [(0, .ref (q 0)), (1, .int x1), (2, .int o)] [] (mw κ q mth mn mib mpa mwi mch mst msz mns mld mps mbb mno mpk mtu mfo mbi mwr mus mnu mli mot mbl mki mfr mde mbe mow mco mpt mle mpl mit mro maw) → xb_W κ Γ 9 0 0 4 [(0, .ref (q 0)), (1, .int x1), (2, .int x2), (3, .int x3)] [] (mw κ q mth mn mib mpa mwi mch mst msz mns mld mps mbb mno mpk mtu mfo mbi mwr mus mnu mli mot mbl mki mfr mde mbe mow mco mpt mle mpl mit mro maw) := by
  intro n
  induction n with
  | zero =>
    intro x2 x3 o hF K
    rw [F_X9_tellSpans_L4] at hF
    cases hF
  | succ n ih =>
    intro x2 x3 o hF K
    rw [F_X9_tellSpans_L4] at hF
    refine x_iload_n C dX9_tellSpans_4 3 rfl ?_
    refine x_aload_n C dX9_tellSpans_5 0 rfl ?_
    refine gf_X9_142 C 0 rfl rfl dX9_tellSpans_6 ?_
    refine x_icmp_ge (tgt := 40) C dX9_tellSpans_9 (by decide) (fun hc => ?_) (fun hc => ?_)
    · replace hF := ifp hc hF
      cases hF
      exact x_sub [0, 1, 2] rfl K
    · replace hF := ifn hc hF
      refine x_iload_n C dX9_tellSpans_12 2 rfl ?_
      refine x_aload_n C dX9_tellSpans_13 0 rfl ?_
      refine x_iload_n C dX9_tellSpans_14 3 rfl ?_
      obtain ⟨o1, h2, hF⟩ := bd_s hF
      refine x_callVi (st := [.int x2]) C (c_X9_runEnd h2) xm_X9_runEnd ml_X9_151 0 rfl rfl rfl rfl rfl rfl dX9_tellSpans_15 ⟨rfl, rfl⟩ ?_
      refine x_iload_n C dX9_tellSpans_18 3 rfl ?_
      refine x_isub C dX9_tellSpans_19 ?_
      refine x_iconst (v := 3) C dX9_tellSpans_20 (by decide) ?_
      refine x_icmp_lt (tgt := 28) C dX9_tellSpans_21 (by decide) (fun hc => ?_) (fun hc => ?_)
      · replace hF := ifp hc hF
        refine x_iconst (v := 0) C dX9_tellSpans_28 (by decide) ?_
        refine x_iadd C dX9_tellSpans_29 ?_
        refine x_istore_n (lv2 := [(2, .int (x2 + (0 : Int32))), (0, .ref (q 0)), (1, .int x1), (3, .int x3)]) C dX9_tellSpans_30 rfl (by decide) rfl ?_
        refine x_aload_n C dX9_tellSpans_31 1 rfl ?_
        refine x_iload_n C dX9_tellSpans_32 3 rfl ?_
        obtain ⟨o3, h4, hF⟩ := bd_s hF
        refine x_callVi (st := []) C (c_X9_runEnd h4) xm_X9_runEnd ml_X9_151 0 rfl rfl rfl rfl rfl rfl dX9_tellSpans_33 ⟨rfl, rfl⟩ ?_
        refine x_istore_n (lv2 := [(3, .int o3), (2, .int (x2 + (0 : Int32))), (0, .ref (q 0)), (1, .int x1)]) C dX9_tellSpans_36 rfl (by decide) rfl ?_
        refine x_goto (tgt := 4) C dX9_tellSpans_37 (by decide) ?_
        exact x_sub [2, 3, 1, 0] rfl (ih _ _ _ hF K)
      · replace hF := ifn hc hF
        refine x_iconst (v := 1) C dX9_tellSpans_24 (by decide) ?_
        refine x_goto (tgt := 29) C dX9_tellSpans_25 (by decide) ?_
        refine x_iadd C dX9_tellSpans_29 ?_
        refine x_istore_n (lv2 := [(2, .int (x2 + (1 : Int32))), (0, .ref (q 0)), (1, .int x1), (3, .int x3)]) C dX9_tellSpans_30 rfl (by decide) rfl ?_
        refine x_aload_n C dX9_tellSpans_31 1 rfl ?_
        refine x_iload_n C dX9_tellSpans_32 3 rfl ?_
        obtain ⟨o5, h6, hF⟩ := bd_s hF
        refine x_callVi (st := []) C (c_X9_runEnd h6) xm_X9_runEnd ml_X9_151 0 rfl rfl rfl rfl rfl rfl dX9_tellSpans_33 ⟨rfl, rfl⟩ ?_
        refine x_istore_n (lv2 := [(3, .int o5), (2, .int (x2 + (1 : Int32))), (0, .ref (q 0)), (1, .int x1)]) C dX9_tellSpans_36 rfl (by decide) rfl ?_
        refine x_goto (tgt := 4) C dX9_tellSpans_37 (by decide) ?_
        exact x_sub [2, 3, 1, 0] rfl (ih _ _ _ hF K)
set_option maxHeartbeats 4000000 in
set_option maxRecDepth 100000 in
theorem w_X9_tellSpans_L155 {κ : xb_k} {Γ : xb_X} {q : Nat → Nat} {mth : Int32} {mn : Int32} {mib : Int32} {mpa : Int32} {mwi : Int32} {mch : Int32} {mst : Int32} {msz : Int32} {mns : Int32} {mld : Int32} {mps : Int32} {mbb : Int32} {mno : (Nat → Int32)} {mpk : (Nat → Int32)} {mtu : (Nat → Int32)} {mfo : (Nat → Int32)} {mbi : (Nat → Int32)} {mwr : (Nat → Int32)} {mus : (Nat → Int32)} {mnu : (Nat → Int32)} {mli : (Nat → Int32)} {mbl : (Nat → Int32)} {mki : (Nat → Int32)} {mfr : (Nat → Int32)} {mde : (Nat → Int32)} {mbe : (Nat → Int32)} {mow : (Nat → Int32)} {mco : (Nat → Int32)} {mpt : (Nat → Int32)} {mle : (Nat → Int32)} {mpl : (Nat → Int32)} {mit : (Nat → Int32)} {mro : (Nat → Int32)} {maw : (Nat → Int32)} {x1 : Int32} {x3 : Int32} {x6 : Int32}  (C : xb_C κ Γ 9 cX9_tellSpans RX9 { frames := 2, cells := 0, slots := 0, locals := 44 }) : ∀ (n : Nat) (x4 : Int32) (x5 : Int32) (mot : (Nat → Int32)) (o : Int32 × Int32 × (Nat → Int32)), F_X9_tellSpans_L155 x1 x3 x6 mli n x4 x5 mot = some o → xb_W κ Γ 9 0 0 185 [(0, .ref (q 0)), (1, .int x1), (3, .int x3), (4, .int o.1), (5, .int o.2.1)] [] (mw κ q mth mn mib mpa mwi mch mst msz mns mld mps mbb mno mpk mtu mfo mbi mwr mus mnu mli o.2.2 mbl mki mfr mde mbe mow mco mpt mle mpl mit mro maw) → xb_W κ Γ 9 0 0 155 [(0, .ref (q 0)), (1, .int x1), (3, .int x3), (4, .int x4), (5, .int x5), (6, .int x6)] [] (mw κ q mth mn mib mpa mwi mch mst msz mns mld mps mbb mno mpk mtu mfo mbi mwr mus mnu mli mot mbl mki mfr mde mbe mow mco mpt mle mpl mit mro maw) := by
  intro n
  induction n with
  | zero =>
    intro x4 x5 mot o hF K
    rw [F_X9_tellSpans_L155] at hF
    cases hF
  | succ n ih =>
    intro x4 x5 mot o hF K
    rw [F_X9_tellSpans_L155] at hF
    refine x_iload C dX9_tellSpans_155 4 rfl ?_
    refine x_iload C dX9_tellSpans_157 5 rfl ?_
    refine x_icmp_ge (tgt := 185) C dX9_tellSpans_159 (by decide) (fun hc => ?_) (fun hc => ?_)
    · replace hF := ifp hc hF
      cases hF
      exact x_sub [0, 1, 2, 3, 4] rfl K
    · replace hF := ifn hc hF
      refine x_aload_n C dX9_tellSpans_162 0 rfl ?_
      refine gf_X9_51 C 0 rfl rfl dX9_tellSpans_163 ?_
      refine x_iload C dX9_tellSpans_166 3 rfl ?_
      refine x_aload_n C dX9_tellSpans_168 0 rfl ?_
      refine gf_X9_48 C 0 rfl rfl dX9_tellSpans_169 ?_
      refine x_iload C dX9_tellSpans_172 4 rfl ?_
      obtain ⟨b13, hF⟩ := ck_s hF
      refine x_iald C 9 rfl b13 dX9_tellSpans_174 ?_
      obtain ⟨b14, hF⟩ := ck_s hF
      refine x_iast (ws2 := (mw κ q mth mn mib mpa mwi mch mst msz mns mld mps mbb mno mpk mtu mfo mbi mwr mus mnu mli (upd mot x4.toNatClampNeg (mli x5.toNatClampNeg)) mbl mki mfr mde mbe mow mco mpt mle mpl mit mro maw)) C 10 rfl b14 dX9_tellSpans_175 rfl ?_
      refine x_iinc (v := x4 + 1) (lv2 := [(4, .int (x4 + 1)), (0, .ref (q 0)), (1, .int x1), (3, .int x3), (5, .int x5), (6, .int x6)]) C dX9_tellSpans_176 3 rfl rfl (by decide) rfl ?_
      refine x_iinc (v := x5 + 1) (lv2 := [(5, .int (x5 + 1)), (4, .int (x4 + 1)), (0, .ref (q 0)), (1, .int x1), (3, .int x3), (6, .int x6)]) C dX9_tellSpans_179 4 rfl rfl (by decide) rfl ?_
      refine x_goto (tgt := 155) C dX9_tellSpans_182 (by decide) ?_
      exact x_sub [2, 3, 4, 1, 0, 5] rfl (ih _ _ _ _ hF K)
set_option maxHeartbeats 4000000 in
set_option maxRecDepth 100000 in
theorem w_X9_tellSpans_L54 {κ : xb_k} {Γ : xb_X} {q : Nat → Nat} {mth : Int32} {mn : Int32} {mib : Int32} {mpa : Int32} {mwi : Int32} {mch : Int32} {mst : Int32} {msz : Int32} {mld : Int32} {mps : Int32} {mbb : Int32} {mno : (Nat → Int32)} {mpk : (Nat → Int32)} {mtu : (Nat → Int32)} {mfo : (Nat → Int32)} {mbi : (Nat → Int32)} {mwr : (Nat → Int32)} {mli : (Nat → Int32)} {mbl : (Nat → Int32)} {mki : (Nat → Int32)} {mfr : (Nat → Int32)} {mde : (Nat → Int32)} {mbe : (Nat → Int32)} {mow : (Nat → Int32)} {mco : (Nat → Int32)} {mpt : (Nat → Int32)} {mle : (Nat → Int32)} {mpl : (Nat → Int32)} {mit : (Nat → Int32)} {mro : (Nat → Int32)} {maw : (Nat → Int32)} {x1 : Int32} {fu : Nat} (C : xb_C κ Γ 9 cX9_tellSpans RX9 { frames := 2, cells := 0, slots := 0, locals := 44 }) : ∀ (n : Nat) (x3 : Int32) (x4 : Int32) (x5 : Int32) (mot : (Nat → Int32)) (mus : (Nat → Int32)) (mnu : (Nat → Int32)) (mns : Int32) (o : Int32 × (Nat → Int32) × (Nat → Int32) × (Nat → Int32) × Int32), F_X9_tellSpans_L54 fu x1 mld mli n x3 x4 x5 mot mus mnu mns = some o → xb_W κ Γ 9 0 0 188 [(0, .ref (q 0)), (1, .int x1), (4, .int o.1)] [] (mw κ q mth mn mib mpa mwi mch mst msz o.2.2.2.2 mld mps mbb mno mpk mtu mfo mbi mwr o.2.2.1 o.2.2.2.1 mli o.2.1 mbl mki mfr mde mbe mow mco mpt mle mpl mit mro maw) → xb_W κ Γ 9 0 0 54 [(0, .ref (q 0)), (1, .int x1), (3, .int x3), (4, .int x4), (5, .int x5)] [] (mw κ q mth mn mib mpa mwi mch mst msz mns mld mps mbb mno mpk mtu mfo mbi mwr mus mnu mli mot mbl mki mfr mde mbe mow mco mpt mle mpl mit mro maw) := by
  intro n
  induction n with
  | zero =>
    intro x3 x4 x5 mot mus mnu mns o hF K
    rw [F_X9_tellSpans_L54] at hF
    cases hF
  | succ n ih =>
    intro x3 x4 x5 mot mus mnu mns o hF K
    rw [F_X9_tellSpans_L54] at hF
    refine x_iload C dX9_tellSpans_54 4 rfl ?_
    refine x_aload_n C dX9_tellSpans_56 0 rfl ?_
    refine gf_X9_142 C 0 rfl rfl dX9_tellSpans_57 ?_
    refine x_icmp_ge (tgt := 188) C dX9_tellSpans_60 (by decide) (fun hc => ?_) (fun hc => ?_)
    · replace hF := ifp hc hF
      cases hF
      exact x_sub [0, 1, 3] rfl K
    · replace hF := ifn hc hF
      refine x_aload_n C dX9_tellSpans_63 0 rfl ?_
      refine x_iload C dX9_tellSpans_64 4 rfl ?_
      obtain ⟨o11, h12, hF⟩ := bd_s hF
      refine x_callVi (st := []) C (c_X9_runEnd h12) xm_X9_runEnd ml_X9_151 0 rfl rfl rfl rfl rfl rfl dX9_tellSpans_66 ⟨rfl, rfl⟩ ?_
      refine x_istore (lv2 := [(6, .int o11), (0, .ref (q 0)), (1, .int x1), (3, .int x3), (4, .int x4), (5, .int x5)]) C dX9_tellSpans_69 (by decide) rfl ?_
      refine x_iload C dX9_tellSpans_71 0 rfl ?_
      refine x_iload C dX9_tellSpans_73 5 rfl ?_
      refine x_isub C dX9_tellSpans_75 ?_
      refine x_iconst (v := 3) C dX9_tellSpans_76 (by decide) ?_
      refine x_icmp_lt (tgt := 155) C dX9_tellSpans_77 (by decide) (fun hc => ?_) (fun hc => ?_)
      · replace hF := ifp hc hF
        obtain ⟨o13, h14, hF⟩ := bd_s hF
        refine x_sub [1, 2, 3, 4, 5, 0] rfl (w_X9_tellSpans_L155 C fu _ _ _ _ h14 ?_)
        refine x_goto (tgt := 54) C dX9_tellSpans_185 (by decide) ?_
        exact x_sub [0, 1, 2, 3, 4] rfl (ih _ _ _ _ _ _ _ _ hF K)
      · replace hF := ifn hc hF
        refine x_aload_n C dX9_tellSpans_80 1 rfl ?_
        refine gf_X9_48 C 0 rfl rfl dX9_tellSpans_81 ?_
        refine x_iload C dX9_tellSpans_84 5 rfl ?_
        obtain ⟨b15, hF⟩ := ck_s hF
        refine x_iald C 9 rfl b15 dX9_tellSpans_86 ?_
        refine x_istore (lv2 := [(7, .int (mli x5.toNatClampNeg)), (6, .int o11), (0, .ref (q 0)), (1, .int x1), (3, .int x3), (4, .int x4), (5, .int x5)]) C dX9_tellSpans_87 (by decide) rfl ?_
        refine x_aload_n C dX9_tellSpans_89 2 rfl ?_
        refine gf_X9_48 C 0 rfl rfl dX9_tellSpans_90 ?_
        refine x_iload C dX9_tellSpans_93 1 rfl ?_
        refine x_iconst (v := 1) C dX9_tellSpans_95 (by decide) ?_
        refine x_isub C dX9_tellSpans_96 ?_
        obtain ⟨b16, hF⟩ := ck_s hF
        refine x_iald C 9 rfl b16 dX9_tellSpans_97 ?_
        refine x_istore (lv2 := [(8, .int (mli (o11 - (1 : Int32)).toNatClampNeg)), (7, .int (mli x5.toNatClampNeg)), (6, .int o11), (0, .ref (q 0)), (1, .int x1), (3, .int x3), (4, .int x4), (5, .int x5)]) C dX9_tellSpans_98 (by decide) rfl ?_
        refine x_iload_n C dX9_tellSpans_100 5 rfl ?_
        refine x_iconst (v := (-1)) C dX9_tellSpans_101 (by decide) ?_
        refine x_icmp_ne (tgt := 121) C dX9_tellSpans_102 (by decide) (fun hc => ?_) (fun hc => ?_)
        · replace hF := ifn hc hF
          refine x_aload_n C dX9_tellSpans_121 3 rfl ?_
          refine x_iconst (v := 3) C dX9_tellSpans_122 (by decide) ?_
          refine x_iload C dX9_tellSpans_123 1 rfl ?_
          refine x_iload_n C dX9_tellSpans_125 5 rfl ?_
          refine x_isub C dX9_tellSpans_126 ?_
          refine x_iconst (v := 2) C dX9_tellSpans_127 (by decide) ?_
          refine x_isub C dX9_tellSpans_128 ?_
          obtain ⟨o17, h18, hF⟩ := bd_s hF
          refine x_callVv (st := []) C (c_X9_say h18) xm_X9_say ml_X9_145 0 rfl rfl rfl rfl rfl rfl dX9_tellSpans_129 ⟨rfl, rfl⟩ ?_
          refine x_aload_n C dX9_tellSpans_132 3 rfl ?_
          refine x_bipush (v := 7) C dX9_tellSpans_133 (by decide) ?_
          refine x_iload C dX9_tellSpans_135 2 rfl ?_
          refine x_iload C dX9_tellSpans_137 7 rfl ?_
          refine x_isub C dX9_tellSpans_139 ?_
          refine x_iconst (v := 3) C dX9_tellSpans_140 (by decide) ?_
          refine x_isub C dX9_tellSpans_141 ?_
          obtain ⟨o19, h20, hF⟩ := bd_s hF
          refine x_callVv (st := []) C (c_X9_say h20) xm_X9_say ml_X9_145 0 rfl rfl rfl rfl rfl rfl dX9_tellSpans_142 ⟨rfl, rfl⟩ ?_
          refine x_iload C dX9_tellSpans_145 0 rfl ?_
          refine x_istore_n (lv2 := [(3, .int (mli (o11 - (1 : Int32)).toNatClampNeg)), (8, .int (mli (o11 - (1 : Int32)).toNatClampNeg)), (7, .int (mli x5.toNatClampNeg)), (6, .int o11), (0, .ref (q 0)), (1, .int x1), (4, .int x4), (5, .int x5)]) C dX9_tellSpans_147 rfl (by decide) rfl ?_
          refine x_iload C dX9_tellSpans_148 3 rfl ?_
          refine x_istore (lv2 := [(5, .int o11), (3, .int (mli (o11 - (1 : Int32)).toNatClampNeg)), (8, .int (mli (o11 - (1 : Int32)).toNatClampNeg)), (7, .int (mli x5.toNatClampNeg)), (6, .int o11), (0, .ref (q 0)), (1, .int x1), (4, .int x4)]) C dX9_tellSpans_150 (by decide) rfl ?_
          refine x_goto (tgt := 185) C dX9_tellSpans_152 (by decide) ?_
          refine x_goto (tgt := 54) C dX9_tellSpans_185 (by decide) ?_
          exact x_sub [5, 6, 1, 7, 0] rfl (ih _ _ _ _ _ _ _ _ hF K)
        · replace hF := ifp hc hF
          refine x_aload_n C dX9_tellSpans_105 3 rfl ?_
          refine x_bipush (v := 6) C dX9_tellSpans_106 (by decide) ?_
          refine x_iload C dX9_tellSpans_108 1 rfl ?_
          refine x_iload_n C dX9_tellSpans_110 4 rfl ?_
          refine x_isub C dX9_tellSpans_111 ?_
          obtain ⟨o21, h22, hF⟩ := bd_s hF
          refine x_callSi (st := [.int (6 : Int32), .ref (q 0)]) C (c_X9_folded h22) xm_X9_folded ml_X9_148 rfl rfl rfl rfl dX9_tellSpans_112 ⟨rfl, rfl⟩ ?_
          obtain ⟨o23, h24, hF⟩ := bd_s hF
          refine x_callVv (st := []) C (c_X9_say h24) xm_X9_say ml_X9_145 0 rfl rfl rfl rfl rfl rfl dX9_tellSpans_115 ⟨rfl, rfl⟩ ?_
          refine x_goto (tgt := 132) C dX9_tellSpans_118 (by decide) ?_
          refine x_aload_n C dX9_tellSpans_132 3 rfl ?_
          refine x_bipush (v := 7) C dX9_tellSpans_133 (by decide) ?_
          refine x_iload C dX9_tellSpans_135 2 rfl ?_
          refine x_iload C dX9_tellSpans_137 7 rfl ?_
          refine x_isub C dX9_tellSpans_139 ?_
          refine x_iconst (v := 3) C dX9_tellSpans_140 (by decide) ?_
          refine x_isub C dX9_tellSpans_141 ?_
          obtain ⟨o25, h26, hF⟩ := bd_s hF
          refine x_callVv (st := []) C (c_X9_say h26) xm_X9_say ml_X9_145 0 rfl rfl rfl rfl rfl rfl dX9_tellSpans_142 ⟨rfl, rfl⟩ ?_
          refine x_iload C dX9_tellSpans_145 0 rfl ?_
          refine x_istore_n (lv2 := [(3, .int (mli (o11 - (1 : Int32)).toNatClampNeg)), (8, .int (mli (o11 - (1 : Int32)).toNatClampNeg)), (7, .int (mli x5.toNatClampNeg)), (6, .int o11), (0, .ref (q 0)), (1, .int x1), (4, .int x4), (5, .int x5)]) C dX9_tellSpans_147 rfl (by decide) rfl ?_
          refine x_iload C dX9_tellSpans_148 3 rfl ?_
          refine x_istore (lv2 := [(5, .int o11), (3, .int (mli (o11 - (1 : Int32)).toNatClampNeg)), (8, .int (mli (o11 - (1 : Int32)).toNatClampNeg)), (7, .int (mli x5.toNatClampNeg)), (6, .int o11), (0, .ref (q 0)), (1, .int x1), (4, .int x4)]) C dX9_tellSpans_150 (by decide) rfl ?_
          refine x_goto (tgt := 185) C dX9_tellSpans_152 (by decide) ?_
          refine x_goto (tgt := 54) C dX9_tellSpans_185 (by decide) ?_
          exact x_sub [5, 6, 1, 7, 0] rfl (ih _ _ _ _ _ _ _ _ hF K)
set_option maxHeartbeats 4000000 in
set_option maxRecDepth 100000 in
theorem w_X9_tellSpans_L191 {κ : xb_k} {Γ : xb_X} {q : Nat → Nat} {mth : Int32} {mn : Int32} {mib : Int32} {mpa : Int32} {mwi : Int32} {mch : Int32} {mst : Int32} {msz : Int32} {mns : Int32} {mld : Int32} {mps : Int32} {mbb : Int32} {mno : (Nat → Int32)} {mpk : (Nat → Int32)} {mtu : (Nat → Int32)} {mfo : (Nat → Int32)} {mbi : (Nat → Int32)} {mwr : (Nat → Int32)} {mus : (Nat → Int32)} {mnu : (Nat → Int32)} {mot : (Nat → Int32)} {mbl : (Nat → Int32)} {mki : (Nat → Int32)} {mfr : (Nat → Int32)} {mde : (Nat → Int32)} {mbe : (Nat → Int32)} {mow : (Nat → Int32)} {mco : (Nat → Int32)} {mpt : (Nat → Int32)} {mle : (Nat → Int32)} {mpl : (Nat → Int32)} {mit : (Nat → Int32)} {mro : (Nat → Int32)} {maw : (Nat → Int32)} {x1 : Int32} {x4 : Int32}  (C : xb_C κ Γ 9 cX9_tellSpans RX9 { frames := 2, cells := 0, slots := 0, locals := 44 }) : ∀ (n : Nat) (x6 : Int32) (mli : (Nat → Int32)) (o : (Nat → Int32)), F_X9_tellSpans_L191 x1 x4 mot n x6 mli = some o → xb_W κ Γ 9 0 0 218 [(0, .ref (q 0)), (1, .int x1), (4, .int x4)] [] (mw κ q mth mn mib mpa mwi mch mst msz mns mld mps mbb mno mpk mtu mfo mbi mwr mus mnu o mot mbl mki mfr mde mbe mow mco mpt mle mpl mit mro maw) → xb_W κ Γ 9 0 0 191 [(0, .ref (q 0)), (1, .int x1), (4, .int x4), (6, .int x6)] [] (mw κ q mth mn mib mpa mwi mch mst msz mns mld mps mbb mno mpk mtu mfo mbi mwr mus mnu mli mot mbl mki mfr mde mbe mow mco mpt mle mpl mit mro maw) := by
  intro n
  induction n with
  | zero =>
    intro x6 mli o hF K
    rw [F_X9_tellSpans_L191] at hF
    cases hF
  | succ n ih =>
    intro x6 mli o hF K
    rw [F_X9_tellSpans_L191] at hF
    refine x_iload C dX9_tellSpans_191 3 rfl ?_
    refine x_iload C dX9_tellSpans_193 2 rfl ?_
    refine x_icmp_ge (tgt := 218) C dX9_tellSpans_195 (by decide) (fun hc => ?_) (fun hc => ?_)
    · replace hF := ifp hc hF
      cases hF
      exact x_sub [0, 1, 2] rfl K
    · replace hF := ifn hc hF
      refine x_aload_n C dX9_tellSpans_198 0 rfl ?_
      refine gf_X9_48 C 0 rfl rfl dX9_tellSpans_199 ?_
      refine x_iload C dX9_tellSpans_202 3 rfl ?_
      refine x_aload_n C dX9_tellSpans_204 0 rfl ?_
      refine gf_X9_51 C 0 rfl rfl dX9_tellSpans_205 ?_
      refine x_iload C dX9_tellSpans_208 3 rfl ?_
      obtain ⟨b29, hF⟩ := ck_s hF
      refine x_iald C 10 rfl b29 dX9_tellSpans_210 ?_
      obtain ⟨b30, hF⟩ := ck_s hF
      refine x_iast (ws2 := (mw κ q mth mn mib mpa mwi mch mst msz mns mld mps mbb mno mpk mtu mfo mbi mwr mus mnu (upd mli x6.toNatClampNeg (mot x6.toNatClampNeg)) mot mbl mki mfr mde mbe mow mco mpt mle mpl mit mro maw)) C 9 rfl b30 dX9_tellSpans_211 rfl ?_
      refine x_iinc (v := x6 + 1) (lv2 := [(6, .int (x6 + 1)), (0, .ref (q 0)), (1, .int x1), (4, .int x4)]) C dX9_tellSpans_212 3 rfl rfl (by decide) rfl ?_
      refine x_goto (tgt := 191) C dX9_tellSpans_215 (by decide) ?_
      exact x_sub [1, 2, 3, 0] rfl (ih _ _ _ hF K)
set_option maxHeartbeats 4000000 in
set_option maxRecDepth 100000 in
theorem c_X9_tellSpans {κ : xb_k} {q : Nat → Nat} {mth : Int32} {mn : Int32} {mib : Int32} {mpa : Int32} {mwi : Int32} {mch : Int32} {mst : Int32} {msz : Int32} {mns : Int32} {mld : Int32} {mps : Int32} {mbb : Int32} {mno : (Nat → Int32)} {mpk : (Nat → Int32)} {mtu : (Nat → Int32)} {mfo : (Nat → Int32)} {mbi : (Nat → Int32)} {mwr : (Nat → Int32)} {mus : (Nat → Int32)} {mnu : (Nat → Int32)} {mli : (Nat → Int32)} {mot : (Nat → Int32)} {mbl : (Nat → Int32)} {mki : (Nat → Int32)} {mfr : (Nat → Int32)} {mde : (Nat → Int32)} {mbe : (Nat → Int32)} {mow : (Nat → Int32)} {mco : (Nat → Int32)} {mpt : (Nat → Int32)} {mle : (Nat → Int32)} {mpl : (Nat → Int32)} {mit : (Nat → Int32)} {mro : (Nat → Int32)} {maw : (Nat → Int32)} {x1 : Int32} {fu : Nat} {o : (Nat → Int32) × (Nat → Int32) × Int32 × (Nat → Int32) × (Nat → Int32) × Int32} (hF : F_X9_tellSpans fu x1 mld mli mns mus mnu mot = some o) : Met κ.1 yX9_tellSpans [Cond.code yX9_tellSpans cX9_tellSpans 9 none] { frames := 2, cells := 0, slots := 0, locals := 44 } (xb_P κ [.ref (q 0), .int x1] (mw κ q mth mn mib mpa mwi mch mst msz mns mld mps mbb mno mpk mtu mfo mbi mwr mus mnu mli mot mbl mki mfr mde mbe mow mco mpt mle mpl mit mro maw)) (xb_Qv κ (mw κ q mth mn mib mpa mwi mch mst msz o.2.2.1 o.2.2.2.2.2 mps mbb mno mpk mtu mfo mbi mwr o.1 o.2.1 o.2.2.2.2.1 o.2.2.2.1 mbl mki mfr mde mbe mow mco mpt mle mpl mit mro maw)) 0 0 κ.2.2.1 := by
  refine x_enter (own := RX9) (lv0 := [(0, .ref (q 0)), (1, .int x1)]) (by decide) rfl rfl rfl (fun Γ C E => ?_)
  unfold F_X9_tellSpans at hF
  refine x_iconst (v := 0) C dX9_tellSpans_0 (by decide) ?_
  refine x_istore_n (lv2 := [(2, .int (0 : Int32)), (0, .ref (q 0)), (1, .int x1)]) C dX9_tellSpans_1 rfl (by decide) rfl ?_
  refine x_iconst (v := 0) C dX9_tellSpans_2 (by decide) ?_
  refine x_istore_n (lv2 := [(3, .int (0 : Int32)), (2, .int (0 : Int32)), (0, .ref (q 0)), (1, .int x1)]) C dX9_tellSpans_3 rfl (by decide) rfl ?_
  obtain ⟨o7, h8, hF⟩ := bd_s hF
  refine x_sub [2, 3, 1, 0] rfl (w_X9_tellSpans_L4 C fu _ _ _ h8 ?_)
  refine x_aload_n C dX9_tellSpans_40 0 rfl ?_
  refine x_iconst (v := 1) C dX9_tellSpans_41 (by decide) ?_
  refine x_iload_n C dX9_tellSpans_42 2 rfl ?_
  obtain ⟨o9, h10, hF⟩ := bd_s hF
  refine x_callVv (st := []) C (c_X9_say h10) xm_X9_say ml_X9_145 0 rfl rfl rfl rfl rfl rfl dX9_tellSpans_43 ⟨rfl, rfl⟩ ?_
  refine x_iconst (v := (-1)) C dX9_tellSpans_46 (by decide) ?_
  refine x_istore_n (lv2 := [(3, .int (-1 : Int32)), (0, .ref (q 0)), (1, .int x1), (2, .int o7)]) C dX9_tellSpans_47 rfl (by decide) rfl ?_
  refine x_iconst (v := 0) C dX9_tellSpans_48 (by decide) ?_
  refine x_istore (lv2 := [(4, .int (0 : Int32)), (3, .int (-1 : Int32)), (0, .ref (q 0)), (1, .int x1), (2, .int o7)]) C dX9_tellSpans_49 (by decide) rfl ?_
  refine x_iconst (v := 0) C dX9_tellSpans_51 (by decide) ?_
  refine x_istore (lv2 := [(5, .int (0 : Int32)), (4, .int (0 : Int32)), (3, .int (-1 : Int32)), (0, .ref (q 0)), (1, .int x1), (2, .int o7)]) C dX9_tellSpans_52 (by decide) rfl ?_
  obtain ⟨o27, h28, hF⟩ := bd_s hF
  refine x_sub [3, 4, 2, 1, 0] rfl (w_X9_tellSpans_L54 C fu _ _ _ _ _ _ _ _ h28 ?_)
  refine x_iconst (v := 0) C dX9_tellSpans_188 (by decide) ?_
  refine x_istore (lv2 := [(6, .int (0 : Int32)), (0, .ref (q 0)), (1, .int x1), (4, .int o27.1)]) C dX9_tellSpans_189 (by decide) rfl ?_
  obtain ⟨o31, h32, hF⟩ := bd_s hF
  refine x_sub [1, 2, 3, 0] rfl (w_X9_tellSpans_L191 C fu _ _ _ h32 ?_)
  refine x_aload_n C dX9_tellSpans_218 0 rfl ?_
  refine x_iload C dX9_tellSpans_219 2 rfl ?_
  refine pf_X9_142 (ws2 := (mw κ q mth mn mib mpa mwi mch mst msz o27.2.2.2.2 o27.1 mps mbb mno mpk mtu mfo mbi mwr o27.2.2.1 o27.2.2.2.1 o31 o27.2.1 mbl mki mfr mde mbe mow mco mpt mle mpl mit mro maw)) C 0 rfl dX9_tellSpans_221 rfl rfl ?_
  refine x_aload_n C dX9_tellSpans_224 0 rfl ?_
  refine x_iload_n C dX9_tellSpans_225 1 rfl ?_
  obtain ⟨o33, h34, hF⟩ := bd_s hF
  refine x_callVv (st := []) C (c_X9_tellPlain h34) xm_X9_tellPlain ml_X9_154 0 rfl rfl rfl rfl rfl rfl dX9_tellSpans_226 ⟨rfl, rfl⟩ ?_
  cases hF
  exact x_vret C E dX9_tellSpans_229
set_option maxHeartbeats 4000000 in
set_option maxRecDepth 100000 in
theorem w_X9_tellCopied_L16 {κ : xb_k} {Γ : xb_X} {q : Nat → Nat} {mth : Int32} {mn : Int32} {mib : Int32} {mpa : Int32} {mwi : Int32} {mch : Int32} {mst : Int32} {msz : Int32} {mns : Int32} {mld : Int32} {mps : Int32} {mbb : Int32} {mno : (Nat → Int32)} {mpk : (Nat → Int32)} {mtu : (Nat → Int32)} {mfo : (Nat → Int32)} {mbi : (Nat → Int32)} {mwr : (Nat → Int32)} {mus : (Nat → Int32)} {mnu : (Nat → Int32)} {mli : (Nat → Int32)} {mot : (Nat → Int32)} {mki : (Nat → Int32)} {mfr : (Nat → Int32)} {mde : (Nat → Int32)} {mbe : (Nat → Int32)} {mow : (Nat → Int32)} {mco : (Nat → Int32)} {mpt : (Nat → Int32)} {mle : (Nat → Int32)} {mpl : (Nat → Int32)} {mit : (Nat → Int32)} {mro : (Nat → Int32)} {maw : (Nat → Int32)} {x2 : Int32} {x3 : Int32}  (C : xb_C κ Γ 7 cX9_tellCopied RX9 { frames := 3, cells := 0, slots := 0, locals := 72 }) : ∀ (n : Nat) (x4 : Int32) (x5 : Int32) (x6 : Int32) (mbl : (Nat → Int32)) (o : Int32 × (Nat → Int32)), F_X9_tellCopied_L16 x2 x3 mn mno n x4 x5 x6 mbl = some o → xb_W κ Γ 7 0 0 93 [(0, .ref (q 0)), (1, .ref (q 1)), (2, .int x2), (3, .int x3), (4, .int o.1)] [] (mw κ q mth mn mib mpa mwi mch mst msz mns mld mps mbb mno mpk mtu mfo mbi mwr mus mnu mli mot o.2 mki mfr mde mbe mow mco mpt mle mpl mit mro maw) → xb_W κ Γ 7 0 0 16 [(0, .ref (q 0)), (1, .ref (q 1)), (2, .int x2), (3, .int x3), (4, .int x4), (5, .int x5), (6, .int x6)] [] (mw κ q mth mn mib mpa mwi mch mst msz mns mld mps mbb mno mpk mtu mfo mbi mwr mus mnu mli mot mbl mki mfr mde mbe mow mco mpt mle mpl mit mro maw) := by
  intro n
  induction n with
  | zero =>
    intro x4 x5 x6 mbl o hF K
    rw [F_X9_tellCopied_L16] at hF
    cases hF
  | succ n ih =>
    intro x4 x5 x6 mbl o hF K
    rw [F_X9_tellCopied_L16] at hF
    refine x_iload C dX9_tellCopied_16 6 rfl ?_
    refine x_aload_n C dX9_tellCopied_18 0 rfl ?_
    refine gf_X9_93 C 0 rfl rfl dX9_tellCopied_19 ?_
    refine x_icmp_ge (tgt := 93) C dX9_tellCopied_22 (by decide) (fun hc => ?_) (fun hc => ?_)
    · replace hF := ifp hc hF
      cases hF
      exact x_sub [0, 1, 2, 3, 4] rfl K
    · replace hF := ifn hc hF
      refine x_aload_n C dX9_tellCopied_25 1 rfl ?_
      refine x_bipush (v := 48) C dX9_tellCopied_26 (by decide) ?_
      refine x_iload_n C dX9_tellCopied_28 3 rfl ?_
      refine x_imul C dX9_tellCopied_29 ?_
      refine x_iload C dX9_tellCopied_30 6 rfl ?_
      refine x_iadd C dX9_tellCopied_32 ?_
      obtain ⟨b2, hF⟩ := ck_s hF
      refine x_zald C 1 rfl b2 dX9_tellCopied_33 ?_
      refine x_if_eq (tgt := 87) C dX9_tellCopied_34 (by decide) (fun hc => ?_) (fun hc => ?_)
      · replace hF := ifp hc hF
        refine x_iinc (v := x6 + 1) (lv2 := [(6, .int (x6 + 1)), (0, .ref (q 0)), (1, .ref (q 1)), (2, .int x2), (3, .int x3), (4, .int x4), (5, .int x5)]) C dX9_tellCopied_87 6 rfl rfl (by decide) rfl ?_
        refine x_goto (tgt := 16) C dX9_tellCopied_90 (by decide) ?_
        exact x_sub [1, 2, 3, 4, 5, 6, 0] rfl (ih _ _ _ _ _ hF K)
      · replace hF := ifn hc hF
        refine x_aload_n C dX9_tellCopied_37 1 rfl ?_
        refine x_bipush (v := 48) C dX9_tellCopied_38 (by decide) ?_
        refine x_iload_n C dX9_tellCopied_40 2 rfl ?_
        refine x_imul C dX9_tellCopied_41 ?_
        refine x_iload C dX9_tellCopied_42 6 rfl ?_
        refine x_iadd C dX9_tellCopied_44 ?_
        obtain ⟨b3, hF⟩ := ck_s hF
        refine x_zald C 1 rfl b3 dX9_tellCopied_45 ?_
        refine x_iload C dX9_tellCopied_46 5 rfl ?_
        refine x_icmp_eq (tgt := 74) C dX9_tellCopied_48 (by decide) (fun hc => ?_) (fun hc => ?_)
        · replace hF := ifp hc hF
          refine x_aload_n C dX9_tellCopied_74 0 rfl ?_
          refine gf_X9_54 C 0 rfl rfl dX9_tellCopied_75 ?_
          refine x_iload C dX9_tellCopied_78 4 rfl ?_
          refine x_iconst (v := 1) C dX9_tellCopied_80 (by decide) ?_
          refine x_isub C dX9_tellCopied_81 ?_
          refine x_dup2 C dX9_tellCopied_82 rfl rfl ?_
          obtain ⟨b4, hF⟩ := ck_s hF
          refine x_iald C 11 rfl b4 dX9_tellCopied_83 ?_
          refine x_iconst (v := 1) C dX9_tellCopied_84 (by decide) ?_
          refine x_iadd C dX9_tellCopied_85 ?_
          obtain ⟨b5, hF⟩ := ck_s hF
          refine x_iast (ws2 := (mw κ q mth mn mib mpa mwi mch mst msz mns mld mps mbb mno mpk mtu mfo mbi mwr mus mnu mli mot (upd mbl (x4 - (1 : Int32)).toNatClampNeg ((mbl (x4 - (1 : Int32)).toNatClampNeg) + (1 : Int32))) mki mfr mde mbe mow mco mpt mle mpl mit mro maw)) C 11 rfl b5 dX9_tellCopied_86 rfl ?_
          refine x_iinc (v := x6 + 1) (lv2 := [(6, .int (x6 + 1)), (0, .ref (q 0)), (1, .ref (q 1)), (2, .int x2), (3, .int x3), (4, .int x4), (5, .int x5)]) C dX9_tellCopied_87 6 rfl rfl (by decide) rfl ?_
          refine x_goto (tgt := 16) C dX9_tellCopied_90 (by decide) ?_
          exact x_sub [1, 2, 3, 4, 5, 6, 0] rfl (ih _ _ _ _ _ hF K)
        · replace hF := ifn hc hF
          refine x_iload C dX9_tellCopied_51 5 rfl ?_
          refine x_if_ne (tgt := 60) C dX9_tellCopied_53 (by decide) (fun hc => ?_) (fun hc => ?_)
          · replace hF := ifn hc hF
            refine x_iconst (v := 0) C dX9_tellCopied_60 (by decide) ?_
            refine x_istore (lv2 := [(5, .int (0 : Int32)), (0, .ref (q 0)), (1, .ref (q 1)), (2, .int x2), (3, .int x3), (4, .int x4), (6, .int x6)]) C dX9_tellCopied_61 (by decide) rfl ?_
            refine x_aload_n C dX9_tellCopied_63 1 rfl ?_
            refine gf_X9_54 C 0 rfl rfl dX9_tellCopied_64 ?_
            refine x_iload C dX9_tellCopied_67 5 rfl ?_
            refine x_iconst (v := 0) C dX9_tellCopied_69 (by decide) ?_
            obtain ⟨b6, hF⟩ := ck_s hF
            refine x_iast (ws2 := (mw κ q mth mn mib mpa mwi mch mst msz mns mld mps mbb mno mpk mtu mfo mbi mwr mus mnu mli mot (upd mbl x4.toNatClampNeg (0 : Int32)) mki mfr mde mbe mow mco mpt mle mpl mit mro maw)) C 11 rfl b6 dX9_tellCopied_70 rfl ?_
            refine x_iinc (v := x4 + 1) (lv2 := [(4, .int (x4 + 1)), (5, .int (0 : Int32)), (0, .ref (q 0)), (1, .ref (q 1)), (2, .int x2), (3, .int x3), (6, .int x6)]) C dX9_tellCopied_71 5 rfl rfl (by decide) rfl ?_
            refine x_aload_n C dX9_tellCopied_74 2 rfl ?_
            refine gf_X9_54 C 0 rfl rfl dX9_tellCopied_75 ?_
            refine x_iload C dX9_tellCopied_78 0 rfl ?_
            refine x_iconst (v := 1) C dX9_tellCopied_80 (by decide) ?_
            refine x_isub C dX9_tellCopied_81 ?_
            refine x_dup2 C dX9_tellCopied_82 rfl rfl ?_
            obtain ⟨b7, hF⟩ := ck_s hF
            refine x_iald C 11 rfl b7 dX9_tellCopied_83 ?_
            refine x_iconst (v := 1) C dX9_tellCopied_84 (by decide) ?_
            refine x_iadd C dX9_tellCopied_85 ?_
            obtain ⟨b8, hF⟩ := ck_s hF
            refine x_iast (ws2 := (mw κ q mth mn mib mpa mwi mch mst msz mns mld mps mbb mno mpk mtu mfo mbi mwr mus mnu mli mot (upd (upd mbl x4.toNatClampNeg (0 : Int32)) ((x4 + 1) - (1 : Int32)).toNatClampNeg (((upd mbl x4.toNatClampNeg (0 : Int32)) ((x4 + 1) - (1 : Int32)).toNatClampNeg) + (1 : Int32))) mki mfr mde mbe mow mco mpt mle mpl mit mro maw)) C 11 rfl b8 dX9_tellCopied_86 rfl ?_
            refine x_iinc (v := x6 + 1) (lv2 := [(6, .int (x6 + 1)), (4, .int (x4 + 1)), (5, .int (0 : Int32)), (0, .ref (q 0)), (1, .ref (q 1)), (2, .int x2), (3, .int x3)]) C dX9_tellCopied_87 6 rfl rfl (by decide) rfl ?_
            refine x_goto (tgt := 16) C dX9_tellCopied_90 (by decide) ?_
            exact x_sub [3, 4, 5, 6, 1, 2, 0] rfl (ih _ _ _ _ _ hF K)
          · replace hF := ifp hc hF
            refine x_iconst (v := 1) C dX9_tellCopied_56 (by decide) ?_
            refine x_goto (tgt := 61) C dX9_tellCopied_57 (by decide) ?_
            refine x_istore (lv2 := [(5, .int (1 : Int32)), (0, .ref (q 0)), (1, .ref (q 1)), (2, .int x2), (3, .int x3), (4, .int x4), (6, .int x6)]) C dX9_tellCopied_61 (by decide) rfl ?_
            refine x_aload_n C dX9_tellCopied_63 1 rfl ?_
            refine gf_X9_54 C 0 rfl rfl dX9_tellCopied_64 ?_
            refine x_iload C dX9_tellCopied_67 5 rfl ?_
            refine x_iconst (v := 0) C dX9_tellCopied_69 (by decide) ?_
            obtain ⟨b9, hF⟩ := ck_s hF
            refine x_iast (ws2 := (mw κ q mth mn mib mpa mwi mch mst msz mns mld mps mbb mno mpk mtu mfo mbi mwr mus mnu mli mot (upd mbl x4.toNatClampNeg (0 : Int32)) mki mfr mde mbe mow mco mpt mle mpl mit mro maw)) C 11 rfl b9 dX9_tellCopied_70 rfl ?_
            refine x_iinc (v := x4 + 1) (lv2 := [(4, .int (x4 + 1)), (5, .int (1 : Int32)), (0, .ref (q 0)), (1, .ref (q 1)), (2, .int x2), (3, .int x3), (6, .int x6)]) C dX9_tellCopied_71 5 rfl rfl (by decide) rfl ?_
            refine x_aload_n C dX9_tellCopied_74 2 rfl ?_
            refine gf_X9_54 C 0 rfl rfl dX9_tellCopied_75 ?_
            refine x_iload C dX9_tellCopied_78 0 rfl ?_
            refine x_iconst (v := 1) C dX9_tellCopied_80 (by decide) ?_
            refine x_isub C dX9_tellCopied_81 ?_
            refine x_dup2 C dX9_tellCopied_82 rfl rfl ?_
            obtain ⟨b10, hF⟩ := ck_s hF
            refine x_iald C 11 rfl b10 dX9_tellCopied_83 ?_
            refine x_iconst (v := 1) C dX9_tellCopied_84 (by decide) ?_
            refine x_iadd C dX9_tellCopied_85 ?_
            obtain ⟨b11, hF⟩ := ck_s hF
            refine x_iast (ws2 := (mw κ q mth mn mib mpa mwi mch mst msz mns mld mps mbb mno mpk mtu mfo mbi mwr mus mnu mli mot (upd (upd mbl x4.toNatClampNeg (0 : Int32)) ((x4 + 1) - (1 : Int32)).toNatClampNeg (((upd mbl x4.toNatClampNeg (0 : Int32)) ((x4 + 1) - (1 : Int32)).toNatClampNeg) + (1 : Int32))) mki mfr mde mbe mow mco mpt mle mpl mit mro maw)) C 11 rfl b11 dX9_tellCopied_86 rfl ?_
            refine x_iinc (v := x6 + 1) (lv2 := [(6, .int (x6 + 1)), (4, .int (x4 + 1)), (5, .int (1 : Int32)), (0, .ref (q 0)), (1, .ref (q 1)), (2, .int x2), (3, .int x3)]) C dX9_tellCopied_87 6 rfl rfl (by decide) rfl ?_
            refine x_goto (tgt := 16) C dX9_tellCopied_90 (by decide) ?_
            exact x_sub [3, 4, 5, 6, 1, 2, 0] rfl (ih _ _ _ _ _ hF K)
set_option maxHeartbeats 4000000 in
set_option maxRecDepth 100000 in
theorem w_X9_tellCopied_L115 {κ : xb_k} {Γ : xb_X} {q : Nat → Nat} {mth : Int32} {mn : Int32} {mib : Int32} {mpa : Int32} {mwi : Int32} {mch : Int32} {mst : Int32} {msz : Int32} {mld : Int32} {mps : Int32} {mbb : Int32} {mno : (Nat → Int32)} {mpk : (Nat → Int32)} {mtu : (Nat → Int32)} {mfo : (Nat → Int32)} {mbi : (Nat → Int32)} {mwr : (Nat → Int32)} {mli : (Nat → Int32)} {mot : (Nat → Int32)} {mbl : (Nat → Int32)} {mki : (Nat → Int32)} {mfr : (Nat → Int32)} {mde : (Nat → Int32)} {mbe : (Nat → Int32)} {mow : (Nat → Int32)} {mco : (Nat → Int32)} {mpt : (Nat → Int32)} {mle : (Nat → Int32)} {mpl : (Nat → Int32)} {mit : (Nat → Int32)} {mro : (Nat → Int32)} {maw : (Nat → Int32)} {x2 : Int32} {x3 : Int32} {x4 : Int32}  (C : xb_C κ Γ 7 cX9_tellCopied RX9 { frames := 3, cells := 0, slots := 0, locals := 72 }) : ∀ (n : Nat) (x6 : Int32) (mus : (Nat → Int32)) (mnu : (Nat → Int32)) (mns : Int32) (o : (Nat → Int32) × (Nat → Int32) × Int32), F_X9_tellCopied_L115 x2 x3 x4 mbl n x6 mus mnu mns = some o → xb_W κ Γ 7 0 0 158 [(0, .ref (q 0)), (1, .ref (q 1)), (2, .int x2), (3, .int x3)] [] (mw κ q mth mn mib mpa mwi mch mst msz o.2.2 mld mps mbb mno mpk mtu mfo mbi mwr o.1 o.2.1 mli mot mbl mki mfr mde mbe mow mco mpt mle mpl mit mro maw) → xb_W κ Γ 7 0 0 115 [(0, .ref (q 0)), (1, .ref (q 1)), (2, .int x2), (3, .int x3), (4, .int x4), (6, .int x6)] [] (mw κ q mth mn mib mpa mwi mch mst msz mns mld mps mbb mno mpk mtu mfo mbi mwr mus mnu mli mot mbl mki mfr mde mbe mow mco mpt mle mpl mit mro maw) := by
  intro n
  induction n with
  | zero =>
    intro x6 mus mnu mns o hF K
    rw [F_X9_tellCopied_L115] at hF
    cases hF
  | succ n ih =>
    intro x6 mus mnu mns o hF K
    rw [F_X9_tellCopied_L115] at hF
    refine x_iload C dX9_tellCopied_115 5 rfl ?_
    refine x_iconst (v := 1) C dX9_tellCopied_117 (by decide) ?_
    refine x_iadd C dX9_tellCopied_118 ?_
    refine x_iload C dX9_tellCopied_119 4 rfl ?_
    refine x_icmp_ge (tgt := 158) C dX9_tellCopied_121 (by decide) (fun hc => ?_) (fun hc => ?_)
    · replace hF := ifp hc hF
      cases hF
      exact x_sub [0, 1, 2, 3] rfl K
    · replace hF := ifn hc hF
      refine x_aload_n C dX9_tellCopied_124 0 rfl ?_
      refine x_iconst (v := 5) C dX9_tellCopied_125 (by decide) ?_
      refine x_iload C dX9_tellCopied_126 5 rfl ?_
      refine x_if_ne (tgt := 140) C dX9_tellCopied_128 (by decide) (fun hc => ?_) (fun hc => ?_)
      · replace hF := ifn hc hF
        refine x_aload_n C dX9_tellCopied_140 0 rfl ?_
        refine gf_X9_54 C 0 rfl rfl dX9_tellCopied_141 ?_
        refine x_iload C dX9_tellCopied_144 5 rfl ?_
        obtain ⟨b18, hF⟩ := ck_s hF
        refine x_iald C 11 rfl b18 dX9_tellCopied_146 ?_
        refine x_iconst (v := 1) C dX9_tellCopied_147 (by decide) ?_
        refine x_isub C dX9_tellCopied_148 ?_
        obtain ⟨o19, h20, hF⟩ := bd_s hF
        refine x_callVv (st := []) C (c_X9_say h20) xm_X9_say ml_X9_145 0 rfl rfl rfl rfl rfl rfl dX9_tellCopied_149 ⟨rfl, rfl⟩ ?_
        refine x_iinc (v := x6 + 1) (lv2 := [(6, .int (x6 + 1)), (0, .ref (q 0)), (1, .ref (q 1)), (2, .int x2), (3, .int x3), (4, .int x4)]) C dX9_tellCopied_152 5 rfl rfl (by decide) rfl ?_
        refine x_goto (tgt := 115) C dX9_tellCopied_155 (by decide) ?_
        exact x_sub [1, 2, 3, 4, 5, 0] rfl (ih _ _ _ _ _ hF K)
      · replace hF := ifp hc hF
        refine x_aload_n C dX9_tellCopied_131 0 rfl ?_
        refine gf_X9_54 C 0 rfl rfl dX9_tellCopied_132 ?_
        refine x_iconst (v := 0) C dX9_tellCopied_135 (by decide) ?_
        obtain ⟨b21, hF⟩ := ck_s hF
        refine x_iald C 11 rfl b21 dX9_tellCopied_136 ?_
        refine x_goto (tgt := 149) C dX9_tellCopied_137 (by decide) ?_
        obtain ⟨o22, h23, hF⟩ := bd_s hF
        refine x_callVv (st := []) C (c_X9_say h23) xm_X9_say ml_X9_145 0 rfl rfl rfl rfl rfl rfl dX9_tellCopied_149 ⟨rfl, rfl⟩ ?_
        refine x_iinc (v := x6 + 1) (lv2 := [(6, .int (x6 + 1)), (0, .ref (q 0)), (1, .ref (q 1)), (2, .int x2), (3, .int x3), (4, .int x4)]) C dX9_tellCopied_152 5 rfl rfl (by decide) rfl ?_
        refine x_goto (tgt := 115) C dX9_tellCopied_155 (by decide) ?_
        exact x_sub [1, 2, 3, 4, 5, 0] rfl (ih _ _ _ _ _ hF K)
set_option maxHeartbeats 4000000 in
set_option maxRecDepth 100000 in
theorem c_X9_tellCopied {κ : xb_k} {q : Nat → Nat} {mth : Int32} {mn : Int32} {mib : Int32} {mpa : Int32} {mwi : Int32} {mch : Int32} {mst : Int32} {msz : Int32} {mns : Int32} {mld : Int32} {mps : Int32} {mbb : Int32} {mno : (Nat → Int32)} {mpk : (Nat → Int32)} {mtu : (Nat → Int32)} {mfo : (Nat → Int32)} {mbi : (Nat → Int32)} {mwr : (Nat → Int32)} {mus : (Nat → Int32)} {mnu : (Nat → Int32)} {mli : (Nat → Int32)} {mot : (Nat → Int32)} {mbl : (Nat → Int32)} {mki : (Nat → Int32)} {mfr : (Nat → Int32)} {mde : (Nat → Int32)} {mbe : (Nat → Int32)} {mow : (Nat → Int32)} {mco : (Nat → Int32)} {mpt : (Nat → Int32)} {mle : (Nat → Int32)} {mpl : (Nat → Int32)} {mit : (Nat → Int32)} {mro : (Nat → Int32)} {maw : (Nat → Int32)} {x2 : Int32} {x3 : Int32} {fu : Nat} {o : (Nat → Int32) × (Nat → Int32) × (Nat → Int32) × Int32 × Int32 × (Nat → Int32) × (Nat → Int32)} (hF : F_X9_tellCopied fu x2 x3 mbl mn mno mns mus mnu mld mli mot = some o) : Met κ.1 yX9_tellCopied [Cond.code yX9_tellCopied cX9_tellCopied 7 none] { frames := 3, cells := 0, slots := 0, locals := 72 } (xb_P κ [.ref (q 0), .ref (q 1), .int x2, .int x3] (mw κ q mth mn mib mpa mwi mch mst msz mns mld mps mbb mno mpk mtu mfo mbi mwr mus mnu mli mot mbl mki mfr mde mbe mow mco mpt mle mpl mit mro maw)) (xb_Qv κ (mw κ q mth mn mib mpa mwi mch mst msz o.2.2.2.1 o.2.2.2.2.1 mps mbb mno mpk mtu mfo mbi mwr o.2.1 o.2.2.1 o.2.2.2.2.2.1 o.2.2.2.2.2.2 o.1 mki mfr mde mbe mow mco mpt mle mpl mit mro maw)) 0 0 κ.2.2.1 := by
  refine x_enter (own := RX9) (lv0 := [(0, .ref (q 0)), (1, .ref (q 1)), (2, .int x2), (3, .int x3)]) (by decide) rfl rfl rfl (fun Γ C E => ?_)
  unfold F_X9_tellCopied at hF
  refine x_iconst (v := 1) C dX9_tellCopied_0 (by decide) ?_
  refine x_istore (lv2 := [(4, .int (1 : Int32)), (0, .ref (q 0)), (1, .ref (q 1)), (2, .int x2), (3, .int x3)]) C dX9_tellCopied_1 (by decide) rfl ?_
  refine x_aload_n C dX9_tellCopied_3 1 rfl ?_
  refine gf_X9_54 C 0 rfl rfl dX9_tellCopied_4 ?_
  refine x_iconst (v := 0) C dX9_tellCopied_7 (by decide) ?_
  refine x_iconst (v := 0) C dX9_tellCopied_8 (by decide) ?_
  obtain ⟨b1, hF⟩ := ck_s hF
  refine x_iast (ws2 := (mw κ q mth mn mib mpa mwi mch mst msz mns mld mps mbb mno mpk mtu mfo mbi mwr mus mnu mli mot (upd mbl (0 : Int32).toNatClampNeg (0 : Int32)) mki mfr mde mbe mow mco mpt mle mpl mit mro maw)) C 11 rfl b1 dX9_tellCopied_9 rfl ?_
  refine x_iconst (v := 1) C dX9_tellCopied_10 (by decide) ?_
  refine x_istore (lv2 := [(5, .int (1 : Int32)), (4, .int (1 : Int32)), (0, .ref (q 0)), (1, .ref (q 1)), (2, .int x2), (3, .int x3)]) C dX9_tellCopied_11 (by decide) rfl ?_
  refine x_iconst (v := 0) C dX9_tellCopied_13 (by decide) ?_
  refine x_istore (lv2 := [(6, .int (0 : Int32)), (5, .int (1 : Int32)), (4, .int (1 : Int32)), (0, .ref (q 0)), (1, .ref (q 1)), (2, .int x2), (3, .int x3)]) C dX9_tellCopied_14 (by decide) rfl ?_
  obtain ⟨o12, h13, hF⟩ := bd_s hF
  refine x_sub [3, 4, 5, 6, 2, 1, 0] rfl (w_X9_tellCopied_L16 C fu _ _ _ _ _ h13 ?_)
  refine x_aload_n C dX9_tellCopied_93 0 rfl ?_
  refine x_iconst (v := 4) C dX9_tellCopied_94 (by decide) ?_
  refine x_iload_n C dX9_tellCopied_95 2 rfl ?_
  refine x_iload_n C dX9_tellCopied_96 3 rfl ?_
  refine x_isub C dX9_tellCopied_97 ?_
  refine x_iconst (v := 1) C dX9_tellCopied_98 (by decide) ?_
  refine x_isub C dX9_tellCopied_99 ?_
  obtain ⟨o14, h15, hF⟩ := bd_s hF
  refine x_callVv (st := []) C (c_X9_say h15) xm_X9_say ml_X9_145 0 rfl rfl rfl rfl rfl rfl dX9_tellCopied_100 ⟨rfl, rfl⟩ ?_
  refine x_aload_n C dX9_tellCopied_103 0 rfl ?_
  refine x_iconst (v := 1) C dX9_tellCopied_104 (by decide) ?_
  refine x_iload C dX9_tellCopied_105 4 rfl ?_
  refine x_iconst (v := 1) C dX9_tellCopied_107 (by decide) ?_
  refine x_isub C dX9_tellCopied_108 ?_
  obtain ⟨o16, h17, hF⟩ := bd_s hF
  refine x_callVv (st := []) C (c_X9_say h17) xm_X9_say ml_X9_145 0 rfl rfl rfl rfl rfl rfl dX9_tellCopied_109 ⟨rfl, rfl⟩ ?_
  refine x_iconst (v := 0) C dX9_tellCopied_112 (by decide) ?_
  refine x_istore (lv2 := [(6, .int (0 : Int32)), (0, .ref (q 0)), (1, .ref (q 1)), (2, .int x2), (3, .int x3), (4, .int o12.1)]) C dX9_tellCopied_113 (by decide) rfl ?_
  obtain ⟨o24, h25, hF⟩ := bd_s hF
  refine x_sub [1, 2, 3, 4, 5, 0] rfl (w_X9_tellCopied_L115 C fu _ _ _ _ _ h25 ?_)
  refine x_aload_n C dX9_tellCopied_158 0 rfl ?_
  refine x_aload_n C dX9_tellCopied_159 1 rfl ?_
  refine x_iload_n C dX9_tellCopied_160 2 rfl ?_
  refine x_iload_n C dX9_tellCopied_161 3 rfl ?_
  obtain ⟨o26, h27, hF⟩ := bd_s hF
  refine x_callVv (st := []) C (c_X9_take h27) xm_X9_take ml_X9_157 0 rfl rfl rfl rfl rfl rfl dX9_tellCopied_162 ⟨rfl, rfl⟩ ?_
  refine x_aload_n C dX9_tellCopied_165 0 rfl ?_
  refine x_iload_n C dX9_tellCopied_166 2 rfl ?_
  obtain ⟨o28, h29, hF⟩ := bd_s hF
  refine x_callVv (st := []) C (c_X9_tellSpans h29) xm_X9_tellSpans ml_X9_161 0 rfl rfl rfl rfl rfl rfl dX9_tellCopied_167 ⟨rfl, rfl⟩ ?_
  cases hF
  exact x_vret C E dX9_tellCopied_170
set_option maxHeartbeats 4000000 in
set_option maxRecDepth 100000 in
theorem w_X9_tellDense_L45 {κ : xb_k} {Γ : xb_X} {q : Nat → Nat} {mth : Int32} {mn : Int32} {mib : Int32} {mpa : Int32} {mwi : Int32} {mch : Int32} {mst : Int32} {msz : Int32} {mld : Int32} {mps : Int32} {mbb : Int32} {mno : (Nat → Int32)} {mpk : (Nat → Int32)} {mtu : (Nat → Int32)} {mfo : (Nat → Int32)} {mbi : (Nat → Int32)} {mwr : (Nat → Int32)} {mli : (Nat → Int32)} {mot : (Nat → Int32)} {mbl : (Nat → Int32)} {mki : (Nat → Int32)} {mfr : (Nat → Int32)} {mde : (Nat → Int32)} {mbe : (Nat → Int32)} {mow : (Nat → Int32)} {mco : (Nat → Int32)} {mpt : (Nat → Int32)} {mle : (Nat → Int32)} {mpl : (Nat → Int32)} {mit : (Nat → Int32)} {mro : (Nat → Int32)} {maw : (Nat → Int32)} {x2 : Int32} {x4 : Int32}  (C : xb_C κ Γ 6 cX9_tellDense RX9 { frames := 1, cells := 0, slots := 0, locals := 22 }) : ∀ (n : Nat) (x5 : Int32) (mus : (Nat → Int32)) (mnu : (Nat → Int32)) (mns : Int32) (o : (Nat → Int32) × (Nat → Int32) × Int32), F_X9_tellDense_L45 x2 x4 mno n x5 mus mnu mns = some o → xb_W κ Γ 6 0 0 81 [] [] (mw κ q mth mn mib mpa mwi mch mst msz o.2.2 mld mps mbb mno mpk mtu mfo mbi mwr o.1 o.2.1 mli mot mbl mki mfr mde mbe mow mco mpt mle mpl mit mro maw) → xb_W κ Γ 6 0 0 45 [(0, .ref (q 0)), (1, .ref (q 1)), (2, .int x2), (4, .int x4), (5, .int x5)] [] (mw κ q mth mn mib mpa mwi mch mst msz mns mld mps mbb mno mpk mtu mfo mbi mwr mus mnu mli mot mbl mki mfr mde mbe mow mco mpt mle mpl mit mro maw) := by
  intro n
  induction n with
  | zero =>
    intro x5 mus mnu mns o hF K
    rw [F_X9_tellDense_L45] at hF
    cases hF
  | succ n ih =>
    intro x5 mus mnu mns o hF K
    rw [F_X9_tellDense_L45] at hF
    refine x_iload C dX9_tellDense_45 4 rfl ?_
    refine x_iload C dX9_tellDense_47 3 rfl ?_
    refine x_icmp_ge (tgt := 81) C dX9_tellDense_49 (by decide) (fun hc => ?_) (fun hc => ?_)
    · replace hF := ifp hc hF
      cases hF
      exact x_sub [] rfl K
    · replace hF := ifn hc hF
      refine x_aload_n C dX9_tellDense_52 0 rfl ?_
      refine x_bipush (v := 8) C dX9_tellDense_53 (by decide) ?_
      refine x_aload_n C dX9_tellDense_55 1 rfl ?_
      refine x_bipush (v := 48) C dX9_tellDense_56 (by decide) ?_
      refine x_iload_n C dX9_tellDense_58 2 rfl ?_
      refine x_imul C dX9_tellDense_59 ?_
      refine x_iload C dX9_tellDense_60 4 rfl ?_
      refine x_iadd C dX9_tellDense_62 ?_
      obtain ⟨b9, hF⟩ := ck_s hF
      refine x_zald C 1 rfl b9 dX9_tellDense_63 ?_
      refine x_if_eq (tgt := 71) C dX9_tellDense_64 (by decide) (fun hc => ?_) (fun hc => ?_)
      · replace hF := ifp hc hF
        refine x_iconst (v := 0) C dX9_tellDense_71 (by decide) ?_
        obtain ⟨o10, h11, hF⟩ := bd_s hF
        refine x_callVv (st := []) C (c_X9_say h11) xm_X9_say ml_X9_145 0 rfl rfl rfl rfl rfl rfl dX9_tellDense_72 ⟨rfl, rfl⟩ ?_
        refine x_iinc (v := x5 + 1) (lv2 := [(5, .int (x5 + 1)), (0, .ref (q 0)), (1, .ref (q 1)), (2, .int x2), (4, .int x4)]) C dX9_tellDense_75 4 rfl rfl (by decide) rfl ?_
        refine x_goto (tgt := 45) C dX9_tellDense_78 (by decide) ?_
        exact x_sub [1, 2, 3, 4, 0] rfl (ih _ _ _ _ _ hF K)
      · replace hF := ifn hc hF
        refine x_iconst (v := 1) C dX9_tellDense_67 (by decide) ?_
        refine x_goto (tgt := 72) C dX9_tellDense_68 (by decide) ?_
        obtain ⟨o12, h13, hF⟩ := bd_s hF
        refine x_callVv (st := []) C (c_X9_say h13) xm_X9_say ml_X9_145 0 rfl rfl rfl rfl rfl rfl dX9_tellDense_72 ⟨rfl, rfl⟩ ?_
        refine x_iinc (v := x5 + 1) (lv2 := [(5, .int (x5 + 1)), (0, .ref (q 0)), (1, .ref (q 1)), (2, .int x2), (4, .int x4)]) C dX9_tellDense_75 4 rfl rfl (by decide) rfl ?_
        refine x_goto (tgt := 45) C dX9_tellDense_78 (by decide) ?_
        exact x_sub [1, 2, 3, 4, 0] rfl (ih _ _ _ _ _ hF K)
set_option maxHeartbeats 4000000 in
set_option maxRecDepth 100000 in
theorem c_X9_tellDense {κ : xb_k} {q : Nat → Nat} {mth : Int32} {mn : Int32} {mib : Int32} {mpa : Int32} {mwi : Int32} {mch : Int32} {mst : Int32} {msz : Int32} {mns : Int32} {mld : Int32} {mps : Int32} {mbb : Int32} {mno : (Nat → Int32)} {mpk : (Nat → Int32)} {mtu : (Nat → Int32)} {mfo : (Nat → Int32)} {mbi : (Nat → Int32)} {mwr : (Nat → Int32)} {mus : (Nat → Int32)} {mnu : (Nat → Int32)} {mli : (Nat → Int32)} {mot : (Nat → Int32)} {mbl : (Nat → Int32)} {mki : (Nat → Int32)} {mfr : (Nat → Int32)} {mde : (Nat → Int32)} {mbe : (Nat → Int32)} {mow : (Nat → Int32)} {mco : (Nat → Int32)} {mpt : (Nat → Int32)} {mle : (Nat → Int32)} {mpl : (Nat → Int32)} {mit : (Nat → Int32)} {mro : (Nat → Int32)} {maw : (Nat → Int32)} {x2 : Int32} {fu : Nat} {o : (Nat → Int32) × (Nat → Int32) × Int32} (hF : F_X9_tellDense fu x2 mli mld mns mus mnu mno = some o) : Met κ.1 yX9_tellDense [Cond.code yX9_tellDense cX9_tellDense 6 none] { frames := 1, cells := 0, slots := 0, locals := 22 } (xb_P κ [.ref (q 0), .ref (q 1), .int x2] (mw κ q mth mn mib mpa mwi mch mst msz mns mld mps mbb mno mpk mtu mfo mbi mwr mus mnu mli mot mbl mki mfr mde mbe mow mco mpt mle mpl mit mro maw)) (xb_Qv κ (mw κ q mth mn mib mpa mwi mch mst msz o.2.2 mld mps mbb mno mpk mtu mfo mbi mwr o.1 o.2.1 mli mot mbl mki mfr mde mbe mow mco mpt mle mpl mit mro maw)) 0 0 κ.2.2.1 := by
  refine x_enter (own := RX9) (lv0 := [(0, .ref (q 0)), (1, .ref (q 1)), (2, .int x2)]) (by decide) rfl rfl rfl (fun Γ C E => ?_)
  unfold F_X9_tellDense at hF
  refine x_aload_n C dX9_tellDense_0 0 rfl ?_
  refine gf_X9_48 C 0 rfl rfl dX9_tellDense_1 ?_
  refine x_iconst (v := 0) C dX9_tellDense_4 (by decide) ?_
  obtain ⟨b1, hF⟩ := ck_s hF
  refine x_iald C 9 rfl b1 dX9_tellDense_5 ?_
  refine x_istore_n (lv2 := [(3, .int (mli (0 : Int32).toNatClampNeg)), (0, .ref (q 0)), (1, .ref (q 1)), (2, .int x2)]) C dX9_tellDense_6 rfl (by decide) rfl ?_
  refine x_aload_n C dX9_tellDense_7 1 rfl ?_
  refine gf_X9_48 C 0 rfl rfl dX9_tellDense_8 ?_
  refine x_aload_n C dX9_tellDense_11 1 rfl ?_
  refine gf_X9_142 C 0 rfl rfl dX9_tellDense_12 ?_
  refine x_iconst (v := 1) C dX9_tellDense_15 (by decide) ?_
  refine x_isub C dX9_tellDense_16 ?_
  obtain ⟨b2, hF⟩ := ck_s hF
  refine x_iald C 9 rfl b2 dX9_tellDense_17 ?_
  refine x_istore (lv2 := [(4, .int (mli (mld - (1 : Int32)).toNatClampNeg)), (3, .int (mli (0 : Int32).toNatClampNeg)), (0, .ref (q 0)), (1, .ref (q 1)), (2, .int x2)]) C dX9_tellDense_18 (by decide) rfl ?_
  refine x_aload_n C dX9_tellDense_20 2 rfl ?_
  refine x_iconst (v := 2) C dX9_tellDense_21 (by decide) ?_
  refine x_iload_n C dX9_tellDense_22 1 rfl ?_
  refine x_iload_n C dX9_tellDense_23 4 rfl ?_
  refine x_isub C dX9_tellDense_24 ?_
  obtain ⟨o3, h4, hF⟩ := bd_s hF
  refine x_callSi (st := [.int (2 : Int32), .ref (q 0)]) C (c_X9_folded h4) xm_X9_folded ml_X9_148 rfl rfl rfl rfl dX9_tellDense_25 ⟨rfl, rfl⟩ ?_
  obtain ⟨o5, h6, hF⟩ := bd_s hF
  refine x_callVv (st := []) C (c_X9_say h6) xm_X9_say ml_X9_145 0 rfl rfl rfl rfl rfl rfl dX9_tellDense_28 ⟨rfl, rfl⟩ ?_
  refine x_aload_n C dX9_tellDense_31 2 rfl ?_
  refine x_iconst (v := 1) C dX9_tellDense_32 (by decide) ?_
  refine x_iload C dX9_tellDense_33 0 rfl ?_
  refine x_iload_n C dX9_tellDense_35 1 rfl ?_
  refine x_isub C dX9_tellDense_36 ?_
  obtain ⟨o7, h8, hF⟩ := bd_s hF
  refine x_callVv (st := []) C (c_X9_say h8) xm_X9_say ml_X9_145 0 rfl rfl rfl rfl rfl rfl dX9_tellDense_37 ⟨rfl, rfl⟩ ?_
  refine x_iload_n C dX9_tellDense_40 1 rfl ?_
  refine x_iconst (v := 1) C dX9_tellDense_41 (by decide) ?_
  refine x_iadd C dX9_tellDense_42 ?_
  refine x_istore (lv2 := [(5, .int ((mli (0 : Int32).toNatClampNeg) + (1 : Int32))), (4, .int (mli (mld - (1 : Int32)).toNatClampNeg)), (3, .int (mli (0 : Int32).toNatClampNeg)), (0, .ref (q 0)), (1, .ref (q 1)), (2, .int x2)]) C dX9_tellDense_43 (by decide) rfl ?_
  obtain ⟨o14, h15, hF⟩ := bd_s hF
  refine x_sub [3, 4, 5, 1, 0] rfl (w_X9_tellDense_L45 C fu _ _ _ _ _ h15 ?_)
  cases hF
  exact x_vret C E dX9_tellDense_81
set_option maxHeartbeats 4000000 in
set_option maxRecDepth 100000 in
theorem c_X9_tell {κ : xb_k} {q : Nat → Nat} {mth : Int32} {mn : Int32} {mib : Int32} {mpa : Int32} {mwi : Int32} {mch : Int32} {mst : Int32} {msz : Int32} {mns : Int32} {mld : Int32} {mps : Int32} {mbb : Int32} {mno : (Nat → Int32)} {mpk : (Nat → Int32)} {mtu : (Nat → Int32)} {mfo : (Nat → Int32)} {mbi : (Nat → Int32)} {mwr : (Nat → Int32)} {mus : (Nat → Int32)} {mnu : (Nat → Int32)} {mli : (Nat → Int32)} {mot : (Nat → Int32)} {mbl : (Nat → Int32)} {mki : (Nat → Int32)} {mfr : (Nat → Int32)} {mde : (Nat → Int32)} {mbe : (Nat → Int32)} {mow : (Nat → Int32)} {mco : (Nat → Int32)} {mpt : (Nat → Int32)} {mle : (Nat → Int32)} {mpl : (Nat → Int32)} {mit : (Nat → Int32)} {mro : (Nat → Int32)} {maw : (Nat → Int32)} {x2 : Int32} {x3 : Int32} {x4 : Int32} {fu : Nat} {o : Int32 × (Nat → Int32) × (Nat → Int32) × Int32 × (Nat → Int32) × (Nat → Int32) × (Nat → Int32)} (hF : F_X9_tell fu x2 x3 x4 mns mus mnu mld mn mno mli mot mbl = some o) : Met κ.1 yX9_tell [Cond.code yX9_tell cX9_tell 5 none] { frames := 4, cells := 0, slots := 0, locals := 98 } (xb_P κ [.ref (q 0), .ref (q 1), .int x2, .int x3, .int x4] (mw κ q mth mn mib mpa mwi mch mst msz mns mld mps mbb mno mpk mtu mfo mbi mwr mus mnu mli mot mbl mki mfr mde mbe mow mco mpt mle mpl mit mro maw)) (xb_Qv κ (mw κ q mth mn mib mpa mwi mch mst msz o.1 o.2.2.2.1 mps mbb mno mpk mtu mfo mbi mwr o.2.1 o.2.2.1 o.2.2.2.2.1 o.2.2.2.2.2.1 o.2.2.2.2.2.2 mki mfr mde mbe mow mco mpt mle mpl mit mro maw)) 0 0 κ.2.2.1 := by
  refine x_enter (own := RX9) (lv0 := [(0, .ref (q 0)), (1, .ref (q 1)), (2, .int x2), (3, .int x3), (4, .int x4)]) (by decide) rfl rfl rfl (fun Γ C E => ?_)
  unfold F_X9_tell at hF
  refine x_aload_n C dX9_tell_0 0 rfl ?_
  refine x_iconst (v := 0) C dX9_tell_1 (by decide) ?_
  refine pf_X9_139 (ws2 := (mw κ q mth mn mib mpa mwi mch mst msz (0 : Int32) mld mps mbb mno mpk mtu mfo mbi mwr mus mnu mli mot mbl mki mfr mde mbe mow mco mpt mle mpl mit mro maw)) C 0 rfl dX9_tell_2 rfl rfl ?_
  refine x_aload_n C dX9_tell_5 0 rfl ?_
  refine x_iconst (v := 0) C dX9_tell_6 (by decide) ?_
  refine x_iload_n C dX9_tell_7 3 rfl ?_
  obtain ⟨o1, h2, hF⟩ := bd_s hF
  refine x_callVv (st := []) C (c_X9_say h2) xm_X9_say ml_X9_145 0 rfl rfl rfl rfl rfl rfl dX9_tell_8 ⟨rfl, rfl⟩ ?_
  refine x_aload_n C dX9_tell_11 0 rfl ?_
  refine x_aload_n C dX9_tell_12 1 rfl ?_
  refine x_iload_n C dX9_tell_13 2 rfl ?_
  refine x_iload_n C dX9_tell_14 2 rfl ?_
  obtain ⟨o3, h4, hF⟩ := bd_s hF
  refine x_callVv (st := []) C (c_X9_take h4) xm_X9_take ml_X9_157 0 rfl rfl rfl rfl rfl rfl dX9_tell_15 ⟨rfl, rfl⟩ ?_
  refine x_iload_n C dX9_tell_18 3 rfl ?_
  by_cases hs19_0 : x3 = 0
  · replace hF := ifp hs19_0 hF
    refine x_tswIn (off := 29) (tgt := 48) 0 C dX9_tell_19 hs19_0 (by decide) (by decide) rfl (by decide) ?_
    refine x_aload_n C dX9_tell_48 0 rfl ?_
    refine x_iload_n C dX9_tell_49 2 rfl ?_
    obtain ⟨o5, h6, hF⟩ := bd_s hF
    refine x_callVv (st := []) C (c_X9_tellPlain h6) xm_X9_tellPlain ml_X9_154 0 rfl rfl rfl rfl rfl rfl dX9_tell_50 ⟨rfl, rfl⟩ ?_
    refine x_goto (tgt := 95) C dX9_tell_53 (by decide) ?_
    cases hF
    exact x_vret C E dX9_tell_95
  · replace hF := ifn hs19_0 hF
    by_cases hs19_1 : x3 = 1
    · replace hF := ifp hs19_1 hF
      refine x_tswIn (off := 37) (tgt := 56) 1 C dX9_tell_19 hs19_1 (by decide) (by decide) rfl (by decide) ?_
      refine x_aload_n C dX9_tell_56 0 rfl ?_
      refine x_iload_n C dX9_tell_57 2 rfl ?_
      obtain ⟨o7, h8, hF⟩ := bd_s hF
      refine x_callVv (st := []) C (c_X9_tellSpans h8) xm_X9_tellSpans ml_X9_161 0 rfl rfl rfl rfl rfl rfl dX9_tell_58 ⟨rfl, rfl⟩ ?_
      refine x_goto (tgt := 95) C dX9_tell_61 (by decide) ?_
      cases hF
      exact x_vret C E dX9_tell_95
    · replace hF := ifn hs19_1 hF
      by_cases hs19_2 : x3 = 2
      · replace hF := ifp hs19_2 hF
        refine x_tswIn (off := 45) (tgt := 64) 2 C dX9_tell_19 hs19_2 (by decide) (by decide) rfl (by decide) ?_
        refine x_aload_n C dX9_tell_64 0 rfl ?_
        refine x_aload_n C dX9_tell_65 1 rfl ?_
        refine x_iload_n C dX9_tell_66 2 rfl ?_
        refine x_iload_n C dX9_tell_67 2 rfl ?_
        refine x_iload C dX9_tell_68 4 rfl ?_
        refine x_isub C dX9_tell_70 ?_
        obtain ⟨o9, h10, hF⟩ := bd_s hF
        refine x_callVv (st := []) C (c_X9_tellCopied h10) xm_X9_tellCopied ml_X9_164 0 rfl rfl rfl rfl rfl rfl dX9_tell_71 ⟨rfl, rfl⟩ ?_
        refine x_goto (tgt := 95) C dX9_tell_74 (by decide) ?_
        cases hF
        exact x_vret C E dX9_tell_95
      · replace hF := ifn hs19_2 hF
        by_cases hs19_3 : x3 = 3
        · replace hF := ifp hs19_3 hF
          refine x_tswIn (off := 58) (tgt := 77) 3 C dX9_tell_19 hs19_3 (by decide) (by decide) rfl (by decide) ?_
          refine x_aload_n C dX9_tell_77 0 rfl ?_
          refine x_iconst (v := 4) C dX9_tell_78 (by decide) ?_
          refine x_iload C dX9_tell_79 4 rfl ?_
          refine x_iconst (v := 1) C dX9_tell_81 (by decide) ?_
          refine x_isub C dX9_tell_82 ?_
          obtain ⟨o11, h12, hF⟩ := bd_s hF
          refine x_callVv (st := []) C (c_X9_say h12) xm_X9_say ml_X9_145 0 rfl rfl rfl rfl rfl rfl dX9_tell_83 ⟨rfl, rfl⟩ ?_
          refine x_goto (tgt := 95) C dX9_tell_86 (by decide) ?_
          cases hF
          exact x_vret C E dX9_tell_95
        · replace hF := ifn hs19_3 hF
          refine x_tswOut (tgt := 89) C dX9_tell_19 (ts_out 3 (by decide) (fun k hk => by match k, hk with | 0, _ => exact hs19_0 | 1, _ => exact hs19_1 | 2, _ => exact hs19_2 | 3, _ => exact hs19_3 | (k + 4), hk => exact absurd hk (by omega))) (by decide) ?_
          refine x_aload_n C dX9_tell_89 0 rfl ?_
          refine x_aload_n C dX9_tell_90 1 rfl ?_
          refine x_iload_n C dX9_tell_91 2 rfl ?_
          obtain ⟨o13, h14, hF⟩ := bd_s hF
          refine x_callVv (st := []) C (c_X9_tellDense h14) xm_X9_tellDense ml_X9_167 0 rfl rfl rfl rfl rfl rfl dX9_tell_92 ⟨rfl, rfl⟩ ?_
          cases hF
          exact x_vret C E dX9_tell_95
set_option maxHeartbeats 4000000 in
set_option maxRecDepth 100000 in
theorem w_X9_numbersBits_L4 {κ : xb_k} {Γ : xb_X} {q : Nat → Nat} {mth : Int32} {mn : Int32} {mib : Int32} {mpa : Int32} {mwi : Int32} {mch : Int32} {mst : Int32} {msz : Int32} {mns : Int32} {mld : Int32} {mps : Int32} {mbb : Int32} {mno : (Nat → Int32)} {mpk : (Nat → Int32)} {mtu : (Nat → Int32)} {mfo : (Nat → Int32)} {mbi : (Nat → Int32)} {mwr : (Nat → Int32)} {mus : (Nat → Int32)} {mnu : (Nat → Int32)} {mli : (Nat → Int32)} {mot : (Nat → Int32)} {mbl : (Nat → Int32)} {mki : (Nat → Int32)} {mfr : (Nat → Int32)} {mde : (Nat → Int32)} {mbe : (Nat → Int32)} {mow : (Nat → Int32)} {mco : (Nat → Int32)} {mpt : (Nat → Int32)} {mle : (Nat → Int32)} {mpl : (Nat → Int32)} {mit : (Nat → Int32)} {mro : (Nat → Int32)} {maw : (Nat → Int32)}  {fu : Nat} (C : xb_C κ Γ 3 cX9_numbersBits RX9 { frames := 2, cells := 0, slots := 0, locals := 44 }) : ∀ (n : Nat) (x1 : Int32) (x2 : Int32) (o : Int32), F_X9_numbersBits_L4 fu mns mus mfo mnu n x1 x2 = some o → xb_W κ Γ 3 0 0 56 [(1, .int o)] [] (mw κ q mth mn mib mpa mwi mch mst msz mns mld mps mbb mno mpk mtu mfo mbi mwr mus mnu mli mot mbl mki mfr mde mbe mow mco mpt mle mpl mit mro maw) → xb_W κ Γ 3 0 0 4 [(0, .ref (q 0)), (1, .int x1), (2, .int x2)] [] (mw κ q mth mn mib mpa mwi mch mst msz mns mld mps mbb mno mpk mtu mfo mbi mwr mus mnu mli mot mbl mki mfr mde mbe mow mco mpt mle mpl mit mro maw) := by
  intro n
  induction n with
  | zero =>
    intro x1 x2 o hF K
    rw [F_X9_numbersBits_L4] at hF
    cases hF
  | succ n ih =>
    intro x1 x2 o hF K
    rw [F_X9_numbersBits_L4] at hF
    refine x_iload_n C dX9_numbersBits_4 2 rfl ?_
    refine x_aload_n C dX9_numbersBits_5 0 rfl ?_
    refine gf_X9_139 C 0 rfl rfl dX9_numbersBits_6 ?_
    refine x_icmp_ge (tgt := 56) C dX9_numbersBits_9 (by decide) (fun hc => ?_) (fun hc => ?_)
    · replace hF := ifp hc hF
      cases hF
      exact x_sub [1] rfl K
    · replace hF := ifn hc hF
      refine x_iload_n C dX9_numbersBits_12 1 rfl ?_
      refine x_aload_n C dX9_numbersBits_13 0 rfl ?_
      refine gf_X9_42 C 0 rfl rfl dX9_numbersBits_14 ?_
      refine x_iload_n C dX9_numbersBits_17 2 rfl ?_
      obtain ⟨b1, hF⟩ := ck_s hF
      refine x_iald C 7 rfl b1 dX9_numbersBits_18 ?_
      refine x_bipush (v := 8) C dX9_numbersBits_19 (by decide) ?_
      refine x_icmp_ne (tgt := 28) C dX9_numbersBits_21 (by decide) (fun hc => ?_) (fun hc => ?_)
      · replace hF := ifn hc hF
        refine x_aload_n C dX9_numbersBits_28 0 rfl ?_
        refine gf_X9_23 C 0 rfl rfl dX9_numbersBits_29 ?_
        refine x_aload_n C dX9_numbersBits_32 0 rfl ?_
        refine gf_X9_42 C 0 rfl rfl dX9_numbersBits_33 ?_
        refine x_iload_n C dX9_numbersBits_36 2 rfl ?_
        obtain ⟨b2, hF⟩ := ck_s hF
        refine x_iald C 7 rfl b2 dX9_numbersBits_37 ?_
        obtain ⟨b3, hF⟩ := ck_s hF
        refine x_iald C 4 rfl b3 dX9_numbersBits_38 ?_
        refine x_aload_n C dX9_numbersBits_39 0 rfl ?_
        refine gf_X9_45 C 0 rfl rfl dX9_numbersBits_40 ?_
        refine x_iload_n C dX9_numbersBits_43 2 rfl ?_
        obtain ⟨b4, hF⟩ := ck_s hF
        refine x_iald C 8 rfl b4 dX9_numbersBits_44 ?_
        obtain ⟨o5, h6, hF⟩ := bd_s hF
        refine x_callSi (st := [.int x1]) C (c_X9_lengthIn h6) xm_X9_lengthIn ml_X9_171 rfl rfl rfl rfl dX9_numbersBits_45 ⟨rfl, rfl⟩ ?_
        refine x_iadd C dX9_numbersBits_48 ?_
        refine x_istore_n (lv2 := [(1, .int (x1 + o5)), (0, .ref (q 0)), (2, .int x2)]) C dX9_numbersBits_49 rfl (by decide) rfl ?_
        refine x_iinc (v := x2 + 1) (lv2 := [(2, .int (x2 + 1)), (1, .int (x1 + o5)), (0, .ref (q 0))]) C dX9_numbersBits_50 2 rfl rfl (by decide) rfl ?_
        refine x_goto (tgt := 4) C dX9_numbersBits_53 (by decide) ?_
        exact x_sub [2, 1, 0] rfl (ih _ _ _ hF K)
      · replace hF := ifp hc hF
        refine x_iconst (v := 1) C dX9_numbersBits_24 (by decide) ?_
        refine x_goto (tgt := 48) C dX9_numbersBits_25 (by decide) ?_
        refine x_iadd C dX9_numbersBits_48 ?_
        refine x_istore_n (lv2 := [(1, .int (x1 + (1 : Int32))), (0, .ref (q 0)), (2, .int x2)]) C dX9_numbersBits_49 rfl (by decide) rfl ?_
        refine x_iinc (v := x2 + 1) (lv2 := [(2, .int (x2 + 1)), (1, .int (x1 + (1 : Int32))), (0, .ref (q 0))]) C dX9_numbersBits_50 2 rfl rfl (by decide) rfl ?_
        refine x_goto (tgt := 4) C dX9_numbersBits_53 (by decide) ?_
        exact x_sub [2, 1, 0] rfl (ih _ _ _ hF K)
set_option maxHeartbeats 4000000 in
set_option maxRecDepth 100000 in
theorem c_X9_numbersBits {κ : xb_k} {q : Nat → Nat} {mth : Int32} {mn : Int32} {mib : Int32} {mpa : Int32} {mwi : Int32} {mch : Int32} {mst : Int32} {msz : Int32} {mns : Int32} {mld : Int32} {mps : Int32} {mbb : Int32} {mno : (Nat → Int32)} {mpk : (Nat → Int32)} {mtu : (Nat → Int32)} {mfo : (Nat → Int32)} {mbi : (Nat → Int32)} {mwr : (Nat → Int32)} {mus : (Nat → Int32)} {mnu : (Nat → Int32)} {mli : (Nat → Int32)} {mot : (Nat → Int32)} {mbl : (Nat → Int32)} {mki : (Nat → Int32)} {mfr : (Nat → Int32)} {mde : (Nat → Int32)} {mbe : (Nat → Int32)} {mow : (Nat → Int32)} {mco : (Nat → Int32)} {mpt : (Nat → Int32)} {mle : (Nat → Int32)} {mpl : (Nat → Int32)} {mit : (Nat → Int32)} {mro : (Nat → Int32)} {maw : (Nat → Int32)}  {fu : Nat} {o : Int32} (hF : F_X9_numbersBits fu mns mus mfo mnu = some o) : Met κ.1 yX9_numbersBits [Cond.code yX9_numbersBits cX9_numbersBits 3 (some .int)] { frames := 2, cells := 0, slots := 0, locals := 44 } (xb_P κ [.ref (q 0)] (mw κ q mth mn mib mpa mwi mch mst msz mns mld mps mbb mno mpk mtu mfo mbi mwr mus mnu mli mot mbl mki mfr mde mbe mow mco mpt mle mpl mit mro maw)) (xb_Qi κ o (mw κ q mth mn mib mpa mwi mch mst msz mns mld mps mbb mno mpk mtu mfo mbi mwr mus mnu mli mot mbl mki mfr mde mbe mow mco mpt mle mpl mit mro maw)) 0 0 κ.2.2.1 := by
  refine x_enter (own := RX9) (lv0 := [(0, .ref (q 0))]) (by decide) rfl rfl rfl (fun Γ C E => ?_)
  unfold F_X9_numbersBits at hF
  refine x_iconst (v := 0) C dX9_numbersBits_0 (by decide) ?_
  refine x_istore_n (lv2 := [(1, .int (0 : Int32)), (0, .ref (q 0))]) C dX9_numbersBits_1 rfl (by decide) rfl ?_
  refine x_iconst (v := 0) C dX9_numbersBits_2 (by decide) ?_
  refine x_istore_n (lv2 := [(2, .int (0 : Int32)), (1, .int (0 : Int32)), (0, .ref (q 0))]) C dX9_numbersBits_3 rfl (by decide) rfl ?_
  obtain ⟨o7, h8, hF⟩ := bd_s hF
  refine x_sub [2, 1, 0] rfl (w_X9_numbersBits_L4 C fu _ _ _ h8 ?_)
  refine x_iload_n C dX9_numbersBits_56 0 rfl ?_
  cases hF
  exact x_iret C E dX9_numbersBits_57
set_option maxHeartbeats 4000000 in
set_option maxRecDepth 100000 in
theorem c_X9_bitsBy {κ : xb_k} {q : Nat → Nat} {mth : Int32} {mn : Int32} {mib : Int32} {mpa : Int32} {mwi : Int32} {mch : Int32} {mst : Int32} {msz : Int32} {mns : Int32} {mld : Int32} {mps : Int32} {mbb : Int32} {mno : (Nat → Int32)} {mpk : (Nat → Int32)} {mtu : (Nat → Int32)} {mfo : (Nat → Int32)} {mbi : (Nat → Int32)} {mwr : (Nat → Int32)} {mus : (Nat → Int32)} {mnu : (Nat → Int32)} {mli : (Nat → Int32)} {mot : (Nat → Int32)} {mbl : (Nat → Int32)} {mki : (Nat → Int32)} {mfr : (Nat → Int32)} {mde : (Nat → Int32)} {mbe : (Nat → Int32)} {mow : (Nat → Int32)} {mco : (Nat → Int32)} {mpt : (Nat → Int32)} {mle : (Nat → Int32)} {mpl : (Nat → Int32)} {mit : (Nat → Int32)} {mro : (Nat → Int32)} {maw : (Nat → Int32)} {x2 : Int32} {x3 : Int32} {x4 : Int32} {fu : Nat} {o : Int32 × Int32 × (Nat → Int32) × (Nat → Int32) × Int32 × (Nat → Int32) × (Nat → Int32) × (Nat → Int32)} (hF : F_X9_bitsBy fu x2 x3 x4 mns mus mnu mld mn mno mli mot mbl mfo = some o) : Met κ.1 yX9_bitsBy [Cond.code yX9_bitsBy cX9_bitsBy 5 (some .int)] { frames := 5, cells := 0, slots := 0, locals := 122 } (xb_P κ [.ref (q 0), .ref (q 1), .int x2, .int x3, .int x4] (mw κ q mth mn mib mpa mwi mch mst msz mns mld mps mbb mno mpk mtu mfo mbi mwr mus mnu mli mot mbl mki mfr mde mbe mow mco mpt mle mpl mit mro maw)) (xb_Qi κ o.1 (mw κ q mth mn mib mpa mwi mch mst msz o.2.1 o.2.2.2.2.1 mps mbb mno mpk mtu mfo mbi mwr o.2.2.1 o.2.2.2.1 o.2.2.2.2.2.1 o.2.2.2.2.2.2.1 o.2.2.2.2.2.2.2 mki mfr mde mbe mow mco mpt mle mpl mit mro maw)) 0 0 κ.2.2.1 := by
  refine x_enter (own := RX9) (lv0 := [(0, .ref (q 0)), (1, .ref (q 1)), (2, .int x2), (3, .int x3), (4, .int x4)]) (by decide) rfl rfl rfl (fun Γ C E => ?_)
  unfold F_X9_bitsBy at hF
  refine x_aload_n C dX9_bitsBy_0 0 rfl ?_
  refine x_aload_n C dX9_bitsBy_1 1 rfl ?_
  refine x_iload_n C dX9_bitsBy_2 2 rfl ?_
  refine x_iload_n C dX9_bitsBy_3 3 rfl ?_
  refine x_iload C dX9_bitsBy_4 4 rfl ?_
  obtain ⟨o1, h2, hF⟩ := bd_s hF
  refine x_callVv (st := []) C (c_X9_tell h2) xm_X9_tell ml_X9_175 0 rfl rfl rfl rfl rfl rfl dX9_bitsBy_6 ⟨rfl, rfl⟩ ?_
  refine x_aload_n C dX9_bitsBy_9 0 rfl ?_
  obtain ⟨o3, h4, hF⟩ := bd_s hF
  refine x_callVi (st := []) C (c_X9_numbersBits h4) xm_X9_numbersBits ml_X9_179 0 rfl rfl rfl rfl rfl rfl dX9_bitsBy_10 ⟨rfl, rfl⟩ ?_
  cases hF
  exact x_iret C E dX9_bitsBy_13
set_option maxHeartbeats 4000000 in
set_option maxRecDepth 100000 in
theorem w_X9_isSame_L6 {κ : xb_k} {Γ : xb_X} {q : Nat → Nat} {mth : Int32} {mn : Int32} {mib : Int32} {mpa : Int32} {mwi : Int32} {mch : Int32} {mst : Int32} {msz : Int32} {mns : Int32} {mld : Int32} {mps : Int32} {mbb : Int32} {mno : (Nat → Int32)} {mpk : (Nat → Int32)} {mtu : (Nat → Int32)} {mfo : (Nat → Int32)} {mbi : (Nat → Int32)} {mwr : (Nat → Int32)} {mus : (Nat → Int32)} {mnu : (Nat → Int32)} {mli : (Nat → Int32)} {mot : (Nat → Int32)} {mbl : (Nat → Int32)} {mki : (Nat → Int32)} {mfr : (Nat → Int32)} {mde : (Nat → Int32)} {mbe : (Nat → Int32)} {mow : (Nat → Int32)} {mco : (Nat → Int32)} {mpt : (Nat → Int32)} {mle : (Nat → Int32)} {mpl : (Nat → Int32)} {mit : (Nat → Int32)} {mro : (Nat → Int32)} {maw : (Nat → Int32)} {x2 : Int32} {x3 : Int32}  (C : xb_C κ Γ 6 cX9_isSame RX9 { frames := 0, cells := 0, slots := 0, locals := 0 }) : ∀ (n : Nat) (x4 : Int32) (x5 : Int32) (o : Int32), F_X9_isSame_L6 x2 x3 mn mno n x4 x5 = some o → xb_W κ Γ 6 0 0 54 [(4, .int o)] [] (mw κ q mth mn mib mpa mwi mch mst msz mns mld mps mbb mno mpk mtu mfo mbi mwr mus mnu mli mot mbl mki mfr mde mbe mow mco mpt mle mpl mit mro maw) → xb_W κ Γ 6 0 0 6 [(0, .ref (q 0)), (1, .ref (q 1)), (2, .int x2), (3, .int x3), (4, .int x4), (5, .int x5)] [] (mw κ q mth mn mib mpa mwi mch mst msz mns mld mps mbb mno mpk mtu mfo mbi mwr mus mnu mli mot mbl mki mfr mde mbe mow mco mpt mle mpl mit mro maw) := by
  intro n
  induction n with
  | zero =>
    intro x4 x5 o hF K
    rw [F_X9_isSame_L6] at hF
    cases hF
  | succ n ih =>
    intro x4 x5 o hF K
    rw [F_X9_isSame_L6] at hF
    refine x_iload C dX9_isSame_6 5 rfl ?_
    refine x_aload_n C dX9_isSame_8 0 rfl ?_
    refine gf_X9_93 C 0 rfl rfl dX9_isSame_9 ?_
    refine x_icmp_ge (tgt := 54) C dX9_isSame_12 (by decide) (fun hc => ?_) (fun hc => ?_)
    · replace hF := ifp hc hF
      cases hF
      exact x_sub [4] rfl K
    · replace hF := ifn hc hF
      refine x_iload C dX9_isSame_15 4 rfl ?_
      refine x_if_eq (tgt := 45) C dX9_isSame_17 (by decide) (fun hc => ?_) (fun hc => ?_)
      · replace hF := ifp hc hF
        refine x_iconst (v := 0) C dX9_isSame_45 (by decide) ?_
        refine x_istore (lv2 := [(4, .int (0 : Int32)), (0, .ref (q 0)), (1, .ref (q 1)), (2, .int x2), (3, .int x3), (5, .int x5)]) C dX9_isSame_46 (by decide) rfl ?_
        refine x_iinc (v := x5 + 1) (lv2 := [(5, .int (x5 + 1)), (4, .int (0 : Int32)), (0, .ref (q 0)), (1, .ref (q 1)), (2, .int x2), (3, .int x3)]) C dX9_isSame_48 5 rfl rfl (by decide) rfl ?_
        refine x_goto (tgt := 6) C dX9_isSame_51 (by decide) ?_
        exact x_sub [2, 3, 4, 5, 1, 0] rfl (ih _ _ _ hF K)
      · replace hF := ifn hc hF
        refine x_aload_n C dX9_isSame_20 1 rfl ?_
        refine x_bipush (v := 48) C dX9_isSame_21 (by decide) ?_
        refine x_iload_n C dX9_isSame_23 2 rfl ?_
        refine x_imul C dX9_isSame_24 ?_
        refine x_iload C dX9_isSame_25 5 rfl ?_
        refine x_iadd C dX9_isSame_27 ?_
        obtain ⟨b1, hF⟩ := ck_s hF
        refine x_zald C 1 rfl b1 dX9_isSame_28 ?_
        refine x_aload_n C dX9_isSame_29 1 rfl ?_
        refine x_bipush (v := 48) C dX9_isSame_30 (by decide) ?_
        refine x_iload_n C dX9_isSame_32 3 rfl ?_
        refine x_imul C dX9_isSame_33 ?_
        refine x_iload C dX9_isSame_34 5 rfl ?_
        refine x_iadd C dX9_isSame_36 ?_
        obtain ⟨b2, hF⟩ := ck_s hF
        refine x_zald C 1 rfl b2 dX9_isSame_37 ?_
        refine x_icmp_ne (tgt := 45) C dX9_isSame_38 (by decide) (fun hc => ?_) (fun hc => ?_)
        · replace hF := ifn hc hF
          refine x_iconst (v := 0) C dX9_isSame_45 (by decide) ?_
          refine x_istore (lv2 := [(4, .int (0 : Int32)), (0, .ref (q 0)), (1, .ref (q 1)), (2, .int x2), (3, .int x3), (5, .int x5)]) C dX9_isSame_46 (by decide) rfl ?_
          refine x_iinc (v := x5 + 1) (lv2 := [(5, .int (x5 + 1)), (4, .int (0 : Int32)), (0, .ref (q 0)), (1, .ref (q 1)), (2, .int x2), (3, .int x3)]) C dX9_isSame_48 5 rfl rfl (by decide) rfl ?_
          refine x_goto (tgt := 6) C dX9_isSame_51 (by decide) ?_
          exact x_sub [2, 3, 4, 5, 1, 0] rfl (ih _ _ _ hF K)
        · replace hF := ifp hc hF
          refine x_iconst (v := 1) C dX9_isSame_41 (by decide) ?_
          refine x_goto (tgt := 46) C dX9_isSame_42 (by decide) ?_
          refine x_istore (lv2 := [(4, .int (1 : Int32)), (0, .ref (q 0)), (1, .ref (q 1)), (2, .int x2), (3, .int x3), (5, .int x5)]) C dX9_isSame_46 (by decide) rfl ?_
          refine x_iinc (v := x5 + 1) (lv2 := [(5, .int (x5 + 1)), (4, .int (1 : Int32)), (0, .ref (q 0)), (1, .ref (q 1)), (2, .int x2), (3, .int x3)]) C dX9_isSame_48 5 rfl rfl (by decide) rfl ?_
          refine x_goto (tgt := 6) C dX9_isSame_51 (by decide) ?_
          exact x_sub [2, 3, 4, 5, 1, 0] rfl (ih _ _ _ hF K)
set_option maxHeartbeats 4000000 in
set_option maxRecDepth 100000 in
theorem c_X9_isSame {κ : xb_k} {q : Nat → Nat} {mth : Int32} {mn : Int32} {mib : Int32} {mpa : Int32} {mwi : Int32} {mch : Int32} {mst : Int32} {msz : Int32} {mns : Int32} {mld : Int32} {mps : Int32} {mbb : Int32} {mno : (Nat → Int32)} {mpk : (Nat → Int32)} {mtu : (Nat → Int32)} {mfo : (Nat → Int32)} {mbi : (Nat → Int32)} {mwr : (Nat → Int32)} {mus : (Nat → Int32)} {mnu : (Nat → Int32)} {mli : (Nat → Int32)} {mot : (Nat → Int32)} {mbl : (Nat → Int32)} {mki : (Nat → Int32)} {mfr : (Nat → Int32)} {mde : (Nat → Int32)} {mbe : (Nat → Int32)} {mow : (Nat → Int32)} {mco : (Nat → Int32)} {mpt : (Nat → Int32)} {mle : (Nat → Int32)} {mpl : (Nat → Int32)} {mit : (Nat → Int32)} {mro : (Nat → Int32)} {maw : (Nat → Int32)} {x2 : Int32} {x3 : Int32} {fu : Nat} {o : Int32} (hF : F_X9_isSame fu x2 x3 mn mno = some o) : Met κ.1 yX9_isSame [Cond.code yX9_isSame cX9_isSame 6 (some .boolean)] { frames := 0, cells := 0, slots := 0, locals := 0 } (xb_P κ [.ref (q 0), .ref (q 1), .int x2, .int x3] (mw κ q mth mn mib mpa mwi mch mst msz mns mld mps mbb mno mpk mtu mfo mbi mwr mus mnu mli mot mbl mki mfr mde mbe mow mco mpt mle mpl mit mro maw)) (xb_Qi κ o (mw κ q mth mn mib mpa mwi mch mst msz mns mld mps mbb mno mpk mtu mfo mbi mwr mus mnu mli mot mbl mki mfr mde mbe mow mco mpt mle mpl mit mro maw)) 0 0 κ.2.2.1 := by
  refine x_enter (own := RX9) (lv0 := [(0, .ref (q 0)), (1, .ref (q 1)), (2, .int x2), (3, .int x3)]) (by decide) rfl rfl rfl (fun Γ C E => ?_)
  unfold F_X9_isSame at hF
  refine x_iconst (v := 1) C dX9_isSame_0 (by decide) ?_
  refine x_istore (lv2 := [(4, .int (1 : Int32)), (0, .ref (q 0)), (1, .ref (q 1)), (2, .int x2), (3, .int x3)]) C dX9_isSame_1 (by decide) rfl ?_
  refine x_iconst (v := 0) C dX9_isSame_3 (by decide) ?_
  refine x_istore (lv2 := [(5, .int (0 : Int32)), (4, .int (1 : Int32)), (0, .ref (q 0)), (1, .ref (q 1)), (2, .int x2), (3, .int x3)]) C dX9_isSame_4 (by decide) rfl ?_
  obtain ⟨o3, h4, hF⟩ := bd_s hF
  refine x_sub [2, 3, 4, 5, 1, 0] rfl (w_X9_isSame_L6 C fu _ _ _ h4 ?_)
  refine x_iload C dX9_isSame_54 0 rfl ?_
  obtain ⟨b5, hF⟩ := ck_s hF
  cases hF
  exact x_zret C E (zb_nar b5) dX9_isSame_56
set_option maxHeartbeats 4000000 in
set_option maxRecDepth 100000 in
theorem c_X9_cost {κ : xb_k} {q : Nat → Nat} {mth : Int32} {mn : Int32} {mib : Int32} {mpa : Int32} {mwi : Int32} {mch : Int32} {mst : Int32} {msz : Int32} {mns : Int32} {mld : Int32} {mps : Int32} {mbb : Int32} {mno : (Nat → Int32)} {mpk : (Nat → Int32)} {mtu : (Nat → Int32)} {mfo : (Nat → Int32)} {mbi : (Nat → Int32)} {mwr : (Nat → Int32)} {mus : (Nat → Int32)} {mnu : (Nat → Int32)} {mli : (Nat → Int32)} {mot : (Nat → Int32)} {mbl : (Nat → Int32)} {mki : (Nat → Int32)} {mfr : (Nat → Int32)} {mde : (Nat → Int32)} {mbe : (Nat → Int32)} {mow : (Nat → Int32)} {mco : (Nat → Int32)} {mpt : (Nat → Int32)} {mle : (Nat → Int32)} {mpl : (Nat → Int32)} {mit : (Nat → Int32)} {mro : (Nat → Int32)} {maw : (Nat → Int32)} {x1 : Int32} {x2 : Int32} {x3 : Int32} {fu : Nat} {o : Int32 × Int32 × Int32 × (Nat → Int32) × (Nat → Int32) × Int32 × (Nat → Int32) × (Nat → Int32) × (Nat → Int32)} (hF : F_X9_cost fu x1 x2 x3 mth mn mns mus mnu mld mno mli mot mbl mfo = some o) : Met κ.1 yX9_cost [Cond.code yX9_cost cX9_cost 5 (some .int)] { frames := 6, cells := 0, slots := 0, locals := 146 } (xb_P κ [.ref (q 0), .int x1, .int x2, .int x3] (mw κ q mth mn mib mpa mwi mch mst msz mns mld mps mbb mno mpk mtu mfo mbi mwr mus mnu mli mot mbl mki mfr mde mbe mow mco mpt mle mpl mit mro maw)) (xb_Qi κ o.1 (mw κ q o.2.1 mn mib mpa mwi mch mst msz o.2.2.1 o.2.2.2.2.2.1 mps mbb mno mpk mtu mfo mbi mwr o.2.2.2.1 o.2.2.2.2.1 o.2.2.2.2.2.2.1 o.2.2.2.2.2.2.2.1 o.2.2.2.2.2.2.2.2 mki mfr mde mbe mow mco mpt mle mpl mit mro maw)) 0 0 κ.2.2.1 := by
  refine x_enter (own := RX9) (lv0 := [(0, .ref (q 0)), (1, .int x1), (2, .int x2), (3, .int x3)]) (by decide) rfl rfl rfl (fun Γ C E => ?_)
  unfold F_X9_cost at hF
  refine x_aload_n C dX9_cost_0 0 rfl ?_
  refine x_iconst (v := 0) C dX9_cost_1 (by decide) ?_
  refine pf_X9_1 (ws2 := (mw κ q (0 : Int32) mn mib mpa mwi mch mst msz mns mld mps mbb mno mpk mtu mfo mbi mwr mus mnu mli mot mbl mki mfr mde mbe mow mco mpt mle mpl mit mro maw)) C 0 rfl dX9_cost_2 rfl rfl ?_
  refine x_iload_n C dX9_cost_5 2 rfl ?_
  refine x_iconst (v := 2) C dX9_cost_6 (by decide) ?_
  refine x_icmp_eq (tgt := 15) C dX9_cost_7 (by decide) (fun hc => ?_) (fun hc => ?_)
  · replace hF := ifp hc hF
    refine x_iconst (v := 1) C dX9_cost_15 (by decide) ?_
    refine x_goto (tgt := 20) C dX9_cost_16 (by decide) ?_
    refine x_istore (lv2 := [(4, .int (1 : Int32)), (0, .ref (q 0)), (1, .int x1), (2, .int x2), (3, .int x3)]) C dX9_cost_20 (by decide) rfl ?_
    refine x_aload_n C dX9_cost_22 1 rfl ?_
    refine x_iload_n C dX9_cost_23 2 rfl ?_
    obtain ⟨o1, h2, hF⟩ := bd_s hF
    refine x_callVi (st := []) C (c_X9_isThing h2) xm_X9_isThing ml_X9_107 0 rfl rfl rfl rfl rfl rfl dX9_cost_24 ⟨rfl, rfl⟩ ?_
    refine x_if_eq (tgt := 57) C dX9_cost_27 (by decide) (fun hc => ?_) (fun hc => ?_)
    · replace hF := ifp hc hF
      refine x_bipush (v := (-2)) C dX9_cost_57 (by decide) ?_
      cases hF
      exact x_iret C E dX9_cost_59
    · replace hF := ifn hc hF
      refine x_iload_n C dX9_cost_30 3 rfl ?_
      refine x_i2l C dX9_cost_31 ?_
      refine x_lconst (v := 0) C dX9_cost_32 (by decide) ?_
      refine x_ldc2 C dX9_cost_33 kl_X9_191 ?_
      obtain ⟨o3, h4, hF⟩ := bd_s hF
      refine x_callSi (st := []) C (c_X9_in h4) xm_X9_in ml_X9_96 rfl rfl rfl rfl dX9_cost_36 ⟨rfl, rfl⟩ ?_
      refine x_if_eq (tgt := 57) C dX9_cost_39 (by decide) (fun hc => ?_) (fun hc => ?_)
      · replace hF := ifp hc hF
        refine x_bipush (v := (-2)) C dX9_cost_57 (by decide) ?_
        cases hF
        exact x_iret C E dX9_cost_59
      · replace hF := ifn hc hF
        refine x_iload C dX9_cost_42 0 rfl ?_
        refine x_if_eq (tgt := 60) C dX9_cost_44 (by decide) (fun hc => ?_) (fun hc => ?_)
        · replace hF := ifp hc hF
          refine x_iload_n C dX9_cost_60 3 rfl ?_
          refine x_iconst (v := 3) C dX9_cost_61 (by decide) ?_
          refine x_icmp_ne (tgt := 80) C dX9_cost_62 (by decide) (fun hc => ?_) (fun hc => ?_)
          · replace hF := ifn hc hF
            refine x_iload_n C dX9_cost_80 3 rfl ?_
            refine x_iconst (v := 4) C dX9_cost_81 (by decide) ?_
            refine x_icmp_ne (tgt := 96) C dX9_cost_82 (by decide) (fun hc => ?_) (fun hc => ?_)
            · replace hF := ifn hc hF
              refine x_aload_n C dX9_cost_96 1 rfl ?_
              refine x_aload_n C dX9_cost_97 1 rfl ?_
              refine gf_X9_13 C 0 rfl rfl dX9_cost_98 ?_
              refine x_iload_n C dX9_cost_101 2 rfl ?_
              refine x_iload_n C dX9_cost_102 3 rfl ?_
              refine x_iload_n C dX9_cost_103 4 rfl ?_
              obtain ⟨o5, h6, hF⟩ := bd_s hF
              refine x_callVi (st := []) C (c_X9_bitsBy h6) xm_X9_bitsBy ml_X9_197 0 rfl rfl rfl rfl rfl rfl dX9_cost_104 ⟨rfl, rfl⟩ ?_
              cases hF
              exact x_iret C E dX9_cost_107
            · replace hF := ifp hc hF
              refine x_aload_n C dX9_cost_85 1 rfl ?_
              refine x_iload_n C dX9_cost_86 2 rfl ?_
              obtain ⟨o7, h8, hF⟩ := bd_s hF
              refine x_callVi (st := []) C (c_X9_rowSize h8) xm_X9_rowSize ml_X9_115 0 rfl rfl rfl rfl rfl rfl dX9_cost_87 ⟨rfl, rfl⟩ ?_
              refine x_if_ne (tgt := 96) C dX9_cost_90 (by decide) (fun hc => ?_) (fun hc => ?_)
              · replace hF := ifn hc hF
                refine x_aload_n C dX9_cost_96 1 rfl ?_
                refine x_aload_n C dX9_cost_97 1 rfl ?_
                refine gf_X9_13 C 0 rfl rfl dX9_cost_98 ?_
                refine x_iload_n C dX9_cost_101 2 rfl ?_
                refine x_iload_n C dX9_cost_102 3 rfl ?_
                refine x_iload_n C dX9_cost_103 4 rfl ?_
                obtain ⟨o9, h10, hF⟩ := bd_s hF
                refine x_callVi (st := []) C (c_X9_bitsBy h10) xm_X9_bitsBy ml_X9_197 0 rfl rfl rfl rfl rfl rfl dX9_cost_104 ⟨rfl, rfl⟩ ?_
                cases hF
                exact x_iret C E dX9_cost_107
              · replace hF := ifp hc hF
                refine x_bipush (v := (-3)) C dX9_cost_93 (by decide) ?_
                cases hF
                exact x_iret C E dX9_cost_95
          · replace hF := ifp hc hF
            refine x_aload_n C dX9_cost_65 1 rfl ?_
            refine x_aload_n C dX9_cost_66 1 rfl ?_
            refine gf_X9_13 C 0 rfl rfl dX9_cost_67 ?_
            refine x_iload_n C dX9_cost_70 2 rfl ?_
            refine x_iload_n C dX9_cost_71 2 rfl ?_
            refine x_iload_n C dX9_cost_72 4 rfl ?_
            refine x_isub C dX9_cost_73 ?_
            obtain ⟨o11, h12, hF⟩ := bd_s hF
            refine x_callVi (st := []) C (c_X9_isSame h12) xm_X9_isSame ml_X9_193 0 rfl rfl rfl rfl rfl rfl dX9_cost_74 ⟨rfl, rfl⟩ ?_
            refine x_if_eq (tgt := 93) C dX9_cost_77 (by decide) (fun hc => ?_) (fun hc => ?_)
            · replace hF := ifp hc hF
              refine x_bipush (v := (-3)) C dX9_cost_93 (by decide) ?_
              cases hF
              exact x_iret C E dX9_cost_95
            · replace hF := ifn hc hF
              refine x_iload_n C dX9_cost_80 3 rfl ?_
              refine x_iconst (v := 4) C dX9_cost_81 (by decide) ?_
              refine x_icmp_ne (tgt := 96) C dX9_cost_82 (by decide) (fun hc => ?_) (fun hc => ?_)
              · replace hF := ifn hc hF
                refine x_aload_n C dX9_cost_96 1 rfl ?_
                refine x_aload_n C dX9_cost_97 1 rfl ?_
                refine gf_X9_13 C 0 rfl rfl dX9_cost_98 ?_
                refine x_iload_n C dX9_cost_101 2 rfl ?_
                refine x_iload_n C dX9_cost_102 3 rfl ?_
                refine x_iload_n C dX9_cost_103 4 rfl ?_
                obtain ⟨o13, h14, hF⟩ := bd_s hF
                refine x_callVi (st := []) C (c_X9_bitsBy h14) xm_X9_bitsBy ml_X9_197 0 rfl rfl rfl rfl rfl rfl dX9_cost_104 ⟨rfl, rfl⟩ ?_
                cases hF
                exact x_iret C E dX9_cost_107
              · replace hF := ifp hc hF
                refine x_aload_n C dX9_cost_85 1 rfl ?_
                refine x_iload_n C dX9_cost_86 2 rfl ?_
                obtain ⟨o15, h16, hF⟩ := bd_s hF
                refine x_callVi (st := []) C (c_X9_rowSize h16) xm_X9_rowSize ml_X9_115 0 rfl rfl rfl rfl rfl rfl dX9_cost_87 ⟨rfl, rfl⟩ ?_
                refine x_if_ne (tgt := 96) C dX9_cost_90 (by decide) (fun hc => ?_) (fun hc => ?_)
                · replace hF := ifn hc hF
                  refine x_aload_n C dX9_cost_96 1 rfl ?_
                  refine x_aload_n C dX9_cost_97 1 rfl ?_
                  refine gf_X9_13 C 0 rfl rfl dX9_cost_98 ?_
                  refine x_iload_n C dX9_cost_101 2 rfl ?_
                  refine x_iload_n C dX9_cost_102 3 rfl ?_
                  refine x_iload_n C dX9_cost_103 4 rfl ?_
                  obtain ⟨o17, h18, hF⟩ := bd_s hF
                  refine x_callVi (st := []) C (c_X9_bitsBy h18) xm_X9_bitsBy ml_X9_197 0 rfl rfl rfl rfl rfl rfl dX9_cost_104 ⟨rfl, rfl⟩ ?_
                  cases hF
                  exact x_iret C E dX9_cost_107
                · replace hF := ifp hc hF
                  refine x_bipush (v := (-3)) C dX9_cost_93 (by decide) ?_
                  cases hF
                  exact x_iret C E dX9_cost_95
        · replace hF := ifn hc hF
          refine x_iload_n C dX9_cost_47 4 rfl ?_
          refine x_iconst (v := 1) C dX9_cost_48 (by decide) ?_
          refine x_icmp_lt (tgt := 57) C dX9_cost_49 (by decide) (fun hc => ?_) (fun hc => ?_)
          · replace hF := ifp hc hF
            refine x_bipush (v := (-2)) C dX9_cost_57 (by decide) ?_
            cases hF
            exact x_iret C E dX9_cost_59
          · replace hF := ifn hc hF
            refine x_iload_n C dX9_cost_52 4 rfl ?_
            refine x_iload_n C dX9_cost_53 2 rfl ?_
            refine x_icmp_le (tgt := 60) C dX9_cost_54 (by decide) (fun hc => ?_) (fun hc => ?_)
            · replace hF := ifp hc hF
              refine x_iload_n C dX9_cost_60 3 rfl ?_
              refine x_iconst (v := 3) C dX9_cost_61 (by decide) ?_
              refine x_icmp_ne (tgt := 80) C dX9_cost_62 (by decide) (fun hc => ?_) (fun hc => ?_)
              · replace hF := ifn hc hF
                refine x_iload_n C dX9_cost_80 3 rfl ?_
                refine x_iconst (v := 4) C dX9_cost_81 (by decide) ?_
                refine x_icmp_ne (tgt := 96) C dX9_cost_82 (by decide) (fun hc => ?_) (fun hc => ?_)
                · replace hF := ifn hc hF
                  refine x_aload_n C dX9_cost_96 1 rfl ?_
                  refine x_aload_n C dX9_cost_97 1 rfl ?_
                  refine gf_X9_13 C 0 rfl rfl dX9_cost_98 ?_
                  refine x_iload_n C dX9_cost_101 2 rfl ?_
                  refine x_iload_n C dX9_cost_102 3 rfl ?_
                  refine x_iload_n C dX9_cost_103 4 rfl ?_
                  obtain ⟨o19, h20, hF⟩ := bd_s hF
                  refine x_callVi (st := []) C (c_X9_bitsBy h20) xm_X9_bitsBy ml_X9_197 0 rfl rfl rfl rfl rfl rfl dX9_cost_104 ⟨rfl, rfl⟩ ?_
                  cases hF
                  exact x_iret C E dX9_cost_107
                · replace hF := ifp hc hF
                  refine x_aload_n C dX9_cost_85 1 rfl ?_
                  refine x_iload_n C dX9_cost_86 2 rfl ?_
                  obtain ⟨o21, h22, hF⟩ := bd_s hF
                  refine x_callVi (st := []) C (c_X9_rowSize h22) xm_X9_rowSize ml_X9_115 0 rfl rfl rfl rfl rfl rfl dX9_cost_87 ⟨rfl, rfl⟩ ?_
                  refine x_if_ne (tgt := 96) C dX9_cost_90 (by decide) (fun hc => ?_) (fun hc => ?_)
                  · replace hF := ifn hc hF
                    refine x_aload_n C dX9_cost_96 1 rfl ?_
                    refine x_aload_n C dX9_cost_97 1 rfl ?_
                    refine gf_X9_13 C 0 rfl rfl dX9_cost_98 ?_
                    refine x_iload_n C dX9_cost_101 2 rfl ?_
                    refine x_iload_n C dX9_cost_102 3 rfl ?_
                    refine x_iload_n C dX9_cost_103 4 rfl ?_
                    obtain ⟨o23, h24, hF⟩ := bd_s hF
                    refine x_callVi (st := []) C (c_X9_bitsBy h24) xm_X9_bitsBy ml_X9_197 0 rfl rfl rfl rfl rfl rfl dX9_cost_104 ⟨rfl, rfl⟩ ?_
                    cases hF
                    exact x_iret C E dX9_cost_107
                  · replace hF := ifp hc hF
                    refine x_bipush (v := (-3)) C dX9_cost_93 (by decide) ?_
                    cases hF
                    exact x_iret C E dX9_cost_95
              · replace hF := ifp hc hF
                refine x_aload_n C dX9_cost_65 1 rfl ?_
                refine x_aload_n C dX9_cost_66 1 rfl ?_
                refine gf_X9_13 C 0 rfl rfl dX9_cost_67 ?_
                refine x_iload_n C dX9_cost_70 2 rfl ?_
                refine x_iload_n C dX9_cost_71 2 rfl ?_
                refine x_iload_n C dX9_cost_72 4 rfl ?_
                refine x_isub C dX9_cost_73 ?_
                obtain ⟨o25, h26, hF⟩ := bd_s hF
                refine x_callVi (st := []) C (c_X9_isSame h26) xm_X9_isSame ml_X9_193 0 rfl rfl rfl rfl rfl rfl dX9_cost_74 ⟨rfl, rfl⟩ ?_
                refine x_if_eq (tgt := 93) C dX9_cost_77 (by decide) (fun hc => ?_) (fun hc => ?_)
                · replace hF := ifp hc hF
                  refine x_bipush (v := (-3)) C dX9_cost_93 (by decide) ?_
                  cases hF
                  exact x_iret C E dX9_cost_95
                · replace hF := ifn hc hF
                  refine x_iload_n C dX9_cost_80 3 rfl ?_
                  refine x_iconst (v := 4) C dX9_cost_81 (by decide) ?_
                  refine x_icmp_ne (tgt := 96) C dX9_cost_82 (by decide) (fun hc => ?_) (fun hc => ?_)
                  · replace hF := ifn hc hF
                    refine x_aload_n C dX9_cost_96 1 rfl ?_
                    refine x_aload_n C dX9_cost_97 1 rfl ?_
                    refine gf_X9_13 C 0 rfl rfl dX9_cost_98 ?_
                    refine x_iload_n C dX9_cost_101 2 rfl ?_
                    refine x_iload_n C dX9_cost_102 3 rfl ?_
                    refine x_iload_n C dX9_cost_103 4 rfl ?_
                    obtain ⟨o27, h28, hF⟩ := bd_s hF
                    refine x_callVi (st := []) C (c_X9_bitsBy h28) xm_X9_bitsBy ml_X9_197 0 rfl rfl rfl rfl rfl rfl dX9_cost_104 ⟨rfl, rfl⟩ ?_
                    cases hF
                    exact x_iret C E dX9_cost_107
                  · replace hF := ifp hc hF
                    refine x_aload_n C dX9_cost_85 1 rfl ?_
                    refine x_iload_n C dX9_cost_86 2 rfl ?_
                    obtain ⟨o29, h30, hF⟩ := bd_s hF
                    refine x_callVi (st := []) C (c_X9_rowSize h30) xm_X9_rowSize ml_X9_115 0 rfl rfl rfl rfl rfl rfl dX9_cost_87 ⟨rfl, rfl⟩ ?_
                    refine x_if_ne (tgt := 96) C dX9_cost_90 (by decide) (fun hc => ?_) (fun hc => ?_)
                    · replace hF := ifn hc hF
                      refine x_aload_n C dX9_cost_96 1 rfl ?_
                      refine x_aload_n C dX9_cost_97 1 rfl ?_
                      refine gf_X9_13 C 0 rfl rfl dX9_cost_98 ?_
                      refine x_iload_n C dX9_cost_101 2 rfl ?_
                      refine x_iload_n C dX9_cost_102 3 rfl ?_
                      refine x_iload_n C dX9_cost_103 4 rfl ?_
                      obtain ⟨o31, h32, hF⟩ := bd_s hF
                      refine x_callVi (st := []) C (c_X9_bitsBy h32) xm_X9_bitsBy ml_X9_197 0 rfl rfl rfl rfl rfl rfl dX9_cost_104 ⟨rfl, rfl⟩ ?_
                      cases hF
                      exact x_iret C E dX9_cost_107
                    · replace hF := ifp hc hF
                      refine x_bipush (v := (-3)) C dX9_cost_93 (by decide) ?_
                      cases hF
                      exact x_iret C E dX9_cost_95
            · replace hF := ifn hc hF
              refine x_bipush (v := (-2)) C dX9_cost_57 (by decide) ?_
              cases hF
              exact x_iret C E dX9_cost_59
  · replace hF := ifn hc hF
    refine x_iload_n C dX9_cost_10 2 rfl ?_
    refine x_iconst (v := 3) C dX9_cost_11 (by decide) ?_
    refine x_icmp_ne (tgt := 19) C dX9_cost_12 (by decide) (fun hc => ?_) (fun hc => ?_)
    · replace hF := ifn hc hF
      refine x_iconst (v := 0) C dX9_cost_19 (by decide) ?_
      refine x_istore (lv2 := [(4, .int (0 : Int32)), (0, .ref (q 0)), (1, .int x1), (2, .int x2), (3, .int x3)]) C dX9_cost_20 (by decide) rfl ?_
      refine x_aload_n C dX9_cost_22 1 rfl ?_
      refine x_iload_n C dX9_cost_23 2 rfl ?_
      obtain ⟨o33, h34, hF⟩ := bd_s hF
      refine x_callVi (st := []) C (c_X9_isThing h34) xm_X9_isThing ml_X9_107 0 rfl rfl rfl rfl rfl rfl dX9_cost_24 ⟨rfl, rfl⟩ ?_
      refine x_if_eq (tgt := 57) C dX9_cost_27 (by decide) (fun hc => ?_) (fun hc => ?_)
      · replace hF := ifp hc hF
        refine x_bipush (v := (-2)) C dX9_cost_57 (by decide) ?_
        cases hF
        exact x_iret C E dX9_cost_59
      · replace hF := ifn hc hF
        refine x_iload_n C dX9_cost_30 3 rfl ?_
        refine x_i2l C dX9_cost_31 ?_
        refine x_lconst (v := 0) C dX9_cost_32 (by decide) ?_
        refine x_ldc2 C dX9_cost_33 kl_X9_191 ?_
        obtain ⟨o35, h36, hF⟩ := bd_s hF
        refine x_callSi (st := []) C (c_X9_in h36) xm_X9_in ml_X9_96 rfl rfl rfl rfl dX9_cost_36 ⟨rfl, rfl⟩ ?_
        refine x_if_eq (tgt := 57) C dX9_cost_39 (by decide) (fun hc => ?_) (fun hc => ?_)
        · replace hF := ifp hc hF
          refine x_bipush (v := (-2)) C dX9_cost_57 (by decide) ?_
          cases hF
          exact x_iret C E dX9_cost_59
        · replace hF := ifn hc hF
          refine x_iload C dX9_cost_42 0 rfl ?_
          refine x_if_eq (tgt := 60) C dX9_cost_44 (by decide) (fun hc => ?_) (fun hc => ?_)
          · replace hF := ifp hc hF
            refine x_iload_n C dX9_cost_60 3 rfl ?_
            refine x_iconst (v := 3) C dX9_cost_61 (by decide) ?_
            refine x_icmp_ne (tgt := 80) C dX9_cost_62 (by decide) (fun hc => ?_) (fun hc => ?_)
            · replace hF := ifn hc hF
              refine x_iload_n C dX9_cost_80 3 rfl ?_
              refine x_iconst (v := 4) C dX9_cost_81 (by decide) ?_
              refine x_icmp_ne (tgt := 96) C dX9_cost_82 (by decide) (fun hc => ?_) (fun hc => ?_)
              · replace hF := ifn hc hF
                refine x_aload_n C dX9_cost_96 1 rfl ?_
                refine x_aload_n C dX9_cost_97 1 rfl ?_
                refine gf_X9_13 C 0 rfl rfl dX9_cost_98 ?_
                refine x_iload_n C dX9_cost_101 2 rfl ?_
                refine x_iload_n C dX9_cost_102 3 rfl ?_
                refine x_iload_n C dX9_cost_103 4 rfl ?_
                obtain ⟨o37, h38, hF⟩ := bd_s hF
                refine x_callVi (st := []) C (c_X9_bitsBy h38) xm_X9_bitsBy ml_X9_197 0 rfl rfl rfl rfl rfl rfl dX9_cost_104 ⟨rfl, rfl⟩ ?_
                cases hF
                exact x_iret C E dX9_cost_107
              · replace hF := ifp hc hF
                refine x_aload_n C dX9_cost_85 1 rfl ?_
                refine x_iload_n C dX9_cost_86 2 rfl ?_
                obtain ⟨o39, h40, hF⟩ := bd_s hF
                refine x_callVi (st := []) C (c_X9_rowSize h40) xm_X9_rowSize ml_X9_115 0 rfl rfl rfl rfl rfl rfl dX9_cost_87 ⟨rfl, rfl⟩ ?_
                refine x_if_ne (tgt := 96) C dX9_cost_90 (by decide) (fun hc => ?_) (fun hc => ?_)
                · replace hF := ifn hc hF
                  refine x_aload_n C dX9_cost_96 1 rfl ?_
                  refine x_aload_n C dX9_cost_97 1 rfl ?_
                  refine gf_X9_13 C 0 rfl rfl dX9_cost_98 ?_
                  refine x_iload_n C dX9_cost_101 2 rfl ?_
                  refine x_iload_n C dX9_cost_102 3 rfl ?_
                  refine x_iload_n C dX9_cost_103 4 rfl ?_
                  obtain ⟨o41, h42, hF⟩ := bd_s hF
                  refine x_callVi (st := []) C (c_X9_bitsBy h42) xm_X9_bitsBy ml_X9_197 0 rfl rfl rfl rfl rfl rfl dX9_cost_104 ⟨rfl, rfl⟩ ?_
                  cases hF
                  exact x_iret C E dX9_cost_107
                · replace hF := ifp hc hF
                  refine x_bipush (v := (-3)) C dX9_cost_93 (by decide) ?_
                  cases hF
                  exact x_iret C E dX9_cost_95
            · replace hF := ifp hc hF
              refine x_aload_n C dX9_cost_65 1 rfl ?_
              refine x_aload_n C dX9_cost_66 1 rfl ?_
              refine gf_X9_13 C 0 rfl rfl dX9_cost_67 ?_
              refine x_iload_n C dX9_cost_70 2 rfl ?_
              refine x_iload_n C dX9_cost_71 2 rfl ?_
              refine x_iload_n C dX9_cost_72 4 rfl ?_
              refine x_isub C dX9_cost_73 ?_
              obtain ⟨o43, h44, hF⟩ := bd_s hF
              refine x_callVi (st := []) C (c_X9_isSame h44) xm_X9_isSame ml_X9_193 0 rfl rfl rfl rfl rfl rfl dX9_cost_74 ⟨rfl, rfl⟩ ?_
              refine x_if_eq (tgt := 93) C dX9_cost_77 (by decide) (fun hc => ?_) (fun hc => ?_)
              · replace hF := ifp hc hF
                refine x_bipush (v := (-3)) C dX9_cost_93 (by decide) ?_
                cases hF
                exact x_iret C E dX9_cost_95
              · replace hF := ifn hc hF
                refine x_iload_n C dX9_cost_80 3 rfl ?_
                refine x_iconst (v := 4) C dX9_cost_81 (by decide) ?_
                refine x_icmp_ne (tgt := 96) C dX9_cost_82 (by decide) (fun hc => ?_) (fun hc => ?_)
                · replace hF := ifn hc hF
                  refine x_aload_n C dX9_cost_96 1 rfl ?_
                  refine x_aload_n C dX9_cost_97 1 rfl ?_
                  refine gf_X9_13 C 0 rfl rfl dX9_cost_98 ?_
                  refine x_iload_n C dX9_cost_101 2 rfl ?_
                  refine x_iload_n C dX9_cost_102 3 rfl ?_
                  refine x_iload_n C dX9_cost_103 4 rfl ?_
                  obtain ⟨o45, h46, hF⟩ := bd_s hF
                  refine x_callVi (st := []) C (c_X9_bitsBy h46) xm_X9_bitsBy ml_X9_197 0 rfl rfl rfl rfl rfl rfl dX9_cost_104 ⟨rfl, rfl⟩ ?_
                  cases hF
                  exact x_iret C E dX9_cost_107
                · replace hF := ifp hc hF
                  refine x_aload_n C dX9_cost_85 1 rfl ?_
                  refine x_iload_n C dX9_cost_86 2 rfl ?_
                  obtain ⟨o47, h48, hF⟩ := bd_s hF
                  refine x_callVi (st := []) C (c_X9_rowSize h48) xm_X9_rowSize ml_X9_115 0 rfl rfl rfl rfl rfl rfl dX9_cost_87 ⟨rfl, rfl⟩ ?_
                  refine x_if_ne (tgt := 96) C dX9_cost_90 (by decide) (fun hc => ?_) (fun hc => ?_)
                  · replace hF := ifn hc hF
                    refine x_aload_n C dX9_cost_96 1 rfl ?_
                    refine x_aload_n C dX9_cost_97 1 rfl ?_
                    refine gf_X9_13 C 0 rfl rfl dX9_cost_98 ?_
                    refine x_iload_n C dX9_cost_101 2 rfl ?_
                    refine x_iload_n C dX9_cost_102 3 rfl ?_
                    refine x_iload_n C dX9_cost_103 4 rfl ?_
                    obtain ⟨o49, h50, hF⟩ := bd_s hF
                    refine x_callVi (st := []) C (c_X9_bitsBy h50) xm_X9_bitsBy ml_X9_197 0 rfl rfl rfl rfl rfl rfl dX9_cost_104 ⟨rfl, rfl⟩ ?_
                    cases hF
                    exact x_iret C E dX9_cost_107
                  · replace hF := ifp hc hF
                    refine x_bipush (v := (-3)) C dX9_cost_93 (by decide) ?_
                    cases hF
                    exact x_iret C E dX9_cost_95
          · replace hF := ifn hc hF
            refine x_iload_n C dX9_cost_47 4 rfl ?_
            refine x_iconst (v := 1) C dX9_cost_48 (by decide) ?_
            refine x_icmp_lt (tgt := 57) C dX9_cost_49 (by decide) (fun hc => ?_) (fun hc => ?_)
            · replace hF := ifp hc hF
              refine x_bipush (v := (-2)) C dX9_cost_57 (by decide) ?_
              cases hF
              exact x_iret C E dX9_cost_59
            · replace hF := ifn hc hF
              refine x_iload_n C dX9_cost_52 4 rfl ?_
              refine x_iload_n C dX9_cost_53 2 rfl ?_
              refine x_icmp_le (tgt := 60) C dX9_cost_54 (by decide) (fun hc => ?_) (fun hc => ?_)
              · replace hF := ifp hc hF
                refine x_iload_n C dX9_cost_60 3 rfl ?_
                refine x_iconst (v := 3) C dX9_cost_61 (by decide) ?_
                refine x_icmp_ne (tgt := 80) C dX9_cost_62 (by decide) (fun hc => ?_) (fun hc => ?_)
                · replace hF := ifn hc hF
                  refine x_iload_n C dX9_cost_80 3 rfl ?_
                  refine x_iconst (v := 4) C dX9_cost_81 (by decide) ?_
                  refine x_icmp_ne (tgt := 96) C dX9_cost_82 (by decide) (fun hc => ?_) (fun hc => ?_)
                  · replace hF := ifn hc hF
                    refine x_aload_n C dX9_cost_96 1 rfl ?_
                    refine x_aload_n C dX9_cost_97 1 rfl ?_
                    refine gf_X9_13 C 0 rfl rfl dX9_cost_98 ?_
                    refine x_iload_n C dX9_cost_101 2 rfl ?_
                    refine x_iload_n C dX9_cost_102 3 rfl ?_
                    refine x_iload_n C dX9_cost_103 4 rfl ?_
                    obtain ⟨o51, h52, hF⟩ := bd_s hF
                    refine x_callVi (st := []) C (c_X9_bitsBy h52) xm_X9_bitsBy ml_X9_197 0 rfl rfl rfl rfl rfl rfl dX9_cost_104 ⟨rfl, rfl⟩ ?_
                    cases hF
                    exact x_iret C E dX9_cost_107
                  · replace hF := ifp hc hF
                    refine x_aload_n C dX9_cost_85 1 rfl ?_
                    refine x_iload_n C dX9_cost_86 2 rfl ?_
                    obtain ⟨o53, h54, hF⟩ := bd_s hF
                    refine x_callVi (st := []) C (c_X9_rowSize h54) xm_X9_rowSize ml_X9_115 0 rfl rfl rfl rfl rfl rfl dX9_cost_87 ⟨rfl, rfl⟩ ?_
                    refine x_if_ne (tgt := 96) C dX9_cost_90 (by decide) (fun hc => ?_) (fun hc => ?_)
                    · replace hF := ifn hc hF
                      refine x_aload_n C dX9_cost_96 1 rfl ?_
                      refine x_aload_n C dX9_cost_97 1 rfl ?_
                      refine gf_X9_13 C 0 rfl rfl dX9_cost_98 ?_
                      refine x_iload_n C dX9_cost_101 2 rfl ?_
                      refine x_iload_n C dX9_cost_102 3 rfl ?_
                      refine x_iload_n C dX9_cost_103 4 rfl ?_
                      obtain ⟨o55, h56, hF⟩ := bd_s hF
                      refine x_callVi (st := []) C (c_X9_bitsBy h56) xm_X9_bitsBy ml_X9_197 0 rfl rfl rfl rfl rfl rfl dX9_cost_104 ⟨rfl, rfl⟩ ?_
                      cases hF
                      exact x_iret C E dX9_cost_107
                    · replace hF := ifp hc hF
                      refine x_bipush (v := (-3)) C dX9_cost_93 (by decide) ?_
                      cases hF
                      exact x_iret C E dX9_cost_95
                · replace hF := ifp hc hF
                  refine x_aload_n C dX9_cost_65 1 rfl ?_
                  refine x_aload_n C dX9_cost_66 1 rfl ?_
                  refine gf_X9_13 C 0 rfl rfl dX9_cost_67 ?_
                  refine x_iload_n C dX9_cost_70 2 rfl ?_
                  refine x_iload_n C dX9_cost_71 2 rfl ?_
                  refine x_iload_n C dX9_cost_72 4 rfl ?_
                  refine x_isub C dX9_cost_73 ?_
                  obtain ⟨o57, h58, hF⟩ := bd_s hF
                  refine x_callVi (st := []) C (c_X9_isSame h58) xm_X9_isSame ml_X9_193 0 rfl rfl rfl rfl rfl rfl dX9_cost_74 ⟨rfl, rfl⟩ ?_
                  refine x_if_eq (tgt := 93) C dX9_cost_77 (by decide) (fun hc => ?_) (fun hc => ?_)
                  · replace hF := ifp hc hF
                    refine x_bipush (v := (-3)) C dX9_cost_93 (by decide) ?_
                    cases hF
                    exact x_iret C E dX9_cost_95
                  · replace hF := ifn hc hF
                    refine x_iload_n C dX9_cost_80 3 rfl ?_
                    refine x_iconst (v := 4) C dX9_cost_81 (by decide) ?_
                    refine x_icmp_ne (tgt := 96) C dX9_cost_82 (by decide) (fun hc => ?_) (fun hc => ?_)
                    · replace hF := ifn hc hF
                      refine x_aload_n C dX9_cost_96 1 rfl ?_
                      refine x_aload_n C dX9_cost_97 1 rfl ?_
                      refine gf_X9_13 C 0 rfl rfl dX9_cost_98 ?_
                      refine x_iload_n C dX9_cost_101 2 rfl ?_
                      refine x_iload_n C dX9_cost_102 3 rfl ?_
                      refine x_iload_n C dX9_cost_103 4 rfl ?_
                      obtain ⟨o59, h60, hF⟩ := bd_s hF
                      refine x_callVi (st := []) C (c_X9_bitsBy h60) xm_X9_bitsBy ml_X9_197 0 rfl rfl rfl rfl rfl rfl dX9_cost_104 ⟨rfl, rfl⟩ ?_
                      cases hF
                      exact x_iret C E dX9_cost_107
                    · replace hF := ifp hc hF
                      refine x_aload_n C dX9_cost_85 1 rfl ?_
                      refine x_iload_n C dX9_cost_86 2 rfl ?_
                      obtain ⟨o61, h62, hF⟩ := bd_s hF
                      refine x_callVi (st := []) C (c_X9_rowSize h62) xm_X9_rowSize ml_X9_115 0 rfl rfl rfl rfl rfl rfl dX9_cost_87 ⟨rfl, rfl⟩ ?_
                      refine x_if_ne (tgt := 96) C dX9_cost_90 (by decide) (fun hc => ?_) (fun hc => ?_)
                      · replace hF := ifn hc hF
                        refine x_aload_n C dX9_cost_96 1 rfl ?_
                        refine x_aload_n C dX9_cost_97 1 rfl ?_
                        refine gf_X9_13 C 0 rfl rfl dX9_cost_98 ?_
                        refine x_iload_n C dX9_cost_101 2 rfl ?_
                        refine x_iload_n C dX9_cost_102 3 rfl ?_
                        refine x_iload_n C dX9_cost_103 4 rfl ?_
                        obtain ⟨o63, h64, hF⟩ := bd_s hF
                        refine x_callVi (st := []) C (c_X9_bitsBy h64) xm_X9_bitsBy ml_X9_197 0 rfl rfl rfl rfl rfl rfl dX9_cost_104 ⟨rfl, rfl⟩ ?_
                        cases hF
                        exact x_iret C E dX9_cost_107
                      · replace hF := ifp hc hF
                        refine x_bipush (v := (-3)) C dX9_cost_93 (by decide) ?_
                        cases hF
                        exact x_iret C E dX9_cost_95
              · replace hF := ifn hc hF
                refine x_bipush (v := (-2)) C dX9_cost_57 (by decide) ?_
                cases hF
                exact x_iret C E dX9_cost_59
    · replace hF := ifp hc hF
      refine x_iconst (v := 1) C dX9_cost_15 (by decide) ?_
      refine x_goto (tgt := 20) C dX9_cost_16 (by decide) ?_
      refine x_istore (lv2 := [(4, .int (1 : Int32)), (0, .ref (q 0)), (1, .int x1), (2, .int x2), (3, .int x3)]) C dX9_cost_20 (by decide) rfl ?_
      refine x_aload_n C dX9_cost_22 1 rfl ?_
      refine x_iload_n C dX9_cost_23 2 rfl ?_
      obtain ⟨o65, h66, hF⟩ := bd_s hF
      refine x_callVi (st := []) C (c_X9_isThing h66) xm_X9_isThing ml_X9_107 0 rfl rfl rfl rfl rfl rfl dX9_cost_24 ⟨rfl, rfl⟩ ?_
      refine x_if_eq (tgt := 57) C dX9_cost_27 (by decide) (fun hc => ?_) (fun hc => ?_)
      · replace hF := ifp hc hF
        refine x_bipush (v := (-2)) C dX9_cost_57 (by decide) ?_
        cases hF
        exact x_iret C E dX9_cost_59
      · replace hF := ifn hc hF
        refine x_iload_n C dX9_cost_30 3 rfl ?_
        refine x_i2l C dX9_cost_31 ?_
        refine x_lconst (v := 0) C dX9_cost_32 (by decide) ?_
        refine x_ldc2 C dX9_cost_33 kl_X9_191 ?_
        obtain ⟨o67, h68, hF⟩ := bd_s hF
        refine x_callSi (st := []) C (c_X9_in h68) xm_X9_in ml_X9_96 rfl rfl rfl rfl dX9_cost_36 ⟨rfl, rfl⟩ ?_
        refine x_if_eq (tgt := 57) C dX9_cost_39 (by decide) (fun hc => ?_) (fun hc => ?_)
        · replace hF := ifp hc hF
          refine x_bipush (v := (-2)) C dX9_cost_57 (by decide) ?_
          cases hF
          exact x_iret C E dX9_cost_59
        · replace hF := ifn hc hF
          refine x_iload C dX9_cost_42 0 rfl ?_
          refine x_if_eq (tgt := 60) C dX9_cost_44 (by decide) (fun hc => ?_) (fun hc => ?_)
          · replace hF := ifp hc hF
            refine x_iload_n C dX9_cost_60 3 rfl ?_
            refine x_iconst (v := 3) C dX9_cost_61 (by decide) ?_
            refine x_icmp_ne (tgt := 80) C dX9_cost_62 (by decide) (fun hc => ?_) (fun hc => ?_)
            · replace hF := ifn hc hF
              refine x_iload_n C dX9_cost_80 3 rfl ?_
              refine x_iconst (v := 4) C dX9_cost_81 (by decide) ?_
              refine x_icmp_ne (tgt := 96) C dX9_cost_82 (by decide) (fun hc => ?_) (fun hc => ?_)
              · replace hF := ifn hc hF
                refine x_aload_n C dX9_cost_96 1 rfl ?_
                refine x_aload_n C dX9_cost_97 1 rfl ?_
                refine gf_X9_13 C 0 rfl rfl dX9_cost_98 ?_
                refine x_iload_n C dX9_cost_101 2 rfl ?_
                refine x_iload_n C dX9_cost_102 3 rfl ?_
                refine x_iload_n C dX9_cost_103 4 rfl ?_
                obtain ⟨o69, h70, hF⟩ := bd_s hF
                refine x_callVi (st := []) C (c_X9_bitsBy h70) xm_X9_bitsBy ml_X9_197 0 rfl rfl rfl rfl rfl rfl dX9_cost_104 ⟨rfl, rfl⟩ ?_
                cases hF
                exact x_iret C E dX9_cost_107
              · replace hF := ifp hc hF
                refine x_aload_n C dX9_cost_85 1 rfl ?_
                refine x_iload_n C dX9_cost_86 2 rfl ?_
                obtain ⟨o71, h72, hF⟩ := bd_s hF
                refine x_callVi (st := []) C (c_X9_rowSize h72) xm_X9_rowSize ml_X9_115 0 rfl rfl rfl rfl rfl rfl dX9_cost_87 ⟨rfl, rfl⟩ ?_
                refine x_if_ne (tgt := 96) C dX9_cost_90 (by decide) (fun hc => ?_) (fun hc => ?_)
                · replace hF := ifn hc hF
                  refine x_aload_n C dX9_cost_96 1 rfl ?_
                  refine x_aload_n C dX9_cost_97 1 rfl ?_
                  refine gf_X9_13 C 0 rfl rfl dX9_cost_98 ?_
                  refine x_iload_n C dX9_cost_101 2 rfl ?_
                  refine x_iload_n C dX9_cost_102 3 rfl ?_
                  refine x_iload_n C dX9_cost_103 4 rfl ?_
                  obtain ⟨o73, h74, hF⟩ := bd_s hF
                  refine x_callVi (st := []) C (c_X9_bitsBy h74) xm_X9_bitsBy ml_X9_197 0 rfl rfl rfl rfl rfl rfl dX9_cost_104 ⟨rfl, rfl⟩ ?_
                  cases hF
                  exact x_iret C E dX9_cost_107
                · replace hF := ifp hc hF
                  refine x_bipush (v := (-3)) C dX9_cost_93 (by decide) ?_
                  cases hF
                  exact x_iret C E dX9_cost_95
            · replace hF := ifp hc hF
              refine x_aload_n C dX9_cost_65 1 rfl ?_
              refine x_aload_n C dX9_cost_66 1 rfl ?_
              refine gf_X9_13 C 0 rfl rfl dX9_cost_67 ?_
              refine x_iload_n C dX9_cost_70 2 rfl ?_
              refine x_iload_n C dX9_cost_71 2 rfl ?_
              refine x_iload_n C dX9_cost_72 4 rfl ?_
              refine x_isub C dX9_cost_73 ?_
              obtain ⟨o75, h76, hF⟩ := bd_s hF
              refine x_callVi (st := []) C (c_X9_isSame h76) xm_X9_isSame ml_X9_193 0 rfl rfl rfl rfl rfl rfl dX9_cost_74 ⟨rfl, rfl⟩ ?_
              refine x_if_eq (tgt := 93) C dX9_cost_77 (by decide) (fun hc => ?_) (fun hc => ?_)
              · replace hF := ifp hc hF
                refine x_bipush (v := (-3)) C dX9_cost_93 (by decide) ?_
                cases hF
                exact x_iret C E dX9_cost_95
              · replace hF := ifn hc hF
                refine x_iload_n C dX9_cost_80 3 rfl ?_
                refine x_iconst (v := 4) C dX9_cost_81 (by decide) ?_
                refine x_icmp_ne (tgt := 96) C dX9_cost_82 (by decide) (fun hc => ?_) (fun hc => ?_)
                · replace hF := ifn hc hF
                  refine x_aload_n C dX9_cost_96 1 rfl ?_
                  refine x_aload_n C dX9_cost_97 1 rfl ?_
                  refine gf_X9_13 C 0 rfl rfl dX9_cost_98 ?_
                  refine x_iload_n C dX9_cost_101 2 rfl ?_
                  refine x_iload_n C dX9_cost_102 3 rfl ?_
                  refine x_iload_n C dX9_cost_103 4 rfl ?_
                  obtain ⟨o77, h78, hF⟩ := bd_s hF
                  refine x_callVi (st := []) C (c_X9_bitsBy h78) xm_X9_bitsBy ml_X9_197 0 rfl rfl rfl rfl rfl rfl dX9_cost_104 ⟨rfl, rfl⟩ ?_
                  cases hF
                  exact x_iret C E dX9_cost_107
                · replace hF := ifp hc hF
                  refine x_aload_n C dX9_cost_85 1 rfl ?_
                  refine x_iload_n C dX9_cost_86 2 rfl ?_
                  obtain ⟨o79, h80, hF⟩ := bd_s hF
                  refine x_callVi (st := []) C (c_X9_rowSize h80) xm_X9_rowSize ml_X9_115 0 rfl rfl rfl rfl rfl rfl dX9_cost_87 ⟨rfl, rfl⟩ ?_
                  refine x_if_ne (tgt := 96) C dX9_cost_90 (by decide) (fun hc => ?_) (fun hc => ?_)
                  · replace hF := ifn hc hF
                    refine x_aload_n C dX9_cost_96 1 rfl ?_
                    refine x_aload_n C dX9_cost_97 1 rfl ?_
                    refine gf_X9_13 C 0 rfl rfl dX9_cost_98 ?_
                    refine x_iload_n C dX9_cost_101 2 rfl ?_
                    refine x_iload_n C dX9_cost_102 3 rfl ?_
                    refine x_iload_n C dX9_cost_103 4 rfl ?_
                    obtain ⟨o81, h82, hF⟩ := bd_s hF
                    refine x_callVi (st := []) C (c_X9_bitsBy h82) xm_X9_bitsBy ml_X9_197 0 rfl rfl rfl rfl rfl rfl dX9_cost_104 ⟨rfl, rfl⟩ ?_
                    cases hF
                    exact x_iret C E dX9_cost_107
                  · replace hF := ifp hc hF
                    refine x_bipush (v := (-3)) C dX9_cost_93 (by decide) ?_
                    cases hF
                    exact x_iret C E dX9_cost_95
          · replace hF := ifn hc hF
            refine x_iload_n C dX9_cost_47 4 rfl ?_
            refine x_iconst (v := 1) C dX9_cost_48 (by decide) ?_
            refine x_icmp_lt (tgt := 57) C dX9_cost_49 (by decide) (fun hc => ?_) (fun hc => ?_)
            · replace hF := ifp hc hF
              refine x_bipush (v := (-2)) C dX9_cost_57 (by decide) ?_
              cases hF
              exact x_iret C E dX9_cost_59
            · replace hF := ifn hc hF
              refine x_iload_n C dX9_cost_52 4 rfl ?_
              refine x_iload_n C dX9_cost_53 2 rfl ?_
              refine x_icmp_le (tgt := 60) C dX9_cost_54 (by decide) (fun hc => ?_) (fun hc => ?_)
              · replace hF := ifp hc hF
                refine x_iload_n C dX9_cost_60 3 rfl ?_
                refine x_iconst (v := 3) C dX9_cost_61 (by decide) ?_
                refine x_icmp_ne (tgt := 80) C dX9_cost_62 (by decide) (fun hc => ?_) (fun hc => ?_)
                · replace hF := ifn hc hF
                  refine x_iload_n C dX9_cost_80 3 rfl ?_
                  refine x_iconst (v := 4) C dX9_cost_81 (by decide) ?_
                  refine x_icmp_ne (tgt := 96) C dX9_cost_82 (by decide) (fun hc => ?_) (fun hc => ?_)
                  · replace hF := ifn hc hF
                    refine x_aload_n C dX9_cost_96 1 rfl ?_
                    refine x_aload_n C dX9_cost_97 1 rfl ?_
                    refine gf_X9_13 C 0 rfl rfl dX9_cost_98 ?_
                    refine x_iload_n C dX9_cost_101 2 rfl ?_
                    refine x_iload_n C dX9_cost_102 3 rfl ?_
                    refine x_iload_n C dX9_cost_103 4 rfl ?_
                    obtain ⟨o83, h84, hF⟩ := bd_s hF
                    refine x_callVi (st := []) C (c_X9_bitsBy h84) xm_X9_bitsBy ml_X9_197 0 rfl rfl rfl rfl rfl rfl dX9_cost_104 ⟨rfl, rfl⟩ ?_
                    cases hF
                    exact x_iret C E dX9_cost_107
                  · replace hF := ifp hc hF
                    refine x_aload_n C dX9_cost_85 1 rfl ?_
                    refine x_iload_n C dX9_cost_86 2 rfl ?_
                    obtain ⟨o85, h86, hF⟩ := bd_s hF
                    refine x_callVi (st := []) C (c_X9_rowSize h86) xm_X9_rowSize ml_X9_115 0 rfl rfl rfl rfl rfl rfl dX9_cost_87 ⟨rfl, rfl⟩ ?_
                    refine x_if_ne (tgt := 96) C dX9_cost_90 (by decide) (fun hc => ?_) (fun hc => ?_)
                    · replace hF := ifn hc hF
                      refine x_aload_n C dX9_cost_96 1 rfl ?_
                      refine x_aload_n C dX9_cost_97 1 rfl ?_
                      refine gf_X9_13 C 0 rfl rfl dX9_cost_98 ?_
                      refine x_iload_n C dX9_cost_101 2 rfl ?_
                      refine x_iload_n C dX9_cost_102 3 rfl ?_
                      refine x_iload_n C dX9_cost_103 4 rfl ?_
                      obtain ⟨o87, h88, hF⟩ := bd_s hF
                      refine x_callVi (st := []) C (c_X9_bitsBy h88) xm_X9_bitsBy ml_X9_197 0 rfl rfl rfl rfl rfl rfl dX9_cost_104 ⟨rfl, rfl⟩ ?_
                      cases hF
                      exact x_iret C E dX9_cost_107
                    · replace hF := ifp hc hF
                      refine x_bipush (v := (-3)) C dX9_cost_93 (by decide) ?_
                      cases hF
                      exact x_iret C E dX9_cost_95
                · replace hF := ifp hc hF
                  refine x_aload_n C dX9_cost_65 1 rfl ?_
                  refine x_aload_n C dX9_cost_66 1 rfl ?_
                  refine gf_X9_13 C 0 rfl rfl dX9_cost_67 ?_
                  refine x_iload_n C dX9_cost_70 2 rfl ?_
                  refine x_iload_n C dX9_cost_71 2 rfl ?_
                  refine x_iload_n C dX9_cost_72 4 rfl ?_
                  refine x_isub C dX9_cost_73 ?_
                  obtain ⟨o89, h90, hF⟩ := bd_s hF
                  refine x_callVi (st := []) C (c_X9_isSame h90) xm_X9_isSame ml_X9_193 0 rfl rfl rfl rfl rfl rfl dX9_cost_74 ⟨rfl, rfl⟩ ?_
                  refine x_if_eq (tgt := 93) C dX9_cost_77 (by decide) (fun hc => ?_) (fun hc => ?_)
                  · replace hF := ifp hc hF
                    refine x_bipush (v := (-3)) C dX9_cost_93 (by decide) ?_
                    cases hF
                    exact x_iret C E dX9_cost_95
                  · replace hF := ifn hc hF
                    refine x_iload_n C dX9_cost_80 3 rfl ?_
                    refine x_iconst (v := 4) C dX9_cost_81 (by decide) ?_
                    refine x_icmp_ne (tgt := 96) C dX9_cost_82 (by decide) (fun hc => ?_) (fun hc => ?_)
                    · replace hF := ifn hc hF
                      refine x_aload_n C dX9_cost_96 1 rfl ?_
                      refine x_aload_n C dX9_cost_97 1 rfl ?_
                      refine gf_X9_13 C 0 rfl rfl dX9_cost_98 ?_
                      refine x_iload_n C dX9_cost_101 2 rfl ?_
                      refine x_iload_n C dX9_cost_102 3 rfl ?_
                      refine x_iload_n C dX9_cost_103 4 rfl ?_
                      obtain ⟨o91, h92, hF⟩ := bd_s hF
                      refine x_callVi (st := []) C (c_X9_bitsBy h92) xm_X9_bitsBy ml_X9_197 0 rfl rfl rfl rfl rfl rfl dX9_cost_104 ⟨rfl, rfl⟩ ?_
                      cases hF
                      exact x_iret C E dX9_cost_107
                    · replace hF := ifp hc hF
                      refine x_aload_n C dX9_cost_85 1 rfl ?_
                      refine x_iload_n C dX9_cost_86 2 rfl ?_
                      obtain ⟨o93, h94, hF⟩ := bd_s hF
                      refine x_callVi (st := []) C (c_X9_rowSize h94) xm_X9_rowSize ml_X9_115 0 rfl rfl rfl rfl rfl rfl dX9_cost_87 ⟨rfl, rfl⟩ ?_
                      refine x_if_ne (tgt := 96) C dX9_cost_90 (by decide) (fun hc => ?_) (fun hc => ?_)
                      · replace hF := ifn hc hF
                        refine x_aload_n C dX9_cost_96 1 rfl ?_
                        refine x_aload_n C dX9_cost_97 1 rfl ?_
                        refine gf_X9_13 C 0 rfl rfl dX9_cost_98 ?_
                        refine x_iload_n C dX9_cost_101 2 rfl ?_
                        refine x_iload_n C dX9_cost_102 3 rfl ?_
                        refine x_iload_n C dX9_cost_103 4 rfl ?_
                        obtain ⟨o95, h96, hF⟩ := bd_s hF
                        refine x_callVi (st := []) C (c_X9_bitsBy h96) xm_X9_bitsBy ml_X9_197 0 rfl rfl rfl rfl rfl rfl dX9_cost_104 ⟨rfl, rfl⟩ ?_
                        cases hF
                        exact x_iret C E dX9_cost_107
                      · replace hF := ifp hc hF
                        refine x_bipush (v := (-3)) C dX9_cost_93 (by decide) ?_
                        cases hF
                        exact x_iret C E dX9_cost_95
              · replace hF := ifn hc hF
                refine x_bipush (v := (-2)) C dX9_cost_57 (by decide) ?_
                cases hF
                exact x_iret C E dX9_cost_59
